/-! THE REFERENCE READS A VERSION -/
def rvk : List Nat := [55, 56, 57, 58, 59, 60, 61, 709, 710, 711, 712]
def rvF (v : Nat) (M M' : Mem) : Prop := (∀ k, k ∉ rvk → M' k = M k) ∧ (∀ w, w < 4 → w ≠ v → (M' 55 0 w = M 55 0 w ∧ M' 56 0 w = M 56 0 w) ∧ (∀ l, l < 16 → M' 57 0 (16 * w + l) = M 57 0 (16 * w + l) ∧ M' 58 0 (16 * w + l) = M 58 0 (16 * w + l)) ∧ (∀ j, j < 60 → M' 59 0 (60 * w + j) = M 59 0 (60 * w + j) ∧ M' 60 0 (60 * w + j) = M 60 0 (60 * w + j) ∧ M' 61 0 (60 * w + j) = M 61 0 (60 * w + j)))
theorem rvF.rf {v : Nat} {M : Mem} : rvF v M M := ⟨fun _ _ => rfl, fun _ _ _ => ⟨⟨rfl, rfl⟩, fun _ _ => ⟨rfl, rfl⟩, fun _ _ => ⟨rfl, rfl, rfl⟩⟩⟩
theorem rvF.tr {v : Nat} {M M1 M2 : Mem} (h : rvF v M M1) (h2 : rvF v M1 M2) : rvF v M M2 := by
  refine ⟨fun k q => (h2.1 k q).trans (h.1 k q), fun w hw hne => ⟨?_, fun l hl => ?_, fun j hj => ?_⟩⟩
  · obtain ⟨a, b⟩ := (h.2 w hw hne).1
    obtain ⟨c, d⟩ := (h2.2 w hw hne).1
    exact ⟨c.trans a, d.trans b⟩
  · obtain ⟨a, b⟩ := (h.2 w hw hne).2.1 l hl
    obtain ⟨c, d⟩ := (h2.2 w hw hne).2.1 l hl
    exact ⟨c.trans a, d.trans b⟩
  · obtain ⟨a, b, e⟩ := (h.2 w hw hne).2.2 j hj
    obtain ⟨c, d, f⟩ := (h2.2 w hw hne).2.2 j hj
    exact ⟨c.trans a, d.trans b, f.trans e⟩
theorem rpF.rv {v : Nat} {M M' : Mem} (h : rpF v M M') : rvF v M M' := by
  have sub : ∀ k, k ∈ rpk → k ∈ rvk := by decide
  exact ⟨fun k q => h.1 k (fun z => q (sub k z)), fun w hw hne => ⟨⟨by rw [h.1 55 (by decide)], by rw [h.1 56 (by decide)]⟩, (h.2 w hw hne).1, (h.2 w hw hne).2⟩⟩
theorem rvF.sv {v k : Nat} {M : Mem} {x : Int32} (hk : k = 55 ∨ k = 56) : rvF v M (mst M k 0 v x) := by
  refine ⟨fun q hq => mst_ne (fun e => hq ?_), fun w hw hne => ⟨⟨?_, ?_⟩, fun l hl => ⟨?_, ?_⟩, fun j hj => ⟨?_, ?_, ?_⟩⟩⟩
  · rcases hk with rfl | rfl <;> subst e <;> decide
  · rcases hk with rfl | rfl
    · rw [mst_k, if_neg (fun z => hne z.2)]
    · rw [mst_ne (by omega)]
  · rcases hk with rfl | rfl
    · rw [mst_ne (by omega)]
    · rw [mst_k, if_neg (fun z => hne z.2)]
  all_goals rw [mst_ne (by omega)]
theorem rvF.s9 {v : Nat} {M : Mem} {x : Int32} : rvF v M (mst M 709 0 0 x) := by
  refine ⟨fun q hq => mst_ne (fun e => hq (by subst e; decide)), fun w hw hne => ⟨⟨?_, ?_⟩, fun l hl => ⟨?_, ?_⟩, fun j hj => ⟨?_, ?_, ?_⟩⟩⟩
  all_goals rw [mst_ne (by decide)]
theorem rvF.nl {v : Nat} {M : Mem} : rvF v M (mfl M 58 0 (16 * v) 16 0) := by
  refine ⟨fun q hq => mfl_ne (fun e => hq (by subst e; decide)), fun w hw hne => ⟨⟨?_, ?_⟩, fun l hl => ⟨?_, ?_⟩, fun j hj => ⟨?_, ?_, ?_⟩⟩⟩
  case refine_4 => rw [mfl_k, if_neg (by omega)]
  all_goals rw [mfl_ne (by decide)]
theorem p_noLines {M : Mem} {v : Nat} (hv : v < 4) {Q : Mem → Prop} (hQ : Q (mfl M 58 0 (16 * v) 16 0)) : wp_X10_noLines (nI v) M Q := by
  unfold wp_X10_noLines
  refine pk_loop (fun f i (z : Mem) => w_X10_noLines_2 Q f (nI v) (nI i) z) (fun i z => z = mfl M 58 0 (16 * v) i 0) 16 0 M (Nat.zero_le _) mfl_0.symm ?_ ?_
  · rintro f z rfl
    exact ⟨fun _ => hQ, fun h => absurd ((ni_le (a := 16) (b := 16) (by omega) (by omega)).mpr (Nat.le_refl _)) h⟩
  · rintro f i z hi rfl ih
    have hx : 16 * nI v + nI i = nI (16 * v + i) := by rw [ni_lit 16, pk_mul, nI_add]
    refine ⟨fun h => absurd ((ni_le (a := 16) (by omega) (by omega)).mp h) (by omega), fun _ => ?_⟩
    rw [hx, ni_cl (by omega), nI_1]
    refine ⟨(ni_in (by omega)).mpr (by omega), ?_⟩
    rintro _ rfl
    exact ih _ mfl_s
def finR (t : Nat → Int32) (n v : Nat) (M0 : Mem) (Q : Mem → Prop) : Prop := ∀ M1, VRok t n M1 v → rvF v M0 M1 → M1 55 0 v = M0 55 0 v → Q M1
theorem p_57x {t : Nat → Int32} {n v f : Nat} {M0 M : Mem} (hv : v < 4) {Q : Mem → Prop} (fin : finR t n v M0 Q) (hF : rpF v M0 M) (h1 : M 711 0 0 = -1) (hf : flt t n = -1) (hw : well t n = true) (hl : RLl M v (pst t n)) (ha : RLa M v (pst t n)) : w_X10_reads_57 Q (f + 1) (nI v) 0 M := by
  unfold w_X10_reads_57
  refine ⟨fun _ => ⟨(ni_in (by omega)).mpr hv, ?_⟩, fun z => absurd rfl z⟩
  rintro _ rfl
  rw [ni_cl (by omega), h1, mst_ne (show 711 ≠ 56 by decide)]
  refine ⟨fun _ => ?_, fun z => absurd h1 z⟩
  refine fin _ ⟨by rw [mst_eq, hf], ?_, ?_⟩ (hF.rv.tr (rvF.sv (by omega))) (by rw [mst_ne (by decide), hF.1 55 (by decide)])
  · unfold prs
    rw [if_pos hw]
    intro l h
    rw [mst_ne (by decide), mst_ne (by decide)]; exact hl l h
  · unfold prs
    rw [if_pos hw]
    intro k h
    rw [mst_ne (by decide), mst_ne (by decide), mst_ne (by decide)]; exact ha k h
theorem p_57b {t : Nat → Int32} {n v f k : Nat} {M0 M : Mem} (hv : v < 4) (hn : n ≤ 120) {Q : Mem → Prop} (fin : finR t n v M0 Q) (hF : rpF v M0 M) (hk : k ≤ 120) (h1 : M 711 0 0 = nI k) (hf : flt t n = nI k) : w_X10_reads_57 Q (f + 1) (nI v) 0 M := by
  have hw : ¬ well t n = true := by
    rcases flt_or (t := t) hn with ⟨e, _, _⟩ | ⟨e, _⟩
    · exact absurd (hf.symm.trans e) (ni_nem1 (by omega))
    · rw [e]; decide
  unfold w_X10_reads_57
  refine ⟨fun _ => ⟨(ni_in (by omega)).mpr hv, ?_⟩, fun z => absurd rfl z⟩
  rintro _ rfl
  rw [ni_cl (by omega), h1, mst_ne (show 711 ≠ 56 by decide)]
  refine ⟨fun z => absurd (h1.symm.trans z) (ni_nem1 (by omega)), fun _ => ?_⟩
  refine p_noLines hv ?_
  refine fin _ ⟨by rw [mfl_ne (by decide), mst_eq, hf], ?_, ?_⟩ ((hF.rv.tr (rvF.sv (by omega))).tr rvF.nl) (by rw [mfl_ne (by decide), mst_ne (by decide), hF.1 55 (by decide)])
  · unfold prs
    rw [if_neg hw]
    intro l h
    refine ⟨by rw [mfl_k, if_pos ⟨rfl, by omega⟩]; rfl, fun z => absurd z (Nat.not_lt_zero _)⟩
  · unfold prs
    rw [if_neg hw]
    intro k h
    exact absurd h (Nat.not_lt_zero _)
theorem p_57 {t : Nat → Int32} {n v : Nat} {M0 : Mem} (hv : v < 4) (hn : n ≤ 120) (hn0 : 0 < n) {Q : Mem → Prop} (fin : finR t n v M0 Q) : ∀ (μ i : Nat) (M : Mem), n + 1 - i ≤ μ → i ≤ n → rs t i = some 0 → RB t n v M → M 710 0 0 = nI i → M 711 0 0 = -1 → M 712 0 0 = nI (pU (pst t i)) → RLl M v (pst t i) → RLa M v (pst t i) → rpF v M0 M → w_X10_reads_57 Q (μ + 1) (nI v) 1 M
  | 0, i, M, h, hi, _, _, _, _, _, _, _, _ => absurd h (by omega)
  | μ + 1, i, M, h, hi, hq, hB, ha, hf, hu, hRl, hRa, hF => by
    have o : ¬ (1 : Int32) = 0 := by decide
    have inv : vp_in (nI v) 4 := (ni_in (by omega)).mpr hv
    unfold w_X10_reads_57
    refine ⟨fun z => absurd z o, fun _ => p_part hB hv hn hn0 hi ha hf hq hu hRl hRa ?_ ?_⟩
    · intro M1 j hij hj h7 h44 h10 h11 h12 hl1 ha1 hF1
      have hB1 := hB.rp hF1
      refine ⟨fun _ => ⟨inv, ?_⟩, fun z => absurd h11 z⟩
      rw [ni_cl (by omega), hB1.2.1, h10]
      have lst : ∀ x, RLl (mst M1 710 0 0 x) v (pst t j) := fun x l hl => by
        unfold RLo; rw [mst_ne (by decide), mst_ne (by decide)]; exact hl1 l hl
      have ast : ∀ x, RLa (mst M1 710 0 0 x) v (pst t j) := fun x k hk => by
        rw [mst_ne (by decide), mst_ne (by decide), mst_ne (by decide)]; exact ha1 k hk
      refine ⟨fun z => ?_, fun z => ?_⟩
      · have ej : j = n := by have := (ni_le (by omega) (by omega)).mp z; omega
        subst ej
        have hw : well t j = true := by unfold well; rw [h7]; simp
        have hfl : flt t j = -1 := by unfold flt; rw [h7, if_pos hw]; rfl
        refine ⟨fun _ => ?_, fun w => absurd rfl w⟩
        rintro _ rfl
        exact p_57x hv fin ((hF.tr hF1).tr (rpF.st (by omega))) (by rw [mst_ne (by decide)]; exact h11) hfl hw (lst _) (ast _)
      · have jn : j < n := by
          apply Classical.byContradiction
          intro w
          exact z ((ni_le (by omega) (by omega)).mpr (by omega))
        have tj : tb t n j = t j := if_pos jn
        refine ⟨fun w => absurd w o, fun _ => p_byteNow hB1 hv hn (by omega) h10 ?_⟩
        rw [tj]
        refine ⟨fun w => ?_, fun w => ?_⟩
        · rintro _ rfl
          have q0 : rs t (j + 1) = some 0 := by rw [rs_s h7, w]; decide
          have p0 : pst t (j + 1) = pst t j := by rw [pst_s h7]; rfl
          rw [h10, nI_1]
          exact p_57 hv hn hn0 fin μ (j + 1) _ (by omega) (by omega) q0 (hB1.rp (rpF.st (by omega))) mst_eq (by rw [mst_ne (by decide)]; exact h11) (by rw [mst_ne (by decide), p0]; exact h12) (by rw [p0]; exact lst _) (by rw [p0]; exact ast _) ((hF.tr hF1).tr (rpF.st (by omega)))
        · have hd : dl 7 (tb t n j) = none := by rw [tj]; simp [dl, h44 jn, w]
          obtain ⟨f1, f2⟩ := flt_bad h7 (Or.inl jn) hd
          rintro _ rfl _ rfl
          refine p_57b (k := j) hv hn fin (((hF.tr hF1).tr (rpF.st (by omega))).tr (rpF.st (by omega))) (by omega) ?_ f1
          rw [mst_ne (by decide), mst_eq, h10]
    · intro M1 k hk hfl h11 hF1
      refine ⟨fun z => absurd (h11.symm.trans z) (ni_nem1 (by omega)), fun _ => ⟨fun _ => ?_, fun w => absurd rfl w⟩⟩
      rintro _ rfl
      exact p_57b (k := k) hv hn fin ((hF.tr hF1).tr (rpF.st (by omega))) hk (by rw [mst_ne (by decide)]; exact h11) hfl
theorem prs_u {t : Nat → Int32} {n : Nat} (hn : n ≤ 120) : pU (prs t n) ≤ 40 := by
  unfold prs
  split
  · rename_i hw
    rcases flt_or (t := t) hn with ⟨_, _, q, hq⟩ | ⟨e, _⟩
    · have := (rgn_all hq).2.1.1; omega
    · rw [e] at hw; cases hw
  · exact Nat.zero_le _
theorem InvR.rd {S M M' : Mem} {v : Nat} (hS : SOK S) (hI : InvR S M) (hF : rvF v M M') (h1 : M' 55 0 v = 1) (hV : VRok (S 43 v) (vln S v) M' v) : InvR S M' := by
  refine hI.text (fun _ _ _ => rfl) (fun k q q2 => hF.1 k (fun z => ?_)) (fun w hw => ?_)
  · revert q q2 z; revert k; unfold irk rvk; decide
  · obtain ⟨a, b, c⟩ := hI.v hw
    by_cases e : w = v
    · subst e
      exact ⟨by rw [hF.1 53 (by decide)]; exact a, fun i hi => by rw [hF.1 54 (by decide)]; exact b i hi, Or.inr ⟨h1, hV⟩⟩
    · obtain ⟨f1, f2, f3⟩ := hF.2 w hw e
      refine ⟨by rw [hF.1 53 (by decide)]; exact a, fun i hi => by rw [hF.1 54 (by decide)]; exact b i hi, ?_⟩
      rw [f1.1]
      rcases c with c | ⟨c, d1, d2, d3⟩
      · exact Or.inl c
      · refine Or.inr ⟨c, by rw [f1.2]; exact d1, fun l hl => ?_, fun k hk => ?_⟩
        · rw [(f2 l hl).1, (f2 l hl).2]; exact d2 l hl
        · have := prs_u (t := S 43 w) (hS.len hw).1
          obtain ⟨g1, g2, g3⟩ := f3 k (by omega)
          rw [g1, g2, g3]; exact d3 k hk
theorem rvF.fr {v : Nat} {M M' : Mem} (h : rvF v M M') : FrR M M' := by
  have nn : ∀ k, k ∈ rvk → (53 ≤ k ∧ k ≤ 85) ∨ 700 ≤ k := by decide
  exact fun k q => h.1 k (fun z => q (yrefk (nn k z)))
/-- the reference reads a VERSION -/
theorem p_X10_reads {S M : Mem} (hS : SOK S) (hI : InvR S M) {v : Nat} (hv : v < 4) {Q : Mem → Prop} (hQ : ∀ M1, InvR S M1 → M1 55 0 v = 1 → VRok (S 43 v) (vln S v) M1 v → rvF v M M1 → Q M1) : wp_X10_reads (nI v) M Q := by
  have inv : vp_in (nI v) 4 := (ni_in (by omega)).mpr hv
  obtain ⟨r1, r2, r3⟩ := hI.v hv
  obtain ⟨l1, l2⟩ := hS.len hv
  unfold wp_X10_reads
  rw [ni_cl (by omega)]
  refine ⟨inv, fun h => ⟨inv, ?_⟩, fun h => ?_⟩
  · rintro _ rfl _ rfl _ rfl _ rfl _ rfl
    refine p_noLines hv ⟨inv, ?_⟩
    have hF0 : rvF v M (mfl (mst (mst (mst (mst (mst M 55 0 v 1) 709 0 0 (nI v)) 710 0 0 0) 711 0 0 (-1)) 712 0 0 0) 58 0 (16 * v) 16 0) := ((rvF.sv (by omega)).tr rvF.s9).tr ((((rpF.st (by omega)).tr (rpF.st (by omega))).tr (rpF.st (by omega))).rv.tr rvF.nl)
    have e55 : mfl (mst (mst (mst (mst (mst M 55 0 v 1) 709 0 0 (nI v)) 710 0 0 0) 711 0 0 (-1)) 712 0 0 0) 58 0 (16 * v) 16 0 55 0 v = 1 := by simp [mfl_ne, mst_ne, mst_k]
    have e709 : mfl (mst (mst (mst (mst (mst M 55 0 v 1) 709 0 0 (nI v)) 710 0 0 0) 711 0 0 (-1)) 712 0 0 0) 58 0 (16 * v) 16 0 709 0 0 = nI v := by simp [mfl_ne, mst_ne, mst_k]
    have e710 : mfl (mst (mst (mst (mst (mst M 55 0 v 1) 709 0 0 (nI v)) 710 0 0 0) 711 0 0 (-1)) 712 0 0 0) 58 0 (16 * v) 16 0 710 0 0 = nI 0 := by simp [mfl_ne, mst_ne, mst_k]; rfl
    have e711 : mfl (mst (mst (mst (mst (mst M 55 0 v 1) 709 0 0 (nI v)) 710 0 0 0) 711 0 0 (-1)) 712 0 0 0) 58 0 (16 * v) 16 0 711 0 0 = -1 := by simp [mfl_ne, mst_ne, mst_k]
    have e712 : mfl (mst (mst (mst (mst (mst M 55 0 v 1) 709 0 0 (nI v)) 710 0 0 0) 711 0 0 (-1)) 712 0 0 0) 58 0 (16 * v) 16 0 712 0 0 = nI 0 := by simp [mfl_ne, mst_ne, mst_k]; rfl
    have e58 : ∀ l, l < 16 → mfl (mst (mst (mst (mst (mst M 55 0 v 1) 709 0 0 (nI v)) 710 0 0 0) 711 0 0 (-1)) 712 0 0 0) 58 0 (16 * v) 16 0 58 0 (16 * v + l) = 0 := fun l hl => by rw [mfl_k, if_pos ⟨rfl, by omega⟩]
    generalize mfl (mst (mst (mst (mst (mst M 55 0 v 1) 709 0 0 (nI v)) 710 0 0 0) 711 0 0 (-1)) 712 0 0 0) 58 0 (16 * v) 16 0 = M0 at hF0 e55 e709 e710 e711 e712 e58 ⊢
    have hRl : RLl M0 v (pst (S 43 v) 0) := fun l hl => ⟨e58 l hl, fun z => absurd z (Nat.not_lt_zero _)⟩
    have hRa : RLa M0 v (pst (S 43 v) 0) := fun k z => absurd z (Nat.not_lt_zero _)
    have e53 : M0 53 0 v = nI (vln S v) := by rw [hF0.1 53 (by decide), r1]; exact l2
    have hB : RB (S 43 v) (vln S v) v M0 := ⟨e709, e53, fun i hi => by rw [hF0.1 54 (by decide)]; exact r2 i hi⟩
    have fin : finR (S 43 v) (vln S v) v M0 Q := fun M1 hV hF h55 => hQ M1 (hI.rd hS (hF0.tr hF) (h55.trans e55) hV) (h55.trans e55) hV (hF0.tr hF)
    rw [e53]
    unfold w_X10_reads_56
    refine ⟨fun z => ⟨1, ?_⟩, fun z => ⟨vln S v + 2, ?_⟩⟩
    · have hz : vln S v = 0 := by have := (ni_le (b := 0) (by omega) (by omega)).mp z; omega
      rw [hz] at fin
      exact p_57x hv fin rpF.rf e711 rfl rfl hRl hRa
    · have hz : 0 < vln S v := by
        apply Classical.byContradiction
        intro w
        exact z ((ni_le (b := 0) (by omega) (by omega)).mpr (by omega))
      exact p_57 hv l1 hz fin (vln S v + 1) 0 M0 (by omega) (by omega) rfl hB e710 e711 e712 hRl hRa rpF.rf
  · rcases r3 with c | ⟨c, d⟩
    · exact absurd c h
    · exact hQ M hI c d rvF.rf
theorem R_fault {S M : Mem} (hS : SOK S) (hI : InvR S M) (v : Int32) {Q : Int32 → Mem → Prop} (hQ : ∀ M1, InvR S M1 → FrR M M1 → Q (a_fault S v) M1) : wp_X10_fault v M Q := by
  unfold wp_X10_fault wp_X10_faultOf
  simp only [e_X10_isVersion, bi_z, Classical.not_not]
  unfold a_fault at hQ
  refine ⟨fun h => ?_, fun h => ?_⟩
  · simp only [h, if_false] at hQ; exact hQ M hI FrR.rf
  · obtain ⟨k, hk, rfl⟩ := ni_ofle (n := 3) (by decide) h.1 h.2
    have hk4 : k < 4 := by omega
    rw [ni_cl (show k < 2147483648 by omega)] at hQ ⊢
    simp only [h, and_self, if_true] at hQ
    refine p_X10_reads hS hI hk4 (fun M1 hI1 _ hV hF => ⟨(ni_in (by omega)).mpr hk4, ?_⟩)
    rw [hV.1]; exact hQ M1 hI1 hF.fr
theorem p_X10_actsOf {S M : Mem} (hS : SOK S) (hI : InvR S M) {v l : Nat} (hv : v < 4) (hl : l < 16) {Q : Int32 → Mem → Prop} (hQ : ∀ M1, InvR S M1 → M1 55 0 v = 1 → VRok (S 43 v) (vln S v) M1 v → rvF v M M1 → Q (nI (pCn (prs (S 43 v) (vln S v)) l)) M1) : wp_X10_actsOf (nI v) (nI l) M Q := by
  unfold wp_X10_actsOf
  have hx : 16 * nI v + nI l = nI (16 * v + l) := by rw [ni_lit 16, pk_mul, nI_add]
  rw [hx, ni_cl (by omega)]
  refine p_X10_reads hS hI hv (fun M1 hI1 h1 hV hF => ⟨(ni_in (by omega)).mpr (by omega), ?_⟩)
  rw [(hV.2.1 l hl).1]; exact hQ M1 hI1 h1 hV hF
theorem R_acts {S M : Mem} (hS : SOK S) (hI : InvR S M) (v l : Int32) {Q : Int32 → Mem → Prop} (hQ : ∀ M1, InvR S M1 → FrR M M1 → Q (a_acts S v l) M1) : wp_X10_acts v l M Q := by
  unfold wp_X10_acts
  simp only [e_X10_isVersion, e_X10_in, bi_z, Classical.not_not]
  unfold a_acts at hQ
  refine ⟨fun h => ?_, fun h => ⟨fun g => ?_, fun g => ?_⟩⟩
  · simp only [h, false_and, if_false] at hQ; exact hQ M hI FrR.rf
  · simp only [g, and_false, if_false] at hQ; exact hQ M hI FrR.rf
  · obtain ⟨k, hk, rfl⟩ := ni_ofle (n := 3) (by decide) h.1 h.2
    obtain ⟨j, hj, rfl⟩ := ni_ofle (n := 15) (by decide) g.1 g.2
    rw [ni_cl (show k < 2147483648 by omega), ni_cl (show j < 2147483648 by omega)] at hQ
    simp only [h, g, and_self, if_true] at hQ
    exact p_X10_actsOf hS hI (by omega) (by omega) (fun M1 hI1 _ hV hF => hQ M1 hI1 hF.fr)
