/-! THE REFERENCE READS A PART -/
def RLo (M : Mem) (v : Nat) (p : PSt) (l : Nat) : Prop := M 58 0 (16 * v + l) = nI (pCn p l) ∧ (0 < pCn p l → M 57 0 (16 * v + l) = nI (pFi p l))
def RLl (M : Mem) (v : Nat) (p : PSt) : Prop := ∀ l, l < 16 → RLo M v p l
def RLa (M : Mem) (v : Nat) (p : PSt) : Prop := ∀ k, k < pU p → M 59 0 (60 * v + k) = onC (pCd p k) ∧ M 60 0 (60 * v + k) = sgC (pCd p k) ∧ M 61 0 (60 * v + k) = byC (pCd p k)
def rpk : List Nat := [57, 58, 59, 60, 61, 710, 711, 712]
def rpF (v : Nat) (M M' : Mem) : Prop := (∀ k, k ∉ rpk → M' k = M k) ∧ (∀ w, w < 4 → w ≠ v → (∀ l, l < 16 → M' 57 0 (16 * w + l) = M 57 0 (16 * w + l) ∧ M' 58 0 (16 * w + l) = M 58 0 (16 * w + l)) ∧ (∀ j, j < 60 → M' 59 0 (60 * w + j) = M 59 0 (60 * w + j) ∧ M' 60 0 (60 * w + j) = M 60 0 (60 * w + j) ∧ M' 61 0 (60 * w + j) = M 61 0 (60 * w + j)))
theorem rpF.rf {v : Nat} {M : Mem} : rpF v M M := ⟨fun _ _ => rfl, fun _ _ _ => ⟨fun _ _ => ⟨rfl, rfl⟩, fun _ _ => ⟨rfl, rfl, rfl⟩⟩⟩
theorem rpF.tr {v : Nat} {M M1 M2 : Mem} (h : rpF v M M1) (h2 : rpF v M1 M2) : rpF v M M2 := by
  refine ⟨fun k q => (h2.1 k q).trans (h.1 k q), fun w hw hne => ⟨fun l hl => ?_, fun j hj => ?_⟩⟩
  · obtain ⟨a, b⟩ := (h.2 w hw hne).1 l hl
    obtain ⟨c, d⟩ := (h2.2 w hw hne).1 l hl
    exact ⟨c.trans a, d.trans b⟩
  · obtain ⟨a, b, e⟩ := (h.2 w hw hne).2 j hj
    obtain ⟨c, d, f⟩ := (h2.2 w hw hne).2 j hj
    exact ⟨c.trans a, d.trans b, f.trans e⟩
theorem rpF.st {v k : Nat} {M : Mem} {x : Int32} (hk : k = 710 ∨ k = 711 ∨ k = 712) : rpF v M (mst M k 0 0 x) := by
  refine ⟨fun q hq => mst_ne (fun e => hq ?_), fun w hw hne => ⟨fun l hl => ⟨?_, ?_⟩, fun j hj => ⟨?_, ?_, ?_⟩⟩⟩
  · rcases hk with rfl | rfl | rfl <;> subst e <;> decide
  all_goals rw [mst_ne (by omega)]
theorem rpF.sl {v k l : Nat} {M : Mem} {x : Int32} (hk : k = 57 ∨ k = 58) (hl : l < 16) : rpF v M (mst M k 0 (16 * v + l) x) := by
  refine ⟨fun q hq => mst_ne (fun e => hq ?_), fun w hw hne => ⟨fun l' hl' => ⟨?_, ?_⟩, fun j hj => ⟨?_, ?_, ?_⟩⟩⟩
  · rcases hk with rfl | rfl <;> subst e <;> decide
  · rcases hk with rfl | rfl
    · rw [mst_k, if_neg (by omega)]
    · rw [mst_ne (by omega)]
  · rcases hk with rfl | rfl
    · rw [mst_ne (by omega)]
    · rw [mst_k, if_neg (by omega)]
  all_goals rw [mst_ne (by omega)]
theorem raF.rp {v u : Nat} {M M' : Mem} (hu : u ≤ 40) (h : raF v u M M') : rpF v M M' := by
  have sub : ∀ k, k ∈ [59, 60, 61, 710, 711, 712] → k ∈ rpk := by decide
  refine ⟨fun k q => h.1 k (fun z => q (sub k z)), fun w hw hne => ⟨fun l hl => ⟨?_, ?_⟩, fun j hj => ⟨?_, ?_, ?_⟩⟩⟩
  · rw [h.1 57 (by decide)]
  · rw [h.1 58 (by decide)]
  · exact h.2 59 (by decide) _ (by omega)
  · exact h.2 60 (by decide) _ (by omega)
  · exact h.2 61 (by decide) _ (by omega)
theorem RB.rp {t : Nat → Int32} {n v : Nat} {M M' : Mem} (h : RB t n v M) (hF : rpF v M M') : RB t n v M' := h.keep (hF.1 709 (by decide)) (hF.1 53 (by decide)) (hF.1 54 (by decide))
/-- the end of a part -/
theorem p_92x {M : Mem} {v e m f : Nat} (hv : v < 4) (hl : 2 * e + m < 16) (h9 : M 709 0 0 = nI v) (hf : M 711 0 0 = -1) {p : PSt} (hp : pL p = 2 * e + m) (h2 : M 712 0 0 = nI (pU p)) (hu : pU p ≤ 40) (hg : pFi p (pL p) + pCn p (pL p) = pU p) {Q : Mem → Prop} (hQ : Q (mst (mst M 57 0 (16 * v + pL p) (nI (pFi p (pL p)))) 58 0 (16 * v + pL p) (nI (pCn p (pL p))))) : w_X10_part_92 Q (f + 1) (nI e) (nI m) (nI (pFi p (pL p))) 0 M := by
  have hx : 16 * nI v + 2 * nI e + nI m = nI (16 * v + pL p) := by rw [ni_lit 16, ni_lit 2, pk_mul, pk_mul, nI_add, nI_add]; congr 1; omega
  have hin : vp_in (nI (16 * v + pL p)) 64 := (ni_in (by omega)).mpr (by omega)
  unfold w_X10_part_92
  refine ⟨fun _ => ⟨fun _ => ?_, fun z => absurd hf z⟩, fun z => absurd rfl z⟩
  rw [h9, hx, ni_cl (by omega)]
  refine ⟨hin, ?_⟩
  rintro _ rfl
  rw [mst_ne (show 709 ≠ 57 by decide), h9, hx, ni_cl (by omega), mst_ne (show 712 ≠ 57 by decide), h2, ni_sub (by omega), show pU p - pFi p (pL p) = pCn p (pL p) by omega]
  refine ⟨hin, ?_⟩
  rintro _ rfl
  exact hQ
theorem p_92b {M : Mem} {f k : Nat} {x1 x2 x3 : Int32} (hk : k ≤ 120) (hf : M 711 0 0 = nI k) {Q : Mem → Prop} (hQ : Q M) : w_X10_part_92 Q (f + 1) x1 x2 x3 0 M := by
  unfold w_X10_part_92
  exact ⟨fun _ => ⟨fun z => absurd (hf.symm.trans z) (ni_nem1 (by omega)), fun _ => hQ⟩, fun z => absurd rfl z⟩
def okP (t : Nat → Int32) (n v i : Nat) (M : Mem) (Q : Mem → Prop) : Prop := ∀ M1 j, i < j → j ≤ n → rs t j = some 7 → (j < n → ¬ t j = 44) → M1 710 0 0 = nI j → M1 711 0 0 = -1 → M1 712 0 0 = nI (pU (pst t j)) → RLl M1 v (pst t j) → RLa M1 v (pst t j) → rpF v M M1 → Q M1
def badP (t : Nat → Int32) (n v : Nat) (M : Mem) (Q : Mem → Prop) : Prop := ∀ M1 k, k ≤ 120 → flt t n = nI k → M1 711 0 0 = nI k → rpF v M M1 → Q M1
theorem p_92 {t : Nat → Int32} {n v e m fr0 : Nat} {M0 : Mem} (hv : v < 4) (hn : n ≤ 120) (hn0 : 0 < n) (hl : 2 * e + m < 16) {i0 : Nat} {Q : Mem → Prop} (ok : okP t n v i0 M0 Q) (bad : badP t n v M0 Q) : ∀ (μ i : Nat) (M : Mem), n + 1 - i ≤ μ → i0 < i → i ≤ n → rs t i = some 3 → RB t n v M → M 710 0 0 = nI i → M 711 0 0 = -1 → M 712 0 0 = nI (pU (pst t i)) → pL (pst t i) = 2 * e + m → pFi (pst t i) (pL (pst t i)) = fr0 → (∀ l, l < 16 → l ≠ 2 * e + m → RLo M v (pst t i) l) → RLa M v (pst t i) → rpF v M0 M → w_X10_part_92 Q (μ + 1) (nI e) (nI m) (nI fr0) 1 M
  | 0, i, M, h, _, hi, _, _, _, _, _, _, _, _, _, _ => absurd h (by omega)
  | μ + 1, i, M, h, hi0, hi, hq, hB, ha, hf, hu, hL, hfr, hRl, hRa, hF => by
    have hR := rgn_all hq
    have hu40 : pU (pst t i) ≤ 40 := by have := hR.2.1.1; omega
    have o : ¬ (1 : Int32) = 0 := by decide
    unfold w_X10_part_92
    refine ⟨fun z => absurd z o, fun _ => p_act hB hv hn hn0 hi ha hf hq hu ?_ ?_⟩
    · intro M1 j c hij hj h7 hpa h10 h11 h12 h59 h60 h61 hF1
      obtain ⟨pa1, pa2, pa3, pa4, pa5⟩ := hpa
      have hR7 := rgn_all h7
      have hF1' := raF.rp hu40 hF1
      have hB1 := hB.rp hF1'
      have hu1 : M1 712 0 0 = nI (pU (pst t j)) := by rw [pa2]; exact h12
      have hL1 : pL (pst t j) = 2 * e + m := pa1.trans hL
      have hfr1 : pFi (pst t j) (pL (pst t j)) = fr0 := by rw [pa4, pa1]; exact hfr
      have hRl1 : ∀ l, l < 16 → l ≠ 2 * e + m → RLo M1 v (pst t j) l := by
        intro l hl' hne
        obtain ⟨x, y⟩ := hRl l hl' hne
        unfold RLo
        rw [hF1.1 58 (by decide), hF1.1 57 (by decide), pa4, pa5, upN_ne (by rw [hL]; exact hne)]
        exact ⟨x, y⟩
      have hRa1 : RLa M1 v (pst t j) := by
        intro k hk
        rw [pa2] at hk
        rw [pa3]
        by_cases ek : k = pU (pst t i)
        · subst ek; rw [upN_eq]; exact ⟨h59, h60, h61⟩
        · rw [upN_ne ek, hF1.2 59 (by decide) _ (by omega), hF1.2 60 (by decide) _ (by omega), hF1.2 61 (by decide) _ (by omega)]
          exact hRa k (by omega)
      refine ⟨fun _ => ?_, fun z => absurd h11 z⟩
      refine p_byteNow hB1 hv hn (by omega) h10 ⟨fun z => ?_, fun z => ?_⟩
      · obtain ⟨j1, tj⟩ := tb_lt (t := t) (n := n) (i := j) (by rw [z]; decide)
        rw [tj] at z
        have q3 : rs t (j + 1) = some 3 := by rw [rs_s h7, z]; decide
        have p3 : pst t (j + 1) = pst t j := by rw [pst_s h7]; rfl
        refine ⟨fun w => absurd w o, fun _ => ?_⟩
        rintro _ rfl
        rw [h10, nI_1]
        refine p_92 hv hn hn0 hl ok bad μ (j + 1) _ (by omega) (by omega) (by omega) q3 (hB1.rp (rpF.st (by omega))) mst_eq (by rw [mst_ne (by decide)]; exact h11) (by rw [mst_ne (by decide), p3]; exact hu1) (by rw [p3]; exact hL1) (by rw [p3]; exact hfr1) ?_ ?_ ((hF.tr hF1').tr (rpF.st (by omega)))
        · intro l hl' hne
          rw [p3]
          obtain ⟨x, y⟩ := hRl1 l hl' hne
          unfold RLo
          rw [mst_ne (by decide), mst_ne (by decide)]; exact ⟨x, y⟩
        · rw [p3]
          intro k hk
          rw [mst_ne (by decide), mst_ne (by decide), mst_ne (by decide)]; exact hRa1 k hk
      · refine ⟨fun _ => ?_, fun w => absurd rfl w⟩
        rintro _ rfl
        rw [h10, ni_0, nI_add, Nat.add_zero, ← hfr1]
        have hu7 : pU (pst t j) ≤ 40 := by have := hR7.2.1.1; omega
        have hg7 := hR7.2.2.2.2 (by decide)
        refine p_92x hv hl (by rw [mst_ne (by decide)]; exact hB1.1) (by rw [mst_ne (by decide)]; exact h11) hL1 (by rw [mst_ne (by decide)]; exact hu1) hu7 hg7 ?_
        refine ok _ j (by omega) hj h7 (fun w e => z (by unfold tb; rw [if_pos w]; exact e)) (by rw [mst_ne (by decide), mst_ne (by decide), mst_eq]; rfl) (by rw [mst_ne (by decide), mst_ne (by decide), mst_ne (by decide)]; exact h11) (by rw [mst_ne (by decide), mst_ne (by decide), mst_ne (by decide)]; exact hu1) ?_ ?_ (((hF.tr hF1').tr (rpF.st (by omega))).tr ((rpF.sl (by omega) (by omega)).tr (rpF.sl (by omega) (by omega))))
        · intro l hl'
          unfold RLo
          by_cases el : l = pL (pst t j)
          · subst el
            refine ⟨by rw [mst_eq], fun _ => by rw [mst_ne (by decide), mst_eq]⟩
          · obtain ⟨x, y⟩ := hRl1 l hl' (by omega)
            rw [mst_k, if_neg (by omega), mst_ne (by decide), mst_ne (by decide), mst_ne (show 57 ≠ 58 by decide), mst_k, if_neg (by omega), mst_ne (by decide)]
            exact ⟨x, y⟩
        · intro k hk
          rw [mst_ne (by decide), mst_ne (by decide), mst_ne (by decide), mst_ne (by decide), mst_ne (by decide), mst_ne (by decide), mst_ne (by decide), mst_ne (by decide), mst_ne (by decide)]
          exact hRa1 k hk
    · intro M1 k hk hfl h11 hF1
      have hF1' := raF.rp hu40 hF1
      refine ⟨fun z => absurd (h11.symm.trans z) (ni_nem1 (by omega)), fun _ => ⟨fun _ => ?_, fun w => absurd rfl w⟩⟩
      rintro _ rfl
      refine p_92b hk (by rw [mst_ne (by decide)]; exact h11) ?_
      exact bad _ k hk hfl (by rw [mst_ne (by decide)]; exact h11) ((hF.tr hF1').tr (rpF.st (by omega)))
theorem p_part {t : Nat → Int32} {n v i : Nat} {M : Mem} (hB : RB t n v M) (hv : v < 4) (hn : n ≤ 120) (hn0 : 0 < n) (hi : i ≤ n) (ha : M 710 0 0 = nI i) (hf : M 711 0 0 = -1) (hq : rs t i = some 0) (hu : M 712 0 0 = nI (pU (pst t i))) (hRl : RLl M v (pst t i)) (hRa : RLa M v (pst t i)) {Q : Mem → Prop} (ok : okP t n v i M Q) (bad : badP t n v M Q) : wp_X10_part M Q := by
  have hR := rgn_all hq
  unfold wp_X10_part
  refine p_byteNow hB hv hn (by omega) ha (e_eventOf ⟨fun z => ?_, fun z => ?_⟩)
  · have e : evOf (tb t n i) = none := (oI_m (fun r h => by have := evOf_lt r h; omega)).mp z
    have hd : dl 0 (tb t n i) = none := by simp [dl, e]
    obtain ⟨f1, f2⟩ := flt_bad hq (by omega) hd
    rintro _ rfl
    exact bad _ i (by omega) f1 (by rw [mst_eq, ha]) (rpF.st (by omega))
  · cases e : evOf (tb t n i) with
    | none => rw [e] at z; exact absurd rfl z
    | some r =>
      have hr := evOf_lt r e
      obtain ⟨i1, ti⟩ := tb_lt (t := t) (n := n) (i := i) (fun z => by
        have : evOf (-1) = none := by decide
        rw [z, this] at e; cases e)
      rw [ti] at e
      have q1 : rs t (i + 1) = some 1 := by rw [rs_s hq]; simp [dl, e]
      have p1 := pst_s hq
      generalize hp : pst t i = p at hR hu hRl hRa p1
      obtain ⟨l0, g, u, cd, fi, cn, fr, to⟩ := p
      simp only [pstep, e, Option.getD_some] at p1
      rintro _ rfl
      rw [ha, nI_1]
      have b62 : ∀ M1 k x1 x2, k ≤ 120 → flt t n = nI k → M1 711 0 0 = nI k → rpF v M M1 → w_X10_part_62 Q x1 x2 M1 := by
        intro M1 k x1 x2 hk hfl h11 hF
        unfold w_X10_part_62
        rintro _ rfl _ rfl
        have h11' : mst M1 710 0 0 (M1 710 0 0 + 1) 711 0 0 = nI k := by rw [mst_ne (by decide)]; exact h11
        refine ⟨fun w => absurd (h11'.symm.trans w) (ni_nem1 (by omega)), fun _ => ⟨1, p_92b hk h11' ?_⟩⟩
        exact bad _ k hk hfl h11' (hF.tr (rpF.st (by omega)))
      refine p_mode (i := i + 1) (hB.rp (rpF.st (by omega))) hv hn (by omega) mst_eq (by rw [mst_ne (by decide)]; exact hf) (fun hm => ?_) (fun hm => ?_)
      · obtain ⟨i2, ti2⟩ := tb_lt (t := t) (n := n) (i := i + 1) (fun z => by rw [z] at hm; revert hm; decide)
        rw [ti2] at hm ⊢
        have q2 : rs t (i + 1 + 1) = some 2 := by rw [rs_s q1]; simp [dl, hm]
        have p2 := pst_s q1
        rw [p1] at p2
        obtain ⟨m, hm2, em, el⟩ : ∃ m, m < 2 ∧ t (i + 1) - 48 = nI m ∧ (if t (i + 1) = 49 then 2 * r + 1 else 2 * r) = 2 * r + m := by
          rcases of_decide_eq_true hm with w | w
          · exact ⟨0, by decide, by rw [w]; decide, by rw [w]; exact if_neg (by decide)⟩
          · exact ⟨1, by decide, by rw [w]; decide, by rw [w]; exact if_pos rfl⟩
        simp only [pstep, el] at p2
        rw [em]
        refine ⟨fun _ => ?_, fun w => absurd (by rw [mst_ne (by decide), mst_ne (by decide)]; exact hf) w⟩
        have hF2 : rpF v M (mst (mst M 710 0 0 (nI (i + 1))) 710 0 0 (nI (i + 1 + 1))) := (rpF.st (by omega)).tr (rpF.st (by omega))
        refine p_byteNow (i := i + 2) (hB.rp hF2) hv hn (by omega) mst_eq ⟨fun w => ?_, fun w => ?_⟩
        · obtain ⟨i3, ti3⟩ := tb_lt (t := t) (n := n) (i := i + 2) (by rw [w]; decide)
          rw [ti3] at w
          have q3 : rs t (i + 2 + 1) = some 3 := by rw [rs_s q2, w]; decide
          have p3 := pst_s q2
          rw [p2] at p3
          simp only [pstep] at p3
          unfold w_X10_part_62 w_X10_part_90
          rintro _ rfl _ rfl
          rw [mst_eq, nI_1, mst_ne (show 712 ≠ 710 by decide), mst_ne (show 712 ≠ 710 by decide), mst_ne (show 712 ≠ 710 by decide), hu]
          have hF3 : rpF v M (mst (mst (mst M 710 0 0 (nI (i + 1))) 710 0 0 (nI (i + 1 + 1))) 710 0 0 (nI (i + 2 + 1))) := hF2.tr (rpF.st (by omega))
          have h11 : mst (mst (mst M 710 0 0 (nI (i + 1))) 710 0 0 (nI (i + 1 + 1))) 710 0 0 (nI (i + 2 + 1)) 711 0 0 = -1 := by rw [mst_ne (by decide), mst_ne (by decide), mst_ne (by decide)]; exact hf
          refine ⟨fun _ => ⟨n + 2, ?_⟩, fun z => absurd h11 z⟩
          refine p_92 (fr0 := u) hv hn hn0 (by omega) ok bad (n + 1) (i + 3) _ (by omega) (by omega) (by omega) q3 (hB.rp hF3) mst_eq h11 ?_ ?_ ?_ ?_ ?_ hF3
          · rw [mst_ne (by decide), mst_ne (by decide), mst_ne (by decide), hu, show i + 3 = i + 1 + 1 + 1 from rfl, p3]; rfl
          · rw [show i + 3 = i + 1 + 1 + 1 from rfl, p3]; rfl
          · rw [show i + 3 = i + 1 + 1 + 1 from rfl, p3]; exact upN_eq
          · intro l hl' hne
            rw [show i + 3 = i + 1 + 1 + 1 from rfl, p3]
            obtain ⟨x, y⟩ := hRl l hl'
            unfold RLo
            simp only [pCn, pFi] at x y ⊢
            rw [upN_ne hne, upN_ne hne, mst_ne (by decide), mst_ne (by decide), mst_ne (by decide), mst_ne (by decide), mst_ne (by decide), mst_ne (by decide)]
            exact ⟨x, y⟩
          · rw [show i + 3 = i + 1 + 1 + 1 from rfl, p3]
            intro k hk
            rw [mst_ne (by decide), mst_ne (by decide), mst_ne (by decide), mst_ne (by decide), mst_ne (by decide), mst_ne (by decide), mst_ne (by decide), mst_ne (by decide), mst_ne (by decide)]
            exact hRa k hk
        · have hd : dl 2 (tb t n (i + 2)) = none := by simp [dl, w]
          obtain ⟨f1, f2⟩ := flt_bad q2 (by omega) hd
          rintro _ rfl
          exact b62 _ (i + 2) _ _ (by omega) f1 (by rw [mst_eq, mst_eq]) (hF2.tr (rpF.st (by omega)))
      · have hd : dl 1 (tb t n (i + 1)) = none := by simp [dl, hm]
        obtain ⟨f1, f2⟩ := flt_bad q1 (by omega) hd
        have h11 : mst (mst (mst M 710 0 0 (nI (i + 1))) 711 0 0 (nI (i + 1))) 710 0 0 (nI (i + 1 + 1)) 711 0 0 = nI (i + 1) := by rw [mst_ne (by decide), mst_eq]
        refine ⟨fun z => absurd (h11.symm.trans z) (ni_nem1 (by omega)), fun _ => ?_⟩
        exact b62 _ (i + 1) _ _ (by omega) f1 h11 (((rpF.st (by omega)).tr (rpF.st (by omega))).tr (rpF.st (by omega)))
