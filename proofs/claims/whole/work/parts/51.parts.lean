/-! THE REFERENCE SEEKS A ROW THAT PARTS -/
def pfR (n f j : Nat) : List Nat := (List.range j).map (fun k => f / 8 ^ (n - 2 - k) % 8)
theorem pfR_s {n f j : Nat} : pfR n f (j + 1) = pfR n f j ++ [f / 8 ^ (n - 2 - j) % 8] := by unfold pfR; rw [List.range_succ, List.map_append]; rfl
theorem pfR_l {n f j : Nat} : (pfR n f j).length = j := by unfold pfR; rw [List.length_map, List.length_range]
theorem rowF_e {n f : Nat} : rowF n f = pfR n f (n - 1) ++ [7] := rfl
theorem rowF_d {n f i : Nat} (hi : i < n - 1) : (rowF n f).getD i 0 = f / 8 ^ (n - 2 - i) % 8 := by
  unfold rowF; simp [List.getElem?_append, hi]
theorem rowF_7 {n f : Nat} : (rowF n f).getD (n - 1) 0 = 7 := by
  unfold rowF; simp [List.getElem?_append]
theorem an_7 (k : Nat) : nI k &&& 7 = nI (k % 8) := by
  have := fa_and k 7
  rw [show k &&& 7 = k % 8 from Nat.and_two_pow_sub_one_eq_mod k 3] at this
  exact this
def prk : List Nat := [62, 714, 715, 63]
theorem p_X10_doesPart {S M : Mem} (hS : SOK S) {v o ls n f : Nat} (hMx : MxR S M v o ls) (h1 : 1 ≤ n) (h5 : n ≤ 5) (hf : f < 2147483648) {Q : Int32 → Mem → Prop} (hQ : ∀ M1, (∀ k, k ∉ prk → M1 k = M k) → (∀ i, i < n → M1 63 0 i = nI ((rowF n f).getD i 0)) → Q (bi (partsF (mixA (vA S v) (vA S o) ls) n f = true)) M1) : wp_X10_doesPart (nI n) (nI f) M Q := by
  unfold wp_X10_doesPart
  refine p_X10_begins (fun M0 hR0 hF0 => ?_)
  have sub : ∀ k, k ∉ prk → k ∉ gsk := by
    intro k hk z
    exact hk (by revert z; clear hk; revert k; decide)
  have hn1 : nI n - 1 = nI (n - 1) := by rw [ni_1, ni_sub (by omega)]
  refine pk_loop (fun g i (z : Mem) => w_X10_doesPart_6 Q g (nI n) (nI f) (nI i) z) (fun i z => StR z (runS (mixA (vA S v) (vA S o) ls) (pfR n f i)) (drw (pfR n f i)) ∧ (∀ k, k ∉ prk → z k = M k) ∧ (∀ j, j < i → z 63 0 j = nI ((rowF n f).getD j 0))) (n - 1) 0 M0 (Nat.zero_le _) ⟨hR0, fun k hk => hF0 k (sub k hk), fun j z => absurd z (Nat.not_lt_zero _)⟩ ?_ ?_
  · rintro g z ⟨hR, hF, hrow⟩
    have hst : stOk (runS (mixA (vA S v) (vA S o) ls) (pfR n f (n - 1))) := runS_ok _ stOk_0
    have hd := drw_l (pfR n f (n - 1))
    rw [pfR_l] at hd
    unfold w_X10_doesPart_6
    rw [hn1, ni_cl (by omega)]
    refine ⟨fun _ => ⟨(ni_in (by omega)).mpr (by omega), ?_⟩, fun q => absurd ((ni_le (by omega) (by omega)).mpr (Nat.le_refl _)) q⟩
    rintro _ rfl
    have fz : ∀ k, k ≠ 63 → mst z 63 0 (n - 1) 7 k = z k := fun k hk => mst_ne hk
    have hMz : MxR S (mst z 63 0 (n - 1) 7) v o ls := hMx.keep (fun k hk => by rw [fz k (by revert hk; revert k; decide)]; exact hF k (by revert hk; revert k; decide))
    have hRz : StR (mst z 63 0 (n - 1) 7) (runS (mixA (vA S v) (vA S o) ls) (pfR n f (n - 1))) (drw (pfR n f (n - 1))) := ⟨fun k hk => by rw [fz 62 (by decide)]; exact hR.1 k hk, by rw [fz 714 (by decide)]; exact hR.2.1, by rw [fz 715 (by decide)]; exact hR.2.2⟩
    refine p_X10_goes (e := 7) hS hMz hst (by decide) hRz (by omega) (fun M2 hR2 hF2 => ⟨(ni_in (a := 2) (by decide)).mpr (by decide), ?_⟩)
    rw [← runS_a, ← drw_a, ← rowF_e] at hR2
    have hst2 : stOk (runS (mixA (vA S v) (vA S o) ls) (rowF n f)) := runS_ok _ stOk_0
    have h2 := hst2.1 2 (by decide)
    have hd2 := drw_l (rowF n f)
    have hl2 : (rowF n f).length = n - 1 + 1 := by rw [rowF_e, List.length_append, pfR_l]; rfl
    rw [hl2] at hd2
    have c2 : (2 : Int32).toNatClampNeg = 2 := rfl
    rw [c2, hR2.1 2 (by decide), hR2.2.2, iI_eq (by omega) (by omega)]
    have hfin := hQ M2 (fun k hk => by rw [hF2 k (sub k hk), fz k (fun e => hk (by subst e; decide))]; exact hF k hk) (fun i hi => by
      rw [hF2 63 (by decide), mst_k]
      by_cases e : i = n - 1
      · rw [if_pos ⟨rfl, e⟩, e, rowF_7]; rfl
      · rw [if_neg (fun q => e q.2)]; exact hrow i (by omega))
    unfold partsF at hfin
    simp only [decide_eq_true_eq] at hfin
    refine ⟨fun q => ?_, fun q => ?_⟩
    · rw [bi_f (fun w => w q)] at hfin; exact hfin
    · rw [bi_t (p := (runS (mixA (vA S v) (vA S o) ls) (rowF n f)).2.2.1 ≠ drw (rowF n f)) q] at hfin; exact hfin
  · rintro g i z hi ⟨hR, hF, hrow⟩ ih
    have hst : stOk (runS (mixA (vA S v) (vA S o) ls) (pfR n f i)) := runS_ok _ stOk_0
    have hd := drw_l (pfR n f i)
    rw [pfR_l] at hd
    have hdig : (nI f >>> ((3 * ((nI n - 2) - nI i)) &&& 31)) &&& 7 = nI (f / 8 ^ (n - 2 - i) % 8) := by
      have e2 : nI n - 2 = nI (n - 2) := by rw [ni_lit 2, ni_sub (by omega)]
      rw [e2, ni_sub (by omega), ni_lit 3, pk_mul, sh_r hf (by omega), an_7, show (8 : Nat) ^ (n - 2 - i) = 2 ^ (3 * (n - 2 - i)) by rw [Nat.pow_mul]]
    unfold w_X10_doesPart_6
    rw [hn1]
    refine ⟨fun q => absurd ((ni_le (by omega) (by omega)).mp q) (by omega), fun _ => ⟨(ni_in (by omega)).mpr (by omega), ?_⟩⟩
    rintro _ rfl
    rw [hdig, ni_cl (by omega), mst_eq]
    refine ⟨(ni_in (by omega)).mpr (by omega), ?_⟩
    have fz : ∀ k, k ≠ 63 → mst z 63 0 i (nI (f / 8 ^ (n - 2 - i) % 8)) k = z k := fun k hk => mst_ne hk
    have hMz : MxR S (mst z 63 0 i (nI (f / 8 ^ (n - 2 - i) % 8))) v o ls := hMx.keep (fun k hk => by rw [fz k (by revert hk; revert k; decide)]; exact hF k (by revert hk; revert k; decide))
    have hRz : StR (mst z 63 0 i (nI (f / 8 ^ (n - 2 - i) % 8))) (runS (mixA (vA S v) (vA S o) ls) (pfR n f i)) (drw (pfR n f i)) := ⟨fun k hk => by rw [fz 62 (by decide)]; exact hR.1 k hk, by rw [fz 714 (by decide)]; exact hR.2.1, by rw [fz 715 (by decide)]; exact hR.2.2⟩
    refine p_X10_goes hS hMz hst (Nat.mod_lt _ (by decide)) hRz (by omega) (fun M2 hR2 hF2 => ?_)
    rw [nI_1]
    refine ih M2 ⟨by rw [pfR_s, runS_a, drw_a]; exact hR2, fun k hk => ?_, fun j hj => ?_⟩
    · rw [hF2 k (sub k hk), fz k (fun e => hk (by subst e; decide))]; exact hF k hk
    · rw [hF2 63 (by decide), mst_k]
      by_cases e : j = i
      · rw [if_pos ⟨rfl, e⟩, e, rowF_d hi]
      · rw [if_neg (fun q => e q.2)]; exact hrow j (by omega)
theorem lpS_up {A : Nat → List Nat} {m : Nat} {r : Nat × Nat} (h : lpS A m = some r) : ∀ {m'}, m ≤ m' → lpS A m' = some r := by
  intro m' hm
  induction m' with
  | zero => rw [Nat.le_zero.mp hm] at h; exact h
  | succ k ih =>
    by_cases e : m = k + 1
    · rw [← e]; exact h
    · rw [lpS, ih (by omega)]
def lpOut (A : Nat → List Nat) (m : Nat) (M : Mem) (Q : Int32 → Mem → Prop) : Prop := match lpS A m with
  | none => Q (-1) M
  | some (n, f) => (∀ i, i < n → M 63 0 i = nI ((rowF n f).getD i 0)) → Q (nI n) M
theorem p_X10_partsBy {S M : Mem} (hS : SOK S) {v o ls m : Nat} (hMx : MxR S M v o ls) (hm : m ≤ 5) {Q : Int32 → Mem → Prop} (hQ : ∀ M1, (∀ k, k ∉ prk → M1 k = M k) → lpOut (mixA (vA S v) (vA S o) ls) m M1 Q) : wp_X10_partsBy (nI m) M Q := by
  unfold wp_X10_partsBy
  have pw : ∀ i, i ≤ 4 → 8 ^ i ≤ 4096 := by decide
  refine pk_loop (fun f i (z : Mem) => w_X10_partsBy_2 Q f (nI m) (nI (i + 1)) z) (fun i z => lpS (mixA (vA S v) (vA S o) ls) i = none ∧ ∀ k, k ∉ prk → z k = M k) m 0 M (Nat.zero_le _) ⟨rfl, fun _ _ => rfl⟩ ?_ ?_
  · rintro f z ⟨h0, hF⟩
    unfold w_X10_partsBy_2
    refine ⟨fun _ => ?_, fun q => absurd ((ni_lt (by omega) (by omega)).mpr (by omega)) q⟩
    have := hQ z hF
    unfold lpOut at this
    rw [h0] at this; exact this
  · rintro f i z hi ⟨h0, hF⟩ ih
    have p4 := pw i (by omega)
    unfold w_X10_partsBy_2
    refine ⟨fun q => absurd ((ni_lt (by omega) (by omega)).mp q) (by omega), fun _ => ?_⟩
    have hsz : (1 : Int32) <<< ((3 * (nI (i + 1) - 1)) &&& 31) = nI (8 ^ i) := by
      rw [ni_1, ni_sub (by omega), show i + 1 - 1 = i by omega, ni_lit 3, pk_mul]
      have := sh_1 (j := 3 * i) (by omega)
      rw [ni_1] at this
      rw [this, Nat.pow_mul]
    refine pk_loop (fun g j (z : Mem) => w_X10_partsBy_9 Q (fun x1 x2 M => w_X10_partsBy_2 Q f x1 x2 M) g (nI m) (nI (i + 1)) (nI j) z) (fun j z => (∀ g, g < j → ¬ partsF (mixA (vA S v) (vA S o) ls) (i + 1) g = true) ∧ ∀ k, k ∉ prk → z k = M k) (8 ^ i) 0 z (Nat.zero_le _) ⟨fun g z => absurd z (Nat.not_lt_zero _), hF⟩ ?_ ?_
    · rintro g z1 ⟨hn, hF1⟩
      unfold w_X10_partsBy_9
      rw [hsz]
      refine ⟨fun _ => ?_, fun q => absurd ((ni_le (by omega) (by omega)).mpr (Nat.le_refl _)) q⟩
      rw [nI_1]
      refine ih z1 ⟨?_, hF1⟩
      rw [lpS, h0]
      have : (List.range (8 ^ i)).find? (partsF (mixA (vA S v) (vA S o) ls) (i + 1)) = none := List.find?_eq_none.mpr (fun x hx => hn x (List.mem_range.mp hx))
      rw [this]; rfl
    · rintro g j z1 hj ⟨hn, hF1⟩ ih1
      unfold w_X10_partsBy_9
      rw [hsz]
      refine ⟨fun q => absurd ((ni_le (by omega) (by omega)).mp q) (by omega), fun _ => ?_⟩
      refine p_X10_doesPart hS (hMx.keep (fun k hk => hF1 k (by revert hk; revert k; decide))) (by omega) (by omega) (by omega) (fun M2 hF2 hrow => ?_)
      simp only [bi_z, Classical.not_not]
      refine ⟨fun q => ?_, fun q => ?_⟩
      · rw [nI_1]
        refine ih1 M2 ⟨fun x hx => ?_, fun k hk => (hF2 k hk).trans (hF1 k hk)⟩
        by_cases e : x = j
        · rw [e]; exact q
        · exact hn x (by omega)
      · have hs : lpS (mixA (vA S v) (vA S o) ls) (i + 1) = some (i + 1, j) := by
          rw [lpS, h0]
          have : (List.range (8 ^ i)).find? (partsF (mixA (vA S v) (vA S o) ls) (i + 1)) = some j := List.find?_range_eq_some.mpr ⟨q, List.mem_range.mpr hj, fun x hx => by simpa using hn x hx⟩
          rw [this]; rfl
        have := hQ M2 (fun k hk => (hF2 k hk).trans (hF1 k hk))
        unfold lpOut at this
        rw [lpS_up hs (show i + 1 ≤ m by omega)] at this
        exact this hrow
