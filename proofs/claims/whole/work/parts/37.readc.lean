/-! THE CLASS READS A TEXT -/
theorem dl_lt {q : Nat} {b : Int32} {r : Nat} (h : dl q b = some r) : r < 8 := by
  unfold dl at h
  repeat' split at h
  all_goals first | (cases h; decide) | cases h
theorem rs_lt {t : Nat → Int32} {i q : Nat} (h : rs t i = some q) : q < 8 := by
  cases i with
  | zero => cases h; decide
  | succ i =>
    unfold rs at h
    cases e : rs t i with
    | none => rw [e] at h; cases h
    | some p => rw [e] at h; exact dl_lt h
theorem rs_no {t : Nat → Int32} {i : Nat} (h : rs t i = none) : rs t (i + 1) = none := by
  unfold rs; rw [h]; rfl
theorem rs_s {t : Nat → Int32} {i q : Nat} (h : rs t i = some q) : rs t (i + 1) = dl q (t i) := by
  rw [rs, h]; rfl
theorem fbad_at {t : Nat → Int32} {i q : Nat} (h : rs t i = some q) (h2 : rs t (i + 1) = none) : ∀ m, i < m → rs t m = none ∧ fbad t m = i
  | 0, hm => absurd hm (by omega)
  | m + 1, hm => by
    by_cases e : i = m
    · subst e
      refine ⟨h2, ?_⟩
      unfold fbad; rw [h]; rfl
    · obtain ⟨a, b⟩ := fbad_at h h2 m (by omega)
      refine ⟨rs_no a, ?_⟩
      unfold fbad; rw [a, b]; rfl
theorem SOK.by8 {S : Mem} (h : SOK S) {v : Nat} (hv : v < 4) (i : Nat) : ∃ k, k < 256 ∧ S 43 v i = nI k := by
  obtain ⟨k, hk, e⟩ := rng_nat (n := 255) (by decide) ((h.v hv).2 i)
  exact ⟨k, by omega, e⟩
theorem flt_or {t : Nat → Int32} {n : Nat} (hn : n ≤ 120) : (flt t n = -1 ∧ well t n = true ∧ ∃ q, rs t n = some q) ∨ (well t n = false ∧ ∃ k, k ≤ 120 ∧ flt t n = nI k) := by
  unfold flt
  cases e : rs t n with
  | none =>
    right
    have : n ≠ 0 := by intro z; subst z; cases e
    refine ⟨by unfold well; rw [e]; simp [this], fbad t n, ?_, by simp⟩
    have : ∀ m, fbad t m ≤ m := by
      intro m
      induction m with
      | zero => simp [fbad]
      | succ m ih => unfold fbad; split <;> omega
    have := this n; omega
  | some q =>
    by_cases w : well t n = true
    · left; simp [w]
    · right; simp [w]; exact ⟨n, hn, rfl⟩
theorem p_X8_findFault {S M : Mem} (hS : SOK S) {v : Nat} (hv : v < 4) (e606 : M 606 v 0 = S 606 v 0) (e43 : M 43 v = S 43 v) {Q : Int32 → Mem → Prop} (hQ : Q (flt (S 43 v) (vln S v)) M) : wp_X8_findFault v M Q := by
  obtain ⟨l1, l2⟩ := hS.len hv
  unfold wp_X8_findFault
  refine pk_loop (fun f i (z : Nat) => w_X8_findFault_4 Q f v (nI z) (nI i) M) (fun i z => rs (S 43 v) i = some z) (vln S v) 0 0 (Nat.zero_le _) rfl ?_ ?_
  · intro f z hz
    have hz8 := rs_lt hz
    unfold w_X8_findFault_4 w_X8_findFault_49
    rw [e606, l2]
    refine ⟨fun _ => ?_, fun h => absurd ((ni_le (by omega) (by omega)).mpr (Nat.le_refl _)) h⟩
    unfold flt at hQ
    rw [hz] at hQ
    simp only [Option.isNone_some, Bool.false_eq_true, if_false] at hQ
    refine ⟨fun h => ?_, fun h => ⟨fun g => ?_, fun g => ?_⟩⟩
    · have : vln S v = 0 := (ni_eq (b := 0) (by omega) (by omega)).mp h
      have w : well (S 43 v) (vln S v) = true := by unfold well; rw [this]; rfl
      rw [if_pos w] at hQ; exact hQ
    · have : z = 7 := (ni_eq (b := 7) (by omega) (by omega)).mp g
      have w : well (S 43 v) (vln S v) = true := by unfold well; rw [hz, this]; simp
      rw [if_pos w] at hQ; exact hQ
    · have w : ¬ well (S 43 v) (vln S v) = true := by
        unfold well
        rw [hz]
        have h1 : vln S v ≠ 0 := fun q => h (by rw [q]; rfl)
        have h2 : z ≠ 7 := fun q => g (by rw [q]; rfl)
        simp [h1, h2]
      rw [if_neg w] at hQ; exact hQ
  · intro f i z hi hz ih
    have hz8 := rs_lt hz
    unfold w_X8_findFault_4
    rw [e606, l2, e43, ni_cl (by omega)]
    refine ⟨fun h => absurd ((ni_le (by omega) (by omega)).mp h) (by omega), fun _ => ⟨(ni_in (by omega)).mpr (by omega), ?_⟩⟩
    obtain ⟨k, hk, ek⟩ := hS.by8 hv i
    rw [ek]
    refine p_X8_stepBehind hz8 hk ?_
    rw [oI_m (fun r h => by have := dl_lt h; omega), ← ek, ← rs_s hz]
    refine ⟨fun h => ?_, fun h => ?_⟩
    · obtain ⟨a, b⟩ := fbad_at hz h (vln S v) hi
      unfold flt at hQ
      rw [a, b] at hQ
      exact hQ
    · cases e : rs (S 43 v) (i + 1) with
      | none => exact absurd e h
      | some r =>
        rw [nI_1]
        exact ih r e
/-! what a reading keeps on the way -/
def pL (p : PSt) : Nat := p.1
def pG (p : PSt) : Nat := p.2.1
def rgn (q i : Nat) (p : PSt) : Prop := pL p < 16 ∧ (q = 1 → pL p % 2 = 0) ∧ (q = 4 → ∃ r, r < 3 ∧ pG p = 16 * r) ∧ (q = 5 → ∃ r s, r < 3 ∧ s < 3 ∧ pG p = 16 * r + 64 * s) ∧ (q = 6 → pG p = 192) ∧ 3 * pU p ≤ i ∧ (q = 3 → 3 * pU p + 3 ≤ i) ∧ (q = 4 → 3 * pU p + 4 ≤ i) ∧ (q = 5 → 3 * pU p + 5 ≤ i) ∧ (q = 6 → 3 * pU p + 4 ≤ i) ∧ (q = 7 → 3 * pU p + 2 ≤ i) ∧ (q = 1 → 3 * pU p + 1 ≤ i) ∧ (q = 2 → 3 * pU p + 2 ≤ i) ∧ (∀ k, k < pU p → pCd p k < 256)
