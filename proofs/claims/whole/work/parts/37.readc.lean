/-! THE CLASS READS A TEXT -/
theorem dl_lt {q : Nat} {b : Int32} {r : Nat} (h : dl q b = some r) : r < 8 := by
  unfold dl at h
  repeat' split at h
  all_goals first | (cases h; decide) | cases h
theorem rs_lt {t : Nat → Int32} {i q : Nat} (h : rs t i = some q) : q < 8 := by
  cases i with
  | zero => cases h; decide
  | succ i =>
    unfold rs at h
    cases e : rs t i with
    | none => rw [e] at h; cases h
    | some p => rw [e] at h; exact dl_lt h
theorem rs_no {t : Nat → Int32} {i : Nat} (h : rs t i = none) : rs t (i + 1) = none := by
  unfold rs; rw [h]; rfl
theorem rs_s {t : Nat → Int32} {i q : Nat} (h : rs t i = some q) : rs t (i + 1) = dl q (t i) := by
  rw [rs, h]; rfl
theorem fbad_at {t : Nat → Int32} {i q : Nat} (h : rs t i = some q) (h2 : rs t (i + 1) = none) : ∀ m, i < m → rs t m = none ∧ fbad t m = i
  | 0, hm => absurd hm (by omega)
  | m + 1, hm => by
    by_cases e : i = m
    · subst e
      refine ⟨h2, ?_⟩
      unfold fbad; rw [h]; rfl
    · obtain ⟨a, b⟩ := fbad_at h h2 m (by omega)
      refine ⟨rs_no a, ?_⟩
      unfold fbad; rw [a, b]; rfl
theorem SOK.by8 {S : Mem} (h : SOK S) {v : Nat} (hv : v < 4) (i : Nat) : ∃ k, k < 256 ∧ S 43 v i = nI k := by
  obtain ⟨k, hk, e⟩ := rng_nat (n := 255) (by decide) ((h.v hv).2 i)
  exact ⟨k, by omega, e⟩
theorem flt_or {t : Nat → Int32} {n : Nat} (hn : n ≤ 120) : (flt t n = -1 ∧ well t n = true ∧ ∃ q, rs t n = some q) ∨ (well t n = false ∧ ∃ k, k ≤ 120 ∧ flt t n = nI k) := by
  unfold flt
  cases e : rs t n with
  | none =>
    right
    have : n ≠ 0 := by intro z; subst z; cases e
    refine ⟨by unfold well; rw [e]; simp [this], fbad t n, ?_, by simp⟩
    have : ∀ m, fbad t m ≤ m := by
      intro m
      induction m with
      | zero => simp [fbad]
      | succ m ih => unfold fbad; split <;> omega
    have := this n; omega
  | some q =>
    by_cases w : well t n = true
    · left; simp [w]
    · right; simp [w]; exact ⟨n, hn, rfl⟩
theorem p_X8_findFault {S M : Mem} (hS : SOK S) {v : Nat} (hv : v < 4) (e606 : M 606 v 0 = S 606 v 0) (e43 : M 43 v = S 43 v) {Q : Int32 → Mem → Prop} (hQ : Q (flt (S 43 v) (vln S v)) M) : wp_X8_findFault v M Q := by
  obtain ⟨l1, l2⟩ := hS.len hv
  unfold wp_X8_findFault
  refine pk_loop (fun f i (z : Nat) => w_X8_findFault_4 Q f v (nI z) (nI i) M) (fun i z => rs (S 43 v) i = some z) (vln S v) 0 0 (Nat.zero_le _) rfl ?_ ?_
  · intro f z hz
    have hz8 := rs_lt hz
    unfold w_X8_findFault_4 w_X8_findFault_49
    rw [e606, l2]
    refine ⟨fun _ => ?_, fun h => absurd ((ni_le (by omega) (by omega)).mpr (Nat.le_refl _)) h⟩
    unfold flt at hQ
    rw [hz] at hQ
    simp only [Option.isNone_some, Bool.false_eq_true, if_false] at hQ
    refine ⟨fun h => ?_, fun h => ⟨fun g => ?_, fun g => ?_⟩⟩
    · have : vln S v = 0 := (ni_eq (b := 0) (by omega) (by omega)).mp h
      have w : well (S 43 v) (vln S v) = true := by unfold well; rw [this]; rfl
      rw [if_pos w] at hQ; exact hQ
    · have : z = 7 := (ni_eq (b := 7) (by omega) (by omega)).mp g
      have w : well (S 43 v) (vln S v) = true := by unfold well; rw [hz, this]; simp
      rw [if_pos w] at hQ; exact hQ
    · have w : ¬ well (S 43 v) (vln S v) = true := by
        unfold well
        rw [hz]
        have h1 : vln S v ≠ 0 := fun q => h (by rw [q]; rfl)
        have h2 : z ≠ 7 := fun q => g (by rw [q]; rfl)
        simp [h1, h2]
      rw [if_neg w] at hQ; exact hQ
  · intro f i z hi hz ih
    have hz8 := rs_lt hz
    unfold w_X8_findFault_4
    rw [e606, l2, e43, ni_cl (by omega)]
    refine ⟨fun h => absurd ((ni_le (by omega) (by omega)).mp h) (by omega), fun _ => ⟨(ni_in (by omega)).mpr (by omega), ?_⟩⟩
    obtain ⟨k, hk, ek⟩ := hS.by8 hv i
    rw [ek]
    refine p_X8_stepBehind hz8 hk ?_
    rw [oI_m (fun r h => by have := dl_lt h; omega), ← ek, ← rs_s hz]
    refine ⟨fun h => ?_, fun h => ?_⟩
    · obtain ⟨a, b⟩ := fbad_at hz h (vln S v) hi
      unfold flt at hQ
      rw [a, b] at hQ
      exact hQ
    · cases e : rs (S 43 v) (i + 1) with
      | none => exact absurd e h
      | some r =>
        rw [nI_1]
        exact ih r e
/-! what a reading keeps on the way -/
def pL (p : PSt) : Nat := p.1
def pG (p : PSt) : Nat := p.2.1
def cdok (c : Nat) : Prop := (∃ r s w, r < 3 ∧ s < 3 ∧ w < 13 ∧ c = 16 * r + 64 * s + w) ∨ c = 192 ∨ c = 193
def rgn (q i : Nat) (p : PSt) : Prop := (pL p < 16 ∧ (q = 1 → pL p % 2 = 0) ∧ (q = 4 → ∃ r, r < 3 ∧ pG p = 16 * r) ∧ (q = 5 → ∃ r s, r < 3 ∧ s < 3 ∧ pG p = 16 * r + 64 * s) ∧ (q = 6 → pG p = 192)) ∧ (3 * pU p ≤ i ∧ (q = 3 → 3 * pU p + 3 ≤ i) ∧ (q = 4 → 3 * pU p + 4 ≤ i) ∧ (q = 5 → 3 * pU p + 5 ≤ i) ∧ (q = 6 → 3 * pU p + 4 ≤ i) ∧ (q = 7 → 3 * pU p + 2 ≤ i) ∧ (q = 1 → 3 * pU p + 1 ≤ i) ∧ (q = 2 → 3 * pU p + 2 ≤ i)) ∧ (∀ k, k < pU p → cdok (pCd p k)) ∧ (∀ l, pFi p l + pCn p l ≤ pU p) ∧ (3 ≤ q → pFi p (pL p) + pCn p (pL p) = pU p)
theorem valOf_lt {b : Int32} (h : (rgOf b).isSome = true ∨ isDg b = true) : valOf b < 13 := by
  unfold valOf
  cases e : rgOf b with
  | some r => have := rgOf_lt r e; show 10 + r < 13; omega
  | none =>
    rw [e] at h
    rcases h with h | h
    · cases h
    · unfold isDg at h
      have h' := of_decide_eq_true h
      have h9 : b - 48 ≤ (9 : Int32) := by grind
      obtain ⟨k, hk, e2⟩ := ni_ofle (x := b - 48) (n := 9) (by decide) (by grind) h9
      show (b - 48).toNatClampNeg < 13
      rw [e2, ni_cl (by omega)]; omega
theorem valOf_md {b : Int32} (h : isMd b = true) : valOf b = 0 ∧ b = 48 ∨ valOf b = 1 ∧ b = 49 := by
  unfold isMd at h
  rcases of_decide_eq_true h with rfl | rfl
  · left; exact ⟨by decide, rfl⟩
  · right; exact ⟨by decide, rfl⟩
theorem upN_eq {f : Nat → Nat} {k v : Nat} : upN f k v k = v := if_pos rfl
theorem upN_ne {f : Nat → Nat} {k v j : Nat} (h : j ≠ k) : upN f k v j = f j := if_neg h
theorem rgn_0 : rgn 0 0 ps0 := by
  refine ⟨⟨by decide, ?_, ?_, ?_, ?_⟩, ⟨by decide, ?_, ?_, ?_, ?_, ?_, ?_, ?_⟩, ?_, ?_, ?_⟩
  all_goals first | (intro h; cases h; done) | skip
  · intro k h; exact absurd h (Nat.not_lt_zero _)
  · intro l; exact Nat.le_refl _
theorem rgn_s {q q' i : Nat} {b : Int32} {p : PSt} (hq : q < 8) (h : rgn q i p) (hd : dl q b = some q') : rgn q' (i + 1) (pstep q b i p) := by
  obtain ⟨l, g, u, cd, fi, cn, fr, to⟩ := p
  obtain ⟨⟨h1, h2, h3, h4, h5⟩, ⟨b0, b3, b4, b5, b6, b7, b1, b2⟩, hc, hf, hg⟩ := h
  simp only [pL, pG, pU, pCd, pFi, pCn] at h1 h2 h3 h4 h5 b0 b1 b2 b3 b4 b5 b6 b7 hc hf hg
  have q8 : q = 0 ∨ q = 1 ∨ q = 2 ∨ q = 3 ∨ q = 4 ∨ q = 5 ∨ q = 6 ∨ q = 7 := by omega
  rcases q8 with rfl | rfl | rfl | rfl | rfl | rfl | rfl | rfl
  · cases e : evOf b with
    | none => simp [dl, e] at hd
    | some r =>
      simp [dl, e] at hd; subst hd
      have := evOf_lt r e
      simp only [rgn, pstep, pL, pG, pU, pCd, pFi, pCn, e, Option.getD_some]
      exact ⟨⟨by omega, by omega, by omega, by omega, by omega⟩, by omega, hc, hf, by omega⟩
  · by_cases eb : isMd b = true
    · simp [dl, eb] at hd; subst hd
      have h2' := h2 rfl
      simp only [rgn, pstep, pL, pG, pU, pCd, pFi, pCn]
      refine ⟨⟨by split <;> omega, by omega, by omega, by omega, by omega⟩, by omega, hc, hf, by omega⟩
    · simp [dl, eb] at hd
  · by_cases eb : b = 58
    · simp [dl, eb] at hd; subst hd
      simp only [rgn, pstep, pL, pG, pU, pCd, pFi, pCn]
      refine ⟨⟨by omega, by omega, by omega, by omega, by omega⟩, by omega, hc, fun l' => ?_, fun _ => ?_⟩
      · by_cases e : l' = l
        · subst e; rw [upN_eq, upN_eq]; omega
        · rw [upN_ne e, upN_ne e]; exact hf l'
      · rw [upN_eq, upN_eq]; omega
    · simp [dl, eb] at hd
  · have hg' := hg (by decide)
    cases e : rgOf b with
    | some r =>
      simp [dl, e] at hd; subst hd
      have := rgOf_lt r e
      have nb : ¬ b = 109 := fun z => by
        have e9 : rgOf (109 : Int32) = none := by decide
        rw [z, e9] at e; cases e
      simp only [rgn, pstep, pL, pG, pU, pCd, pFi, pCn, e, Option.getD_some, nb, if_false]
      exact ⟨⟨by omega, by omega, fun _ => ⟨r, this, rfl⟩, by omega, by omega⟩, by omega, hc, hf, fun _ => hg'⟩
    | none =>
      by_cases eb : b = 109
      · simp [dl, e, eb] at hd
        have e9 : rgOf (109 : Int32) = none := by decide
        simp [e9] at hd; subst hd
        simp only [rgn, pstep, pL, pG, pU, pCd, pFi, pCn]
        exact ⟨⟨by omega, by omega, by omega, by omega, fun _ => if_pos eb⟩, by omega, hc, hf, fun _ => hg'⟩
      · simp [dl, e, eb] at hd
  · have hg' := hg (by decide)
    obtain ⟨r, hr, er⟩ := h3 rfl
    cases e : sgOf b with
    | none => simp [dl, e] at hd
    | some s =>
      simp [dl, e] at hd; subst hd
      have := sgOf_lt s e
      simp only [rgn, pstep, pL, pG, pU, pCd, pFi, pCn, e, Option.getD_some]
      exact ⟨⟨by omega, by omega, by omega, fun _ => ⟨r, s, hr, this, by omega⟩, by omega⟩, by omega, hc, hf, fun _ => hg'⟩
  · have hg' := hg (by decide)
    obtain ⟨r, s, hr, hs, er⟩ := h4 rfl
    by_cases eb : (rgOf b).isSome = true ∨ isDg b = true
    · have eb' : ((rgOf b).isSome || isDg b) = true := by simpa using eb
      simp only [dl, eb', if_true, Option.some.injEq] at hd; subst hd
      have hv := valOf_lt eb
      simp only [rgn, pstep, pL, pG, pU, pCd, pFi, pCn]
      refine ⟨⟨by omega, by omega, by omega, by omega, by omega⟩, by omega, fun k hk => ?_, fun l' => ?_, fun _ => ?_⟩
      · by_cases e : k = u
        · subst e; rw [upN_eq]; exact Or.inl ⟨r, s, valOf b, hr, hs, hv, by omega⟩
        · rw [upN_ne e]; exact hc k (by omega)
      · have := hf l'
        by_cases e : l' = l
        · subst e; rw [upN_eq]; omega
        · rw [upN_ne e]; omega
      · rw [upN_eq]; omega
    · have eb' : ¬ ((rgOf b).isSome || isDg b) = true := by simpa using eb
      simp only [dl, eb', if_false] at hd
      cases hd
  · have hg' := hg (by decide)
    have h5' := h5 rfl
    by_cases eb : isMd b = true
    · simp [dl, eb] at hd; subst hd
      have hv := valOf_md eb
      simp only [rgn, pstep, pL, pG, pU, pCd, pFi, pCn]
      refine ⟨⟨by omega, by omega, by omega, by omega, by omega⟩, by omega, fun k hk => ?_, fun l' => ?_, fun _ => ?_⟩
      · by_cases e : k = u
        · subst e; rw [upN_eq]; right; omega
        · rw [upN_ne e]; exact hc k (by omega)
      · have := hf l'
        by_cases e : l' = l
        · subst e; rw [upN_eq]; omega
        · rw [upN_ne e]; omega
      · rw [upN_eq]; omega
    · simp [dl, eb] at hd
  · have hg' := hg (by decide)
    by_cases eb : b = 44
    · simp [dl, eb] at hd; subst hd
      simp only [rgn, pstep, pL, pG, pU, pCd, pFi, pCn]
      exact ⟨⟨by omega, by omega, by omega, by omega, by omega⟩, by omega, hc, hf, fun _ => hg'⟩
    · by_cases ec : b = 59
      · simp [dl, ec] at hd; subst hd
        simp only [rgn, pstep, pL, pG, pU, pCd, pFi, pCn]
        exact ⟨⟨by omega, by omega, by omega, by omega, by omega⟩, by omega, hc, hf, by omega⟩
      · simp [dl, eb, ec] at hd
theorem rgn_all {t : Nat → Int32} : ∀ {i q : Nat}, rs t i = some q → rgn q i (pst t i)
  | 0, q, h => by cases h; exact rgn_0
  | i + 1, q, h => by
    cases e : rs t i with
    | none => rw [rs_no e] at h; cases h
    | some p =>
      rw [rs_s e] at h
      have := rgn_s (rs_lt e) (rgn_all e) h
      unfold pst; rw [e]; exact this
