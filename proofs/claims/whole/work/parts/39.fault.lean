/-! FAULT, ACTS: the class -/
def a_fault (S : Mem) (v : Int32) : Int32 := if 0 ≤ v ∧ v ≤ 3 then flt (S 43 v.toNatClampNeg) (vln S v.toNatClampNeg) else -2
def a_acts (S : Mem) (v l : Int32) : Int32 := if (0 ≤ v ∧ v ≤ 3) ∧ (0 ≤ l ∧ l ≤ 15) then nI (pCn (prs (S 43 v.toNatClampNeg) (vln S v.toNatClampNeg)) l.toNatClampNeg) else -2
theorem C_fault {t : Nat} {S M : Mem} (hS : SOK S) (hI : InvC t S M) (v : Int32) {Q : Int32 → Mem → Prop} (hQ : ∀ M1, InvC (t + 1) S M1 → FrC M M1 → Q (a_fault S v) M1) : wp_X9_fault v M Q := by
  unfold wp_X9_fault
  rw [e_X9_versionAt]
  unfold a_fault at hQ
  rcases at4_cases v with ⟨h1, h2⟩ | ⟨k, hk, rfl, h1, h2⟩
  · rw [h1]; simp only [h2, if_false] at hQ
    exact ⟨fun _ => hQ M hI.more FrC.rf, fun j e => by cases e⟩
  · rw [h1]
    refine ⟨fun e => by (cases e), fun j e => ?_⟩
    cases e
    rw [ni_cl (by omega)] at hQ
    simp only [h2, and_self, if_true] at hQ
    refine p_X8_read hS hI hk (fun M1 hI1 _ hV hF => ?_)
    rw [hV.1]
    exact hQ M1 hI1.more hF.fr
theorem C_acts {t : Nat} {S M : Mem} (hS : SOK S) (hI : InvC t S M) (v l : Int32) {Q : Int32 → Mem → Prop} (hQ : ∀ M1, InvC (t + 1) S M1 → FrC M M1 → Q (a_acts S v l) M1) : wp_X9_acts v l M Q := by
  unfold wp_X9_acts
  rw [e_X9_versionAt]
  unfold a_acts at hQ
  rcases at4_cases v with ⟨h1, h2⟩ | ⟨k, hk, rfl, h1, h2⟩
  · rw [h1]; simp only [h2, false_and, if_false] at hQ
    exact ⟨fun _ => hQ M hI.more FrC.rf, fun j e => by cases e⟩
  · rw [h1]
    refine ⟨fun e => by (cases e), fun j e => ?_⟩
    cases e
    rw [ni_cl (show k < 2147483648 by omega)] at hQ
    simp only [h2, and_self, true_and] at hQ
    refine ⟨fun h => ?_, fun h => ⟨fun g => ?_, fun g => ?_⟩⟩
    · have : ¬ 0 ≤ l := by grind
      simp only [this, false_and, if_false] at hQ; exact hQ M hI.more FrC.rf
    · obtain ⟨j, hj, rfl⟩ := ni_of (n := 16) (by decide) (by grind) g
      have h15 : nI j ≤ 15 := by grind
      have h0 : 0 ≤ nI j := by grind
      simp only [h15, h0, and_self, if_true] at hQ
      rw [ni_cl (show j < 2147483648 by omega)] at hQ ⊢
      refine p_X8_read hS hI hk (fun M1 hI1 _ hV hF => ⟨(ni_in (by omega)).mpr hj, ?_⟩)
      rw [(hV.2.1 j hj).1]
      exact hQ M1 hI1.more hF.fr
    · have : ¬ l ≤ 15 := by grind
      simp only [this, and_false, if_false] at hQ; exact hQ M hI.more FrC.rf
/-! THE REFERENCE READS A TEXT -/
def tb (t : Nat → Int32) (n i : Nat) : Int32 := if i < n then t i else -1
theorem dl_m1 : ∀ q, q < 8 → dl q (-1) = none := by decide
theorem flt_bad {t : Nat → Int32} {n i q : Nat} (h : rs t i = some q) (hi : i < n ∨ i = n ∧ q ≠ 7 ∧ 0 < n) (hd : dl q (tb t n i) = none) : flt t n = nI i ∧ i ≤ n := by
  rcases hi with hi | ⟨rfl, hq, h0⟩
  · unfold tb at hd
    rw [if_pos hi] at hd
    obtain ⟨a, b⟩ := fbad_at h (by rw [rs_s h]; exact hd) n hi
    unfold flt; rw [a, b]; exact ⟨rfl, by omega⟩
  · unfold flt
    rw [h]
    have w : ¬ well t i = true := by
      unfold well; rw [h]
      have : i ≠ 0 := by omega
      simp [this, hq]
    simp [w]
/-- where the reference stands: the text and the place -/
def RB (t : Nat → Int32) (n v : Nat) (M : Mem) : Prop := M 709 0 0 = nI v ∧ M 53 0 v = nI n ∧ ∀ i, i < n → M 54 0 (120 * v + i) = t i
theorem RB.keep {t : Nat → Int32} {n v : Nat} {M M' : Mem} (h : RB t n v M) (h1 : M' 709 = M 709) (h2 : M' 53 = M 53) (h3 : M' 54 = M 54) : RB t n v M' := by
  unfold RB; rw [h1, h2, h3]; exact h
theorem p_byteNow {t : Nat → Int32} {n v i : Nat} {M : Mem} (hB : RB t n v M) (hv : v < 4) (hn : n ≤ 120) (hi : i < 1000) (ha : M 710 0 0 = nI i) {Q : Int32 → Mem → Prop} (hQ : Q (tb t n i) M) : wp_X10_byteNow M Q := by
  obtain ⟨b1, b2, b3⟩ := hB
  unfold wp_X10_byteNow
  rw [b1, ha, ni_cl (show v < 2147483648 by omega), b2]
  unfold tb at hQ
  refine ⟨(ni_in (by omega)).mpr hv, fun h => ?_, fun h => ?_⟩
  · rw [if_neg (by have := (ni_le (by omega) (by omega)).mp h; omega)] at hQ; exact hQ
  · have hlt : i < n := by
      apply Classical.byContradiction
      intro z
      exact h ((ni_le (by omega) (by omega)).mpr (by omega))
    have hx : 120 * nI v + nI i = nI (120 * v + i) := by rw [ni_lit 120, pk_mul, nI_add]
    rw [if_pos hlt] at hQ
    rw [hx, ni_cl (by omega), b3 i hlt]
    exact ⟨(ni_in (by omega)).mpr (by omega), hQ⟩
theorem e_eventOf {b : Int32} {M : Mem} {Q : Int32 → Mem → Prop} (hQ : Q (oI (evOf b)) M) : wp_X10_eventOf b M Q := by
  unfold wp_X10_eventOf
  refine ⟨fun e => ?_, fun e => ?_, fun e => ?_, fun e => ?_, fun e => ?_, fun e => ?_, fun e => ?_, fun e => ?_, fun e1 e2 e3 e4 e5 e6 e7 e8 => ?_⟩
  all_goals first | (subst e; exact hQ) | (unfold evOf at hQ; simp only [e1, e2, e3, e4, e5, e6, e7, e8, if_false] at hQ; exact hQ)
theorem e_registerOf {b : Int32} {M : Mem} {Q : Int32 → Mem → Prop} (hQ : Q (oI (rgOf b)) M) : wp_X10_registerOf b M Q := by
  unfold wp_X10_registerOf
  unfold rgOf at hQ
  refine ⟨fun e => ?_, fun e => ⟨fun e2 => ?_, fun e2 => ⟨fun e3 => ?_, fun e3 => ?_⟩⟩⟩
  · rw [if_pos e] at hQ; exact hQ
  · rw [if_neg e, if_pos e2] at hQ; exact hQ
  · rw [if_neg e, if_neg e2, if_pos e3] at hQ; exact hQ
  · rw [if_neg e, if_neg e2, if_neg e3] at hQ; exact hQ
theorem p_mode {t : Nat → Int32} {n v i : Nat} {M : Mem} (hB : RB t n v M) (hv : v < 4) (hn : n ≤ 120) (hi : i < 1000) (ha : M 710 0 0 = nI i) (hf : M 711 0 0 = -1) {Q : Int32 → Mem → Prop} (h1 : isMd (tb t n i) = true → Q (tb t n i - 48) (mst M 710 0 0 (nI (i + 1)))) (h2 : isMd (tb t n i) = false → Q (tb t n i - 48) (mst (mst M 711 0 0 (nI i)) 710 0 0 (nI (i + 1)))) : wp_X10_mode M Q := by
  unfold wp_X10_mode w_X10_mode_33
  refine p_byteNow hB hv hn hi ha ?_
  simp only [forall_eq]
  refine ⟨fun _ => ⟨fun e => ?_, fun e => ⟨fun e2 => ?_, fun e2 => ?_⟩⟩, fun z => absurd hf z⟩
  · rw [ha, nI_1]; exact h1 (decide_eq_true (Or.inl e))
  · rw [ha, nI_1]; exact h1 (decide_eq_true (Or.inr e2))
  · rw [mst_ne (by decide), ha, nI_1]; exact h2 (decide_eq_false (fun z => z.elim e e2))
