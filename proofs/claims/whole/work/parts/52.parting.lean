/-! PARTING, EVENT: the reference -/
def lpI (A : Nat → List Nat) : Int32 := match lpS A 5 with
  | none => -1
  | some (n, _) => nI n
def a_parting (S : Mem) (v o ls : Int32) : Int32 := if okM v o ls then lpI (mixA (vA S v.toNatClampNeg) (vA S o.toNatClampNeg) ls.toNatClampNeg) else -2
def evI (A : Nat → List Nat) (i : Int32) : Int32 := match lpS A 5 with
  | none => -1
  | some (n, f) => if nI n ≤ i then -1 else nI ((rowF n f).getD i.toNatClampNeg 0)
def a_event (S : Mem) (v o ls i : Int32) : Int32 := if okM v o ls ∧ 0 ≤ i then evI (mixA (vA S v.toNatClampNeg) (vA S o.toNatClampNeg) ls.toNatClampNeg) i else -2
theorem lpS_n {A : Nat → List Nat} : ∀ {m n f : Nat}, lpS A m = some (n, f) → 1 ≤ n ∧ n ≤ m ∧ f < 8 ^ (n - 1)
  | 0, n, f, h => by cases h
  | m + 1, n, f, h => by
    rw [lpS] at h
    cases e : lpS A m with
    | some r =>
      rw [e] at h
      cases h
      obtain ⟨a, b, c⟩ := lpS_n e
      exact ⟨a, by omega, c⟩
    | none =>
      rw [e] at h
      dsimp only at h
      cases e2 : (List.range (8 ^ m)).find? (partsF A (m + 1)) with
      | none => rw [e2] at h; cases h
      | some g =>
        rw [e2] at h
        cases h
        have := List.mem_of_find?_eq_some e2
        exact ⟨by omega, by omega, List.mem_range.mp this⟩
theorem R_parting {S M : Mem} (hS : SOK S) (hI : InvR S M) (v o ls : Int32) {Q : Int32 → Mem → Prop} (hQ : ∀ M1, InvR S M1 → FrR M M1 → Q (a_parting S v o ls) M1) : wp_X10_parting v o ls M Q := by
  unfold wp_X10_parting
  simp only [e_X10_isMix, bi_z, Classical.not_not]
  unfold a_parting at hQ
  refine ⟨fun h => ?_, fun h => ?_⟩
  · rw [if_neg h] at hQ; exact hQ M hI FrR.rf
  · rw [if_pos h] at hQ
    obtain ⟨v', hv, rfl⟩ := ni_ofle (n := 3) (by decide) h.1.1 h.1.2
    obtain ⟨o', ho, rfl⟩ := ni_ofle (n := 3) (by decide) h.2.1.1 h.2.1.2
    obtain ⟨l', hl, rfl⟩ := ni_ofle (n := 65535) (by decide) h.2.2.1 h.2.2.2
    rw [ni_cl (show v' < 2147483648 by omega), ni_cl (show o' < 2147483648 by omega), ni_cl (show l' < 2147483648 by omega)] at hQ
    refine p_X10_mixes hS hI (by omega) (by omega) (by omega) (fun M1 hI1 hMx hF1 => p_X10_partsBy (m := 5) hS hMx (by decide) (fun M2 hF2 => ?_))
    have nn : ∀ k, k ∈ rvk ++ [716, 717, 718] → (53 ≤ k ∧ k ≤ 85) ∨ 700 ≤ k := by decide
    have ng : ∀ k, k ∈ prk → (53 ≤ k ∧ k ≤ 85) ∨ 700 ≤ k := by decide
    have hI2 : InvR S M2 := hI1.keep (fun q hq => hF2 q (by revert hq; revert q; unfold irk prk; decide))
    have hf2 : FrR M M2 := fun q hq => (hF2 q (fun z => hq (yrefk (ng q z)))).trans (hF1 q (fun z => hq (yrefk (nn q z))))
    have := hQ M2 hI2 hf2
    unfold lpI at this
    unfold lpOut
    cases e : lpS (mixA (vA S v') (vA S o') l') 5 with
    | none => rw [e] at this; exact this
    | some r =>
      obtain ⟨n, f⟩ := r
      rw [e] at this
      exact fun _ => this
theorem R_event {S M : Mem} (hS : SOK S) (hI : InvR S M) (v o ls i : Int32) {Q : Int32 → Mem → Prop} (hQ : ∀ M1, InvR S M1 → FrR M M1 → Q (a_event S v o ls i) M1) : wp_X10_event v o ls i M Q := by
  unfold wp_X10_event
  simp only [e_X10_isMix, bi_z, Classical.not_not]
  unfold a_event at hQ
  refine ⟨fun h => ?_, fun h => ⟨fun g => ?_, fun g => ?_⟩⟩
  · rw [if_neg (fun z => h z.1)] at hQ; exact hQ M hI FrR.rf
  · rw [if_pos ⟨h, g⟩] at hQ
    obtain ⟨v', hv, rfl⟩ := ni_ofle (n := 3) (by decide) h.1.1 h.1.2
    obtain ⟨o', ho, rfl⟩ := ni_ofle (n := 3) (by decide) h.2.1.1 h.2.1.2
    obtain ⟨l', hl, rfl⟩ := ni_ofle (n := 65535) (by decide) h.2.2.1 h.2.2.2
    rw [ni_cl (show v' < 2147483648 by omega), ni_cl (show o' < 2147483648 by omega), ni_cl (show l' < 2147483648 by omega)] at hQ
    refine p_X10_mixes hS hI (by omega) (by omega) (by omega) (fun M1 hI1 hMx hF1 => p_X10_partsBy (m := 5) hS hMx (by decide) (fun M2 hF2 => ?_))
    have nn : ∀ k, k ∈ rvk ++ [716, 717, 718] → (53 ≤ k ∧ k ≤ 85) ∨ 700 ≤ k := by decide
    have ng : ∀ k, k ∈ prk → (53 ≤ k ∧ k ≤ 85) ∨ 700 ≤ k := by decide
    have hI2 : InvR S M2 := hI1.keep (fun q hq => hF2 q (by revert hq; revert q; unfold irk prk; decide))
    have hf2 : FrR M M2 := fun q hq => (hF2 q (fun z => hq (yrefk (ng q z)))).trans (hF1 q (fun z => hq (yrefk (nn q z))))
    have := hQ M2 hI2 hf2
    unfold evI at this
    unfold lpOut
    cases e : lpS (mixA (vA S v') (vA S o') l') 5 with
    | none =>
      rw [e] at this
      exact ⟨fun _ => this, fun z => absurd (by grind) z⟩
    | some r =>
      obtain ⟨n, f⟩ := r
      rw [e] at this
      dsimp only at this ⊢
      intro hrow
      have hn5 := (lpS_n e).2.1
      refine ⟨fun z => ?_, fun z => ?_⟩
      · rw [if_pos z] at this; exact this
      · rw [if_neg z] at this
        obtain ⟨j, hj, rfl⟩ := ni_of (n := n) (x := i) (by omega) g (by grind)
        rw [ni_cl (by omega)] at this ⊢
        rw [hrow j hj]
        exact ⟨(ni_in (by omega)).mpr (by omega), this⟩
  · rw [if_neg (fun z => g z.2)] at hQ; exact hQ M hI FrR.rf
