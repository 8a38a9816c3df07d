/-! WHAT STAYS -/
theorem EsC.k {S M : Mem} (h : EsC S M) (k : Nat) (hk : k ∈ esk := by decide) : M k = S k := h k hk
def vck : List Nat := [609, 608, 607, 46, 47, 48, 45, 44]
def jck : List Nat := [203, 212, 608, 21, 210, 211]
def sok : List Nat := [662, 663, 41]
theorem VC.congr {S S' M M' : Mem} {v : Nat} (h : VC S M v) (h1 : S' 43 = S 43) (h2 : S' 606 = S 606) (hk : ∀ k, k ∈ vck → M' k v = M k v) : VC S' M' v := by
  have e1 := hk 609 (by decide)
  have e2 := hk 608 (by decide)
  have e3 := hk 607 (by decide)
  have e4 := hk 46 (by decide)
  have e5 := hk 47 (by decide)
  have e6 := hk 48 (by decide)
  have e7 := hk 45 (by decide)
  have e8 := hk 44 (by decide)
  simp only [VC, VCok, vln, e1, e2, e3, e4, e5, e6, e7, e8, h1, h2] at h ⊢
  exact h
def SVeq (S S' : Mem) : Prop := S' 43 = S 43 ∧ S' 606 = S 606
theorem vA_congr {S S' : Mem} (h : SVeq S S') (v : Nat) : vA S' v = vA S v := by
  unfold vA vln; rw [h.1, h.2]
def SCeq (S S' : Mem) (c : Nat) : Prop := S' 200 c = S 200 c ∧ S' 202 c = S 202 c ∧ S' 20 c = S 20 c ∧ S' 204 c = S 204 c ∧ S' 205 c = S 205 c
theorem clost_congr {S S' : Mem} {c : Nat} (h2 : SCeq S S' c) : clost S' c = clost S c := by
  unfold clost cln; rw [h2.2.1, h2.2.2.1]
theorem cvr_congr {S S' : Mem} {c : Nat} (h2 : SCeq S S' c) : cvr S' c = cvr S c := by
  unfold cvr; rw [h2.1]
theorem causeF_congr {S S' : Mem} {c : Nat} (h : SVeq S S') (h2 : SCeq S S' c) (f : Nat) : causeF S' c f = causeF S c f := by
  unfold causeF cln
  rw [vA_congr h, cvr_congr h2, h2.2.1, h2.2.2.1, h2.2.2.2.1, h2.2.2.2.2]
theorem JCok.congr {S S' M M' : Mem} {c : Nat} (h : JCok S M c) (h1 : SVeq S S') (h2 : SCeq S S' c) (hk : ∀ k, k ∈ [21, 210, 211] → M' k c = M k c) : JCok S' M' c := by
  have e1 := hk 21 (by decide)
  have e2 := hk 210 (by decide)
  have e3 := hk 211 (by decide)
  have hc : causeF S' c = causeF S c := funext (causeF_congr h1 h2)
  have hs : settl S' c = settl S c := by funext rd; unfold settl; rw [clost_congr h2, hc]
  simp only [JCok, talCa, allCa, pagCa, clost_congr h2, hc, hs, e1, e2, e3] at h ⊢
  exact h
theorem JC.congr {S S' M M' : Mem} {c : Nat} (h : JC S M c) (h1 : SVeq S S') (h2 : SCeq S S' c) (hk : ∀ k, k ∈ [203, 212, 21, 210, 211] → M' k c = M k c) (h608 : M' 608 = M 608) : JC S' M' c := by
  obtain ⟨ha, hb⟩ := h
  refine ⟨by rw [hk 203 (by decide), clost_congr h2]; exact ha, ?_⟩
  rw [hk 212 (by decide), cvr_congr h2, h608]
  rcases hb with hb | ⟨hb, hc⟩
  · exact Or.inl hb
  · exact Or.inr ⟨hb, fun e => (hc e).congr h1 h2 (fun k hk' => hk k (by simp only [List.mem_cons, List.not_mem_nil, or_false] at hk' ⊢; omega))⟩
theorem SOC.congr {S S' M M' : Mem} (h : SOC S M) (h1 : SVeq S S') (hk : ∀ k, k ∈ sok → M' k = M k) : SOC S' M' := by
  have e1 := hk 662 (by decide)
  have e2 := hk 663 (by decide)
  have e3 := hk 41 (by decide)
  have hv : vA S' = vA S := funext (vA_congr h1)
  simp only [SOC, e1, e2, e3, hv] at h ⊢
  exact h
def ick : List Nat := esk ++ [609, 608, 607, 46, 47, 48, 45, 44, 203, 212, 21, 210, 211, 662, 663, 41]
/-- only scratch has changed -/
theorem InvC.keep {t : Nat} {S M M' : Mem} (h : InvC t S M) (hk : ∀ k, k ∈ ick → M' k = M k) : InvC t S M' := by
  obtain ⟨h1, h2, h3, h4⟩ := h
  refine ⟨fun k q => (hk k (List.mem_append_left _ q)).trans (h1 k q), fun v hv => ⟨(h2 v hv).1.congr rfl rfl (fun k q => ?_), ?_⟩, fun c hc => (h3 c hc).congr ⟨rfl, rfl⟩ ⟨rfl, rfl, rfl, rfl, rfl⟩ (fun k q => ?_) (hk 608 (by decide)), h4.congr ⟨rfl, rfl⟩ (fun k q => hk k ?_)⟩
  · rw [hk k (by revert q; revert k; decide)]
  · rw [hk 608 (by decide)]; exact (h2 v hv).2
  · rw [hk k (by revert q; revert k; decide)]
  · revert q; revert k; decide
theorem InvC.more {t : Nat} {S M : Mem} (h : InvC t S M) : InvC (t + 1) S M := ⟨h.1, fun v hv => ⟨(h.2.1 v hv).1, by obtain ⟨k, hk, e⟩ := (h.2.1 v hv).2; exact ⟨k, by omega, e⟩⟩, h.2.2⟩
theorem FrC.rf {M : Mem} : FrC M M := fun _ _ => rfl
theorem FrR.rf {M : Mem} : FrR M M := fun _ _ => rfl
theorem FrC.tr {M M1 M2 : Mem} (h : FrC M M1) (h2 : FrC M1 M2) : FrC M M2 := fun k q => (h2 k q).trans (h k q)
theorem FrR.tr {M M1 M2 : Mem} (h : FrR M M1) (h2 : FrR M1 M2) : FrR M M2 := fun k q => (h2 k q).trans (h k q)
theorem FrC.st {M : Mem} {k j i : Nat} {v : Int32} (h : ¬ refk k) : FrC M (mst M k j i v) := fun k' q => mst_ne (fun e => h (e ▸ q))
theorem FrR.st {M : Mem} {k j i : Nat} {v : Int32} (h : refk k) : FrR M (mst M k j i v) := fun k' q => mst_ne (fun e => q (e ▸ h))
theorem nrefk {k : Nat} (h : k < 53 ∨ (85 < k ∧ k < 700)) : ¬ refk k := by unfold refk; omega
theorem yrefk {k : Nat} (h : (53 ≤ k ∧ k ≤ 85) ∨ 700 ≤ k) : refk k := h
/-- the reference's calls leave the class's state -/
theorem InvC.frR {t : Nat} {S M M' : Mem} (h : InvC t S M) (hf : FrR M M') : InvC t S M' := h.keep (fun k q => hf k (nrefk (by revert q; revert k; decide)))
def irk : List Nat := [53, 54, 55, 56, 57, 58, 59, 60, 61, 720, 64, 65, 66, 67, 68, 69, 70, 71, 81, 82, 83, 84, 732, 736, 75, 76, 77, 737, 740, 78, 79, 747]
theorem InvR.keep {S M M' : Mem} (h : InvR S M) (hk : ∀ k, k ∈ irk → M' k = M k) : InvR S M' := by
  have e (k : Nat) (q : k ∈ irk := by decide) : M' k = M k := hk k q
  simp only [InvR, VRok, e 53, e 54, e 55, e 56, e 57, e 58, e 59, e 60, e 61, e 720, e 64, e 65, e 66, e 67, e 68, e 69, e 70, e 71, e 81, e 82, e 83, e 84, e 732, e 736, e 75, e 76, e 77, e 737, e 740, e 78, e 79, e 747] at h ⊢
  exact h
theorem InvR.frC {S M M' : Mem} (h : InvR S M) (hf : FrC M M') : InvR S M' := h.keep (fun k q => hf k (yrefk (by revert q; revert k; decide)))
