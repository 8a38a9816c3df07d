/-! TELL -/
def tlk (w : Int32) : Nat := if w = 0 then 206 else if w = 1 then 207 else 208
def a_tell (S : Mem) (c w v : Int32) : Int32 := if (0 ≤ c ∧ c ≤ S 660 0 0 - 1) ∧ (0 ≤ w ∧ w ≤ 2) ∧ ((if w = 1 then 1 else 0) ≤ v ∧ v ≤ (if w = 0 then 99 else 50)) then S (tlk w) c.toNatClampNeg 0 else -2
def n_tell (S : Mem) (c w v : Int32) : Mem := if (0 ≤ c ∧ c ≤ S 660 0 0 - 1) ∧ (0 ≤ w ∧ w ≤ 2) ∧ ((if w = 1 then 1 else 0) ≤ v ∧ v ≤ (if w = 0 then 99 else 50)) then mst S (tlk w) c.toNatClampNeg 0 v else S
theorem tlk_or (w : Int32) : tlk w = 206 ∨ tlk w = 207 ∨ tlk w = 208 := by
  unfold tlk
  by_cases h : w = 0
  · simp [h]
  · by_cases h2 : w = 1 <;> simp [h, h2]
theorem InvC.tl {t : Nat} {S M : Mem} (hI : InvC t S M) (k c : Nat) (v : Int32) (hk : k = 206 ∨ k = 207 ∨ k = 208) : InvC (t + 1) (mst S k c 0 v) (mst M k c 0 v) := by
  refine hI.light hI.1.st ⟨?_, ?_⟩ ?_ (fun c' _ => ⟨?_, ?_, ?_, ?_, ?_⟩) (fun q hq => ?_)
  all_goals first | (unfold nc; rw [mst_ne (by omega)]; done) | (rw [mst_ne (by omega)]; done) | (rw [mst_ne (fun e => by subst e; revert hq; rcases hk with rfl | rfl | rfl <;> decide)])
theorem w3 {w : Int32} (h : 0 ≤ w ∧ w ≤ 2) : w = 0 ∨ w = 1 ∨ w = 2 := by grind
theorem C_tell {t : Nat} {S M : Mem} (hS : SOK S) (hI : InvC t S M) (c w v : Int32) {Q : Int32 → Mem → Prop} (hQ : ∀ M1, InvC (t + 1) (n_tell S c w v) M1 → FrC M M1 → Q (a_tell S c w v) M1) : wp_X9_tell c w v M Q := by
  unfold wp_X9_tell
  rw [e_X9_counterAt]
  unfold a_tell n_tell at hQ
  rcases atC_cases hS hI.1 c with ⟨h1, h2⟩ | ⟨k, hk, rfl, h1, h2⟩
  · rw [h1]; unfold okC at h2; simp only [h2, false_and, if_false] at hQ
    exact ⟨fun _ => hQ M hI.more FrC.rf, fun j e => by cases e⟩
  · rw [h1]; unfold okC at h2; simp only [h2, and_self, true_and, cn_cl hS hk] at hQ
    refine ⟨fun e => by (cases e), fun j e => ?_⟩
    cases e
    unfold wp_X0_change w_X0_change_30 w_X0_change_59
    simp only [forall_eq]
    rw [hI.1.k 206, hI.1.k 207, hI.1.k 208]
    by_cases w0 : w = 0
    · subst w0
      simp only [tlk, if_true, show ((0 : Int32) = 1) = False by decide, show ((0 : Int32) = 2) = False by decide, if_false, show ((0 : Int32) ≤ 0 ∧ (0 : Int32) ≤ 2) = True by decide, true_and, not_false_eq_true, false_implies, forall_const, true_implies, not_true_eq_false, and_true] at hQ ⊢
      refine ⟨fun g => ?_, fun g => ⟨fun g2 => ?_, fun g2 => ?_⟩⟩
      · rw [if_neg (by grind), if_neg (by grind)] at hQ; exact hQ M hI.more FrC.rf
      · rw [if_neg (by grind), if_neg (by grind)] at hQ; exact hQ M hI.more FrC.rf
      · rw [if_pos (by grind), if_pos (by grind)] at hQ; exact hQ _ (hI.tl 206 k v (by decide)) (FrC.st (nrefk (by decide)))
    · by_cases w1 : w = 1
      · subst w1
        simp only [tlk, if_true, show ((1 : Int32) = 0) = False by decide, show ((1 : Int32) = 2) = False by decide, if_false, show ((0 : Int32) ≤ 1 ∧ (1 : Int32) ≤ 2) = True by decide, true_and, not_false_eq_true, false_implies, forall_const, true_implies, not_true_eq_false, and_true] at hQ ⊢
        refine ⟨fun g => ?_, fun g => ⟨fun g2 => ?_, fun g2 => ?_⟩⟩
        · rw [if_neg (by grind), if_neg (by grind)] at hQ; exact hQ M hI.more FrC.rf
        · rw [if_neg (by grind), if_neg (by grind)] at hQ; exact hQ M hI.more FrC.rf
        · rw [if_pos (by grind), if_pos (by grind)] at hQ; exact hQ _ (hI.tl 207 k v (by decide)) (FrC.st (nrefk (by decide)))
      · by_cases w2 : w = 2
        · subst w2
          simp only [tlk, if_true, show ((2 : Int32) = 0) = False by decide, show ((2 : Int32) = 1) = False by decide, if_false, show ((0 : Int32) ≤ 2 ∧ (2 : Int32) ≤ 2) = True by decide, true_and, not_false_eq_true, false_implies, forall_const, true_implies, not_true_eq_false, and_true] at hQ ⊢
          refine ⟨fun g => ?_, fun g => ⟨fun g2 => ?_, fun g2 => ?_⟩⟩
          · rw [if_neg (by grind), if_neg (by grind)] at hQ; exact hQ M hI.more FrC.rf
          · rw [if_neg (by grind), if_neg (by grind)] at hQ; exact hQ M hI.more FrC.rf
          · rw [if_pos (by grind), if_pos (by grind)] at hQ; exact hQ _ (hI.tl 208 k v (by decide)) (FrC.st (nrefk (by decide)))
        · have hb : ¬ (0 ≤ w ∧ w ≤ 2) := fun z => by rcases w3 z with z | z | z <;> contradiction
          simp only [hb, false_and, if_false] at hQ
          simp only [w0, w1, w2, false_implies, not_false_eq_true, true_implies, true_and]
          exact hQ M hI.more FrC.rf
theorem InvR.tl {S M : Mem} (hS : SOK S) (hI : InvR S M) {c : Nat} (w : Int32) (hw : 0 ≤ w ∧ w ≤ 2) (hc : c < nc S) (v : Int32) : InvR (mst S (tlk w) c 0 v) (mst (mst (mst M 69 0 c (if w = 0 then v else S 206 c 0)) 70 0 c (if w = 1 then v else S 207 c 0)) 71 0 c (if w = 2 then v else S 208 c 0)) := by
  have hk := tlk_or w
  have ne : ∀ q, q ≠ 206 → q ≠ 207 → q ≠ 208 → mst S (tlk w) c 0 v q = S q := fun q a b d => mst_ne (by omega)
  refine hI.upd 2 (Or.inr ⟨⟨ne _ (by decide) (by decide) (by decide), ne _ (by decide) (by decide) (by decide)⟩, by simp [mst_ne]⟩) ⟨ne _ (by decide) (by decide) (by decide), by simp [mst_ne]⟩ (Or.inl rfl) (Or.inr ⟨fun q hq => ne q (by revert hq; revert q; decide) (by revert hq; revert q; decide) (by revert hq; revert q; decide), by simp [mst_ne]⟩) (Or.inr ⟨fun q hq => ne q (by revert hq; revert q; decide) (by revert hq; revert q; decide) (by revert hq; revert q; decide), by simp [mst_ne]⟩) (Or.inr ⟨fun q hq => ne q (by revert hq; revert q; decide) (by revert hq; revert q; decide) (by revert hq; revert q; decide), by simp [mst_ne]⟩) (by rw [ne 661 (by decide) (by decide) (by decide)]; simp [mst_ne, hI.f]) (fun e => by cases e) (fun _ c' hc' => ?_) (fun e => by cases e) (fun e => by cases e) (fun e => by cases e)
  obtain ⟨r1, r2, r3, r4, r5, r6, r7, r8⟩ := hI.c hc'
  have hcl : cln (mst S (tlk w) c 0 v) c' = cln S c' := by unfold cln; rw [ne 202 (by decide) (by decide) (by decide)]
  unfold RCo
  rw [hcl, ne 200 (by decide) (by decide) (by decide), ne 202 (by decide) (by decide) (by decide), ne 20 (by decide) (by decide) (by decide), ne 204 (by decide) (by decide) (by decide), ne 205 (by decide) (by decide) (by decide)]
  have e (q : Nat) (h1 : q ≠ 69) (h2 : q ≠ 70) (h3 : q ≠ 71) : mst (mst (mst M 69 0 c (if w = 0 then v else S 206 c 0)) 70 0 c (if w = 1 then v else S 207 c 0)) 71 0 c (if w = 2 then v else S 208 c 0) q = M q := by rw [mst_ne h3, mst_ne h2, mst_ne h1]
  rw [e 64 (by decide) (by decide) (by decide), e 65 (by decide) (by decide) (by decide), e 66 (by decide) (by decide) (by decide), e 67 (by decide) (by decide) (by decide), e 68 (by decide) (by decide) (by decide)]
  refine ⟨r1, r2, r3, r4, r5, ?_⟩
  rcases w3 hw with rfl | rfl | rfl <;> by_cases ec : c' = c <;> simp [tlk, mst_ne, mst_k, ec] <;> (try subst ec) <;> simp [r6, r7, r8]
theorem R_tell {S M : Mem} (hS : SOK S) (hI : InvR S M) (c w v : Int32) {Q : Int32 → Mem → Prop} (hQ : ∀ M1, InvR (n_tell S c w v) M1 → FrR M M1 → Q (a_tell S c w v) M1) : wp_X10_tell c w v M Q := by
  unfold wp_X10_tell
  simp only [e_X10_isCounter, e_X10_in, bi_z, Classical.not_not, hI.n]
  unfold a_tell n_tell at hQ
  refine ⟨fun h => ?_, fun h => ⟨fun g => ?_, fun g => ?_⟩⟩
  · simp only [h, false_and, if_false] at hQ; exact hQ M hI FrR.rf
  · simp only [g, and_false, false_and, if_false] at hQ; exact hQ M hI FrR.rf
  · obtain ⟨k, hk, rfl⟩ := okC_nat hS h
    simp only [h, g, and_self, true_and, cn_cl hS hk] at hQ
    have hin := cn_in hS hk
    obtain ⟨r1, r2, r3, r4, r5, r6, r7, r8⟩ := hI.c hk
    have fr : ∀ a b d : Int32, FrR M (mst (mst (mst M 69 0 k a) 70 0 k b) 71 0 k d) := fun a b d => ((FrR.st (yrefk (by decide))).tr (FrR.st (yrefk (by decide)))).tr (FrR.st (yrefk (by decide)))
    have tl := InvR.tl hS hI w g hk v
    unfold w_X10_tell_28 w_X10_tell_39 w_X10_tell_78 w_X10_tell_99 w_X10_tell_120
    simp only [e_X10_in, bi_z, Classical.not_not, forall_eq, cn_cl hS hk]
    rcases w3 g with rfl | rfl | rfl
    · simp only [tlk, if_true, show ((0 : Int32) = 1) = False by decide, show ((0 : Int32) = 2) = False by decide, if_false, not_false_eq_true, false_implies, true_implies, not_true_eq_false, and_true, true_and] at hQ tl ⊢
      refine ⟨fun b => ?_, fun b => ?_⟩
      · simp only [b, if_false] at hQ; exact hQ M hI FrR.rf
      · simp only [b, and_self, if_true] at hQ
        refine p_X10_aboutOf hS hI hk _ ?_
        refine ⟨hin, hin, hin, hin, hin, ?_⟩
        simp only [mst_ne, ne_eq, Nat.reduceEqDiff, not_false_eq_true, r7, r8]
        exact hQ _ tl (fr _ _ _)
    · simp only [tlk, if_true, show ((1 : Int32) = 0) = False by decide, show ((1 : Int32) = 2) = False by decide, if_false, not_false_eq_true, false_implies, true_implies, not_true_eq_false, and_true, true_and] at hQ tl ⊢
      refine ⟨fun b => ?_, fun b => ?_⟩
      · simp only [b, if_false] at hQ; exact hQ M hI FrR.rf
      · simp only [b, and_self, if_true] at hQ
        refine p_X10_aboutOf hS hI hk _ ?_
        refine ⟨hin, hin, hin, hin, hin, ?_⟩
        simp only [mst_ne, ne_eq, Nat.reduceEqDiff, not_false_eq_true, r6, r8]
        exact hQ _ tl (fr _ _ _)
    · simp only [tlk, if_true, show ((2 : Int32) = 0) = False by decide, show ((2 : Int32) = 1) = False by decide, if_false, not_false_eq_true, false_implies, true_implies, not_true_eq_false, and_true, true_and] at hQ tl ⊢
      refine ⟨fun b => ?_, fun b => ?_⟩
      · simp only [b, if_false] at hQ; exact hQ M hI FrR.rf
      · simp only [b, and_self, if_true] at hQ
        refine p_X10_aboutOf hS hI hk _ ?_
        refine ⟨hin, hin, hin, hin, hin, ?_⟩
        simp only [mst_ne, ne_eq, Nat.reduceEqDiff, not_false_eq_true, r6, r7]
        exact hQ _ tl (fr _ _ _)
theorem S_tell {S : Mem} (h : SOK S) (c w v : Int32) : SOK (n_tell S c w v) := by
  unfold n_tell
  by_cases q : (0 ≤ c ∧ c ≤ S 660 0 0 - 1) ∧ (0 ≤ w ∧ w ≤ 2) ∧ ((if w = 1 then 1 else 0) ≤ v ∧ v ≤ (if w = 0 then 99 else 50))
  · rw [if_pos q]
    obtain ⟨q1, q2, q3⟩ := q
    have ne : ∀ q, q ≠ 206 → q ≠ 207 → q ≠ 208 → mst S (tlk w) c.toNatClampNeg 0 v q = S q := fun q a b d => mst_ne (by have := tlk_or w; omega)
    refine h.upd 2 (Or.inr ⟨ne _ (by decide) (by decide) (by decide), ne _ (by decide) (by decide) (by decide)⟩) (ne _ (by decide) (by decide) (by decide)) (Or.inl rfl) (Or.inr (fun q hq => ne q (by revert hq; revert q; decide) (by revert hq; revert q; decide) (by revert hq; revert q; decide))) (Or.inr (fun q hq => ne q (by revert hq; revert q; decide) (by revert hq; revert q; decide) (by revert hq; revert q; decide))) (Or.inr (fun q hq => ne q (by revert hq; revert q; decide) (by revert hq; revert q; decide) (by revert hq; revert q; decide))) (fun e => by cases e) (fun _ c' hc' => ?_) (fun e => by cases e) (fun e => by cases e) (fun e => by cases e)
    obtain ⟨p1, p2, p3, p4, p5, p6, p7, p8, p9⟩ := h.c hc'
    have hcl : clost (mst S (tlk w) c.toNatClampNeg 0 v) c' = clost S c' := by unfold clost cln; rw [ne 202 (by decide) (by decide) (by decide), ne 20 (by decide) (by decide) (by decide)]
    unfold pC
    rw [hcl, ne 200 (by decide) (by decide) (by decide), ne 202 (by decide) (by decide) (by decide), ne 20 (by decide) (by decide) (by decide), ne 204 (by decide) (by decide) (by decide), ne 205 (by decide) (by decide) (by decide)]
    refine ⟨p1, p2, p3, p4, p5, p6, ?_⟩
    rcases w3 q2 with rfl | rfl | rfl
    · simp only [tlk, if_true, mst_ne, mst_k, ne_eq, Nat.reduceEqDiff, not_false_eq_true, and_true] at q3 ⊢
      refine ⟨?_, p8, p9⟩
      split
      · exact rng_le q3.1 q3.2 (by decide) (by decide)
      · exact p7
    · simp only [tlk, if_true, show ((1 : Int32) = 0) = False by decide, if_false, mst_ne, mst_k, ne_eq, Nat.reduceEqDiff, not_false_eq_true, and_true] at q3 ⊢
      refine ⟨p7, ?_, p9⟩
      split
      · exact rng_le q3.1 q3.2 (by decide) (by decide)
      · exact p8
    · simp only [tlk, show ((2 : Int32) = 0) = False by decide, show ((2 : Int32) = 1) = False by decide, if_false, mst_ne, mst_k, ne_eq, Nat.reduceEqDiff, not_false_eq_true, and_true] at q3 ⊢
      refine ⟨p7, p8, ?_⟩
      split
      · exact rng_le q3.1 q3.2 (by decide) (by decide)
      · exact p9
  · rw [if_neg q]; exact h
