/-! COUNTER: what is made -/
def cnv (v : Int32) (k : Nat) : Int32 := if k = 200 then v else if k = 206 then 10 else if k = 207 then 5 else if k = 208 then 1 else if k = 212 then -1 else 0
def mkc (M : Mem) (n : Nat) (v : Int32) : Mem := fun k j i => if k = 660 ∧ j = 0 ∧ i = 0 then nI (n + 1) else if (k = 20 ∨ k = 21 ∨ (200 ≤ k ∧ k ≤ 212)) ∧ j = n then cnv v k else M k j i
theorem mkc_o {M : Mem} {n : Nat} {v : Int32} {k : Nat} (h : k ≠ 660) (h2 : ¬ (k = 20 ∨ k = 21 ∨ (200 ≤ k ∧ k ≤ 212))) : mkc M n v k = M k := by
  funext j i
  unfold mkc
  rw [if_neg (fun q => h q.1), if_neg (fun q => h2 q.1)]
theorem mkc_j {M : Mem} {n : Nat} {v : Int32} {k j : Nat} (h : k ≠ 660) (h2 : j ≠ n) : mkc M n v k j = M k j := by
  funext i
  unfold mkc
  rw [if_neg (fun q => h q.1), if_neg (fun q => h2 q.2)]
theorem mkc_n {M : Mem} {n : Nat} {v : Int32} {k i : Nat} (h2 : k = 20 ∨ k = 21 ∨ (200 ≤ k ∧ k ≤ 212)) : mkc M n v k n i = cnv v k := by
  unfold mkc
  rw [if_neg (fun q => by omega), if_pos ⟨h2, rfl⟩]
theorem mkc_c {M : Mem} {n : Nat} {v : Int32} : mkc M n v 660 0 0 = nI (n + 1) := by
  unfold mkc
  rw [if_pos ⟨rfl, rfl, rfl⟩]
theorem mkc_nc {M : Mem} {n : Nat} {v : Int32} (h : n < 12) : nc (mkc M n v) = n + 1 := by
  unfold nc
  rw [mkc_c, ni_cl (by omega)]
theorem EsC.mc {S M : Mem} (h : EsC S M) (n : Nat) (v : Int32) : EsC (mkc S n v) (mkc M n v) := fun k hk => by
  funext j i
  have e : M k j i = S k j i := by rw [h k hk]
  show (if _ then _ else if _ then _ else M k j i) = if _ then _ else if _ then _ else S k j i
  rw [e]
theorem InvC.mc {t : Nat} {S M : Mem} (h : InvC t S M) {v : Int32} (hn : nc S < 12) : InvC (t + 1) (mkc S (nc S) v) (mkc M (nc S) v) := by
  obtain ⟨a1, a2, a3, a4⟩ := h
  have h1 : SVeq S (mkc S (nc S) v) := ⟨mkc_o (by decide) (by decide), mkc_o (by decide) (by decide)⟩
  have hM : ∀ k, k ∈ [609, 608, 607, 46, 47, 48, 45, 44, 662, 663, 41] → mkc M (nc S) v k = M k := fun k q => by
    have : k ≠ 660 ∧ ¬ (k = 20 ∨ k = 21 ∨ (200 ≤ k ∧ k ≤ 212)) := by revert q; revert k; decide
    exact mkc_o this.1 this.2
  refine ⟨a1.mc _ _, fun w hw => ⟨(a2 w hw).1.congr h1.1 h1.2 (fun k q => ?_), ?_⟩, fun c' hc' => ?_, a4.congr h1 (fun k q => hM k ?_)⟩
  · rw [hM k (by revert q; revert k; decide)]
  · obtain ⟨k, hk, e⟩ := (a2 w hw).2
    exact ⟨k, by omega, by rw [hM 608 (by decide)]; exact e⟩
  · rw [mkc_nc hn] at hc'
    by_cases e : c' = nc S
    · subst e
      refine ⟨?_, Or.inl ?_⟩
      · rw [mkc_n (by decide)]
        have : cln (mkc S (nc S) v) (nc S) = 0 := by unfold cln; rw [mkc_n (by decide)]; rfl
        unfold clost
        rw [this]; rfl
      · rw [mkc_n (by decide)]; rfl
    · refine (a3 c' (by omega)).congr h1 ⟨?_, ?_, ?_, ?_, ?_⟩ (fun k q => ?_) (hM 608 (by decide))
      all_goals first | exact mkc_j (by decide) e | exact mkc_j (by revert q; revert k; decide) e
  · revert q; revert k; decide
def a_counter (S : Mem) (v : Int32) : Int32 := if (0 ≤ v ∧ v ≤ 3) then (if S 660 0 0 = 12 then -4 else S 660 0 0) else -2
def n_counter (S : Mem) (v : Int32) : Mem := if (0 ≤ v ∧ v ≤ 3) then (if S 660 0 0 = 12 then S else mkc S (nc S) v) else S
theorem S_counter {S : Mem} (h : SOK S) (v : Int32) : SOK (n_counter S v) := by
  unfold n_counter
  split
  · rename_i hv
    split
    · exact h
    · rename_i h12
      obtain ⟨n1, n2⟩ := h.ncs
      have hn : nc S < 12 := by
        rcases Nat.lt_or_ge (nc S) 12 with q | q
        · exact q
        · exact absurd (by rw [n2, show nc S = 12 by omega]; rfl) h12
      have hO : ∀ k, k ∈ [43, 606, 551, 552, 553, 453, 454, 34, 35, 36, 252, 253, 22, 23] → mkc S (nc S) v k = S k := fun k q => by
        have : k ≠ 660 ∧ ¬ (k = 20 ∨ k = 21 ∨ (200 ≤ k ∧ k ≤ 212)) := by revert q; revert k; decide
        exact mkc_o this.1 this.2
      refine SOK.mk (fun w hw => (h.v hw).congr (by rw [hO 43 (by decide)]) (by rw [hO 606 (by decide)])) ⟨nc S + 1, by omega, mkc_c⟩ (fun c hc => ?_) (fun s hs => (h.h hs).congr (fun k q => by rw [hO k (by revert q; revert k; decide)])) (h.p.congr (by rw [mkc_nc hn]; omega) (fun k q => hO k (by revert q; revert k; decide))) (h.j.congr (fun k q => hO k (by revert q; revert k; decide)))
      rw [mkc_nc hn] at hc
      by_cases e : c = nc S
      · subst e
        have e0 : cln (mkc S (nc S) v) (nc S) = 0 := by unfold cln; rw [mkc_n (by decide)]; rfl
        obtain ⟨w, hw, rfl⟩ : ∃ w, w < 4 ∧ v = nI w := by
          rcases at4_cases v with ⟨_, h2⟩ | ⟨w, hw, e, _, _⟩
          · exact absurd hv h2
          · exact ⟨w, hw, e⟩
        refine ⟨⟨w, hw, by rw [mkc_n (by decide)]; rfl⟩, ⟨0, by decide, by rw [mkc_n (by decide)]; rfl⟩, fun i => by rw [mkc_n (by decide)]; exact (show rng (0 : Int32) (-1) 7 from ⟨by decide, by decide⟩), by unfold clost; rw [e0]; exact Nat.zero_le _, ?_, ?_, ?_, ?_, ?_⟩
        · rw [mkc_n (by decide)]; exact (show rng (0 : Int32) (-99) 99 from ⟨by decide, by decide⟩)
        · rw [mkc_n (by decide)]; exact (show rng (0 : Int32) (-99) 99 from ⟨by decide, by decide⟩)
        · rw [mkc_n (by decide)]; exact (show rng (10 : Int32) 0 99 from ⟨by decide, by decide⟩)
        · rw [mkc_n (by decide)]; exact (show rng (5 : Int32) 1 50 from ⟨by decide, by decide⟩)
        · rw [mkc_n (by decide)]; exact (show rng (1 : Int32) 0 50 from ⟨by decide, by decide⟩)
      · exact (h.c (c := c) (by omega)).congr (fun k q => mkc_j (by revert q; revert k; decide) e)
  · exact h
theorem R_counter {S M : Mem} (hS : SOK S) (hI : InvR S M) (v : Int32) {Q : Int32 → Mem → Prop} (hQ : ∀ M1, InvR (n_counter S v) M1 → FrR M M1 → Q (a_counter S v) M1) : wp_X10_counter v M Q := by
  unfold wp_X10_counter
  obtain ⟨n1, n2⟩ := hS.ncs
  simp only [e_X10_isVersion, bi_z, Classical.not_not, hI.n, n2]
  unfold a_counter n_counter at hQ
  refine ⟨fun h => ?_, fun h => ⟨fun hb => ?_, fun hb => ?_⟩⟩
  · rw [if_neg h, if_neg h] at hQ; exact hQ M hI FrR.rf
  · rw [if_pos h, if_pos h, n2, if_pos hb, if_pos hb] at hQ; exact hQ M hI FrR.rf
  · rw [if_pos h, if_pos h, n2, if_neg hb, if_neg hb] at hQ
    have hn : nc S < 12 := by
      rcases Nat.lt_or_ge (nc S) 12 with q | q
      · exact q
      · exact absurd (by rw [show nc S = 12 by omega]; rfl) hb
    have hin : vp_in (nI (nc S)) 12 := (ni_in (by omega)).mpr hn
    have e1 : nI (nc S) + 1 = nI (nc S + 1) := by rw [nI_1]
    have e2 : nI (nc S + 1) - 1 = nI (nc S) := by rw [← e1]; grind
    simp only [forall_eq, mst_ne, mst_k, ne_eq, Nat.reduceEqDiff, not_false_eq_true, hI.n, n2, ni_cl (show nc S < 2147483648 by omega), and_self, if_true, hin, true_and, e1, e2]
    refine hQ _ ?_ ?_
    · have hO : ∀ k, k ∈ [43, 606, 551, 552, 553, 42, 453, 454, 34, 35, 36, 252, 253, 22, 23, 661] → mkc S (nc S) v k = S k := fun k q => by
        have : k ≠ 660 ∧ ¬ (k = 20 ∨ k = 21 ∨ (200 ≤ k ∧ k ≤ 212)) := by revert q; revert k; decide
        exact mkc_o this.1 this.2
      refine InvR.mk (fun w hw => (hI.v hw).congr ⟨by rw [hO 43 (by decide)], by rw [hO 606 (by decide)]⟩ (by simp [mst_ne])) (by rw [mkc_c, mst_eq]) (fun c hc => ?_) (fun s hs => ?_) ?_ ?_ (by rw [hO 661 (by decide)]; simp [mst_ne, hI.f])
      · rw [mkc_nc hn] at hc
        by_cases e : c = nc S
        · subst e
          have e0 : cln (mkc S (nc S) v) (nc S) = 0 := by unfold cln; rw [mkc_n (by decide)]; rfl
          unfold RCo
          rw [e0, mkc_n (by decide), mkc_n (by decide), mkc_n (by decide), mkc_n (by decide), mkc_n (by decide), mkc_n (by decide), mkc_n (by decide)]
          simp [mst_ne, mst_k, cnv]
        · have hc' : c < nc S := by omega
          have r := hI.c hc'
          unfold RCo cln at r ⊢
          rw [mkc_j (by decide) e, mkc_j (by decide) e, mkc_j (by decide) e, mkc_j (by decide) e, mkc_j (by decide) e, mkc_j (by decide) e, mkc_j (by decide) e, mkc_j (by decide) e]
          simp only [mst_ne, mst_k, ne_eq, Nat.reduceEqDiff, not_false_eq_true, e, and_false, if_false]
          exact r
      · have r := hI.h hs
        unfold RH at r ⊢
        rw [hO 551 (by decide), hO 552 (by decide), hO 553 (by decide), hO 42 (by decide)]
        simp only [mst_ne, ne_eq, Nat.reduceEqDiff, not_false_eq_true]
        exact r
      · have r := hI.p
        unfold RP at r ⊢
        rw [hO 453 (by decide), hO 454 (by decide), hO 34 (by decide), hO 35 (by decide), hO 36 (by decide)]
        simp only [mst_ne, ne_eq, Nat.reduceEqDiff, not_false_eq_true]
        exact r
      · have r := hI.j
        unfold RJ at r ⊢
        rw [hO 252 (by decide), hO 253 (by decide), hO 22 (by decide), hO 23 (by decide)]
        simp only [mst_ne, ne_eq, Nat.reduceEqDiff, not_false_eq_true]
        exact r
    · intro k hk
      have : k ≠ 64 ∧ k ≠ 65 ∧ k ≠ 67 ∧ k ≠ 68 ∧ k ≠ 69 ∧ k ≠ 70 ∧ k ≠ 71 ∧ k ≠ 720 := by unfold refk at hk; omega
      obtain ⟨f1, f2, f3, f4, f5, f6, f7, f8⟩ := this
      rw [mst_ne f8, mst_ne f7, mst_ne f6, mst_ne f5, mst_ne f4, mst_ne f3, mst_ne f2, mst_ne f1]
