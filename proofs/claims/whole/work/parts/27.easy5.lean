/-! PAY, INTEREST, JUDGMENT, GROUND -/
theorem e_X9_isDay {x : Int32} {M : Mem} {Q : Int32 → Mem → Prop} : wp_X9_isDay x M Q ↔ Q (bi (0 ≤ x ∧ x ≤ 399)) M := by
  unfold wp_X9_isDay
  by_cases h1 : x < 0
  · rw [bi_f (by grind)]; simp [h1]
  · by_cases h2 : 399 < x
    · rw [bi_f (by grind)]; simp [h1, h2]
    · rw [bi_t (by grind)]; simp [h1, h2]
theorem e_X9_isType {x : Int32} {M : Mem} {Q : Int32 → Mem → Prop} : wp_X9_isType x M Q ↔ Q (bi (0 ≤ x ∧ x ≤ 2)) M := by
  unfold wp_X9_isType
  by_cases h1 : x < 0
  · rw [bi_f (by grind)]; simp [h1]
  · by_cases h2 : 3 ≤ x
    · rw [bi_f (by grind)]; simp [h1, h2]
    · rw [bi_t (by grind)]; simp [h1, h2]
def pdn (S : Mem) : Nat := (S 453 0 0).toNatClampNeg
def jdn (S : Mem) : Nat := (S 252 0 0).toNatClampNeg
theorem SOK.pd {S : Mem} (h : SOK S) : pdn S ≤ 40 ∧ S 453 0 0 = nI (pdn S) := by
  obtain ⟨n, hn, e⟩ := h.p.1
  have : pdn S = n := by unfold pdn; rw [e, ni_cl (by omega)]
  rw [this]; exact ⟨hn, e⟩
theorem SOK.jd {S : Mem} (h : SOK S) : jdn S ≤ 16 ∧ S 252 0 0 = nI (jdn S) := by
  obtain ⟨n, hn, e⟩ := h.j.1
  have : jdn S = n := by unfold jdn; rw [e, ni_cl (by omega)]
  rw [this]; exact ⟨hn, e⟩
def kPay (S : Mem) (c d k : Int32) : Prop := (0 ≤ c ∧ c ≤ S 660 0 0 - 1) ∧ (0 ≤ d ∧ d ≤ 399) ∧ (1 ≤ k ∧ k ≤ 1000)
def a_pay (S : Mem) (c d k : Int32) : Int32 := if (0 ≤ c ∧ c ≤ S 660 0 0 - 1) ∧ (0 ≤ d ∧ d ≤ 399) ∧ (1 ≤ k ∧ k ≤ 1000) then (if pdn S = 40 then -4 else nI (pdn S + 1)) else -2
def n_pay (S : Mem) (c d k : Int32) : Mem := if ((0 ≤ c ∧ c ≤ S 660 0 0 - 1) ∧ (0 ≤ d ∧ d ≤ 399) ∧ (1 ≤ k ∧ k ≤ 1000)) ∧ ¬ pdn S = 40 then mst (mst (mst (mst S 34 0 (pdn S) c) 35 0 (pdn S) d) 36 0 (pdn S) k) 453 0 0 (nI (pdn S + 1)) else S
theorem C_pay {t : Nat} {S M : Mem} (hS : SOK S) (hI : InvC t S M) (c d k : Int32) {Q : Int32 → Mem → Prop} (hQ : ∀ M1, InvC (t + 1) (n_pay S c d k) M1 → FrC M M1 → Q (a_pay S c d k) M1) : wp_X9_pay c d k M Q := by
  unfold wp_X9_pay
  rw [e_X9_counterAt]
  unfold a_pay n_pay at hQ
  rcases atC_cases hS hI.1 c with ⟨h1, h2⟩ | ⟨j, hj, -, h1, h2⟩
  · rw [h1]; unfold okC at h2; simp only [h2, false_and, if_false] at hQ
    exact ⟨fun _ => hQ M hI.more FrC.rf, fun j e => by cases e⟩
  · rw [h1]; unfold okC at h2
    refine ⟨fun e => by (cases e), fun _ e => ?_⟩
    cases e
    simp only [h2, e_X9_isDay, bi_z, Classical.not_not, true_and] at hQ ⊢
    refine ⟨fun h => ?_, fun h => ⟨fun g => ?_, fun g => ⟨fun g2 => ?_, fun g2 => ?_⟩⟩⟩
    · simp only [h, false_and, if_false] at hQ; exact hQ M hI.more FrC.rf
    · have : ¬ (1 ≤ k ∧ k ≤ 1000) := by grind
      simp only [this, and_false, false_and, if_false] at hQ; exact hQ M hI.more FrC.rf
    · have hk : (1 ≤ k ∧ k ≤ 1000) := by grind
      simp only [h, hk, and_self, true_and, if_true] at hQ
      obtain ⟨p1, p2⟩ := hS.pd
      have e453 : M 453 0 0 = nI (pdn S) := by rw [hI.1.k 453]; exact p2
      unfold wp_X5_add
      rw [e453]
      refine ⟨fun q => ?_, fun q => ?_⟩
      · have hlt : pdn S < 40 := (ni_lt (b := 40) (by omega) (by decide)).mp q
        have hne : ¬ pdn S = 40 := by omega
        simp only [hne, not_false_eq_true, if_true, if_false, forall_eq, mst_ne, mst_k, ne_eq, Nat.reduceEqDiff, e453, ni_cl (show pdn S < 2147483648 by omega), nI_1, and_self] at hQ ⊢
        have hin : vp_in (nI (pdn S)) 40 := (ni_in (by omega)).mpr hlt
        refine ⟨hin, hin, hin, hQ _ (hI.light ((((hI.1.st).st).st).st) ⟨by simp [mst_ne], by simp [mst_ne]⟩ (by simp [nc, mst_ne]) (fun c' _ => ⟨by simp [mst_ne], by simp [mst_ne], by simp [mst_ne], by simp [mst_ne], by simp [mst_ne]⟩) (by simp [mst_ne])) ((((FrC.st (nrefk (by decide))).tr (FrC.st (nrefk (by decide)))).tr (FrC.st (nrefk (by decide)))).tr (FrC.st (nrefk (by decide))))⟩
      · have he : pdn S = 40 := by have : ¬ pdn S < 40 := fun z => q ((ni_lt (b := 40) (by omega) (by decide)).mpr z); omega
        simp only [he, not_true, if_false, if_true] at hQ
        exact hQ M hI.more FrC.rf
    · have : ¬ (1 ≤ k ∧ k ≤ 1000) := by grind
      simp only [this, and_false, false_and, if_false] at hQ; exact hQ M hI.more FrC.rf
theorem R_pay {S M : Mem} (hS : SOK S) (hI : InvR S M) (c d k : Int32) {Q : Int32 → Mem → Prop} (hQ : ∀ M1, InvR (n_pay S c d k) M1 → FrR M M1 → Q (a_pay S c d k) M1) : wp_X10_pay c d k M Q := by
  unfold wp_X10_pay
  simp only [e_X10_isCounter, e_X10_in, bi_z, Classical.not_not, hI.n]
  unfold a_pay n_pay at hQ
  refine ⟨fun h => ?_, fun h => ⟨fun g => ?_, fun g => ⟨fun g2 => ?_, fun g2 => ?_⟩⟩⟩
  · simp only [h, false_and, if_false] at hQ; exact hQ M hI FrR.rf
  · simp only [g, false_and, and_false, if_false] at hQ; exact hQ M hI FrR.rf
  · simp only [g2, false_and, and_false, if_false] at hQ; exact hQ M hI FrR.rf
  · simp only [h, g, g2, and_self, true_and, if_true] at hQ
    obtain ⟨p1, p2⟩ := hS.pd
    have e732 : M 732 0 0 = nI (pdn S) := by rw [hI.p.1]; exact p2
    rw [e732]
    refine ⟨fun q => ?_, fun q => ?_⟩
    · have he : pdn S = 40 := (ni_eq (b := 40) (by omega) (by decide)).mp q
      simp only [he, not_true, if_false, if_true] at hQ
      exact hQ M hI FrR.rf
    · have hne : ¬ pdn S = 40 := fun z => q (by rw [z]; rfl)
      simp only [hne, not_false_eq_true, if_true, if_false, forall_eq, mst_ne, mst_k, ne_eq, Nat.reduceEqDiff, e732, ni_cl (show pdn S < 2147483648 by omega), nI_1, and_self] at hQ ⊢
      have hin : vp_in (nI (pdn S)) 40 := (ni_in (by omega)).mpr (by omega)
      refine ⟨hin, hin, hin, hQ _ (hI.upd 4 (Or.inr ⟨⟨by simp [mst_ne], by simp [mst_ne]⟩, by simp [mst_ne]⟩) ⟨by simp [mst_ne], by simp [mst_ne]⟩ (Or.inr ⟨by simp [mst_ne], by simp [mst_ne]⟩) (Or.inr ⟨by simp [mst_ne], by simp [mst_ne]⟩) (Or.inl rfl) (Or.inr ⟨by simp [mst_ne], by simp [mst_ne]⟩) (by simp [mst_ne, hI.f]) (fun e => by cases e) (fun e => by cases e) (fun e => by cases e) (fun _ => ?_) (fun e => by cases e)) ((((FrR.st (yrefk (by decide))).tr (FrR.st (yrefk (by decide)))).tr (FrR.st (yrefk (by decide)))).tr (FrR.st (yrefk (by decide))))⟩
      obtain ⟨r1, r2, r3⟩ := hI.p
      refine ⟨by simp [mst_k], by simp [mst_ne, r2], fun i hi => ?_⟩
      rw [mst_eq, ni_cl (by omega)] at hi
      by_cases e : i = pdn S
      · subst e; simp [mst_ne, mst_k]
      · have := r3 i (by unfold pdn at hi e; omega)
        simp [mst_ne, mst_k, e, this]
theorem S_pay {S : Mem} (h : SOK S) (c d k : Int32) : SOK (n_pay S c d k) := by
  unfold n_pay
  split
  · rename_i q
    obtain ⟨⟨q1, q2, q3⟩, q4⟩ := q
    obtain ⟨j, hj, rfl⟩ := okC_nat h q1
    obtain ⟨p1, p2⟩ := h.pd
    refine h.upd 4 (Or.inr ⟨by simp [mst_ne], by simp [mst_ne]⟩) (by simp [mst_ne]) (Or.inr (by simp [mst_ne])) (Or.inr (by simp [mst_ne])) (Or.inl rfl) (Or.inr (by simp [mst_ne])) (fun e => by cases e) (fun e => by cases e) (fun e => by cases e) (fun _ => ?_) (fun e => by cases e)
    obtain ⟨a1, a2, a3⟩ := h.p
    have hnc : nc (mst (mst (mst (mst S 34 0 (pdn S) (nI j)) 35 0 (pdn S) d) 36 0 (pdn S) k) 453 0 0 (nI (pdn S + 1))) = nc S := by simp [nc, mst_ne]
    refine ⟨⟨pdn S + 1, by omega, by rw [mst_eq]⟩, by simp [mst_ne]; exact a2, fun i hi => ?_⟩
    rw [mst_eq, ni_cl (by omega)] at hi
    rw [hnc]
    by_cases e : i = pdn S
    · subst e
      simp only [mst_ne, mst_k, ne_eq, Nat.reduceEqDiff, not_false_eq_true, and_self, if_true]
      exact ⟨⟨j, hj, rfl⟩, rng_le q2.1 q2.2 (by decide) (by decide), rng_le q3.1 q3.2 (by decide) (by decide)⟩
    · simp only [mst_ne, mst_k, ne_eq, Nat.reduceEqDiff, not_false_eq_true, e, and_false, if_false]
      exact a3 i (by unfold pdn at hi e; omega)
  · exact h
def a_interest (S : Mem) (i : Int32) : Int32 := if 0 ≤ i ∧ i ≤ 100 then S 454 0 0 else -2
def n_interest (S : Mem) (i : Int32) : Mem := if 0 ≤ i ∧ i ≤ 100 then mst S 454 0 0 i else S
theorem C_interest {t : Nat} {S M : Mem} (hI : InvC t S M) (i : Int32) {Q : Int32 → Mem → Prop} (hQ : ∀ M1, InvC (t + 1) (n_interest S i) M1 → FrC M M1 → Q (a_interest S i) M1) : wp_X9_interest i M Q := by
  unfold wp_X9_interest
  unfold a_interest n_interest at hQ
  simp only [forall_eq]
  rw [hI.1.k 454]
  refine ⟨fun h => ?_, fun h => ⟨fun g => ?_, fun g => ?_⟩⟩
  · rw [if_neg (by grind), if_neg (by grind)] at hQ; exact hQ M hI.more FrC.rf
  · rw [if_pos (by grind), if_pos (by grind)] at hQ
    exact hQ _ (hI.light (hI.1.st) ⟨by simp [mst_ne], by simp [mst_ne]⟩ (by simp [nc, mst_ne]) (fun c' _ => ⟨by simp [mst_ne], by simp [mst_ne], by simp [mst_ne], by simp [mst_ne], by simp [mst_ne]⟩) (by simp [mst_ne])) (FrC.st (nrefk (by decide)))
  · rw [if_neg (by grind), if_neg (by grind)] at hQ; exact hQ M hI.more FrC.rf
theorem R_interest {S M : Mem} (hI : InvR S M) (i : Int32) {Q : Int32 → Mem → Prop} (hQ : ∀ M1, InvR (n_interest S i) M1 → FrR M M1 → Q (a_interest S i) M1) : wp_X10_interest i M Q := by
  unfold wp_X10_interest
  simp only [e_X10_in, bi_z, Classical.not_not, forall_eq, hI.p.2.1]
  unfold a_interest n_interest at hQ
  refine ⟨fun h => ?_, fun h => ?_⟩
  · simp only [h, if_false] at hQ; exact hQ M hI FrR.rf
  · simp only [h, and_self, if_true] at hQ
    refine hQ _ (hI.upd 4 (Or.inr ⟨⟨by simp [mst_ne], by simp [mst_ne]⟩, by simp [mst_ne]⟩) ⟨by simp [mst_ne], by simp [mst_ne]⟩ (Or.inr ⟨by simp [mst_ne], by simp [mst_ne]⟩) (Or.inr ⟨by simp [mst_ne], by simp [mst_ne]⟩) (Or.inl rfl) (Or.inr ⟨by simp [mst_ne], by simp [mst_ne]⟩) (by simp [mst_ne, hI.f]) (fun e => by cases e) (fun e => by cases e) (fun e => by cases e) (fun _ => ?_) (fun e => by cases e)) (FrR.st (yrefk (by decide)))
    obtain ⟨r1, r2, r3⟩ := hI.p
    exact ⟨by simp [mst_ne, r1], by simp [mst_k], fun i hi => by simp only [mst_ne, ne_eq, Nat.reduceEqDiff, not_false_eq_true] at hi ⊢; exact r3 i hi⟩
theorem S_interest {S : Mem} (h : SOK S) (i : Int32) : SOK (n_interest S i) := by
  unfold n_interest
  split
  · rename_i q
    refine h.upd 4 (Or.inr ⟨by simp [mst_ne], by simp [mst_ne]⟩) (by simp [mst_ne]) (Or.inr (by simp [mst_ne])) (Or.inr (by simp [mst_ne])) (Or.inl rfl) (Or.inr (by simp [mst_ne])) (fun e => by cases e) (fun e => by cases e) (fun e => by cases e) (fun _ => ?_) (fun e => by cases e)
    obtain ⟨a1, a2, a3⟩ := h.p
    simp only [pP, nc, mst_ne, mst_k, ne_eq, Nat.reduceEqDiff, not_false_eq_true, and_self, if_true]
    exact ⟨a1, rng_le q.1 q.2 (by decide) (by decide), a3⟩
  · exact h
def a_judgment (S : Mem) (a o : Int32) : Int32 := if (0 ≤ a ∧ a ≤ 16777215) ∧ (0 ≤ o ∧ o ≤ 16777215) then (if jdn S = 16 then -4 else nI (jdn S)) else -2
def n_judgment (S : Mem) (a o : Int32) : Mem := if ((0 ≤ a ∧ a ≤ 16777215) ∧ (0 ≤ o ∧ o ≤ 16777215)) ∧ ¬ jdn S = 16 then mst (mst (mst S 22 0 (jdn S) a) 23 0 (jdn S) o) 252 0 0 (nI (jdn S + 1)) else S
theorem C_judgment {t : Nat} {S M : Mem} (hS : SOK S) (hI : InvC t S M) (a o : Int32) {Q : Int32 → Mem → Prop} (hQ : ∀ M1, InvC (t + 1) (n_judgment S a o) M1 → FrC M M1 → Q (a_judgment S a o) M1) : wp_X9_judgment a o M Q := by
  unfold wp_X9_judgment
  unfold a_judgment n_judgment at hQ
  have bad : ¬ ((0 ≤ a ∧ a ≤ 16777215) ∧ (0 ≤ o ∧ o ≤ 16777215)) → Q (-2) M := fun h => by
    simp only [h, false_and, if_false] at hQ; exact hQ M hI.more FrC.rf
  refine ⟨fun h => bad (by grind), fun h => ⟨fun g => bad (by grind), fun g => ⟨fun h2 => bad (by grind), fun h2 => ⟨fun g2 => ?_, fun g2 => bad (by grind)⟩⟩⟩⟩
  have hok : ((0 ≤ a ∧ a ≤ 16777215) ∧ (0 ≤ o ∧ o ≤ 16777215)) := by grind
  simp only [hok, and_self, true_and, if_true] at hQ
  obtain ⟨p1, p2⟩ := hS.jd
  have e252 : M 252 0 0 = nI (jdn S) := by rw [hI.1.k 252]; exact p2
  unfold wp_X1_add
  rw [e252]
  refine ⟨fun q => ?_, fun q => ?_⟩
  · have hlt : jdn S < 16 := (ni_lt (b := 16) (by omega) (by decide)).mp q
    have hne : ¬ jdn S = 16 := by omega
    simp only [hne, not_false_eq_true, if_true, if_false, forall_eq, mst_ne, mst_k, ne_eq, Nat.reduceEqDiff, e252, ni_cl (show jdn S < 2147483648 by omega), nI_1, nI_pred, and_self] at hQ ⊢
    have hin : vp_in (nI (jdn S)) 16 := (ni_in (by omega)).mpr hlt
    exact ⟨hin, hin, hQ _ (hI.light (((hI.1.st).st).st) ⟨by simp [mst_ne], by simp [mst_ne]⟩ (by simp [nc, mst_ne]) (fun c' _ => ⟨by simp [mst_ne], by simp [mst_ne], by simp [mst_ne], by simp [mst_ne], by simp [mst_ne]⟩) (by simp [mst_ne])) (((FrC.st (nrefk (by decide))).tr (FrC.st (nrefk (by decide)))).tr (FrC.st (nrefk (by decide))))⟩
  · have he : jdn S = 16 := by have : ¬ jdn S < 16 := fun z => q ((ni_lt (b := 16) (by omega) (by decide)).mpr z); omega
    simp only [he, not_true, if_false, if_true] at hQ
    exact hQ M hI.more FrC.rf
theorem R_judgment {S M : Mem} (hS : SOK S) (hI : InvR S M) (a o : Int32) {Q : Int32 → Mem → Prop} (hQ : ∀ M1, InvR (n_judgment S a o) M1 → FrR M M1 → Q (a_judgment S a o) M1) : wp_X10_judgment a o M Q := by
  unfold wp_X10_judgment
  simp only [e_X10_in, bi_z, Classical.not_not]
  unfold a_judgment n_judgment at hQ
  refine ⟨fun h => ?_, fun h => ⟨fun g => ?_, fun g => ?_⟩⟩
  · simp only [h, false_and, if_false] at hQ; exact hQ M hI FrR.rf
  · simp only [g, and_false, false_and, if_false] at hQ; exact hQ M hI FrR.rf
  · simp only [h, g, and_self, true_and, if_true] at hQ
    obtain ⟨p1, p2⟩ := hS.jd
    have e737 : M 737 0 0 = nI (jdn S) := by rw [hI.j.1]; exact p2
    rw [e737]
    refine ⟨fun q => ?_, fun q => ?_⟩
    · have he : jdn S = 16 := (ni_eq (b := 16) (by omega) (by decide)).mp q
      simp only [he, not_true, if_false, if_true] at hQ
      exact hQ M hI FrR.rf
    · have hne : ¬ jdn S = 16 := fun z => q (by rw [z]; rfl)
      simp only [hne, not_false_eq_true, if_true, if_false, forall_eq, mst_ne, mst_k, ne_eq, Nat.reduceEqDiff, e737, ni_cl (show jdn S < 2147483648 by omega), nI_1, nI_pred, and_self] at hQ ⊢
      have hin : vp_in (nI (jdn S)) 16 := (ni_in (by omega)).mpr (by omega)
      refine ⟨hin, hin, hQ _ (hI.upd 5 (Or.inr ⟨⟨by simp [mst_ne], by simp [mst_ne]⟩, by simp [mst_ne]⟩) ⟨by simp [mst_ne], by simp [mst_ne]⟩ (Or.inr ⟨by simp [mst_ne], by simp [mst_ne]⟩) (Or.inr ⟨by simp [mst_ne], by simp [mst_ne]⟩) (Or.inr ⟨by simp [mst_ne], by simp [mst_ne]⟩) (Or.inl rfl) (by simp [mst_ne, hI.f]) (fun e => by cases e) (fun e => by cases e) (fun e => by cases e) (fun e => by cases e) (fun _ => ?_)) (((FrR.st (yrefk (by decide))).tr (FrR.st (yrefk (by decide)))).tr (FrR.st (yrefk (by decide))))⟩
      obtain ⟨r1, r2, r3⟩ := hI.j
      refine ⟨by simp [mst_k], by simp [mst_ne, r2], fun i hi => ?_⟩
      rw [mst_eq, ni_cl (by omega)] at hi
      by_cases e : i = jdn S
      · subst e; simp [mst_ne, mst_k]
      · have := r3 i (by unfold jdn at hi e; omega)
        simp [mst_ne, mst_k, e, this]
theorem S_judgment {S : Mem} (h : SOK S) (a o : Int32) : SOK (n_judgment S a o) := by
  unfold n_judgment
  split
  · rename_i q
    obtain ⟨⟨q1, q2⟩, q4⟩ := q
    obtain ⟨p1, p2⟩ := h.jd
    refine h.upd 5 (Or.inr ⟨by simp [mst_ne], by simp [mst_ne]⟩) (by simp [mst_ne]) (Or.inr (by simp [mst_ne])) (Or.inr (by simp [mst_ne])) (Or.inr (by simp [mst_ne])) (Or.inl rfl) (fun e => by cases e) (fun e => by cases e) (fun e => by cases e) (fun e => by cases e) (fun _ => ?_)
    obtain ⟨a1, a2, a3⟩ := h.j
    refine ⟨⟨jdn S + 1, by omega, by rw [mst_eq]⟩, by simp [mst_ne]; exact a2, fun i hi => ?_⟩
    rw [mst_eq, ni_cl (by omega)] at hi
    by_cases e : i = jdn S
    · subst e
      simp only [mst_ne, mst_k, ne_eq, Nat.reduceEqDiff, not_false_eq_true, and_self, if_true]
      exact ⟨rng_le q1.1 q1.2 (by decide) (by decide), rng_le q2.1 q2.2 (by decide) (by decide)⟩
    · simp only [mst_ne, mst_k, ne_eq, Nat.reduceEqDiff, not_false_eq_true, e, and_false, if_false]
      exact a3 i (by unfold jdn at hi e; omega)
  · exact h
