/-! SHEETS -/
theorem InvC.fnd {t : Nat} {S M : Mem} (hI : InvC t S M) (x : Int32) : InvC (t + 1) (mst S 661 0 0 x) (mst M 661 0 0 x) :=
  hI.light hI.1.st ⟨by simp [mst_ne], by simp [mst_ne]⟩ (by simp [nc, mst_ne]) (fun c' _ => ⟨by simp [mst_ne], by simp [mst_ne], by simp [mst_ne], by simp [mst_ne], by simp [mst_ne]⟩) (by simp [mst_ne])
theorem InvR.fnd {S M : Mem} (hI : InvR S M) (x : Int32) : InvR (mst S 661 0 0 x) (mst M 747 0 0 x) :=
  hI.upd 6 (Or.inr ⟨⟨by simp [mst_ne], by simp [mst_ne]⟩, by simp [mst_ne]⟩) ⟨by simp [mst_ne], by simp [mst_ne]⟩ (Or.inr ⟨by simp [mst_ne], by simp [mst_ne]⟩) (Or.inr ⟨by simp [mst_ne], by simp [mst_ne]⟩) (Or.inr ⟨by simp [mst_ne], by simp [mst_ne]⟩) (Or.inr ⟨by simp [mst_ne], by simp [mst_ne]⟩) (by simp [mst_k]) (fun e => by cases e) (fun e => by cases e) (fun e => by cases e) (fun e => by cases e) (fun e => by cases e)
theorem SOK.fnd {S : Mem} (h : SOK S) (x : Int32) : SOK (mst S 661 0 0 x) :=
  h.upd 6 (Or.inr ⟨by simp [mst_ne], by simp [mst_ne]⟩) (by simp [mst_ne]) (Or.inr (by simp [mst_ne])) (Or.inr (by simp [mst_ne])) (Or.inr (by simp [mst_ne])) (Or.inr (by simp [mst_ne])) (fun e => by cases e) (fun e => by cases e) (fun e => by cases e) (fun e => by cases e) (fun e => by cases e)
theorem frC1 {M : Mem} {x : Int32} : FrC M (mst M 661 0 0 x) := FrC.st (nrefk (by decide))
theorem frR1 {M : Mem} {x : Int32} : FrR M (mst M 747 0 0 x) := FrR.st (yrefk (by decide))
/-- the class: nothing of a SHEET is looked at by what it keeps -/
theorem InvC.sht {t : Nat} {S S' M M' : Mem} (hI : InvC t S M) (hE : EsC S' M') (hS : ∀ k, k ∉ [551, 552, 553, 42] → S' k = S k) (hM : ∀ k, k ∉ [551, 552, 553, 42] → M' k = M k) : InvC (t + 1) S' M' :=
  hI.light hE ⟨hS 43 (by decide), hS 606 (by decide)⟩ (by unfold nc; rw [hS 660 (by decide)]) (fun c' _ => ⟨by rw [hS 200 (by decide)], by rw [hS 202 (by decide)], by rw [hS 20 (by decide)], by rw [hS 204 (by decide)], by rw [hS 205 (by decide)]⟩) (fun k q => hM k (by revert q; revert k; decide))
theorem InvR.sht {S S' M M' : Mem} (hI : InvR S M) (hS : ∀ k, k ∉ [551, 552, 553, 42] → S' k = S k) (hM : ∀ k, k ∉ [81, 82, 83, 84] → M' k = M k) (hH : ∀ s, s < 4 → RH S' M' s) : InvR S' M' :=
  hI.upd 3 (Or.inr ⟨⟨hS 43 (by decide), hS 606 (by decide)⟩, fun k q => hM k (by revert q; revert k; decide)⟩) ⟨hS 660 (by decide), hM 720 (by decide)⟩ (Or.inr ⟨fun k q => hS k (by revert q; revert k; decide), fun k q => hM k (by revert q; revert k; decide)⟩) (Or.inl rfl) (Or.inr ⟨fun k q => hS k (by revert q; revert k; decide), fun k q => hM k (by revert q; revert k; decide)⟩) (Or.inr ⟨fun k q => hS k (by revert q; revert k; decide), fun k q => hM k (by revert q; revert k; decide)⟩) (by rw [hM 747 (by decide), hS 661 (by decide)]; exact hI.f) (fun e => by cases e) (fun e => by cases e) (fun _ => hH) (fun e => by cases e) (fun e => by cases e)
theorem SOK.sht {S S' : Mem} (h : SOK S) (hS : ∀ k, k ∉ [551, 552, 553, 42] → S' k = S k) (hH : ∀ s, s < 4 → pH S' s) : SOK S' :=
  h.upd 3 (Or.inr ⟨hS 43 (by decide), hS 606 (by decide)⟩) (hS 660 (by decide)) (Or.inr (fun k q => hS k (by revert q; revert k; decide))) (Or.inl rfl) (Or.inr (fun k q => hS k (by revert q; revert k; decide))) (Or.inr (fun k q => hS k (by revert q; revert k; decide))) (fun e => by cases e) (fun e => by cases e) (fun _ => hH) (fun e => by cases e) (fun e => by cases e)
def sln (S : Mem) (s : Nat) : Nat := (S 553 s 0).toNatClampNeg
theorem SOK.sl {S : Mem} (h : SOK S) {s : Nat} (hs : s < 4) : sln S s ≤ 40 ∧ S 553 s 0 = nI (sln S s) := by
  obtain ⟨n, hn, e⟩ := (h.h hs).2.2
  have : sln S s = n := by unfold sln; rw [e, ni_cl (by omega)]
  rw [this]; exact ⟨hn, e⟩
/-- there or LOST, as the reference has it -/
theorem there {S M : Mem} (hS : SOK S) (hI : InvR S M) {s : Nat} (hs : s < 4) : (S 551 s 0 = 0 ∧ M 81 0 s = 1) ∨ (S 551 s 0 = 1 ∧ M 81 0 s = 0) := by
  have r := (hI.h hs).1
  rcases (hS.h hs).1 with e | e
  · exact Or.inl ⟨e, by rw [r, e]; decide⟩
  · exact Or.inr ⟨e, by rw [r, e]; decide⟩
/-! LOSE -/
def a_lose (S : Mem) (s : Int32) : Int32 := if 0 ≤ s ∧ s ≤ 3 then (if S 551 s.toNatClampNeg 0 = 0 then S 553 s.toNatClampNeg 0 else -11) else -2
def n_lose (S : Mem) (s : Int32) : Mem := if 0 ≤ s ∧ s ≤ 3 then (if S 551 s.toNatClampNeg 0 = 0 then mst S 551 s.toNatClampNeg 0 1 else mst S 661 0 0 1) else S
theorem C_lose {t : Nat} {S M : Mem} (hI : InvC t S M) (s : Int32) {Q : Int32 → Mem → Prop} (hQ : ∀ M1, InvC (t + 1) (n_lose S s) M1 → FrC M M1 → Q (a_lose S s) M1) : wp_X9_lose s M Q := by
  unfold wp_X9_lose
  rw [e_X9_sheetAt]
  unfold a_lose n_lose at hQ
  rcases at4_cases s with ⟨h1, h2⟩ | ⟨k, hk, rfl, h1, h2⟩
  · rw [h1]; simp only [h2, if_false] at hQ
    exact ⟨fun _ => hQ M hI.more FrC.rf, fun j e => by cases e⟩
  · rw [h1]
    refine ⟨fun e => by (cases e), fun j e => ?_⟩
    cases e
    rw [ni_cl (by omega)] at hQ
    simp only [h2, and_self, if_true, e_X9_finding, forall_eq] at hQ ⊢
    rw [hI.1.k 551]
    refine ⟨fun h => ?_, fun h => ?_⟩
    · simp only [h, if_true] at hQ
      rw [mst_ne (by decide), hI.1.k 553]
      exact hQ _ (hI.sht hI.1.st (fun q hq => mst_ne (fun e => hq (by subst e; decide))) (fun q hq => mst_ne (fun e => hq (by subst e; decide)))) (FrC.st (nrefk (by decide)))
    · simp only [h, if_false] at hQ
      exact hQ _ (hI.fnd 1) frC1
theorem R_lose {S M : Mem} (hS : SOK S) (hI : InvR S M) (s : Int32) {Q : Int32 → Mem → Prop} (hQ : ∀ M1, InvR (n_lose S s) M1 → FrR M M1 → Q (a_lose S s) M1) : wp_X10_lose s M Q := by
  unfold wp_X10_lose
  simp only [e_X10_isSheet, e_X10_meets, bi_z, Classical.not_not, forall_eq]
  unfold a_lose n_lose at hQ
  refine ⟨fun h => ?_, fun h => ?_⟩
  · simp only [h, if_false] at hQ; exact hQ M hI FrR.rf
  · obtain ⟨k, hk, rfl⟩ := ni_ofle (n := 3) (by decide) h.1 h.2
    have hk4 : k < 4 := by omega
    have hin : vp_in (nI k) 4 := (ni_in (by omega)).mpr hk4
    rw [ni_cl (by omega)] at hQ ⊢
    simp only [h, and_self, if_true] at hQ
    refine ⟨hin, fun g => ?_, fun g => ⟨hin, hin, ?_⟩⟩
    · rcases there hS hI hk4 with ⟨e1, e2⟩ | ⟨e1, e2⟩
      · rw [e2] at g; exact absurd g (by decide)
      · rw [e1] at hQ; simp only [show ((1 : Int32) = 0) = False by decide, if_false] at hQ
        exact hQ _ (hI.fnd 1) frR1
    · rcases there hS hI hk4 with ⟨e1, e2⟩ | ⟨e1, e2⟩
      · rw [e1] at hQ; simp only [if_true] at hQ
        rw [mst_ne (by decide), (hI.h hk4).2.2.1]
        refine hQ _ (hI.sht (fun q hq => mst_ne (fun e => hq (by subst e; decide))) (fun q hq => mst_ne (fun e => hq (by subst e; decide))) (fun w hw => ?_)) (FrR.st (yrefk (by decide)))
        obtain ⟨r1, r2, r3, r4⟩ := hI.h hw
        by_cases e : w = k
        · subst e; exact ⟨by simp [mst_k], by simp [mst_ne, r2], by simp [mst_ne, r3], fun i hi => by simp [mst_ne, r4 i hi]⟩
        · exact ⟨by simp [mst_k, e, r1], by simp [mst_ne, r2], by simp [mst_ne, r3], fun i hi => by simp [mst_ne, r4 i hi]⟩
      · rw [e2] at g; exact absurd rfl g
theorem S_lose {S : Mem} (h : SOK S) (s : Int32) : SOK (n_lose S s) := by
  unfold n_lose
  by_cases q : 0 ≤ s ∧ s ≤ 3
  · rw [if_pos q]
    by_cases g : S 551 s.toNatClampNeg 0 = 0
    · rw [if_pos g]
      refine h.sht (fun q hq => mst_ne (fun e => hq (by subst e; decide))) (fun w hw => ?_)
      obtain ⟨p1, p2, p3⟩ := h.h hw
      refine ⟨?_, by rw [mst_ne (by decide)]; exact p2, by rw [mst_ne (by decide)]; exact p3⟩
      rw [mst_k]
      split
      · exact Or.inr rfl
      · exact p1
    · rw [if_neg g]; exact h.fnd 1
  · rw [if_neg q]; exact h
/-! PUT, GET: what stands against it -/
def lck (S : Mem) (s : Nat) (ty i : Int32) : Int32 := if S 551 s 0 = 0 then (if ty = S 552 s 0 then (if 0 ≤ i ∧ i ≤ S 553 s 0 - 1 then 0 else 2) else 3) else 1
theorem lck_or (S : Mem) (s : Nat) (ty i : Int32) : lck S s ty i = 0 ∨ lck S s ty i = 1 ∨ lck S s ty i = 2 ∨ lck S s ty i = 3 := by
  unfold lck; split
  · split
    · split <;> simp
    · simp
  · simp
theorem p_X7_findingAt {S M : Mem} (hS : SOK S) (hE : EsC S M) {s : Nat} (hs : s < 4) (ty i : Int32) {Q : Int32 → Mem → Prop} (hQ : Q (lck S s ty i) M) : wp_X7_findingAt s ty i M Q := by
  unfold wp_X7_findingAt w_X7_findingAt_31
  rw [hE.k 551, hE.k 552, hE.k 553]
  unfold lck at hQ
  have hz := ni_ge0 (a := sln S s) (by have := (hS.sl hs).1; omega)
  rw [← (hS.sl hs).2] at hz
  have hz2 : S 553 s 0 ≤ 40 := by rw [(hS.sl hs).2]; exact (ni_le (b := 40) (by have := (hS.sl hs).1; omega) (by decide)).mpr (hS.sl hs).1
  refine ⟨fun h => ⟨fun g => ⟨fun a => ?_, fun a => ⟨fun b => ?_, fun b => ?_⟩⟩, fun g => ?_⟩, fun h => ?_⟩
  · rw [if_pos h, if_pos g, if_neg (by grind)] at hQ; exact hQ
  · rw [if_pos h, if_pos g, if_pos (by grind)] at hQ; exact hQ
  · rw [if_pos h, if_pos g, if_neg (by grind)] at hQ; exact hQ
  · rw [if_pos h, if_neg g] at hQ; exact hQ
  · rw [if_neg h] at hQ; exact hQ
theorem p_X10_lacks {S M : Mem} (hS : SOK S) (hI : InvR S M) {s : Nat} (hs : s < 4) (ty i : Int32) {Q : Int32 → Mem → Prop} (hQ : Q (lck S s ty i) M) : wp_X10_lacks (nI s) ty i M Q := by
  unfold wp_X10_lacks
  have hin : vp_in (nI s) 4 := (ni_in (by omega)).mpr hs
  obtain ⟨r1, r2, r3, r4⟩ := hI.h hs
  simp only [e_X10_in, bi_z, Classical.not_not]
  rw [ni_cl (by omega), r2, r3]
  unfold lck at hQ
  have e0 : ¬ M 81 0 s = 0 → S 551 s 0 = 0 := fun g => by
    rcases there hS hI hs with ⟨e1, e2⟩ | ⟨e1, e2⟩
    · exact e1
    · rw [e2] at g; exact absurd rfl g
  refine ⟨hin, fun g => ?_, fun g => ⟨hin, fun a => ⟨hin, fun b => ?_, fun b => ?_⟩, fun a => ?_⟩⟩
  · rcases there hS hI hs with ⟨e1, e2⟩ | ⟨e1, e2⟩
    · rw [e2] at g; exact absurd g (by decide)
    · rw [if_neg (by rw [e1]; decide)] at hQ; exact hQ
  · rw [if_pos (e0 g), if_pos a.symm, if_neg b] at hQ; exact hQ
  · rw [if_pos (e0 g), if_pos a.symm, if_pos b] at hQ; exact hQ
  · rw [if_pos (e0 g), if_neg (fun z => a z.symm)] at hQ; exact hQ
def nrw (ty v : Int32) : Int32 := if ty = 0 then v.toInt8.toInt32 else if ty = 1 then v.toInt16.toInt32 else v
def a_put (S : Mem) (s ty i : Int32) : Int32 := if (0 ≤ s ∧ s ≤ 3) ∧ (0 ≤ ty ∧ ty ≤ 2) then (if lck S s.toNatClampNeg ty i = 0 then 1 else -10 - lck S s.toNatClampNeg ty i) else -2
def n_put (S : Mem) (s ty i v : Int32) : Mem := if (0 ≤ s ∧ s ≤ 3) ∧ (0 ≤ ty ∧ ty ≤ 2) then (if lck S s.toNatClampNeg ty i = 0 then mst S 42 s.toNatClampNeg i.toNatClampNeg (nrw ty v) else mst S 661 0 0 (lck S s.toNatClampNeg ty i)) else S
theorem lck_0 {S : Mem} (hS : SOK S) {s : Nat} (hs : s < 4) {ty i : Int32} (h : lck S s ty i = 0) : S 551 s 0 = 0 ∧ ty = S 552 s 0 ∧ ∃ k, k < sln S s ∧ i = nI k := by
  unfold lck at h
  obtain ⟨l1, l2⟩ := hS.sl hs
  by_cases a : S 551 s 0 = 0
  · rw [if_pos a] at h
    by_cases b : ty = S 552 s 0
    · rw [if_pos b] at h
      by_cases c : 0 ≤ i ∧ i ≤ S 553 s 0 - 1
      · refine ⟨a, b, ?_⟩
        rw [l2] at c
        exact ni_of (by omega) c.1 (by have := ni_ge0 (a := sln S s) (by omega); grind)
      · rw [if_neg c] at h; exact absurd h (by decide)
    · rw [if_neg b] at h; exact absurd h (by decide)
  · rw [if_neg a] at h; exact absurd h (by decide)
theorem C_put {t : Nat} {S M : Mem} (hS : SOK S) (hI : InvC t S M) (s ty i v : Int32) {Q : Int32 → Mem → Prop} (hQ : ∀ M1, InvC (t + 1) (n_put S s ty i v) M1 → FrC M M1 → Q (a_put S s ty i) M1) : wp_X9_put s ty i v M Q := by
  unfold wp_X9_put
  rw [e_X9_sheetAt]
  unfold a_put n_put at hQ
  rcases at4_cases s with ⟨h1, h2⟩ | ⟨k, hk, rfl, h1, h2⟩
  · rw [h1]; simp only [h2, false_and, if_false] at hQ
    exact ⟨fun _ => hQ M hI.more FrC.rf, fun j e => by cases e⟩
  · rw [h1]
    refine ⟨fun e => by (cases e), fun j e => ?_⟩
    cases e
    rw [ni_cl (by omega)] at hQ
    simp only [h2, and_self, true_and, e_X9_isType, e_X9_finding, bi_z, Classical.not_not] at hQ ⊢
    refine ⟨fun h => ?_, fun h => ?_⟩
    · simp only [h, if_false] at hQ; exact hQ M hI.more FrC.rf
    · simp only [h, and_self, if_true] at hQ
      refine p_X7_findingAt hS hI.1 hk ty i ⟨fun g => ?_, fun g => ?_⟩
      · simp only [g, if_true] at hQ
        obtain ⟨e1, e2, a, ha, rfl⟩ := lck_0 hS hk g
        obtain ⟨l1, l2⟩ := hS.sl hk
        rw [ni_cl (by omega)] at hQ
        have fin : Q 1 (mst M 42 k a (nrw ty v)) := hQ _ (hI.sht hI.1.st (fun q hq => mst_ne (fun e => hq (by subst e; decide))) (fun q hq => mst_ne (fun e => hq (by subst e; decide)))) (FrC.st (nrefk (by decide)))
        unfold wp_X7_store w_X7_store_43
        simp only [forall_eq]
        rw [hI.1.k 552, hI.1.k 553, l2, ← e2, ni_cl (by omega)]
        have hin : vp_in (nI a) 40 := (ni_in (by omega)).mpr (by omega)
        refine ⟨fun z => absurd z (ni_nneg (by omega)), fun _ => ⟨fun z => absurd ((ni_le (by omega) (by omega)).mp z) (by omega), fun _ => ⟨fun z => ⟨hin, ?_⟩, fun z => ⟨fun z2 => ⟨hin, ?_⟩, fun z2 => ⟨hin, ?_⟩⟩⟩⟩⟩
        · unfold nrw at fin; rw [if_pos z] at fin; exact fin
        · unfold nrw at fin; rw [if_neg z, if_pos z2] at fin; exact fin
        · unfold nrw at fin; rw [if_neg z, if_neg z2] at fin; exact fin
      · simp only [g, if_false] at hQ
        exact hQ _ (hI.fnd _) frC1
theorem R_put {S M : Mem} (hS : SOK S) (hI : InvR S M) (s ty i v : Int32) {Q : Int32 → Mem → Prop} (hQ : ∀ M1, InvR (n_put S s ty i v) M1 → FrR M M1 → Q (a_put S s ty i) M1) : wp_X10_put s ty i v M Q := by
  unfold wp_X10_put
  simp only [e_X10_isSheet, e_X10_in, e_X10_meets, bi_z, Classical.not_not]
  unfold a_put n_put at hQ
  refine ⟨fun h => ?_, fun h => ⟨fun g => ?_, fun g => ?_⟩⟩
  · simp only [h, false_and, if_false] at hQ; exact hQ M hI FrR.rf
  · simp only [g, and_false, if_false] at hQ; exact hQ M hI FrR.rf
  · obtain ⟨k, hk, rfl⟩ := ni_ofle (n := 3) (by decide) h.1 h.2
    have hk4 : k < 4 := by omega
    have hin4 : vp_in (nI k) 4 := (ni_in (by omega)).mpr hk4
    rw [ni_cl (by omega)] at hQ
    simp only [h, g, and_self, if_true] at hQ
    refine p_X10_lacks hS hI hk4 ty i ⟨fun a => ?_, fun a => ?_⟩
    · have l0 : lck S k ty i = 0 := by rcases lck_or S k ty i with e | e | e | e <;> (rw [e] at a ⊢) <;> first | rfl | exact absurd a (by decide)
      simp only [l0, if_true] at hQ
      obtain ⟨e1, e2, b, hb, rfl⟩ := lck_0 hS hk4 l0
      obtain ⟨l1, l2⟩ := hS.sl hk4
      rw [ni_cl (by omega)] at hQ
      have hx : 40 * nI k + nI b = nI (40 * k + b) := by rw [ni_lit 40, pk_mul, nI_add]
      have fin : Q 1 (mst M 84 0 (40 * k + b) (nrw ty v)) := by
        refine hQ _ (hI.sht (fun q hq => mst_ne (fun e => hq (by subst e; decide))) (fun q hq => mst_ne (fun e => hq (by subst e; decide))) (fun w hw => ?_)) (FrR.st (yrefk (by decide)))
        obtain ⟨r1, r2, r3, r4⟩ := hI.h hw
        refine ⟨by simp [mst_ne, r1], by simp [mst_ne, r2], by simp [mst_ne, r3], fun i hi => ?_⟩
        rw [mst_k, mst_k]
        by_cases e : w = k ∧ i = b
        · rw [if_pos ⟨rfl, by rw [e.1, e.2]⟩, if_pos e]
        · rw [if_neg (fun z => e (by omega)), if_neg e]; exact r4 i hi
      unfold wp_X10_lay w_X10_lay_40
      simp only [forall_eq]
      rw [ni_cl (by omega), (hI.h hk4).2.1, ← e2, hx, ni_cl (by omega)]
      have hin : vp_in (nI (40 * k + b)) 160 := (ni_in (by omega)).mpr (by omega)
      refine ⟨hin4, fun z => ⟨hin, ?_⟩, fun z => ⟨hin4, fun z2 => ⟨hin, ?_⟩, fun z2 => ⟨hin, ?_⟩⟩⟩
      · unfold nrw at fin; rw [if_pos z] at fin; exact fin
      · unfold nrw at fin; rw [if_neg z, if_pos z2] at fin; exact fin
      · unfold nrw at fin; rw [if_neg z, if_neg z2] at fin; exact fin
    · have l0 : ¬ lck S k ty i = 0 := fun e => a (by rw [e]; decide)
      simp only [l0, if_false] at hQ
      exact hQ _ (hI.fnd _) frR1
theorem S_put {S : Mem} (h : SOK S) (s ty i v : Int32) : SOK (n_put S s ty i v) := by
  unfold n_put
  by_cases q : (0 ≤ s ∧ s ≤ 3) ∧ (0 ≤ ty ∧ ty ≤ 2)
  · rw [if_pos q]
    by_cases g : lck S s.toNatClampNeg ty i = 0
    · rw [if_pos g]
      refine h.sht (fun q hq => mst_ne (fun e => hq (by subst e; decide))) (fun w hw => ?_)
      exact (h.h hw).congr (by simp [mst_ne])
    · rw [if_neg g]; exact h.fnd _
  · rw [if_neg q]; exact h
def a_get (S : Mem) (s ty i : Int32) : Int32 := if ((0 ≤ s ∧ s ≤ 3) ∧ (0 ≤ ty ∧ ty ≤ 2)) ∧ lck S s.toNatClampNeg ty i = 0 then S 42 s.toNatClampNeg i.toNatClampNeg else -2147483648
def n_get (S : Mem) (s ty i : Int32) : Mem := if ((0 ≤ s ∧ s ≤ 3) ∧ (0 ≤ ty ∧ ty ≤ 2)) ∧ ¬ lck S s.toNatClampNeg ty i = 0 then mst S 661 0 0 (lck S s.toNatClampNeg ty i) else S
theorem C_get {t : Nat} {S M : Mem} (hS : SOK S) (hI : InvC t S M) (s ty i : Int32) {Q : Int32 → Mem → Prop} (hQ : ∀ M1, InvC (t + 1) (n_get S s ty i) M1 → FrC M M1 → Q (a_get S s ty i) M1) : wp_X9_get s ty i M Q := by
  unfold wp_X9_get
  rw [e_X9_sheetAt]
  unfold a_get n_get at hQ
  rcases at4_cases s with ⟨h1, h2⟩ | ⟨k, hk, rfl, h1, h2⟩
  · rw [h1]; simp only [h2, false_and, if_false] at hQ
    exact ⟨fun _ => hQ M hI.more FrC.rf, fun j e => by cases e⟩
  · rw [h1]
    refine ⟨fun e => by (cases e), fun j e => ?_⟩
    cases e
    rw [ni_cl (by omega)] at hQ
    simp only [h2, and_self, true_and, e_X9_isType, bi_z, Classical.not_not, forall_eq] at hQ ⊢
    refine ⟨fun h => ?_, fun h => ?_⟩
    · simp only [h, false_and, if_false] at hQ; exact hQ M hI.more FrC.rf
    · simp only [h, and_self, true_and] at hQ
      refine p_X7_findingAt hS hI.1 hk ty i ⟨fun g => ?_, fun g => ?_⟩
      · simp only [g, not_true, if_true, if_false] at hQ
        obtain ⟨e1, e2, a, ha, rfl⟩ := lck_0 hS hk g
        have l1 := (hS.sl hk).1
        rw [hI.1.k 42]
        exact ⟨(ni_in (by omega)).mpr (by omega), hQ M hI.more FrC.rf⟩
      · simp only [g, not_false_eq_true, if_true, if_false] at hQ
        exact hQ _ (hI.fnd _) frC1
theorem R_get {S M : Mem} (hS : SOK S) (hI : InvR S M) (s ty i : Int32) {Q : Int32 → Mem → Prop} (hQ : ∀ M1, InvR (n_get S s ty i) M1 → FrR M M1 → Q (a_get S s ty i) M1) : wp_X10_get s ty i M Q := by
  unfold wp_X10_get
  simp only [e_X10_isSheet, e_X10_in, bi_z, Classical.not_not, forall_eq]
  unfold a_get n_get at hQ
  refine ⟨fun h => ?_, fun h => ⟨fun g => ?_, fun g => ?_⟩⟩
  · simp only [h, false_and, if_false] at hQ; exact hQ M hI FrR.rf
  · simp only [g, and_false, false_and, if_false] at hQ; exact hQ M hI FrR.rf
  · obtain ⟨k, hk, rfl⟩ := ni_ofle (n := 3) (by decide) h.1 h.2
    have hk4 : k < 4 := by omega
    rw [ni_cl (by omega)] at hQ
    simp only [h, g, and_self, true_and] at hQ
    refine p_X10_lacks hS hI hk4 ty i ⟨fun a => ?_, fun a => ?_⟩
    · have l0 : lck S k ty i = 0 := by rcases lck_or S k ty i with e | e | e | e <;> (rw [e] at a ⊢) <;> first | rfl | exact absurd a (by decide)
      simp only [l0, not_true, if_true, if_false] at hQ
      obtain ⟨e1, e2, b, hb, rfl⟩ := lck_0 hS hk4 l0
      have l1 := (hS.sl hk4).1
      have hx : 40 * nI k + nI b = nI (40 * k + b) := by rw [ni_lit 40, pk_mul, nI_add]
      rw [hx, ni_cl (by omega), (hI.h hk4).2.2.2 b (by omega)]
      rw [ni_cl (by omega)] at hQ
      exact ⟨(ni_in (by omega)).mpr (by omega), hQ M hI FrR.rf⟩
    · have l0 : ¬ lck S k ty i = 0 := fun e => a (by rw [e]; decide)
      simp only [l0, not_false_eq_true, if_true, if_false] at hQ
      exact hQ _ (hI.fnd _) frR1
theorem S_get {S : Mem} (h : SOK S) (s ty i : Int32) : SOK (n_get S s ty i) := by
  unfold n_get
  by_cases q : ((0 ≤ s ∧ s ≤ 3) ∧ (0 ≤ ty ∧ ty ≤ 2)) ∧ ¬ lck S s.toNatClampNeg ty i = 0
  · rw [if_pos q]; exact h.fnd _
  · rw [if_neg q]; exact h
