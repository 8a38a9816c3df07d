/-! COPY -/
theorem l_sm {a b c : Int32} : (a.toInt64 + b.toInt64 ≤ c.toInt64) ↔ a.toInt + b.toInt ≤ c.toInt := by
  rw [Int64.le_iff_toInt_le, Int64.toInt_add, Int32.toInt_toInt64, Int32.toInt_toInt64, Int32.toInt_toInt64]
  have a1 := a.le_toInt
  have a2 := a.toInt_lt
  have b1 := b.le_toInt
  have b2 := b.toInt_lt
  rw [Int.bmod_eq_of_le (by omega) (by omega)]
/-- the stretch lies inside -/
abbrev hasI (S : Mem) (s : Nat) (i n : Int32) : Prop := ¬ i < 0 ∧ ¬ n < 0 ∧ ¬ S 553 s 0 < n ∧ ¬ S 553 s 0 - n < i
theorem hasI_ex {S : Mem} (hS : SOK S) {s : Nat} (hs : s < 4) {i n : Int32} : hasI S s i n ↔ ∃ a b : Nat, i = nI a ∧ n = nI b ∧ a + b ≤ sln S s := by
  obtain ⟨l1, l2⟩ := hS.sl hs
  unfold hasI
  rw [l2]
  constructor
  · rintro ⟨h1, h2, h3, h4⟩
    obtain ⟨a, ha, rfl⟩ := nI_of h1
    obtain ⟨b, hb, rfl⟩ := nI_of h2
    rw [ni_lt (by omega) (by omega)] at h3
    rw [ni_sub (by omega), ni_lt (by omega) (by omega)] at h4
    exact ⟨a, b, rfl, rfl, by omega⟩
  · rintro ⟨a, b, rfl, rfl, h⟩
    rw [ni_sub (by omega), ni_lt (by omega) (by omega), ni_lt (by omega) (by omega)]
    exact ⟨ni_nneg (by omega), ni_nneg (by omega), by omega, by omega⟩
theorem hasI_l {S : Mem} (hS : SOK S) {s : Nat} (hs : s < 4) {i n : Int32} : hasI S s i n ↔ ¬ i < 0 ∧ ¬ n < 0 ∧ i.toInt64 + n.toInt64 ≤ (S 553 s 0).toInt64 := by
  obtain ⟨l1, l2⟩ := hS.sl hs
  rw [hasI_ex hS hs, l_sm, l2, nI_toInt (by omega)]
  constructor
  · rintro ⟨a, b, rfl, rfl, h⟩
    rw [nI_toInt (by omega), nI_toInt (by omega)]
    exact ⟨ni_nneg (by omega), ni_nneg (by omega), by omega⟩
  · rintro ⟨h1, h2, h3⟩
    obtain ⟨a, ha, rfl⟩ := nI_of h1
    obtain ⟨b, hb, rfl⟩ := nI_of h2
    rw [nI_toInt (by omega), nI_toInt (by omega)] at h3
    exact ⟨a, b, rfl, rfl, by omega⟩
def a_copy (S : Mem) (s i t j n : Int32) : Int32 := if (0 ≤ s ∧ s ≤ 3) ∧ (0 ≤ t ∧ t ≤ 3) then (if S 551 s.toNatClampNeg 0 = 0 ∧ S 551 t.toNatClampNeg 0 = 0 then (if S 552 s.toNatClampNeg 0 = S 552 t.toNatClampNeg 0 then (if hasI S s.toNatClampNeg i n ∧ hasI S t.toNatClampNeg j n then 1 else -12) else -14) else -11) else -2
def n_copy (S : Mem) (s i t j n : Int32) : Mem := if (0 ≤ s ∧ s ≤ 3) ∧ (0 ≤ t ∧ t ≤ 3) then (if S 551 s.toNatClampNeg 0 = 0 ∧ S 551 t.toNatClampNeg 0 = 0 then (if S 552 s.toNatClampNeg 0 = S 552 t.toNatClampNeg 0 then (if hasI S s.toNatClampNeg i n ∧ hasI S t.toNatClampNeg j n then mcp S 42 t.toNatClampNeg j.toNatClampNeg 42 s.toNatClampNeg i.toNatClampNeg n.toNatClampNeg else mst S 661 0 0 2) else mst S 661 0 0 4) else mst S 661 0 0 1) else S
theorem e_X7_hasItems {s : Nat} {i n : Int32} {M : Mem} {Q : Int32 → Mem → Prop} : wp_X7_hasItems s i n M Q ↔ Q (bi (hasI M s i n)) M := by
  unfold wp_X7_hasItems hasI
  by_cases h1 : i < 0
  · simp [h1, bi]
  · by_cases h2 : n < 0
    · simp [h1, h2, bi]
    · by_cases h3 : M 553 s 0 < n
      · simp [h1, h2, h3, bi]
      · by_cases h4 : M 553 s 0 - n < i
        · simp [h1, h2, h3, h4, bi]
        · simp [h1, h2, h3, h4, bi]
theorem C_copy {t : Nat} {S M : Mem} (hS : SOK S) (hI : InvC t S M) (s i u j n : Int32) {Q : Int32 → Mem → Prop} (hQ : ∀ M1, InvC (t + 1) (n_copy S s i u j n) M1 → FrC M M1 → Q (a_copy S s i u j n) M1) : wp_X9_copy s i u j n M Q := by
  unfold wp_X9_copy w_X9_copy_43 w_X9_copy_91
  simp only [e_X9_sheetAt, e_X9_finding, e_X7_hasItems]
  unfold a_copy n_copy at hQ
  rcases at4_cases s with ⟨h1, h2⟩ | ⟨k, hk, rfl, h1, h2⟩
  · rw [h1]; simp only [h2, false_and, if_false] at hQ
    exact ⟨fun _ => ⟨fun _ => hQ M hI.more FrC.rf, fun _ _ => hQ M hI.more FrC.rf⟩, fun j e => by cases e⟩
  · rw [h1]
    refine ⟨fun e => by (cases e), fun j e => ?_⟩
    cases e
    rcases at4_cases u with ⟨g1, g2⟩ | ⟨l, hl, rfl, g1, g2⟩
    · rw [g1]; simp only [g2, and_false, if_false] at hQ
      exact ⟨fun _ => hQ M hI.more FrC.rf, fun j e => by cases e⟩
    · rw [g1]
      refine ⟨fun e => by (cases e), fun j e => ?_⟩
      cases e
      rw [ni_cl (show k < 2147483648 by omega), ni_cl (show l < 2147483648 by omega)] at hQ
      simp only [h2, g2, and_self, if_true] at hQ
      have e553 := hI.1.k 553
      unfold hasI at hQ ⊢
      rw [hI.1.k 551, hI.1.k 552, e553]
      refine ⟨fun a => ⟨fun b => ⟨fun c => ?_, fun c => ?_⟩, fun b => ?_⟩, fun a => ?_⟩
      · simp only [a, b, c, and_self, if_true, bi_z, Classical.not_not] at hQ ⊢
        refine ⟨fun d => ?_, fun d => ⟨fun e => ?_, fun e => ?_⟩⟩
        · simp only [d, false_and, if_false] at hQ; exact hQ _ (hI.fnd 2) frC1
        · simp only [e, and_false, if_false] at hQ; exact hQ _ (hI.fnd 2) frC1
        · have d' := (hasI_ex hS hk).mp d
          have e' := (hasI_ex hS hl).mp e
          simp only [d, e, and_self, if_true] at hQ
          obtain ⟨a', b', rfl, rfl, q1⟩ := d'
          obtain ⟨c', d', rfl, q2, q3⟩ := e'
          have lk := (hS.sl hk).1
          have ll := (hS.sl hl).1
          have bd : b' = d' := by
            have hb : b' < 2147483648 := by omega
            exact (ni_eq hb (by omega)).mp q2
          subst bd
          rw [ni_cl (show a' < 2147483648 by omega), ni_cl (show b' < 2147483648 by omega), ni_cl (show c' < 2147483648 by omega)] at hQ ⊢
          refine ⟨ni_nneg (by omega), ni_nneg (by omega), ni_nneg (by omega), by omega, by omega, ?_⟩
          rintro _ rfl
          exact hQ _ (hI.sht (hI.1.cp (by decide)) (fun q hq => mcp_ne (fun e => hq (by subst e; decide))) (fun q hq => mcp_ne (fun e => hq (by subst e; decide)))) (FrC.cp (nrefk (by decide)))
      · simp only [a, b, c, and_self, if_true, if_false] at hQ; exact hQ _ (hI.fnd 4) frC1
      · simp only [b, and_false, if_false] at hQ; exact hQ _ (hI.fnd 1) frC1
      · simp only [a, false_and, if_false] at hQ; exact hQ _ (hI.fnd 1) frC1
theorem R_copy {S M : Mem} (hS : SOK S) (hI : InvR S M) (s i u j n : Int32) {Q : Int32 → Mem → Prop} (hQ : ∀ M1, InvR (n_copy S s i u j n) M1 → FrR M M1 → Q (a_copy S s i u j n) M1) : wp_X10_copy s i u j n M Q := by
  unfold wp_X10_copy w_X10_copy_35 w_X10_copy_111
  simp only [e_X10_isSheet, e_X10_meets, bi_z, Classical.not_not]
  unfold a_copy n_copy at hQ
  refine ⟨fun h => ?_, fun h => ⟨fun g => ?_, fun g => ?_⟩⟩
  · simp only [h, false_and, if_false] at hQ; exact hQ M hI FrR.rf
  · simp only [g, and_false, if_false] at hQ; exact hQ M hI FrR.rf
  · obtain ⟨k, hk, rfl⟩ := ni_ofle (n := 3) (by decide) h.1 h.2
    obtain ⟨l, hl, rfl⟩ := ni_ofle (n := 3) (by decide) g.1 g.2
    have hk4 : k < 4 := by omega
    have hl4 : l < 4 := by omega
    have ink : vp_in (nI k) 4 := (ni_in (by omega)).mpr hk4
    have inl : vp_in (nI l) 4 := (ni_in (by omega)).mpr hl4
    rw [ni_cl (show k < 2147483648 by omega), ni_cl (show l < 2147483648 by omega)] at hQ ⊢
    simp only [h, g, and_self, if_true] at hQ
    obtain ⟨r1, r2, r3, r4⟩ := hI.h hk4
    obtain ⟨t1, t2, t3, t4⟩ := hI.h hl4
    have e1 : M 81 0 k = 0 ↔ ¬ S 551 k 0 = 0 := by rcases there hS hI hk4 with ⟨e1, e2⟩ | ⟨e1, e2⟩ <;> rw [e1, e2] <;> decide
    have e2 : M 81 0 l = 0 ↔ ¬ S 551 l 0 = 0 := by rcases there hS hI hl4 with ⟨e1, e2⟩ | ⟨e1, e2⟩ <;> rw [e1, e2] <;> decide
    rw [e1, e2, r2, t2, r3, t3, lg_cmp_gt, lg_cmp_le]
    have no (h : ¬ (hasI S k i n ∧ hasI S l j n)) (c : S 552 k 0 = S 552 l 0) (a : S 551 k 0 = 0) (b : S 551 l 0 = 0) : Q (-10 - 2) (mst M 747 0 0 2) := by
      simp only [a, b, and_self, if_true] at hQ
      rw [if_pos c, if_pos c, if_neg h, if_neg h] at hQ
      exact hQ _ (hI.fnd 2) frR1
    refine ⟨ink, fun a => ?_, fun a => ⟨inl, fun b => ?_, fun b => ⟨ink, inl, fun c => ⟨fun d => ?_, fun d => ⟨fun e => ?_, fun e => ⟨fun f => ?_, fun f => ⟨ink, fun x => ?_, fun x => ⟨inl, fun y => ?_, fun y => ?_⟩⟩⟩⟩⟩, fun c => ?_⟩⟩⟩
    · simp only [a, false_and, if_false] at hQ; exact hQ _ (hI.fnd 1) frR1
    · simp only [b, and_false, if_false] at hQ; exact hQ _ (hI.fnd 1) frR1
    · exact no (fun q => q.1.1 d) c (Classical.not_not.mp a) (Classical.not_not.mp b)
    · exact no (fun q => q.2.1 e) c (Classical.not_not.mp a) (Classical.not_not.mp b)
    · exact no (fun q => q.1.2.1 f) c (Classical.not_not.mp a) (Classical.not_not.mp b)
    · exact no (fun q => absurd ((hasI_l hS hk4).mp q.1).2.2 (Int64.not_le.mpr x)) c (Classical.not_not.mp a) (Classical.not_not.mp b)
    · have d1 : hasI S k i n := (hasI_l hS hk4).mpr ⟨d, f, Int64.not_lt.mp x⟩
      have d2 : hasI S l j n := (hasI_l hS hl4).mpr ⟨e, f, y⟩
      have d1' := (hasI_ex hS hk4).mp d1
      have d2' := (hasI_ex hS hl4).mp d2
      simp only [Classical.not_not.mp a, Classical.not_not.mp b, and_self, if_true] at hQ
      rw [if_pos c, if_pos c, if_pos ⟨d1, d2⟩, if_pos ⟨d1, d2⟩] at hQ
      obtain ⟨a', b', rfl, rfl, q1⟩ := d1'
      obtain ⟨c', d', rfl, q2, q3⟩ := d2'
      have lk := (hS.sl hk4).1
      have ll := (hS.sl hl4).1
      have bd : b' = d' := by
        have hb : b' < 2147483648 := by omega
        exact (ni_eq hb (by omega)).mp q2
      subst bd
      rw [ni_cl (show a' < 2147483648 by omega), ni_cl (show b' < 2147483648 by omega), ni_cl (show c' < 2147483648 by omega)] at hQ
      refine pk_loop (fun f i (s : Mem) => w_X10_copy_120 Q f (nI k) (nI a') (nI l) (nI c') (nI b') (nI i) s) (fun i s => s = mcp M 85 0 0 84 0 (40 * k + a') i) b' 0 _ (Nat.zero_le _) mcp_0.symm ?_ ?_
      · rintro f s rfl
        refine ⟨fun _ => ?_, fun h => absurd ((ni_le (by omega) (by omega)).mpr (Nat.le_refl _)) h⟩
        refine pk_loop (fun f i (s : Mem) => w_X10_copy_157 Q f (nI l) (nI c') (nI b') (nI i) s) (fun i s => s = mcp (mcp M 85 0 0 84 0 (40 * k + a') b') 84 0 (40 * l + c') 85 0 0 i) b' 0 _ (Nat.zero_le _) mcp_0.symm ?_ ?_
        · rintro f s rfl
          refine ⟨fun _ => ?_, fun h => absurd ((ni_le (by omega) (by omega)).mpr (Nat.le_refl _)) h⟩
          have w1 : mcp (mcp M 85 0 0 84 0 (40 * k + a') b') 84 0 (40 * l + c') 85 0 0 b' 85 = mcp M 85 0 0 84 0 (40 * k + a') b' 85 := mcp_ne (by decide)
          have hM1 : InvR S (mcp M 85 0 0 84 0 (40 * k + a') b') := hI.keep (fun q hq => mcp_ne (by revert hq; revert q; decide))
          refine hQ _ (hM1.sht (fun q hq => mcp_ne (fun e => hq (by subst e; decide))) (fun q hq => mcp_ne (fun e => hq (by subst e; decide))) (fun w hw => ?_)) ((FrR.cp (yrefk (by decide))).tr (FrR.cp (yrefk (by decide))))
          obtain ⟨v1, v2, v3, v4⟩ := hI.h hw
          refine ⟨by rw [mcp_ne (by decide), mcp_ne (by decide), mcp_ne (by decide)]; exact v1, by rw [mcp_ne (by decide), mcp_ne (by decide), mcp_ne (by decide)]; exact v2, by rw [mcp_ne (by decide), mcp_ne (by decide), mcp_ne (by decide)]; exact v3, fun i hi => ?_⟩
          rw [mcp_k (M := S), mcp_k (k := 84)]
          by_cases z : w = l ∧ (c' ≤ i ∧ i < c' + b')
          · rw [if_pos ⟨rfl, by omega⟩, if_pos z, mcp_k (k := 85), if_pos ⟨rfl, by omega⟩]
            rw [show 40 * k + a' + (0 + (40 * w + i - (40 * l + c')) - 0) = 40 * k + (a' + (i - c')) by omega]
            exact r4 _ (by omega)
          · rw [if_neg (by omega), if_neg z, mcp_ne (by decide)]
            exact v4 i hi
        · rintro f i s hi rfl ih
          have hx : 40 * nI l + nI c' + nI i = nI (40 * l + c' + i) := by rw [ni_lit 40, pk_mul, nI_add, nI_add]
          refine ⟨fun h => absurd ((ni_le (by omega) (by omega)).mp h) (by omega), fun _ => ?_⟩
          rw [hx, ni_cl (by omega), ni_cl (by omega), nI_1]
          refine ⟨(ni_in (by omega)).mpr (by omega), (ni_in (by omega)).mpr (by omega), ?_⟩
          rintro _ rfl
          refine ih _ ?_
          rw [← mcp_s, mcp_ne (by decide), Nat.zero_add]
      · rintro f i s hi rfl ih
        have hx : 40 * nI k + nI a' + nI i = nI (40 * k + a' + i) := by rw [ni_lit 40, pk_mul, nI_add, nI_add]
        refine ⟨fun h => absurd ((ni_le (by omega) (by omega)).mp h) (by omega), fun _ => ?_⟩
        rw [hx, ni_cl (by omega), ni_cl (by omega), nI_1]
        refine ⟨(ni_in (by omega)).mpr (by omega), (ni_in (by omega)).mpr (by omega), ?_⟩
        rintro _ rfl
        refine ih _ ?_
        rw [← mcp_s, mcp_ne (by decide), Nat.zero_add]
    · exact no (fun q => absurd ((hasI_l hS hl4).mp q.2).2.2 y) c (Classical.not_not.mp a) (Classical.not_not.mp b)
    · simp only [Classical.not_not.mp a, Classical.not_not.mp b, and_self, if_true] at hQ
      rw [if_neg c, if_neg c] at hQ
      exact hQ _ (hI.fnd 4) frR1
theorem S_copy {S : Mem} (h : SOK S) (s i u j n : Int32) : SOK (n_copy S s i u j n) := by
  unfold n_copy
  by_cases q : (0 ≤ s ∧ s ≤ 3) ∧ (0 ≤ u ∧ u ≤ 3)
  · rw [if_pos q]
    by_cases g : S 551 s.toNatClampNeg 0 = 0 ∧ S 551 u.toNatClampNeg 0 = 0
    · rw [if_pos g]
      by_cases x : S 552 s.toNatClampNeg 0 = S 552 u.toNatClampNeg 0
      · rw [if_pos x]
        by_cases y : hasI S s.toNatClampNeg i n ∧ hasI S u.toNatClampNeg j n
        · rw [if_pos y]
          refine h.sht (fun q hq => mcp_ne (fun e => hq (by subst e; decide))) (fun w hw => ?_)
          exact (h.h hw).congr (fun q hq => by rw [mcp_ne (by revert hq; revert q; decide)])
        · rw [if_neg y]; exact h.fnd _
      · rw [if_neg x]; exact h.fnd _
    · rw [if_neg g]; exact h.fnd _
  · rw [if_neg q]; exact h
