/-! WRITE -/
theorem ev9 {x : Int32} (h : rng x (-1) 7) : x = -1 ∨ ∃ k, k < 8 ∧ x = nI k := by
  obtain ⟨h1, h2⟩ := h
  by_cases e : x.toInt = -1
  · left; rw [ti_eq, e]; decide
  · right
    have h0 : (0 : Int32) ≤ x := ti_le.mpr (by have : (0 : Int32).toInt = 0 := by decide
                                               omega)
    have h7 : x ≤ nI 7 := ti_le.mpr (by rw [nI_toInt (by decide)]; omega)
    obtain ⟨k, hk, rfl⟩ := ni_ofle (n := 7) (by decide) h0 h7
    exact ⟨k, by omega, rfl⟩
theorem nrwB8 : ∀ k, k < 8 → (nI k).toInt8.toInt32 = nI k := by decide +kernel
theorem nrwS8 : ∀ k, k < 8 → (nI k).toInt16.toInt32 = nI k := by decide +kernel
theorem nrwB {x : Int32} (h : rng x (-1) 7) : x.toInt8.toInt32 = x := by
  rcases ev9 h with rfl | ⟨k, hk, rfl⟩
  · decide
  · exact nrwB8 k hk
theorem nrwS {x : Int32} (h : rng x (-1) 7) : x.toInt16.toInt32 = x := by
  rcases ev9 h with rfl | ⟨k, hk, rfl⟩
  · decide
  · exact nrwS8 k hk
theorem ni_min {a b : Nat} (ha : a < 2147483648) (hb : b < 2147483648) : (if nI b < nI a then nI b else nI a) = nI (min a b) := by
  by_cases h : b < a
  · rw [if_pos ((ni_lt hb ha).mpr h)]; congr 1; omega
  · rw [if_neg (fun q => h ((ni_lt hb ha).mp q))]; congr 1; omega
def wrm (S : Mem) (c s : Nat) : Nat := min (cln S c) (sln S s)
def a_write (S : Mem) (c s : Int32) : Int32 := if (0 ≤ c ∧ c ≤ S 660 0 0 - 1) ∧ (0 ≤ s ∧ s ≤ 3) then (if S 551 s.toNatClampNeg 0 = 0 then nI (wrm S c.toNatClampNeg s.toNatClampNeg) else -11) else -2
def n_write (S : Mem) (c s : Int32) : Mem := if (0 ≤ c ∧ c ≤ S 660 0 0 - 1) ∧ (0 ≤ s ∧ s ≤ 3) then (if S 551 s.toNatClampNeg 0 = 0 then mcp S 42 s.toNatClampNeg 0 20 c.toNatClampNeg 0 (wrm S c.toNatClampNeg s.toNatClampNeg) else mst S 661 0 0 1) else S
theorem C_write {t : Nat} {S M : Mem} (hS : SOK S) (hI : InvC t S M) (c s : Int32) {Q : Int32 → Mem → Prop} (hQ : ∀ M1, InvC (t + 1) (n_write S c s) M1 → FrC M M1 → Q (a_write S c s) M1) : wp_X9_write c s M Q := by
  unfold wp_X9_write
  simp only [e_X9_counterAt, e_X9_sheetAt, e_X9_finding]
  unfold a_write n_write at hQ
  rcases atC_cases hS hI.1 c with ⟨h1, h2⟩ | ⟨k, hk, rfl, h1, h2⟩
  · rw [h1]; unfold okC at h2; simp only [h2, false_and, if_false] at hQ
    exact ⟨fun _ => ⟨fun _ => hQ M hI.more FrC.rf, fun _ _ => hQ M hI.more FrC.rf⟩, fun j e => by cases e⟩
  · rw [h1]; unfold okC at h2; simp only [h2, and_self, true_and, cn_cl hS hk] at hQ
    refine ⟨fun e => by (cases e), fun j e => ?_⟩
    cases e
    rcases at4_cases s with ⟨g1, g2⟩ | ⟨l, hl, rfl, g1, g2⟩
    · rw [g1]; simp only [g2, if_false] at hQ
      exact ⟨fun _ => hQ M hI.more FrC.rf, fun j e => by cases e⟩
    · rw [g1]
      refine ⟨fun e => by (cases e), fun j e => ?_⟩
      cases e
      rw [ni_cl (show l < 2147483648 by omega)] at hQ
      simp only [g2, and_self, if_true, e_J9_min] at hQ ⊢
      have c1 := (hS.cl hk).1
      have s1 := (hS.sl hl).1
      rw [hI.1.k 551, hI.1.k 202, hI.1.k 553, (hS.cl hk).2, (hS.sl hl).2, ni_min (by omega) (by omega)]
      refine ⟨fun a => ?_, fun a => ?_⟩
      · simp only [a, if_true] at hQ
        have hm : wrm S k l = min (cln S k) (sln S l) := rfl
        rw [← hm]
        have e0 : (0 : Int32).toNatClampNeg = 0 := rfl
        rw [ni_cl (by omega), e0]
        refine ⟨by decide, by decide, ni_nneg (by omega), by omega, by omega, ?_⟩
        rintro _ rfl
        exact hQ _ (hI.sht (hI.1.cp (by decide)) (fun q hq => mcp_ne (fun e => hq (by subst e; decide))) (fun q hq => mcp_ne (fun e => hq (by subst e; decide)))) (FrC.cp (nrefk (by decide)))
      · simp only [a, if_false] at hQ; exact hQ _ (hI.fnd 1) frC1
theorem p_X10_lay {M : Mem} {s i : Nat} {v : Int32} {Q : Mem → Prop} (hs : s < 4) (hi : i < 40) (hv : rng v (-1) 7) (hQ : Q (mst M 84 0 (40 * s + i) v)) : wp_X10_lay (nI s) (nI i) v M Q := by
  have hx : 40 * nI s + nI i = nI (40 * s + i) := by rw [ni_lit 40, pk_mul, nI_add]
  have hin4 : vp_in (nI s) 4 := (ni_in (by omega)).mpr hs
  have hin : vp_in (nI (40 * s + i)) 160 := (ni_in (by omega)).mpr (by omega)
  unfold wp_X10_lay w_X10_lay_40
  simp only [forall_eq]
  rw [hx, ni_cl (show 40 * s + i < 2147483648 by omega), nrwB hv, nrwS hv]
  exact ⟨hin4, fun _ => ⟨hin, hQ⟩, fun _ => ⟨hin4, fun _ => ⟨hin, hQ⟩, fun _ => ⟨hin, hQ⟩⟩⟩
theorem R_write {S M : Mem} (hS : SOK S) (hI : InvR S M) (c s : Int32) {Q : Int32 → Mem → Prop} (hQ : ∀ M1, InvR (n_write S c s) M1 → FrR M M1 → Q (a_write S c s) M1) : wp_X10_write c s M Q := by
  unfold wp_X10_write
  simp only [e_X10_isCounter, e_X10_isSheet, e_X10_meets, bi_z, Classical.not_not]
  unfold a_write n_write at hQ
  rw [hI.n]
  refine ⟨fun h => ?_, fun h => ⟨fun g => ?_, fun g => ?_⟩⟩
  · simp only [h, false_and, if_false] at hQ; exact hQ M hI FrR.rf
  · simp only [g, and_false, if_false] at hQ; exact hQ M hI FrR.rf
  · obtain ⟨k, hk, rfl⟩ := okC_nat hS h
    obtain ⟨l, hl, rfl⟩ := ni_ofle (n := 3) (by decide) g.1 g.2
    have hl4 : l < 4 := by omega
    have inl : vp_in (nI l) 4 := (ni_in (by omega)).mpr hl4
    rw [ni_cl (show l < 2147483648 by omega)] at hQ ⊢
    simp only [h, g, and_self, if_true, cn_cl hS hk] at hQ
    obtain ⟨r1, r2, r3, r4⟩ := hI.c hk
    obtain ⟨t1, t2, t3, t4⟩ := hI.h hl4
    obtain ⟨c1, c2⟩ := hS.cl hk
    obtain ⟨s1, s2⟩ := hS.sl hl4
    have n1 := hS.ncs.1
    have e2 : M 81 0 l = 0 ↔ ¬ S 551 l 0 = 0 := by rcases there hS hI hl4 with ⟨e1, e2⟩ | ⟨e1, e2⟩ <;> rw [e1, e2] <;> decide
    rw [e2]
    refine ⟨inl, fun a => ?_, fun a => ?_⟩
    · simp only [a, if_false] at hQ; exact hQ _ (hI.fnd 1) frR1
    · simp only [Classical.not_not.mp a, if_true] at hQ
      have hm : wrm S k l = min (cln S k) (sln S l) := rfl
      refine pk_loop (fun f i (s : Mem) => w_X10_write_35 Q f (nI k) (nI l) (nI i) s) (fun i s => s = mcp M 84 0 (40 * l) 66 0 (12 * k) i) (wrm S k l) 0 _ (Nat.zero_le _) mcp_0.symm ?_ ?_
      · rintro f s rfl
        have fin : Q (nI (wrm S k l)) (mcp M 84 0 (40 * l) 66 0 (12 * k) (wrm S k l)) := by
          refine hQ _ (hI.sht (fun q hq => mcp_ne (fun e => hq (by subst e; decide))) (fun q hq => mcp_ne (fun e => hq (by subst e; decide))) (fun w hw => ?_)) (FrR.cp (yrefk (by decide)))
          obtain ⟨v1, v2, v3, v4⟩ := hI.h hw
          refine ⟨by rw [mcp_ne (by decide), mcp_ne (by decide)]; exact v1, by rw [mcp_ne (by decide), mcp_ne (by decide)]; exact v2, by rw [mcp_ne (by decide), mcp_ne (by decide)]; exact v3, fun i hi => ?_⟩
          rw [mcp_k (M := S), mcp_k (k := 84)]
          by_cases z : w = l ∧ (0 ≤ i ∧ i < 0 + wrm S k l)
          · rw [if_pos ⟨rfl, by omega⟩, if_pos z]
            rw [show 12 * k + (40 * w + i - 40 * l) = 12 * k + (0 + (i - 0)) by omega]
            exact r3 _ (by omega)
          · rw [if_neg (by omega), if_neg z]
            exact v4 i hi
        refine ⟨cn_in hS hk, ?_⟩
        rw [mcp_ne (show 65 ≠ 84 by decide), mcp_ne (show 83 ≠ 84 by decide), cn_cl hS hk, ni_cl (show l < 2147483648 by omega), r2, t3, c2, s2]
        refine ⟨fun _ => fin, fun x => ⟨inl, fun _ => fin, fun y => ?_⟩⟩
        rw [ni_le (by omega) (by omega)] at x y
        omega
      · rintro f i s hi rfl ih
        have hx : 12 * nI k + nI i = nI (12 * k + i) := by rw [ni_lit 12, pk_mul, nI_add]
        refine ⟨cn_in hS hk, ?_⟩
        rw [mcp_ne (show 65 ≠ 84 by decide), mcp_ne (show 83 ≠ 84 by decide), mcp_ne (show 66 ≠ 84 by decide), cn_cl hS hk, ni_cl (show l < 2147483648 by omega), r2, t3, c2, s2, hx, ni_cl (show 12 * k + i < 2147483648 by omega), r3 i (by omega)]
        refine ⟨fun x => absurd ((ni_le (by omega) (by omega)).mp x) (by omega), fun _ => ⟨inl, fun x => absurd ((ni_le (by omega) (by omega)).mp x) (by omega), fun _ => ⟨(ni_in (by omega)).mpr (by omega), ?_⟩⟩⟩
        refine p_X10_lay hl4 (by omega) ((hS.c hk).2.2.1 i) ?_
        rw [nI_1]
        refine ih _ ?_
        rw [← mcp_s, r3 i (by omega)]
theorem S_write {S : Mem} (h : SOK S) (c s : Int32) : SOK (n_write S c s) := by
  unfold n_write
  by_cases q : (0 ≤ c ∧ c ≤ S 660 0 0 - 1) ∧ (0 ≤ s ∧ s ≤ 3)
  · rw [if_pos q]
    by_cases g : S 551 s.toNatClampNeg 0 = 0
    · rw [if_pos g]
      refine h.sht (fun q hq => mcp_ne (fun e => hq (by subst e; decide))) (fun w hw => ?_)
      exact (h.h hw).congr (fun q hq => by rw [mcp_ne (by revert hq; revert q; decide)])
    · rw [if_neg g]; exact h.fnd _
  · rw [if_neg q]; exact h
