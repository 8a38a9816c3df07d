/-! FILLING A STRETCH -/
def mfl (M : Mem) (k j a n : Nat) (v : Int32) : Mem := fun k' => if k' = k then (fun j' i' => if j' = j ∧ (a ≤ i' ∧ i' < a + n) then v else M k j' i') else M k'
theorem mfl_ne {M : Mem} {k j a n : Nat} {v : Int32} {k' : Nat} (h : k' ≠ k) : mfl M k j a n v k' = M k' := if_neg h
theorem mfl_k {M : Mem} {k j a n : Nat} {v : Int32} {j' i' : Nat} : mfl M k j a n v k j' i' = if j' = j ∧ (a ≤ i' ∧ i' < a + n) then v else M k j' i' := by simp [mfl]
theorem mfl_0 {M : Mem} {k j a : Nat} {v : Int32} : mfl M k j a 0 v = M := by
  funext k'
  by_cases e : k' = k
  · subst e; funext j' i'; rw [mfl_k, if_neg (by omega)]
  · rw [mfl_ne e]
theorem mfl_s {M : Mem} {k j a n : Nat} {v : Int32} : mst (mfl M k j a n v) k j (a + n) v = mfl M k j a (n + 1) v := by
  funext k'
  by_cases e : k' = k
  · subst e
    funext j' i'
    rw [mst_k, mfl_k, mfl_k]
    by_cases h1 : j' = j ∧ i' = a + n
    · rw [if_pos h1, if_pos ⟨h1.1, by omega⟩]
    · rw [if_neg h1]
      by_cases h2 : j' = j ∧ (a ≤ i' ∧ i' < a + n)
      · rw [if_pos h2, if_pos ⟨h2.1, by omega⟩]
      · rw [if_neg h2, if_neg (by omega)]
  · rw [mst_ne e, mfl_ne e, mfl_ne e]
theorem mcp_0 {M : Mem} {k j dp ks js sp : Nat} : mcp M k j dp ks js sp 0 = M := by
  funext k'
  by_cases e : k' = k
  · subst e; funext j' i'; rw [mcp_k, if_neg (by omega)]
  · rw [mcp_ne e]
theorem mcp_s {M : Mem} {k j dp ks js sp n : Nat} : mst (mcp M k j dp ks js sp n) k j (dp + n) (M ks js (sp + n)) = mcp M k j dp ks js sp (n + 1) := by
  funext k'
  by_cases e : k' = k
  · subst e
    funext j' i'
    rw [mst_k, mcp_k, mcp_k]
    by_cases h1 : j' = j ∧ i' = dp + n
    · rw [if_pos h1, if_pos ⟨h1.1, by omega⟩, h1.2]; congr 1; omega
    · rw [if_neg h1]
      by_cases h2 : j' = j ∧ (dp ≤ i' ∧ i' < dp + n)
      · rw [if_pos h2, if_pos ⟨h2.1, by omega⟩]
      · rw [if_neg h2, if_neg (by omega)]
  · rw [mst_ne e, mcp_ne e, mcp_ne e]
theorem p_fill {k j : Nat} {v : Int32} {M : Mem} {Q : Mem → Prop} (hk : alen k < 1000000) (hQ : Q (mfl M k j 0 (alen k) v)) : wp_J7_fill_53178 k j v M Q := by
  unfold wp_J7_fill_53178
  rintro _ rfl
  refine pk_loop (fun n i (s : Mem) => w_J7_fill_53178_5 Q n k j v (nI i) (nI (alen k)) s) (fun i s => s = mfl M k j 0 i v) (alen k) 0 M (Nat.zero_le _) mfl_0.symm ?_ ?_
  · rintro n s rfl
    exact ⟨fun _ => hQ, fun h => absurd ((ni_le (by omega) (by omega)).mpr (Nat.le_refl _)) h⟩
  · rintro n i s hi rfl ih
    refine ⟨fun h => absurd ((ni_le (by omega) (by omega)).mp h) (by omega), fun _ => ⟨(ni_in (by omega)).mpr hi, ?_⟩⟩
    rintro _ rfl
    rw [ni_cl (by omega), nI_1]
    exact ih _ (by rw [← mfl_s, Nat.zero_add])
theorem p_fillB {k j : Nat} {v : Int32} {M : Mem} {Q : Mem → Prop} (hk : alen k < 1000000) (hQ : Q (mfl M k j 0 (alen k) v.toInt8.toInt32)) : wp_J7_fill_031fb k j v M Q := by
  unfold wp_J7_fill_031fb
  rintro _ rfl
  refine pk_loop (fun n i (s : Mem) => w_J7_fill_031fb_5 Q n k j v (nI i) (nI (alen k)) s) (fun i s => s = mfl M k j 0 i v.toInt8.toInt32) (alen k) 0 M (Nat.zero_le _) mfl_0.symm ?_ ?_
  · rintro n s rfl
    exact ⟨fun _ => hQ, fun h => absurd ((ni_le (by omega) (by omega)).mpr (Nat.le_refl _)) h⟩
  · rintro n i s hi rfl ih
    refine ⟨fun h => absurd ((ni_le (by omega) (by omega)).mp h) (by omega), fun _ => ⟨(ni_in (by omega)).mpr hi, ?_⟩⟩
    rintro _ rfl
    rw [ni_cl (by omega), nI_1]
    exact ih _ (by rw [← mfl_s, Nat.zero_add])
theorem EsC.fl {S M : Mem} (h : EsC S M) {k j a n : Nat} {v : Int32} : EsC (mfl S k j a n v) (mfl M k j a n v) := fun q hq => by
  by_cases e : q = k
  · subst e; funext j' i'; rw [mfl_k, mfl_k, h q hq]
  · rw [mfl_ne e, mfl_ne e]; exact h q hq
theorem EsC.cp {S M : Mem} (h : EsC S M) {k j dp ks js sp n : Nat} (hk : ks ∈ esk) : EsC (mcp S k j dp ks js sp n) (mcp M k j dp ks js sp n) := fun q hq => by
  by_cases e : q = k
  · subst e; funext j' i'; rw [mcp_k, mcp_k, h q hq, h ks hk]
  · rw [mcp_ne e, mcp_ne e]; exact h q hq
theorem FrC.fl {M : Mem} {k j a n : Nat} {v : Int32} (h : ¬ refk k) : FrC M (mfl M k j a n v) := fun k' q => mfl_ne (fun e => h (e ▸ q))
theorem FrR.fl {M : Mem} {k j a n : Nat} {v : Int32} (h : refk k) : FrR M (mfl M k j a n v) := fun k' q => mfl_ne (fun e => q (e ▸ h))
theorem FrC.cp {M : Mem} {k j dp ks js sp n : Nat} (h : ¬ refk k) : FrC M (mcp M k j dp ks js sp n) := fun k' q => mcp_ne (fun e => h (e ▸ q))
theorem FrR.cp {M : Mem} {k j dp ks js sp n : Nat} (h : refk k) : FrR M (mcp M k j dp ks js sp n) := fun k' q => mcp_ne (fun e => q (e ▸ h))
/-! SHEET -/
def a_sheet (s ty n : Int32) : Int32 := if ((0 ≤ s ∧ s ≤ 3) ∧ (0 ≤ ty ∧ ty ≤ 2)) ∧ n ≤ 40 then (if 0 ≤ n then n else -15) else -2
def n_sheet (S : Mem) (s ty n : Int32) : Mem := if ((0 ≤ s ∧ s ≤ 3) ∧ (0 ≤ ty ∧ ty ≤ 2)) ∧ n ≤ 40 then (if 0 ≤ n then mst (mst (mst (mfl S 42 s.toNatClampNeg 0 40 0) 551 s.toNatClampNeg 0 0) 552 s.toNatClampNeg 0 ty) 553 s.toNatClampNeg 0 n else mst S 661 0 0 5) else S
theorem sh_ne {M : Mem} {k4 k1 k2 k3 j4 j1 j2 j3 a n : Nat} {v4 v1 v2 v3 : Int32} {q : Nat} (h : q ∉ [k1, k2, k3, k4]) : mst (mst (mst (mfl M k4 j4 a n v4) k1 j1 0 v1) k2 j2 0 v2) k3 j3 0 v3 q = M q := by
  simp only [List.mem_cons, List.not_mem_nil, or_false, not_or] at h
  rw [mst_ne h.2.2.1, mst_ne h.2.1, mst_ne h.1, mfl_ne h.2.2.2]
theorem C_sheet {t : Nat} {S M : Mem} (hI : InvC t S M) (s ty n : Int32) {Q : Int32 → Mem → Prop} (hQ : ∀ M1, InvC (t + 1) (n_sheet S s ty n) M1 → FrC M M1 → Q (a_sheet s ty n) M1) : wp_X9_sheet s ty n M Q := by
  unfold wp_X9_sheet
  rw [e_X9_sheetAt]
  unfold a_sheet n_sheet at hQ
  rcases at4_cases s with ⟨h1, h2⟩ | ⟨k, hk, rfl, h1, h2⟩
  · rw [h1]; simp only [h2, false_and, if_false] at hQ
    exact ⟨fun _ => hQ M hI.more FrC.rf, fun j e => by cases e⟩
  · rw [h1]
    refine ⟨fun e => by (cases e), fun j e => ?_⟩
    cases e
    rw [ni_cl (by omega)] at hQ
    simp only [h2, and_self, true_and, e_X9_isType, e_X9_finding, bi_z, Classical.not_not] at hQ ⊢
    refine ⟨fun h => ?_, fun h => ⟨fun g => ⟨fun p => ?_, fun p => ?_⟩, fun g => ?_⟩⟩
    · simp only [h, false_and, and_false, if_false] at hQ; exact hQ M hI.more FrC.rf
    · simp only [h, g, p, and_self, if_true] at hQ
      unfold wp_X7_renew
      refine p_fill (by decide) ?_
      rintro _ rfl _ rfl
      rw [e_J9_min, if_neg (by grind)]
      rintro _ rfl
      exact hQ _ (hI.sht (((hI.1.fl.st).st).st) (fun q hq => sh_ne hq) (fun q hq => sh_ne hq)) ((((FrC.fl (nrefk (by decide))).tr (FrC.st (nrefk (by decide)))).tr (FrC.st (nrefk (by decide)))).tr (FrC.st (nrefk (by decide))))
    · simp only [h, g, p, and_self, if_true, if_false] at hQ
      exact hQ _ (hI.fnd 5) frC1
    · simp only [g, false_and, and_false, if_false] at hQ; exact hQ M hI.more FrC.rf
theorem R_sheet {S M : Mem} (hI : InvR S M) (s ty n : Int32) {Q : Int32 → Mem → Prop} (hQ : ∀ M1, InvR (n_sheet S s ty n) M1 → FrR M M1 → Q (a_sheet s ty n) M1) : wp_X10_sheet s ty n M Q := by
  unfold wp_X10_sheet
  simp only [e_X10_isSheet, e_X10_in, e_X10_meets, bi_z, Classical.not_not, forall_eq]
  unfold a_sheet n_sheet at hQ
  refine ⟨fun h => ?_, fun h => ⟨fun g => ?_, fun g => ⟨fun p => ⟨fun z => ?_, fun z => ?_⟩, fun p => ?_⟩⟩⟩
  · simp only [h, false_and, and_false, if_false] at hQ; exact hQ M hI FrR.rf
  · simp only [g, false_and, and_false, if_false] at hQ; exact hQ M hI FrR.rf
  · simp only [h, g, p, z, and_self, if_true] at hQ
    obtain ⟨k, hk, rfl⟩ := ni_ofle (n := 3) (by decide) h.1 h.2
    have hk4 : k < 4 := by omega
    have hin : vp_in (nI k) 4 := (ni_in (by omega)).mpr hk4
    rw [ni_cl (by omega)] at hQ ⊢
    refine ⟨hin, hin, hin, ?_⟩
    refine pk_loop (fun f i (s : Mem) => w_X10_sheet_59 Q f (nI k) n (nI i) s) (fun i s => s = mfl (mst (mst (mst M 81 0 k 1) 82 0 k ty) 83 0 k n) 84 0 (40 * k) i 0) 40 0 _ (by decide) mfl_0.symm ?_ ?_
    · rintro f s rfl
      refine ⟨fun _ => ?_, fun h => absurd ((ni_le (a := 40) (b := 40) (by omega) (by omega)).mpr (Nat.le_refl _)) h⟩
      refine hQ _ (hI.sht (fun q hq => sh_ne hq) (fun q hq => ?_) (fun w hw => ?_)) ((((FrR.st (yrefk (by decide))).tr (FrR.st (yrefk (by decide)))).tr (FrR.st (yrefk (by decide)))).tr (FrR.fl (yrefk (by decide))))
      · simp only [List.mem_cons, List.not_mem_nil, or_false, not_or] at hq
        rw [mfl_ne hq.2.2.2, mst_ne hq.2.2.1, mst_ne hq.2.1, mst_ne hq.1]
      · obtain ⟨r1, r2, r3, r4⟩ := hI.h hw
        by_cases e : w = k
        · subst e
          refine ⟨by simp [mst_ne, mst_k, mfl_ne], by simp [mst_ne, mst_k, mfl_ne], by simp [mst_ne, mst_k, mfl_ne], fun i hi => ?_⟩
          rw [mfl_k, if_pos ⟨rfl, by omega⟩, mst_ne (by decide), mst_ne (by decide), mst_ne (by decide), mfl_k, if_pos ⟨rfl, by omega⟩]
        · refine ⟨by simp [mst_ne, mst_k, mfl_ne, e, r1], by simp [mst_ne, mst_k, mfl_ne, e, r2], by simp [mst_ne, mst_k, mfl_ne, e, r3], fun i hi => ?_⟩
          rw [mfl_k, if_neg (by omega), mst_ne (by decide), mst_ne (by decide), mst_ne (by decide), mst_ne (by decide), mst_ne (by decide), mst_ne (by decide), mfl_k, if_neg (by omega)]
          exact r4 i hi
    · rintro f i s hi rfl ih
      have hx : 40 * nI k + nI i = nI (40 * k + i) := by rw [ni_lit 40, pk_mul, nI_add]
      refine ⟨fun h => absurd ((ni_le (a := 40) (by omega) (by omega)).mp h) (by omega), fun _ => ?_⟩
      rw [hx, ni_cl (by omega), nI_1]
      refine ⟨(ni_in (by omega)).mpr (by omega), ?_⟩
      rintro _ rfl
      exact ih _ mfl_s
  · simp only [h, g, p, z, and_self, if_true, if_false] at hQ
    exact hQ _ (hI.fnd 5) frR1
  · simp only [p, false_and, and_false, if_false] at hQ; exact hQ M hI FrR.rf
theorem S_sheet {S : Mem} (h : SOK S) (s ty n : Int32) : SOK (n_sheet S s ty n) := by
  unfold n_sheet
  by_cases q : ((0 ≤ s ∧ s ≤ 3) ∧ (0 ≤ ty ∧ ty ≤ 2)) ∧ n ≤ 40
  · rw [if_pos q]
    by_cases g : 0 ≤ n
    · rw [if_pos g]
      refine h.sht (fun q hq => sh_ne hq) (fun w hw => ?_)
      obtain ⟨p1, p2, p3⟩ := h.h hw
      obtain ⟨a, ha, rfl⟩ := ni_ofle (n := 40) (by decide) g q.2
      by_cases e : w = s.toNatClampNeg
      · refine ⟨?_, ?_, ?_⟩
        · simp [mst_ne, mst_k, e]
        · simp only [mst_ne, mst_k, e, ne_eq, Nat.reduceEqDiff, not_false_eq_true, and_self, if_true]
          have h0 := ti_le.mp q.1.2.1
          have h2 := ti_le.mp q.1.2.2
          exact ⟨h0, h2⟩
        · exact ⟨a, ha, by simp [mst_k, e]⟩
      · refine ⟨?_, ?_, ?_⟩
        · simp [mst_ne, mst_k, mfl_ne, e]; exact p1
        · simp [mst_ne, mst_k, mfl_ne, e]; exact p2
        · simp [mst_ne, mst_k, mfl_ne, e]; exact p3
    · rw [if_neg g]; exact h.fnd _
  · rw [if_neg q]; exact h
