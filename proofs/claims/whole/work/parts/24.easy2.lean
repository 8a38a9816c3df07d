/-! PARTS OF THE REFERENCE'S STATE -/
def RV (S M : Mem) (v : Nat) : Prop := M 53 0 v = S 606 v 0 ∧ (∀ i, i < vln S v → M 54 0 (120 * v + i) = S 43 v i) ∧ (M 55 0 v = 0 ∨ M 55 0 v = 1 ∧ VRok (S 43 v) (vln S v) M v)
def RCo (S M : Mem) (c : Nat) : Prop := M 64 0 c = S 200 c 0 ∧ M 65 0 c = S 202 c 0 ∧ (∀ i, i < cln S c → M 66 0 (12 * c + i) = S 20 c i) ∧ M 67 0 c = S 204 c 0 ∧ M 68 0 c = S 205 c 0 ∧ M 69 0 c = S 206 c 0 ∧ M 70 0 c = S 207 c 0 ∧ M 71 0 c = S 208 c 0
def RH (S M : Mem) (s : Nat) : Prop := M 81 0 s = 1 - S 551 s 0 ∧ M 82 0 s = S 552 s 0 ∧ M 83 0 s = S 553 s 0 ∧ ∀ i, i < 40 → M 84 0 (40 * s + i) = S 42 s i
def RP (S M : Mem) : Prop := M 732 0 0 = S 453 0 0 ∧ M 736 0 0 = S 454 0 0 ∧ ∀ i, i < (S 453 0 0).toNatClampNeg → M 75 0 i = S 34 0 i ∧ M 76 0 i = S 35 0 i ∧ M 77 0 i = S 36 0 i
def RJ (S M : Mem) : Prop := M 737 0 0 = S 252 0 0 ∧ M 740 0 0 = S 253 0 0 ∧ ∀ i, i < (S 252 0 0).toNatClampNeg → M 78 0 i = S 22 0 i ∧ M 79 0 i = S 23 0 i
theorem InvR.v {S M : Mem} (h : InvR S M) {v : Nat} (hv : v < 4) : RV S M v := h.1 v hv
theorem InvR.n {S M : Mem} (h : InvR S M) : M 720 0 0 = S 660 0 0 := h.2.1
theorem InvR.c {S M : Mem} (h : InvR S M) {c : Nat} (hc : c < nc S) : RCo S M c := h.2.2.1 c hc
theorem InvR.h {S M : Mem} (h : InvR S M) {s : Nat} (hs : s < 4) : RH S M s := h.2.2.2.1 s hs
theorem InvR.p {S M : Mem} (h : InvR S M) : RP S M := h.2.2.2.2.1
theorem InvR.j {S M : Mem} (h : InvR S M) : RJ S M := h.2.2.2.2.2.1
theorem InvR.f {S M : Mem} (h : InvR S M) : M 747 0 0 = S 661 0 0 := h.2.2.2.2.2.2
theorem InvR.mk {S M : Mem} (h1 : ∀ v, v < 4 → RV S M v) (h2 : M 720 0 0 = S 660 0 0) (h3 : ∀ c, c < nc S → RCo S M c) (h4 : ∀ s, s < 4 → RH S M s) (h5 : RP S M) (h6 : RJ S M) (h7 : M 747 0 0 = S 661 0 0) : InvR S M := ⟨h1, h2, h3, h4, h5, h6, h7⟩
theorem RV.congr {S S' M M' : Mem} {v : Nat} (h : RV S M v) (hs : S' 43 v = S 43 v ∧ S' 606 v = S 606 v) (hm : ∀ k, k ∈ [53, 54, 55, 56, 57, 58, 59, 60, 61] → M' k = M k) : RV S' M' v := by
  have e (k : Nat) (q : k ∈ [53, 54, 55, 56, 57, 58, 59, 60, 61] := by decide) : M' k = M k := hm k q
  simp only [RV, VRok, vln, hs.1, hs.2, e 53, e 54, e 55, e 56, e 57, e 58, e 59, e 60, e 61] at h ⊢
  exact h
theorem RCo.congr {S S' M M' : Mem} {c : Nat} (h : RCo S M c) (hs : ∀ k, k ∈ [200, 202, 20, 204, 205, 206, 207, 208] → S' k c = S k c) (hm : ∀ k, k ∈ [64, 65, 66, 67, 68, 69, 70, 71] → M' k = M k) : RCo S' M' c := by
  have e (k : Nat) (q : k ∈ [64, 65, 66, 67, 68, 69, 70, 71] := by decide) : M' k = M k := hm k q
  have f (k : Nat) (q : k ∈ [200, 202, 20, 204, 205, 206, 207, 208] := by decide) : S' k c = S k c := hs k q
  simp only [RCo, cln, f 200, f 202, f 20, f 204, f 205, f 206, f 207, f 208, e 64, e 65, e 66, e 67, e 68, e 69, e 70, e 71] at h ⊢
  exact h
theorem RH.congr {S S' M M' : Mem} {s : Nat} (h : RH S M s) (hs : ∀ k, k ∈ [551, 552, 553, 42] → S' k s = S k s) (hm : ∀ k, k ∈ [81, 82, 83, 84] → M' k = M k) : RH S' M' s := by
  have e (k : Nat) (q : k ∈ [81, 82, 83, 84] := by decide) : M' k = M k := hm k q
  have f (k : Nat) (q : k ∈ [551, 552, 553, 42] := by decide) : S' k s = S k s := hs k q
  simp only [RH, f 551, f 552, f 553, f 42, e 81, e 82, e 83, e 84] at h ⊢
  exact h
theorem RP.congr {S S' M M' : Mem} (h : RP S M) (hs : ∀ k, k ∈ [453, 454, 34, 35, 36] → S' k = S k) (hm : ∀ k, k ∈ [732, 736, 75, 76, 77] → M' k = M k) : RP S' M' := by
  have e (k : Nat) (q : k ∈ [732, 736, 75, 76, 77] := by decide) : M' k = M k := hm k q
  have f (k : Nat) (q : k ∈ [453, 454, 34, 35, 36] := by decide) : S' k = S k := hs k q
  simp only [RP, f 453, f 454, f 34, f 35, f 36, e 732, e 736, e 75, e 76, e 77] at h ⊢
  exact h
theorem RJ.congr {S S' M M' : Mem} (h : RJ S M) (hs : ∀ k, k ∈ [252, 253, 22, 23] → S' k = S k) (hm : ∀ k, k ∈ [737, 740, 78, 79] → M' k = M k) : RJ S' M' := by
  have e (k : Nat) (q : k ∈ [737, 740, 78, 79] := by decide) : M' k = M k := hm k q
  have f (k : Nat) (q : k ∈ [252, 253, 22, 23] := by decide) : S' k = S k := hs k q
  simp only [RJ, f 252, f 253, f 22, f 23, e 737, e 740, e 78, e 79] at h ⊢
  exact h
/-! COUNTERS by their numbers -/
def okC (S : Mem) (x : Int32) : Prop := 0 ≤ x ∧ x ≤ S 660 0 0 - 1
def atC (x : Int32) (M : Mem) : Option Nat := if 0 ≤ x ∧ x < M 660 0 0 ∧ x < 12 then (if x.toNatClampNeg < nc M then some x.toNatClampNeg else none) else none
theorem e_X9_counterAt {x : Int32} {M : Mem} {Q : Option Nat → Mem → Prop} : wp_X9_counterAt x M Q ↔ Q (atC x M) M := by
  unfold wp_X9_counterAt atC w_X9_counterAt_18
  by_cases h1 : x < 0
  · have : ¬ (0 ≤ x ∧ x < M 660 0 0 ∧ x < 12) := by grind
    simp [h1, this]
  · by_cases h2 : M 660 0 0 ≤ x
    · have : ¬ (0 ≤ x ∧ x < M 660 0 0 ∧ x < 12) := by grind
      simp [h1, h2, this]
    · by_cases h3 : x < 12
      · have h4 : (0 ≤ x ∧ x < M 660 0 0 ∧ x < 12) := by grind
        by_cases h5 : x.toNatClampNeg < nc M
        · simp [h1, h2, h3, h4, h5, vin_of (n := 12) (by decide) h4.1 h3]
        · simp [h1, h2, h3, h4, h5, vin_of (n := 12) (by decide) h4.1 h3]
      · have : ¬ (0 ≤ x ∧ x < M 660 0 0 ∧ x < 12) := by grind
        simp [h1, h2, h3, this]
theorem atC_cases {S M : Mem} (hS : SOK S) (hE : EsC S M) (x : Int32) : (atC x M = none ∧ ¬ okC S x) ∨ ∃ c, c < nc S ∧ x = nI c ∧ atC x M = some c ∧ okC S x := by
  obtain ⟨h1, h2⟩ := hS.ncs
  have h3 : M 660 0 0 = nI (nc S) := by rw [hE.k 660]; exact h2
  have hn : nc M = nc S := by unfold nc; rw [hE.k 660]
  unfold atC okC
  rw [h3, h2, hn]
  have hb : (nI (nc S)) ≤ 12 := (ni_le (b := 12) (by omega) (by decide)).mpr h1
  by_cases h : 0 ≤ x ∧ x < nI (nc S)
  · obtain ⟨c, hc, rfl⟩ := ni_of (by omega) h.1 h.2
    refine Or.inr ⟨c, hc, rfl, ?_, by have := h.1; have := h.2; have := ni_ge0 (a := nc S) (by omega); grind⟩
    rw [if_pos ⟨h.1, h.2, by have := h.2; grind⟩, ni_cl (by omega), if_pos hc]
  · refine Or.inl ⟨if_neg (fun q => h ⟨q.1, q.2.1⟩), fun q => h ⟨q.1, ?_⟩⟩
    have := ni_ge0 (a := nc S) (by omega); have := q.2; have := q.1; grind
theorem cn_cl {S : Mem} (hS : SOK S) {c : Nat} (hc : c < nc S) : (nI c).toNatClampNeg = c := ni_cl (by have := hS.ncs.1; omega)
theorem cn_in {S : Mem} (hS : SOK S) {c : Nat} (hc : c < nc S) : vp_in (nI c) 12 := (ni_in (by have := hS.ncs.1; omega)).mpr (by have := hS.ncs.1; omega)
/-- the class: neither a text nor what FILLS hang on has changed -/
theorem InvC.light {t : Nat} {S S' M M' : Mem} (h : InvC t S M) (hE : EsC S' M') (h1 : SVeq S S') (hn : nc S' = nc S) (h2 : ∀ c, c < nc S → SCeq S S' c) (hM : ∀ k, k ∈ [609, 608, 607, 46, 47, 48, 45, 44, 203, 212, 21, 210, 211, 662, 663, 41] → M' k = M k) : InvC (t + 1) S' M' := by
  obtain ⟨a1, a2, a3, a4⟩ := h
  refine ⟨hE, fun v hv => ⟨(a2 v hv).1.congr h1.1 h1.2 (fun k q => ?_), ?_⟩, fun c hc => ?_, a4.congr h1 (fun k q => hM k ?_)⟩
  · rw [hM k (by revert q; revert k; decide)]
  · obtain ⟨k, hk, e⟩ := (a2 v hv).2
    exact ⟨k, by omega, by rw [hM 608 (by decide)]; exact e⟩
  · rw [hn] at hc
    exact (a3 c hc).congr h1 (h2 c hc) (fun k q => by rw [hM k (by revert q; revert k; decide)]) (hM 608 (by decide))
  · revert q; revert k; decide
/-! WIPE; the reference's TYPE and WIPE -/
def a_wipe (S : Mem) (v : Int32) : Int32 := if (0 ≤ v ∧ v ≤ 3) then S 606 v.toNatClampNeg 0 else -2
def n_wipe (S : Mem) (v : Int32) : Mem := if (0 ≤ v ∧ v ≤ 3) then mst S 606 v.toNatClampNeg 0 0 else S
theorem C_wipe {t : Nat} {S M : Mem} (hS : SOK S) (hI : InvC t S M) (ht : t < 512) (v : Int32) {Q : Int32 → Mem → Prop} (hQ : ∀ M1, InvC (t + 1) (n_wipe S v) M1 → FrC M M1 → Q (a_wipe S v) M1) : wp_X9_wipe v M Q := by
  unfold wp_X9_wipe
  rw [e_X9_versionAt]
  unfold a_wipe n_wipe at hQ
  rcases at4_cases v with ⟨h1, h2⟩ | ⟨k, hk, rfl, h1, h2⟩
  · rw [h1]
    simp only [h2, if_false] at hQ
    exact ⟨fun _ => hQ M hI.more FrC.rf, fun j e => by cases e⟩
  · rw [h1]
    refine ⟨fun e => by (cases e), fun j e => ?_⟩
    cases e
    rw [ni_cl (by omega)] at hQ
    simp only [h2, and_self, if_true] at hQ
    obtain ⟨kr, hkr, erev⟩ := (hI.2.1 k hk).2
    have x2 : M 608 k 0 + 1 = nI (kr + 1) := by rw [erev]; exact nI_1 _
    have e606 : M 606 k 0 = S 606 k 0 := by rw [hI.1.k 606]
    unfold wp_X8_empty
    simp only [forall_eq, mst_ne, mst_k, ne_eq, Nat.reduceEqDiff, not_false_eq_true, x2, e606]
    refine hQ _ (hI.text (v := k) ht hk hkr erev ((((hI.1.skip (k := 662) (by decide)).st).skip (k := 609) (by decide)).skip (k := 608) (by decide)) (fun q h1 h2 => by rw [mst_ne h2]) (fun w hw => ?_) (fun q hq => ?_) ⟨?_, fun w hw => ?_⟩ ⟨?_, fun w hw => ?_⟩ ?_) ?_
    · constructor
      · funext i; simp [mst_ne]
      · funext i; simp [mst_k, hw]
    · revert hq; revert q; simp [mst_ne]
    · simp [mst_ne, mst_k]
    · funext i; simp [mst_ne, mst_k, hw]
    · simp [mst_ne, mst_k]
    · funext i; simp [mst_ne, mst_k, hw]
    · simp [mst_ne, mst_k]
    · exact ((((FrC.st (nrefk (by decide)))).tr (FrC.st (nrefk (by decide)))).tr (FrC.st (nrefk (by decide)))).tr (FrC.st (nrefk (by decide)))
theorem InvR.text {S S' M M' : Mem} (h : InvR S M) (hS : ∀ k, k ≠ 43 → k ≠ 606 → S' k = S k) (hM : ∀ k, k ∈ irk → k ∉ [53, 54, 55, 56, 57, 58, 59, 60, 61] → M' k = M k) (hv : ∀ v, v < 4 → RV S' M' v) : InvR S' M' := by
  have hn : nc S' = nc S := by unfold nc; rw [hS 660 (by decide) (by decide)]
  refine InvR.mk hv (by rw [hM 720 (by decide) (by decide), hS 660 (by decide) (by decide)]; exact h.n) (fun c hc => (h.c (by rw [← hn]; exact hc)).congr (fun k q => ?_) (fun k q => hM k ?_ ?_)) (fun s hs => (h.h hs).congr (fun k q => ?_) (fun k q => hM k ?_ ?_)) (h.p.congr (fun k q => hS k ?_ ?_) (fun k q => hM k ?_ ?_)) (h.j.congr (fun k q => hS k ?_ ?_) (fun k q => hM k ?_ ?_)) (by rw [hM 747 (by decide) (by decide), hS 661 (by decide) (by decide)]; exact h.f)
  case refine_1 => rw [hS k (by revert q; revert k; decide) (by revert q; revert k; decide)]
  case refine_4 => rw [hS k (by revert q; revert k; decide) (by revert q; revert k; decide)]
  all_goals (revert q; revert k; decide)
theorem R_type {S M : Mem} (hS : SOK S) (hI : InvR S M) (v b : Int32) {Q : Int32 → Mem → Prop} (hQ : ∀ M1, InvR (n_type S v b) M1 → FrR M M1 → Q (a_type S v b) M1) : wp_X10_type v b M Q := by
  unfold wp_X10_type
  simp only [e_X10_isVersion, e_X10_in, bi_z, Classical.not_not, forall_eq]
  unfold a_type n_type at hQ
  refine ⟨fun h => ?_, fun h => ⟨fun hb => ?_, fun hb => ?_⟩⟩
  · simp only [h, false_and, if_false] at hQ; exact hQ M hI FrR.rf
  · simp only [h, hb, and_false, false_and, if_false] at hQ; exact hQ M hI FrR.rf
  · obtain ⟨k, hk, rfl⟩ := ni_ofle (n := 3) (by decide) h.1 h.2
    have hk4 : k < 4 := by omega
    obtain ⟨hn, he⟩ := hS.len hk4
    obtain ⟨r1, r2, r3⟩ := hI.v hk4
    rw [ni_cl (by omega)] at hQ ⊢
    rw [he] at r1
    have hin : vp_in (nI k) 4 := (ni_in (by omega)).mpr hk4
    refine ⟨hin, ?_⟩
    rw [r1]
    simp only [h, hb, and_self, true_and, if_true] at hQ
    refine ⟨fun hf => ?_, fun hf => ?_⟩
    · have hf' : vln S k = 120 := (ni_eq (b := 120) (by omega) (by decide)).mp hf
      simp only [hf', not_true, if_false, if_true] at hQ
      exact hQ M hI FrR.rf
    · have hf' : ¬ vln S k = 120 := fun q => hf (by rw [q]; rfl)
      simp only [hf', not_false_eq_true, if_false, if_true] at hQ
      have hx : 120 * nI k + nI (vln S k) = nI (120 * k + vln S k) := by rw [ni_lit 120, pk_mul, nI_add]
      rw [hx, ni_cl (by omega)]
      refine ⟨hin, (ni_in (by omega)).mpr (by omega), hin, hin, ?_⟩
      simp only [mst_ne, mst_k, ne_eq, Nat.reduceEqDiff, not_false_eq_true, and_self, if_true, r1, nI_1]
      refine ⟨hin, hin, hQ _ (hI.text (fun q h1 h2 => by rw [mst_ne h2, mst_ne h1]) (fun q h1 h2 => ?_) (fun w hw => ?_)) ((((FrR.st (yrefk (by decide)))).tr (FrR.st (yrefk (by decide)))).tr (FrR.st (yrefk (by decide))))⟩
      · rw [mst_ne, mst_ne, mst_ne] <;> (intro e; subst e; exact h2 (by decide))
      · by_cases e : w = k
        · subst e
          refine ⟨by simp [mst_ne, mst_k], fun i hi => ?_, Or.inl (by simp [mst_k])⟩
          have hl : vln (mst (mst S 43 w (vln S w) b) 606 w 0 (nI (vln S w + 1))) w = vln S w + 1 := by
            unfold vln; rw [mst_eq, ni_cl (by unfold vln at hn; omega)]
          rw [hl] at hi
          by_cases e2 : i = vln S w
          · subst e2; simp [mst_ne, mst_k]
          · have := r2 i (by omega)
            simp [mst_ne, mst_k, e2, this]
        · have hw' : ∀ i, i < vln S w → 120 * w + i ≠ 120 * k + vln S k := fun i hi => by have := (hS.len hw).1; omega
          obtain ⟨q1, q2, q3⟩ := hI.v hw
          have hl : vln (mst (mst S 43 k (vln S k) b) 606 k 0 (nI (vln S k + 1))) w = vln S w := by
            unfold vln; rw [mst_k, if_neg (fun q => e q.1), mst_ne (by decide)]
          have h43 : mst (mst S 43 k (vln S k) b) 606 k 0 (nI (vln S k + 1)) 43 w = S 43 w := by
            funext i; simp [mst_ne, mst_k, e]
          refine ⟨by simp [mst_ne, mst_k, e, q1], fun i hi => ?_, ?_⟩
          · rw [hl] at hi
            rw [h43]
            simp [mst_ne, mst_k, hw' i hi, q2 i hi]
          · rw [hl, h43]
            simp only [VRok, mst_ne, mst_k, ne_eq, Nat.reduceEqDiff, not_false_eq_true, e, and_false, if_false, true_and] at q3 ⊢
            exact q3
theorem R_wipe {S M : Mem} (hS : SOK S) (hI : InvR S M) (v : Int32) {Q : Int32 → Mem → Prop} (hQ : ∀ M1, InvR (n_wipe S v) M1 → FrR M M1 → Q (a_wipe S v) M1) : wp_X10_wipe v M Q := by
  unfold wp_X10_wipe
  simp only [e_X10_isVersion, bi_z, Classical.not_not, forall_eq]
  unfold a_wipe n_wipe at hQ
  refine ⟨fun h => ?_, fun h => ?_⟩
  · simp only [h, if_false] at hQ; exact hQ M hI FrR.rf
  · obtain ⟨k, hk, rfl⟩ := ni_ofle (n := 3) (by decide) h.1 h.2
    have hk4 : k < 4 := by omega
    obtain ⟨r1, r2, r3⟩ := hI.v hk4
    rw [ni_cl (by omega)] at hQ ⊢
    simp only [h, and_self, if_true] at hQ
    have hin : vp_in (nI k) 4 := (ni_in (by omega)).mpr hk4
    refine ⟨hin, hin, hin, ?_⟩
    rw [r1]
    refine hQ _ (hI.text (fun q h1 h2 => by rw [mst_ne h2]) (fun q h1 h2 => ?_) (fun w hw => ?_)) (((FrR.st (yrefk (by decide)))).tr (FrR.st (yrefk (by decide))))
    · rw [mst_ne, mst_ne] <;> (intro e; subst e; exact h2 (by decide))
    · by_cases e : w = k
      · subst e
        refine ⟨by simp [mst_ne, mst_k], fun i hi => ?_, Or.inl (by simp [mst_k])⟩
        have hl : vln (mst S 606 w 0 0) w = 0 := by unfold vln; rw [mst_eq]; rfl
        rw [hl] at hi
        exact absurd hi (Nat.not_lt_zero _)
      · obtain ⟨q1, q2, q3⟩ := hI.v hw
        have hl : vln (mst S 606 k 0 0) w = vln S w := by
          unfold vln; rw [mst_k, if_neg (fun q => e q.1)]
        have h43 : mst S 606 k 0 0 43 w = S 43 w := by rw [mst_ne (by decide)]
        refine ⟨by simp [mst_ne, mst_k, e, q1], fun i hi => ?_, ?_⟩
        · rw [hl] at hi
          rw [h43]
          simp [mst_ne, q2 i hi]
        · rw [hl, h43]
          simp only [VRok, mst_ne, mst_k, ne_eq, Nat.reduceEqDiff, not_false_eq_true, e, and_false, if_false, true_and] at q3 ⊢
          exact q3
