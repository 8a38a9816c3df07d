theorem S_claim {S : Mem} (h : SOK S) (c d l : Int32) : SOK (n_claim S c d l) := by
  unfold n_claim
  split
  · rename_i q
    obtain ⟨q1, q2, q3⟩ := q
    refine h.upd 2 (Or.inr ⟨by simp [mst_ne], by simp [mst_ne]⟩) (by simp [mst_ne]) (Or.inl rfl) (Or.inr (by simp [mst_ne])) (Or.inr (by simp [mst_ne])) (Or.inr (by simp [mst_ne])) (fun e => by cases e) (fun _ c' hc' => ?_) (fun e => by cases e) (fun e => by cases e) (fun e => by cases e)
    obtain ⟨p1, p2, p3, p4, p5, p6, p7⟩ := h.c hc'
    have hd := rng_le q2.1 q2.2 (a := -99) (b := 99) (by decide) (by decide)
    have hl := rng_le q3.1 q3.2 (a := -99) (b := 99) (by decide) (by decide)
    by_cases e : c' = c.toNatClampNeg
    · subst e
      simp only [pC, clost, cln, mst_ne, mst_k, ne_eq, Nat.reduceEqDiff, not_false_eq_true, and_self, if_true]
      exact ⟨p1, p2, p3, p4, hd, hl, p7⟩
    · simp only [pC, clost, cln, mst_ne, mst_k, ne_eq, Nat.reduceEqDiff, not_false_eq_true, e, false_and, if_false]
      exact ⟨p1, p2, p3, p4, p5, p6, p7⟩
  · exact h
theorem SOK.cl {S : Mem} (h : SOK S) {c : Nat} (hc : c < nc S) : cln S c ≤ 12 ∧ S 202 c 0 = nI (cln S c) := by
  obtain ⟨n, hn, e⟩ := (h.c hc).2.1
  have : cln S c = n := by unfold cln; rw [e, ni_cl (by omega)]
  rw [this]; exact ⟨hn, e⟩
theorem SOK.cv {S : Mem} (h : SOK S) {c : Nat} (hc : c < nc S) : cvr S c < 4 ∧ S 200 c 0 = nI (cvr S c) := by
  obtain ⟨n, hn, e⟩ := (h.c hc).1
  have : cvr S c = n := by unfold cvr; rw [e, ni_cl (by omega)]
  rw [this]; exact ⟨hn, e⟩
theorem lostN_le (ev : Nat → Int32) (n : Nat) : lostN ev n ≤ n := by
  induction n with
  | zero => exact Nat.le_refl 0
  | succ n ih => unfold lostN; split <;> omega
/-! ABOUT -/
def abt (S : Mem) (c : Nat) (w : Int32) : Int32 := if w = 0 then S 200 c 0 else if w = 1 then S 202 c 0 else if w = 2 then nI (clost S c) else if w = 3 then S 204 c 0 else if w = 4 then S 205 c 0 else if w = 5 then (if S 205 c 0 ≤ S 204 c 0 then 0 else 1) else if w = 6 then S 206 c 0 else if w = 7 then S 207 c 0 else if w = 8 then S 208 c 0 else -1000
theorem e_X0_isShort {j : Nat} {M : Mem} {Q : Int32 → Mem → Prop} : wp_X0_isShort j M Q ↔ Q (if M 205 j 0 ≤ M 204 j 0 then 0 else 1) M := by
  unfold wp_X0_isShort; by_cases h : M 205 j 0 ≤ M 204 j 0 <;> simp [h]
theorem p_X0_told {S M : Mem} (hE : EsC S M) {c : Nat} (hj : M 203 c 0 = nI (clost S c)) (w : Int32) {Q : Int32 → Mem → Prop} (hQ : Q (abt S c w) M) : wp_X0_told c w M Q := by
  unfold wp_X0_told
  rw [e_X0_isShort, hE.k 200, hE.k 202, hE.k 204, hE.k 205, hE.k 206, hE.k 207, hE.k 208, hj]
  unfold abt at hQ
  refine ⟨fun e => ?_, fun e => ?_, fun e => ?_, fun e => ?_, fun e => ?_, fun e => ?_, fun e => ?_, fun e => ?_, fun e => ?_, fun e0 e1 e2 e3 e4 e5 e6 e7 e8 => ?_⟩
  all_goals first | (subst e; simpa using hQ) | (simp only [e0, e1, e2, e3, e4, e5, e6, e7, e8, if_false] at hQ; exact hQ) | skip
  subst e
  by_cases h : S 205 c 0 ≤ S 204 c 0
  · simp [h] at hQ ⊢; exact hQ
  · simp [h] at hQ ⊢; exact hQ
theorem p_X10_lostMany {S M : Mem} (hS : SOK S) (hI : InvR S M) {c : Nat} (hc : c < nc S) {Q : Int32 → Mem → Prop} (hQ : Q (nI (clost S c)) M) : wp_X10_lostMany (nI c) M Q := by
  obtain ⟨r1, r2, r3, r4⟩ := hI.c hc
  obtain ⟨l1, l2⟩ := hS.cl hc
  have n1 := hS.ncs.1
  refine pk_loop (fun n i (s : Int32 × Mem) => w_X10_lostMany_4 Q n (nI c) s.1 (nI i) s.2) (fun i s => s.1 = nI (lostN (S 20 c) i) ∧ s.2 = M) (cln S c) 0 (0, M) (Nat.zero_le _) ⟨rfl, rfl⟩ ?_ ?_
  · rintro n ⟨a, M'⟩ ⟨rfl, rfl⟩
    refine ⟨cn_in hS hc, ?_⟩
    rw [cn_cl hS hc, r2, l2]
    exact ⟨fun _ => hQ, fun h => absurd ((ni_le (by omega) (by omega)).mpr (Nat.le_refl _)) h⟩
  · rintro n i ⟨a, M'⟩ hi ⟨rfl, rfl⟩ ih
    refine ⟨cn_in hS hc, ?_⟩
    rw [cn_cl hS hc, r2, l2]
    have hx : (12 * nI c + nI i) = nI (12 * c + i) := by rw [ni_lit 12, pk_mul, nI_add]
    refine ⟨fun h => absurd ((ni_le (by omega) (by omega)).mp h) (by omega), fun _ => ?_⟩
    rw [hx, ni_cl (by omega), r3 i hi]
    have hl := lostN_le (S 20 c) i
    refine ⟨(ni_in (by omega)).mpr (by omega), fun h => ?_, fun h => ?_⟩
    · rintro _ rfl
      have := ih (nI (lostN (S 20 c) (i + 1)), M') ⟨rfl, rfl⟩
      simp only [lostN, h, if_true] at this
      rw [nI_1, nI_1]; exact this
    · rintro _ rfl
      have := ih (nI (lostN (S 20 c) (i + 1)), M') ⟨rfl, rfl⟩
      simp only [lostN, h, if_false] at this
      rw [nI_1, show (0 : Int32) = nI 0 from rfl, nI_add]; exact this
theorem p_X10_isShort {S M : Mem} (hS : SOK S) (hI : InvR S M) {c : Nat} (hc : c < nc S) {Q : Int32 → Mem → Prop} (hQ : Q (if S 205 c 0 ≤ S 204 c 0 then 0 else 1) M) : wp_X10_isShort (nI c) M Q := by
  obtain ⟨r1, r2, r3, r4, r5, r6⟩ := hI.c hc
  unfold wp_X10_isShort
  rw [cn_cl hS hc, r4, r5]
  refine ⟨cn_in hS hc, cn_in hS hc, fun h => ?_, fun h => ?_⟩
  · rw [if_pos h] at hQ; exact hQ
  · rw [if_neg h] at hQ; exact hQ
theorem p_X10_aboutOf {S M : Mem} (hS : SOK S) (hI : InvR S M) {c : Nat} (hc : c < nc S) (w : Int32) {Q : Int32 → Mem → Prop} (hQ : Q (abt S c w) M) : wp_X10_aboutOf (nI c) w M Q := by
  obtain ⟨r1, r2, r3, r4, r5, r6, r7, r8⟩ := hI.c hc
  have hin := cn_in hS hc
  unfold wp_X10_aboutOf
  rw [cn_cl hS hc, r1, r2, r4, r5, r6, r7, r8]
  unfold abt at hQ
  refine ⟨fun e => ⟨hin, ?_⟩, fun e => ⟨hin, ?_⟩, fun e => p_X10_lostMany hS hI hc ?_, fun e => ⟨hin, ?_⟩, fun e => ⟨hin, ?_⟩, fun e => p_X10_isShort hS hI hc ?_, fun e => ⟨hin, ?_⟩, fun e => ⟨hin, ?_⟩, fun e => ⟨hin, ?_⟩, fun e0 e1 e2 e3 e4 e5 e6 e7 e8 => ?_⟩
  all_goals first | (subst e; simpa using hQ) | (simp only [e0, e1, e2, e3, e4, e5, e6, e7, e8, if_false] at hQ; exact hQ) | skip
  subst e
  by_cases h : S 205 c 0 ≤ S 204 c 0
  · simp [h] at hQ ⊢; exact hQ
  · simp [h] at hQ ⊢; exact hQ
def a_about (S : Mem) (c w : Int32) : Int32 := if 0 ≤ c ∧ c ≤ S 660 0 0 - 1 then abt S c.toNatClampNeg w else -1000
theorem okC_nat {S : Mem} (hS : SOK S) {c : Int32} (h : 0 ≤ c ∧ c ≤ S 660 0 0 - 1) : ∃ k, k < nc S ∧ c = nI k := by
  obtain ⟨n1, n2⟩ := hS.ncs
  rw [n2] at h
  exact ni_of (n := nc S) (x := c) (by omega) h.1 (by have := ni_ge0 (a := nc S) (by omega); grind)
theorem C_about {t : Nat} {S M : Mem} (hS : SOK S) (hI : InvC t S M) (c w : Int32) {Q : Int32 → Mem → Prop} (hQ : Q (a_about S c w) M) : wp_X9_about c w M Q := by
  unfold wp_X9_about
  rw [e_X9_counterAt]
  unfold a_about at hQ
  rcases atC_cases hS hI.1 c with ⟨h1, h2⟩ | ⟨k, hk, rfl, h1, h2⟩
  · rw [h1]; unfold okC at h2; simp only [h2, if_false] at hQ
    exact ⟨fun _ => hQ, fun j e => by cases e⟩
  · rw [h1]; unfold okC at h2; simp only [h2, and_self, if_true, cn_cl hS hk] at hQ
    refine ⟨fun e => by (cases e), fun j e => ?_⟩
    cases e
    exact p_X0_told hI.1 (hI.2.2.1 k hk).1 w hQ
theorem R_about {S M : Mem} (hS : SOK S) (hI : InvR S M) (c w : Int32) {Q : Int32 → Mem → Prop} (hQ : Q (a_about S c w) M) : wp_X10_about c w M Q := by
  unfold wp_X10_about
  simp only [e_X10_isCounter, bi_z, Classical.not_not, hI.n]
  unfold a_about at hQ
  refine ⟨fun h => ?_, fun h => ?_⟩
  · simp only [h, if_false] at hQ; exact hQ
  · obtain ⟨k, hk, rfl⟩ := okC_nat hS h
    simp only [h, and_self, if_true, cn_cl hS hk] at hQ
    exact p_X10_aboutOf hS hI hk w hQ
/-! LOGGED -/
def a_logged (S : Mem) (c i : Int32) : Int32 := if (0 ≤ c ∧ c ≤ S 660 0 0 - 1) ∧ (0 ≤ i ∧ i ≤ S 202 c.toNatClampNeg 0 - 1) then S 20 c.toNatClampNeg i.toNatClampNeg else -2
theorem C_logged {t : Nat} {S M : Mem} (hS : SOK S) (hI : InvC t S M) (c i : Int32) {Q : Int32 → Mem → Prop} (hQ : Q (a_logged S c i) M) : wp_X9_logged c i M Q := by
  unfold wp_X9_logged w_X9_logged_22
  rw [e_X9_counterAt]
  unfold a_logged at hQ
  rcases atC_cases hS hI.1 c with ⟨h1, h2⟩ | ⟨k, hk, rfl, h1, h2⟩
  · rw [h1]; unfold okC at h2; simp only [h2, false_and, if_false] at hQ
    exact ⟨fun _ => hQ, fun j e => by cases e⟩
  · rw [h1]; unfold okC at h2; simp only [h2, and_self, true_and, cn_cl hS hk] at hQ
    refine ⟨fun e => by (cases e), fun j e => ?_⟩
    cases e
    obtain ⟨l1, l2⟩ := hS.cl hk
    rw [hI.1.k 202, hI.1.k 20]
    rw [l2] at hQ ⊢
    have hz := ni_ge0 (a := cln S k) (by omega)
    refine ⟨fun h => ?_, fun h => ⟨fun g => ⟨?_, ?_⟩, fun g => ?_⟩⟩
    · rw [if_neg (by grind)] at hQ; exact hQ
    · obtain ⟨j, hj, rfl⟩ := ni_of (n := cln S k) (by omega) (by grind) g
      exact (ni_in (by omega)).mpr (by omega)
    · rw [if_pos (by grind)] at hQ; exact hQ
    · rw [if_neg (by grind)] at hQ; exact hQ
theorem R_logged {S M : Mem} (hS : SOK S) (hI : InvR S M) (c i : Int32) {Q : Int32 → Mem → Prop} (hQ : Q (a_logged S c i) M) : wp_X10_logged c i M Q := by
  unfold wp_X10_logged
  simp only [e_X10_isCounter, e_X10_in, bi_z, Classical.not_not, hI.n]
  unfold a_logged at hQ
  refine ⟨fun h => ?_, fun h => ?_⟩
  · simp only [h, false_and, if_false] at hQ; exact hQ
  · obtain ⟨k, hk, rfl⟩ := okC_nat hS h
    obtain ⟨r1, r2, r3, r4⟩ := hI.c hk
    obtain ⟨l1, l2⟩ := hS.cl hk
    have n1 := hS.ncs.1
    rw [cn_cl hS hk] at hQ ⊢
    rw [r2]
    refine ⟨cn_in hS hk, fun g => ?_, fun g => ?_⟩
    · simp only [g, and_false, if_false] at hQ; exact hQ
    · simp only [h, g, and_self, if_true] at hQ
      rw [l2] at g
      have hz := ni_ge0 (a := cln S k) (by omega)
      obtain ⟨j, hj, rfl⟩ := ni_of (n := cln S k) (by omega) g.1 (by grind)
      have hx : (12 * nI k + nI j) = nI (12 * k + j) := by rw [ni_lit 12, pk_mul, nI_add]
      rw [hx, ni_cl (by omega), r3 j hj]
      rw [ni_cl (by omega)] at hQ
      exact ⟨(ni_in (by omega)).mpr (by omega), hQ⟩
