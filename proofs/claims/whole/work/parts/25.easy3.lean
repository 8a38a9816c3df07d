/-! THE RANGES STAY -/
def pV (S : Mem) (v : Nat) : Prop := (∃ n, n ≤ 120 ∧ S 606 v 0 = nI n) ∧ ∀ i, rng (S 43 v i) 0 255
def pC (S : Mem) (c : Nat) : Prop := (∃ v, v < 4 ∧ S 200 c 0 = nI v) ∧ (∃ n, n ≤ 12 ∧ S 202 c 0 = nI n) ∧ (∀ i, rng (S 20 c i) (-1) 7) ∧ clost S c ≤ 3 ∧ rng (S 204 c 0) (-99) 99 ∧ rng (S 205 c 0) (-99) 99 ∧ rng (S 206 c 0) 0 99 ∧ rng (S 207 c 0) 1 50 ∧ rng (S 208 c 0) 0 50
def pH (S : Mem) (s : Nat) : Prop := (S 551 s 0 = 0 ∨ S 551 s 0 = 1) ∧ rng (S 552 s 0) 0 2 ∧ ∃ n, n ≤ 40 ∧ S 553 s 0 = nI n
def pP (S : Mem) : Prop := (∃ n, n ≤ 40 ∧ S 453 0 0 = nI n) ∧ rng (S 454 0 0) 0 100 ∧ ∀ i, i < (S 453 0 0).toNatClampNeg → (∃ c, c < nc S ∧ S 34 0 i = nI c) ∧ rng (S 35 0 i) 0 399 ∧ rng (S 36 0 i) 1 1000
def pJ (S : Mem) : Prop := (∃ n, n ≤ 16 ∧ S 252 0 0 = nI n) ∧ rng (S 253 0 0) 0 255 ∧ ∀ i, i < (S 252 0 0).toNatClampNeg → rng (S 22 0 i) 0 16777215 ∧ rng (S 23 0 i) 0 16777215
theorem SOK.v {S : Mem} (h : SOK S) {v : Nat} (hv : v < 4) : pV S v := h.1 v hv
theorem SOK.c {S : Mem} (h : SOK S) {c : Nat} (hc : c < nc S) : pC S c := h.2.2.1 c hc
theorem SOK.h {S : Mem} (h : SOK S) {s : Nat} (hs : s < 4) : pH S s := h.2.2.2.1 s hs
theorem SOK.p {S : Mem} (h : SOK S) : pP S := h.2.2.2.2.1
theorem SOK.j {S : Mem} (h : SOK S) : pJ S := h.2.2.2.2.2
theorem SOK.mk {S : Mem} (h1 : ∀ v, v < 4 → pV S v) (h2 : ∃ n, n ≤ 12 ∧ S 660 0 0 = nI n) (h3 : ∀ c, c < nc S → pC S c) (h4 : ∀ s, s < 4 → pH S s) (h5 : pP S) (h6 : pJ S) : SOK S := ⟨h1, h2, h3, h4, h5, h6⟩
theorem pV.congr {S S' : Mem} {v : Nat} (h : pV S v) (h1 : S' 43 v = S 43 v) (h2 : S' 606 v = S 606 v) : pV S' v := by
  unfold pV at h ⊢; rw [h1, h2]; exact h
theorem pC.congr {S S' : Mem} {c : Nat} (h : pC S c) (hs : ∀ k, k ∈ [200, 202, 20, 204, 205, 206, 207, 208] → S' k c = S k c) : pC S' c := by
  have f (k : Nat) (q : k ∈ [200, 202, 20, 204, 205, 206, 207, 208] := by decide) : S' k c = S k c := hs k q
  simp only [pC, clost, cln, f 200, f 202, f 20, f 204, f 205, f 206, f 207, f 208] at h ⊢
  exact h
theorem pH.congr {S S' : Mem} {s : Nat} (h : pH S s) (hs : ∀ k, k ∈ [551, 552, 553] → S' k s = S k s) : pH S' s := by
  have f (k : Nat) (q : k ∈ [551, 552, 553] := by decide) : S' k s = S k s := hs k q
  simp only [pH, f 551, f 552, f 553] at h ⊢
  exact h
theorem pP.congr {S S' : Mem} (h : pP S) (hn : nc S ≤ nc S') (hs : ∀ k, k ∈ [453, 454, 34, 35, 36] → S' k = S k) : pP S' := by
  have f (k : Nat) (q : k ∈ [453, 454, 34, 35, 36] := by decide) : S' k = S k := hs k q
  simp only [pP, f 453, f 454, f 34, f 35, f 36] at h ⊢
  exact ⟨h.1, h.2.1, fun i hi => ⟨by obtain ⟨c, hc, e⟩ := (h.2.2 i hi).1; exact ⟨c, by omega, e⟩, (h.2.2 i hi).2⟩⟩
theorem pJ.congr {S S' : Mem} (h : pJ S) (hs : ∀ k, k ∈ [252, 253, 22, 23] → S' k = S k) : pJ S' := by
  have f (k : Nat) (q : k ∈ [252, 253, 22, 23] := by decide) : S' k = S k := hs k q
  simp only [pJ, f 252, f 253, f 22, f 23] at h ⊢
  exact h
/-- one family of kinds has changed: g tells which -/
theorem SOK.upd {S S' : Mem} (h : SOK S) (g : Nat) (hV : g = 0 ∨ (S' 43 = S 43 ∧ S' 606 = S 606)) (hN : S' 660 = S 660) (hC : g = 2 ∨ ∀ k, k ∈ [200, 202, 20, 204, 205, 206, 207, 208] → S' k = S k) (hH : g = 3 ∨ ∀ k, k ∈ [551, 552, 553] → S' k = S k) (hP : g = 4 ∨ ∀ k, k ∈ [453, 454, 34, 35, 36] → S' k = S k) (hJ : g = 5 ∨ ∀ k, k ∈ [252, 253, 22, 23] → S' k = S k)
    (q0 : g = 0 → ∀ v, v < 4 → pV S' v) (q2 : g = 2 → ∀ c, c < nc S → pC S' c) (q3 : g = 3 → ∀ s, s < 4 → pH S' s) (q4 : g = 4 → pP S') (q5 : g = 5 → pJ S') : SOK S' := by
  have hn : nc S' = nc S := by unfold nc; rw [hN]
  refine SOK.mk (fun v hv => ?_) (by rw [hN]; exact h.2.1) (fun c hc => ?_) (fun s hs => ?_) ?_ ?_
  · rcases hV with e | e
    · exact q0 e v hv
    · exact (h.v hv).congr (by rw [e.1]) (by rw [e.2])
  · rw [hn] at hc
    rcases hC with e | e
    · exact q2 e c hc
    · exact (h.c hc).congr (fun k q => by rw [e k q])
  · rcases hH with e | e
    · exact q3 e s hs
    · exact (h.h hs).congr (fun k q => by rw [e k q])
  · rcases hP with e | e
    · exact q4 e
    · exact h.p.congr (by omega) e
  · rcases hJ with e | e
    · exact q5 e
    · exact h.j.congr e
/-- the same of the reference's state; the ranges g as above, 6: the finding alone -/
theorem InvR.upd {S S' M M' : Mem} (h : InvR S M) (g : Nat) (hV : g = 0 ∨ (S' 43 = S 43 ∧ S' 606 = S 606) ∧ ∀ k, k ∈ [53, 54, 55, 56, 57, 58, 59, 60, 61] → M' k = M k) (hN : S' 660 = S 660 ∧ M' 720 = M 720) (hC : g = 2 ∨ (∀ k, k ∈ [200, 202, 20, 204, 205, 206, 207, 208] → S' k = S k) ∧ ∀ k, k ∈ [64, 65, 66, 67, 68, 69, 70, 71] → M' k = M k) (hH : g = 3 ∨ (∀ k, k ∈ [551, 552, 553, 42] → S' k = S k) ∧ ∀ k, k ∈ [81, 82, 83, 84] → M' k = M k) (hP : g = 4 ∨ (∀ k, k ∈ [453, 454, 34, 35, 36] → S' k = S k) ∧ ∀ k, k ∈ [732, 736, 75, 76, 77] → M' k = M k) (hJ : g = 5 ∨ (∀ k, k ∈ [252, 253, 22, 23] → S' k = S k) ∧ ∀ k, k ∈ [737, 740, 78, 79] → M' k = M k) (hF : M' 747 0 0 = S' 661 0 0)
    (q0 : g = 0 → ∀ v, v < 4 → RV S' M' v) (q2 : g = 2 → ∀ c, c < nc S → RCo S' M' c) (q3 : g = 3 → ∀ s, s < 4 → RH S' M' s) (q4 : g = 4 → RP S' M') (q5 : g = 5 → RJ S' M') : InvR S' M' := by
  have hn : nc S' = nc S := by unfold nc; rw [hN.1]
  refine InvR.mk (fun v hv => ?_) (by rw [hN.1, hN.2]; exact h.n) (fun c hc => ?_) (fun s hs => ?_) ?_ ?_ hF
  · rcases hV with e | e
    · exact q0 e v hv
    · exact (h.v hv).congr ⟨by rw [e.1.1], by rw [e.1.2]⟩ e.2
  · rw [hn] at hc
    rcases hC with e | e
    · exact q2 e c hc
    · exact (h.c hc).congr (fun k q => by rw [e.1 k q]) e.2
  · rcases hH with e | e
    · exact q3 e s hs
    · exact (h.h hs).congr (fun k q => by rw [e.1 k q]) e.2
  · rcases hP with e | e
    · exact q4 e
    · exact h.p.congr e.1 e.2
  · rcases hJ with e | e
    · exact q5 e
    · exact h.j.congr e.1 e.2
theorem rng_nI {k : Nat} {a b : Int} (hk : k < 2147483648) : rng (nI k) a b ↔ a ≤ k ∧ (k : Int) ≤ b := by unfold rng; rw [nI_toInt hk]
theorem rng_le {x y z : Int32} {a b : Int} (h1 : y ≤ x) (h2 : x ≤ z) (ha : y.toInt = a) (hb : z.toInt = b) : rng x a b := ⟨by rw [← ha]; exact ti_le.mp h1, by rw [← hb]; exact ti_le.mp h2⟩
theorem S_type {S : Mem} (h : SOK S) (v b : Int32) : SOK (n_type S v b) := by
  unfold n_type
  split
  · rename_i q
    obtain ⟨⟨q1, q2⟩, q3⟩ := q
    obtain ⟨k, hk, rfl⟩ := ni_ofle (n := 3) (by decide) q1.1 q1.2
    rw [ni_cl (by omega)] at q3 ⊢
    refine h.upd 0 (Or.inl rfl) (by simp [mst_ne]) (Or.inr (by simp [mst_ne])) (Or.inr (by simp [mst_ne])) (Or.inr (by simp [mst_ne])) (Or.inr (by simp [mst_ne])) (fun _ w hw => ?_) (fun e => by cases e) (fun e => by cases e) (fun e => by cases e) (fun e => by cases e)
    have hl := (h.len (v := k) (by omega)).1
    obtain ⟨p1, p2⟩ := h.v hw
    by_cases e : w = k
    · subst e
      refine ⟨⟨vln S w + 1, by omega, by rw [mst_eq]⟩, fun i => ?_⟩
      rw [mst_ne (by decide), mst_k]
      split
      · exact rng_le q2.1 q2.2 (by decide) (by decide)
      · exact p2 i
    · refine ⟨?_, fun i => ?_⟩
      · rw [mst_k, if_neg (fun q => e q.1), mst_ne (by decide)]; exact p1
      · rw [mst_ne (by decide), mst_k, if_neg (fun q => e q.1)]; exact p2 i
  · exact h
theorem S_wipe {S : Mem} (h : SOK S) (v : Int32) : SOK (n_wipe S v) := by
  unfold n_wipe
  split
  · rename_i q
    obtain ⟨k, hk, rfl⟩ := ni_ofle (n := 3) (by decide) q.1 q.2
    rw [ni_cl (by omega)]
    refine h.upd 0 (Or.inl rfl) (by simp [mst_ne]) (Or.inr (by simp [mst_ne])) (Or.inr (by simp [mst_ne])) (Or.inr (by simp [mst_ne])) (Or.inr (by simp [mst_ne])) (fun _ w hw => ?_) (fun e => by cases e) (fun e => by cases e) (fun e => by cases e) (fun e => by cases e)
    obtain ⟨p1, p2⟩ := h.v hw
    refine ⟨?_, fun i => by rw [mst_ne (by decide)]; exact p2 i⟩
    by_cases e : w = k
    · subst e; exact ⟨0, by omega, by rw [mst_eq]; rfl⟩
    · rw [mst_k, if_neg (fun q => e q.1)]; exact p1
  · exact h
/-! CLAIM -/
def i99 (x : Int32) : Prop := -99 ≤ x ∧ x ≤ 99
theorem okC_dec (S : Mem) (x : Int32) : okC S x ∨ ¬ okC S x := Classical.em _
def a_claim (S : Mem) (c d l : Int32) : Int32 := if (0 ≤ c ∧ c ≤ S 660 0 0 - 1) ∧ (-99 ≤ d ∧ d ≤ 99) ∧ (-99 ≤ l ∧ l ≤ 99) then 1 else -2
def n_claim (S : Mem) (c d l : Int32) : Mem := if (0 ≤ c ∧ c ≤ S 660 0 0 - 1) ∧ (-99 ≤ d ∧ d ≤ 99) ∧ (-99 ≤ l ∧ l ≤ 99) then mst (mst S 204 c.toNatClampNeg 0 d) 205 c.toNatClampNeg 0 l else S
theorem InvC.ctr {t : Nat} {S S' M M' : Mem} {c : Nat} (h : InvC t S M) (hE : EsC S' M') (h1 : SVeq S S') (hn : nc S' = nc S) (h2 : ∀ c', c' < nc S → c' ≠ c → SCeq S S' c') (hM : ∀ k, k ∈ [609, 608, 607, 46, 47, 48, 45, 44, 662, 663, 41] → M' k = M k) (hMc : ∀ k, k ∈ [203, 212, 21, 210, 211] → ∀ c', c' ≠ c → M' k c' = M k c') (hc : M' 203 c 0 = nI (clost S' c) ∧ M' 212 c 0 = -1) : InvC (t + 1) S' M' := by
  obtain ⟨a1, a2, a3, a4⟩ := h
  refine ⟨hE, fun v hv => ⟨(a2 v hv).1.congr h1.1 h1.2 (fun k q => ?_), ?_⟩, fun c' hc' => ?_, a4.congr h1 (fun k q => hM k ?_)⟩
  · rw [hM k (by revert q; revert k; decide)]
  · obtain ⟨k, hk, e⟩ := (a2 v hv).2
    exact ⟨k, by omega, by rw [hM 608 (by decide)]; exact e⟩
  · rw [hn] at hc'
    by_cases e : c' = c
    · subst e; exact ⟨hc.1, Or.inl hc.2⟩
    · exact (a3 c' hc').congr h1 (h2 c' hc' e) (fun k q => hMc k q c' e) (hM 608 (by decide))
  · revert q; revert k; decide
theorem C_claim {t : Nat} {S M : Mem} (hS : SOK S) (hI : InvC t S M) (c d l : Int32) {Q : Int32 → Mem → Prop} (hQ : ∀ M1, InvC (t + 1) (n_claim S c d l) M1 → FrC M M1 → Q (a_claim S c d l) M1) : wp_X9_claim c d l M Q := by
  unfold wp_X9_claim
  rw [e_X9_counterAt]
  unfold a_claim n_claim at hQ
  rcases atC_cases hS hI.1 c with ⟨h1, h2⟩ | ⟨k, hk, rfl, h1, h2⟩
  · rw [h1]
    unfold okC at h2
    simp only [h2, false_and, if_false] at hQ
    exact ⟨fun _ => hQ M hI.more FrC.rf, fun j e => by cases e⟩
  · rw [h1]
    refine ⟨fun e => by (cases e), fun j e => ?_⟩
    cases e
    unfold okC at h2
    simp only [h2, cn_cl hS hk, true_and, e_J9_max, e_J9_min, forall_eq] at hQ ⊢
    by_cases hb : (-99 ≤ d ∧ d ≤ 99) ∧ (-99 ≤ l ∧ l ≤ 99)
    · simp only [hb, and_self, if_true] at hQ
      refine ⟨fun q => absurd q (by split <;> grind), fun _ => ⟨fun _ => ?_, fun q => absurd q (by split <;> grind)⟩⟩
      refine hQ _ (hI.ctr (c := k) (((hI.1.st).st).skip (k := 212) (by decide)) ⟨by simp [mst_ne], by simp [mst_ne]⟩ (by simp [nc, mst_ne]) (fun c' _ hc' => ?_) (by simp [mst_ne]) (fun q hq c' hc' => ?_) ⟨?_, by simp [mst_k]⟩) (((FrC.st (nrefk (by decide))).tr (FrC.st (nrefk (by decide)))).tr (FrC.st (nrefk (by decide))))
      · refine ⟨by simp [mst_ne], by simp [mst_ne], by simp [mst_ne], ?_, ?_⟩ <;> (funext i; simp [mst_ne, mst_k, hc'])
      · funext i
        simp only [List.mem_cons, List.not_mem_nil, or_false] at hq
        rcases hq with rfl | rfl | rfl | rfl | rfl <;> simp [mst_ne, mst_k, hc']
      · have : clost (mst (mst S 204 k 0 d) 205 k 0 l) k = clost S k := by simp [clost, cln, mst_ne]
        rw [this, mst_ne (by decide), mst_ne (by decide), mst_ne (by decide)]
        exact (hI.2.2.1 k hk).1
    · simp only [hb, if_false] at hQ
      refine ⟨fun q => hQ M hI.more FrC.rf, fun q => ⟨fun r => absurd ?_ hb, fun r => hQ M hI.more FrC.rf⟩⟩
      grind
theorem R_claim {S M : Mem} (hS : SOK S) (hI : InvR S M) (c d l : Int32) {Q : Int32 → Mem → Prop} (hQ : ∀ M1, InvR (n_claim S c d l) M1 → FrR M M1 → Q (a_claim S c d l) M1) : wp_X10_claim c d l M Q := by
  unfold wp_X10_claim
  simp only [e_X10_isCounter, e_X10_in, bi_z, Classical.not_not, forall_eq, hI.n]
  unfold a_claim n_claim at hQ
  refine ⟨fun h => ?_, fun h => ⟨fun hb => ?_, fun hb => ⟨fun hb2 => ?_, fun hb2 => ?_⟩⟩⟩
  · simp only [h, false_and, if_false] at hQ; exact hQ M hI FrR.rf
  · simp only [h, hb, and_false, false_and, if_false] at hQ; exact hQ M hI FrR.rf
  · simp only [h, hb, hb2, and_false, if_false] at hQ; exact hQ M hI FrR.rf
  · simp only [h, hb, hb2, and_self, if_true] at hQ
    obtain ⟨n1, n2⟩ := hS.ncs
    rw [n2] at h
    obtain ⟨k, hk, rfl⟩ := ni_of (n := nc S) (x := c) (by omega) h.1 (by have := ni_ge0 (a := nc S) (by omega); grind)
    rw [cn_cl hS hk] at hQ ⊢
    refine ⟨cn_in hS hk, cn_in hS hk, hQ _ (hI.upd 2 (Or.inr ⟨⟨by simp [mst_ne], by simp [mst_ne]⟩, by simp [mst_ne]⟩) ⟨by simp [mst_ne], by simp [mst_ne]⟩ (Or.inl rfl) (Or.inr ⟨by simp [mst_ne], by simp [mst_ne]⟩) (Or.inr ⟨by simp [mst_ne], by simp [mst_ne]⟩) (Or.inr ⟨by simp [mst_ne], by simp [mst_ne]⟩) (by simp [mst_ne, hI.f]) (fun e => by cases e) (fun _ c' hc' => ?_) (fun e => by cases e) (fun e => by cases e) (fun e => by cases e)) ((FrR.st (yrefk (by decide))).tr (FrR.st (yrefk (by decide))))⟩
    obtain ⟨r1, r2, r3, r4, r5, r6, r7, r8⟩ := hI.c hc'
    by_cases e : c' = k
    · subst e
      simp [RCo, cln, mst_ne, mst_k, r1, r2, r6, r7, r8]
      exact r3
    · simp [RCo, cln, mst_ne, mst_k, r1, r2, r4, r5, r6, r7, r8, e]
      exact r3
