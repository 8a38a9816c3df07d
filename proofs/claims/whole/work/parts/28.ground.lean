/-! GROUND -/
def gnew (k : Int32) (g st : Int32) : Int32 := if st = 0 then k &&& ((1 <<< (g &&& 31)) ^^^ (-1)) else k ||| (1 <<< (g &&& 31))
/-! bits of small numbers (fa_and, fa_or, s_l: pasted from the kit's starting texts) -/
theorem fa_and (a b : Nat) : nI a &&& nI b = nI (a &&& b) := by
  apply Int32.toBitVec_inj.1
  show BitVec.ofNat 32 a &&& BitVec.ofNat 32 b = BitVec.ofNat 32 (a &&& b)
  apply BitVec.eq_of_getLsbD_eq
  intro i hi
  simp [hi]
theorem fa_or (a b : Nat) : nI a ||| nI b = nI (a ||| b) := by
  apply Int32.toBitVec_inj.1
  show BitVec.ofNat 32 a ||| BitVec.ofNat 32 b = BitVec.ofNat 32 (a ||| b)
  apply BitVec.eq_of_getLsbD_eq
  intro i hi
  simp [hi]
theorem s_l : ∀ n, n < 32 → ((nI n &&& 31).toBitVec.smod 32).toNat = n := by decide +kernel
theorem sh_r {k j : Nat} (hk : k < 2147483648) (hj : j < 32) : nI k >>> (nI j &&& 31) = nI (k / 2 ^ j) := pk_shrN hk _ j (s_l j hj)
theorem sh_l {k j : Nat} (hj : j < 32) (h : k * 2 ^ j < 4294967296) : nI k <<< (nI j &&& 31) = nI (k * 2 ^ j) := pk_shlN _ j (s_l j hj) h
theorem sh_1 {j : Nat} (hj : j < 32) : (1 : Int32) <<< (nI j &&& 31) = nI (2 ^ j) := by
  have h2 : (2 : Nat) ^ j < 2 ^ 32 := Nat.pow_lt_pow_right (by decide) hj
  have := sh_l (k := 1) hj (by omega)
  rw [Nat.one_mul] at this; exact this
theorem an_1 (k : Nat) : nI k &&& 1 = nI (k % 2) := by
  rw [show (1 : Int32) = nI 1 from rfl, fa_and, Nat.and_one_is_mod]
theorem cp_1 : ∀ j, j < 31 → nI (2 ^ j) ^^^ (-1) = nI (4294967295 - 2 ^ j) := by decide +kernel
theorem gn_off : ∀ k, k < 256 → ∀ j, j < 8 → ((k &&& (4294967295 - 2 ^ j) = k) ↔ ¬ k / 2 ^ j % 2 = 1) ∧ k &&& (4294967295 - 2 ^ j) ≤ 255 := by decide +kernel
theorem gn_on : ∀ k, k < 256 → ∀ j, j < 8 → ((k ||| 2 ^ j = k) ↔ k / 2 ^ j % 2 = 1) ∧ k ||| 2 ^ j ≤ 255 := by decide +kernel
theorem g_bit {k j : Nat} (hk : k < 256) (hj : j < 8) : (((nI k >>> (nI j &&& 31)) &&& 1) = 1) ↔ k / 2 ^ j % 2 = 1 := by
  rw [sh_r (by omega) (by omega), an_1, show (1 : Int32) = nI 1 from rfl, ni_eq (by omega) (by decide)]
theorem g_off (k : Nat) (hk : k < 256) (g : Nat) (hg : g < 8) : ((nI k &&& ((1 <<< (nI g &&& 31)) ^^^ (-1)) = nI k) ↔ ¬ ((nI k >>> (nI g &&& 31)) &&& 1) = 1) ∧ nI 0 ≤ (nI k &&& ((1 <<< (nI g &&& 31)) ^^^ (-1))) ∧ (nI k &&& ((1 <<< (nI g &&& 31)) ^^^ (-1))) ≤ nI 255 := by
  obtain ⟨a, b⟩ := gn_off k hk g hg
  rw [g_bit hk hg, sh_1 (by omega), cp_1 g (by omega), fa_and, ni_eq (by omega) (by omega), ni_le (by decide) (by omega), ni_le (by omega) (by decide)]
  exact ⟨a, Nat.zero_le _, b⟩
theorem g_on (k : Nat) (hk : k < 256) (g : Nat) (hg : g < 8) : ((nI k ||| (1 <<< (nI g &&& 31)) = nI k) ↔ ((nI k >>> (nI g &&& 31)) &&& 1) = 1) ∧ nI 0 ≤ (nI k ||| (1 <<< (nI g &&& 31))) ∧ (nI k ||| (1 <<< (nI g &&& 31))) ≤ nI 255 := by
  obtain ⟨a, b⟩ := gn_on k hk g hg
  rw [g_bit hk hg, sh_1 (by omega), fa_or, ni_eq (by omega) (by omega), ni_le (by decide) (by omega), ni_le (by omega) (by decide)]
  exact ⟨a, Nat.zero_le _, b⟩
def a_ground (S : Mem) (g st : Int32) : Int32 := if 0 ≤ g ∧ g ≤ 7 then (if gnew (S 253 0 0) g st = S 253 0 0 then 0 else 1) else -2
def n_ground (S : Mem) (g st : Int32) : Mem := if (0 ≤ g ∧ g ≤ 7) ∧ ¬ gnew (S 253 0 0) g st = S 253 0 0 then mst S 253 0 0 (gnew (S 253 0 0) g st) else S
theorem rng_nat {x : Int32} {n : Nat} (hn : n < 2147483648) (h : rng x 0 n) : ∃ k, k ≤ n ∧ x = nI k := by
  refine ni_ofle hn (ti_le.mpr (by simpa using h.1)) (ti_le.mpr (by rw [nI_toInt hn]; exact h.2))
theorem C_ground {t : Nat} {S M : Mem} (hI : InvC t S M) (g st : Int32) {Q : Int32 → Mem → Prop} (hQ : ∀ M1, InvC (t + 1) (n_ground S g st) M1 → FrC M M1 → Q (a_ground S g st) M1) : wp_X9_ground g st M Q := by
  unfold wp_X9_ground w_X9_ground_44
  unfold a_ground n_ground at hQ
  rw [hI.1.k 253]
  simp only [forall_eq]
  have key : (0 ≤ g ∧ g ≤ 7) → (gnew (S 253 0 0) g st = S 253 0 0 → Q 0 M) ∧ (¬ gnew (S 253 0 0) g st = S 253 0 0 → Q 1 (mst M 253 0 0 (gnew (S 253 0 0) g st))) := by
    intro hg
    simp only [hg, and_self, true_and, if_true] at hQ
    refine ⟨fun h => ?_, fun h => ?_⟩
    · simp only [h, not_true, if_false, if_true] at hQ; exact hQ M hI.more FrC.rf
    · simp only [h, not_false_eq_true, if_false, if_true] at hQ
      exact hQ _ (hI.light (hI.1.st) ⟨by simp [mst_ne], by simp [mst_ne]⟩ (by simp [nc, mst_ne]) (fun c' _ => ⟨by simp [mst_ne], by simp [mst_ne], by simp [mst_ne], by simp [mst_ne], by simp [mst_ne]⟩) (by simp [mst_ne])) (FrC.st (nrefk (by decide)))
  refine ⟨fun h => ?_, fun h => ⟨fun h2 => ⟨fun hs => ?_, fun hs => ?_⟩, fun h2 => ?_⟩⟩
  · rw [if_neg (by grind), if_neg (by grind)] at hQ; exact hQ M hI.more FrC.rf
  · have := key (by grind); unfold gnew at this; simp only [hs, if_true] at this; exact this
  · have := key (by grind); unfold gnew at this; simp only [hs, if_false] at this; exact this
  · rw [if_neg (by grind), if_neg (by grind)] at hQ; exact hQ M hI.more FrC.rf
theorem R_ground {S M : Mem} (hS : SOK S) (hI : InvR S M) (g st : Int32) (hst : st = 0 ∨ st = 1) {Q : Int32 → Mem → Prop} (hQ : ∀ M1, InvR (n_ground S g st) M1 → FrR M M1 → Q (a_ground S g st) M1) : wp_X10_ground g st M Q := by
  unfold wp_X10_ground w_X10_ground_30 w_X10_ground_39 w_X10_ground_66
  simp only [e_X10_in, bi_z, Classical.not_not, forall_eq]
  unfold a_ground n_ground at hQ
  refine ⟨fun h => ?_, fun h => ?_⟩
  · simp only [h, false_and, if_false] at hQ; exact hQ M hI FrR.rf
  · simp only [h, and_self, true_and, if_true] at hQ
    obtain ⟨k, hk, ek⟩ := rng_nat (n := 255) (by decide) hS.j.2.1
    obtain ⟨j, hj, rfl⟩ := ni_ofle (n := 7) (by decide) h.1 h.2
    rw [hI.j.2.1]
    have up : ∀ z : Int32, z = gnew (S 253 0 0) (nI j) st → InvR (if ¬ gnew (S 253 0 0) (nI j) st = S 253 0 0 then mst S 253 0 0 (gnew (S 253 0 0) (nI j) st) else S) (mst M 740 0 0 z) := by
      rintro z rfl
      obtain ⟨r1, r2, r3⟩ := hI.j
      by_cases e : gnew (S 253 0 0) (nI j) st = S 253 0 0
      · simp only [e, not_true, if_false]
        exact hI.upd 5 (Or.inr ⟨⟨rfl, rfl⟩, by simp [mst_ne]⟩) ⟨rfl, by simp [mst_ne]⟩ (Or.inr ⟨fun _ _ => rfl, by simp [mst_ne]⟩) (Or.inr ⟨fun _ _ => rfl, by simp [mst_ne]⟩) (Or.inr ⟨fun _ _ => rfl, by simp [mst_ne]⟩) (Or.inl rfl) (by simp [mst_ne, hI.f]) (fun e => by cases e) (fun e => by cases e) (fun e => by cases e) (fun e => by cases e) (fun _ => ⟨by simp [mst_ne, r1], by simp [mst_k], fun i hi => by simp [mst_ne, r3 i hi]⟩)
      · simp only [e, not_false_eq_true, if_true]
        exact hI.upd 5 (Or.inr ⟨⟨by simp [mst_ne], by simp [mst_ne]⟩, by simp [mst_ne]⟩) ⟨by simp [mst_ne], by simp [mst_ne]⟩ (Or.inr ⟨by simp [mst_ne], by simp [mst_ne]⟩) (Or.inr ⟨by simp [mst_ne], by simp [mst_ne]⟩) (Or.inr ⟨by simp [mst_ne], by simp [mst_ne]⟩) (Or.inl rfl) (by simp [mst_ne, hI.f]) (fun e => by cases e) (fun e => by cases e) (fun e => by cases e) (fun e => by cases e) (fun _ => ⟨by simp [mst_ne, r1], by simp [mst_k], fun i hi => by simp only [mst_ne, ne_eq, Nat.reduceEqDiff, not_false_eq_true] at hi ⊢; exact r3 i hi⟩)
    have fr : ∀ z : Int32, FrR M (mst M 740 0 0 z) := fun z => FrR.st (yrefk (by decide))
    have o1 := (g_off k (by omega) j (by omega)).1
    have o2 := (g_on k (by omega) j (by omega)).1
    rw [← ek] at o1 o2
    rcases hst with rfl | rfl
    · have hg : gnew (S 253 0 0) (nI j) 0 = S 253 0 0 &&& ((1 <<< (nI j &&& 31)) ^^^ (-1)) := if_pos rfl
      have hq := hQ _ (up _ hg.symm) (fr _)
      rw [hg] at hq
      refine ⟨fun b => ⟨fun x => absurd x (by decide), fun _ => ⟨fun _ => ⟨fun _ => ?_, fun x => absurd (by trivial) x⟩, fun x => absurd (by trivial) x⟩⟩, fun b => ⟨fun _ => ⟨fun _ => ⟨fun x => absurd x (by decide), fun _ => ?_⟩, fun x => absurd (by trivial) x⟩, fun x => absurd (by trivial) x⟩⟩
      · rw [if_neg (fun z => (o1.mp z) b)] at hq; exact hq
      · rw [if_pos (o1.mpr b)] at hq; exact hq
    · have hg : gnew (S 253 0 0) (nI j) 1 = S 253 0 0 ||| (1 <<< (nI j &&& 31)) := if_neg (by decide)
      have hq := hQ _ (up _ hg.symm) (fr _)
      rw [hg] at hq
      refine ⟨fun b => ⟨fun _ => ⟨fun x => absurd x (by decide), fun _ => ⟨fun x => absurd x (by decide), fun _ => ?_⟩⟩, fun x => absurd (by trivial) x⟩, fun b => ⟨fun x => absurd x (by decide), fun _ => ⟨fun x => absurd x (by decide), fun _ => ⟨fun _ => ?_, fun x => absurd (by trivial) x⟩⟩⟩⟩
      · rw [if_pos (o2.mpr b)] at hq; exact hq
      · rw [if_neg (fun z => b (o2.mp z))] at hq; exact hq
theorem S_ground {S : Mem} (h : SOK S) (g st : Int32) : SOK (n_ground S g st) := by
  unfold n_ground
  split
  · rename_i q
    obtain ⟨k, hk, ek⟩ := rng_nat (n := 255) (by decide) h.j.2.1
    obtain ⟨j, hj, rfl⟩ := ni_ofle (n := 7) (by decide) q.1.1 q.1.2
    refine h.upd 5 (Or.inr ⟨by simp [mst_ne], by simp [mst_ne]⟩) (by simp [mst_ne]) (Or.inr (by simp [mst_ne])) (Or.inr (by simp [mst_ne])) (Or.inr (by simp [mst_ne])) (Or.inl rfl) (fun e => by cases e) (fun e => by cases e) (fun e => by cases e) (fun e => by cases e) (fun _ => ?_)
    obtain ⟨a1, a2, a3⟩ := h.j
    simp only [pJ, mst_ne, mst_k, ne_eq, Nat.reduceEqDiff, not_false_eq_true, and_self, if_true]
    refine ⟨a1, ?_, a3⟩
    unfold gnew
    rw [ek]
    split
    · have := (g_off k (by omega) j (by omega)).2
      exact rng_le this.1 this.2 (by decide) (by decide)
    · have := (g_on k (by omega) j (by omega)).2
      exact rng_le this.1 this.2 (by decide) (by decide)
  · exact h
