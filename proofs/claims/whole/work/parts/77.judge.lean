/-! THE CLASS JUDGES A COUNTER -/
theorem ror_t {g : Nat → Nat} {j : Nat} : ∀ {n : Nat}, ((List.range n).foldl (fun a f => a ||| g f) 0).testBit j = true ↔ ∃ f, f < n ∧ (g f).testBit j = true
  | 0 => by
    constructor
    · intro h
      have : (0 : Nat).testBit j = true := h
      rw [Nat.zero_testBit] at this; cases this
    · rintro ⟨f, hf, _⟩; exact absurd hf (Nat.not_lt_zero _)
  | n + 1 => by
    rw [ror_s, Nat.testBit_or, Bool.or_eq_true, ror_t]
    constructor
    · rintro (⟨f, hf, h⟩ | h)
      · exact ⟨f, by omega, h⟩
      · exact ⟨n, by omega, h⟩
    · rintro ⟨f, hf, h⟩
      by_cases e : f = n
      · subst e; exact Or.inr h
      · exact Or.inl ⟨f, by omega, h⟩
theorem ror_rv {g : Nat → Nat} {K : Nat} (hK : K ≤ 3) : (List.range (8 ^ K)).foldl (fun a f => a ||| g (rv K f)) 0 = (List.range (8 ^ K)).foldl (fun a f => a ||| g f) 0 := by
  apply Nat.eq_of_testBit_eq
  intro j
  rw [Bool.eq_iff_iff, ror_t (g := fun f => g (rv K f)), ror_t (g := g)]
  constructor
  · rintro ⟨f, hf, h⟩; exact ⟨rv K f, rv_lt hK, h⟩
  · rintro ⟨f, hf, h⟩; exact ⟨rv K f, rv_lt hK, by rw [rv_v hK hf]; exact h⟩
/-- what a FILL of the class comes from -/
def cC (S : Mem) (c f : Nat) : Nat := causeF S c (rv (clost S c) f)
theorem cC_7 {S : Mem} {c f : Nat} : cC S c f ≤ 7 := causeF_7
def jdk : List Nat := flk ++ [29, 30, 31]
def onlyC (c : Nat) (M M1 : Mem) : Prop := ∀ k, k ∈ [21, 210, 211] → ∀ j, j ≠ c → M1 k j = M k j
def tly (S : Mem) (c w i : Nat) : Nat := ((List.range i).map (fun f => cC S c f / 2 ^ (w - 1) % 2)).sum
def JdI (S : Mem) (c : Nat) (le : Nat → Nat) (M : Mem) (i : Nat) (m : Mem) : Prop := (∀ k, k ∉ jdk ++ [21, 210, 211] → m k = M k) ∧ onlyC c M m ∧ FI S m c ∧ LeI (vA S (cvr S c)) m le 8 ∧ (∀ f, f < i → m 30 0 f = nI (cC S c f)) ∧ m 21 c 0 = nI (8 ^ clost S c) ∧ (∀ w, 1 ≤ w → w ≤ 3 → m 21 c w = nI (tly S c w i)) ∧ m 210 c 0 = nI ((List.range i).foldl (fun a f => a ||| cC S c f) 0)
theorem p_judge84 {S M : Mem} {c : Nat} {le : Nat → Nat} (hl : clost S c ≤ 3) {i : Nat} (hi : i < 8 ^ clost S c) {m : Mem} (hJ : JdI S c le M i m) {Q : Mem → Prop} {K45 : Nat → Int32 → Int32 → Mem → Prop} {x3 : Int32} (hK : ∀ m', JdI S c le M (i + 1) m' → K45 c x3 (nI (i + 1)) m') : w_X2_judge_84 Q K45 c x3 (nI i) (nI (cC S c i)) m := by
  have h512 := p8_512 hl
  have h7 := cC_7 (S := S) (c := c) (f := i)
  obtain ⟨j1, j2, j3, j4, j5, j6, j7, j8⟩ := hJ
  have c1 : (1 : Int32).toNatClampNeg = 1 := rfl
  have c2 : (2 : Int32).toNatClampNeg = 2 := rfl
  have c3 : (3 : Int32).toNatClampNeg = 3 := rfl
  have i1 : vp_in (1 : Int32) 4 := (ni_in (a := 1) (by decide)).mpr (by decide)
  have i2 : vp_in (2 : Int32) 4 := (ni_in (a := 2) (by decide)).mpr (by decide)
  have i3 : vp_in (3 : Int32) 4 := (ni_in (a := 3) (by decide)).mpr (by decide)
  unfold w_X2_judge_84
  rw [by_8 _ (by omega), by_8 _ (by omega), c1, c2, c3, ni_cl (by omega)]
  refine ⟨(ni_in (by omega)).mpr (by omega), ?_⟩
  rintro _ rfl _ rfl
  refine ⟨i1, i1, ?_⟩
  rintro _ rfl
  refine ⟨i2, i2, ?_⟩
  rintro _ rfl
  refine ⟨i3, i3, ?_⟩
  rintro _ rfl
  rw [nI_1]
  have b1 : nI (cC S c i) &&& 1 = nI (cC S c i / 2 ^ 0 % 2) := by rw [an_1, Nat.pow_zero, Nat.div_one]
  have b2 : (nI (cC S c i) >>> ((1 : Int32) &&& 31)) &&& 1 = nI (cC S c i / 2 ^ 1 % 2) := sh_m (j := 1) (by omega) (by decide)
  have b3 : (nI (cC S c i) >>> ((2 : Int32) &&& 31)) &&& 1 = nI (cC S c i / 2 ^ 2 % 2) := sh_m (j := 2) (by omega) (by decide)
  rw [b1, b2, b3]
  have t : ∀ w, tly S c w (i + 1) = tly S c w i + cC S c i / 2 ^ (w - 1) % 2 := fun w => rsum_s (g := fun f => cC S c f / 2 ^ (w - 1) % 2)
  have e210 : mst m 30 0 i (nI (cC S c i)) 210 c 0 ||| nI (cC S c i) = nI ((List.range (i + 1)).foldl (fun a f => a ||| cC S c f) 0) := by
    rw [mst_ne (by decide), j8, fa_or, ror_s (g := fun f => cC S c f)]
  rw [e210]
  generalize hm1 : mst (mst m 30 0 i (nI (cC S c i))) 210 c 0 (nI ((List.range (i + 1)).foldl (fun a f => a ||| cC S c f) 0)) = m1
  have f1 : ∀ k, k ≠ 30 → k ≠ 210 → m1 k = m k := fun k q1 q2 => by rw [← hm1, mst_ne q2, mst_ne q1]
  have g30 : ∀ f, f < i + 1 → m1 30 0 f = nI (cC S c f) := fun f hf => by
    rw [← hm1, mst_ne (by decide), mst_k]
    by_cases e : f = i
    · rw [if_pos ⟨rfl, e⟩, e]
    · rw [if_neg (fun q => e q.2)]; exact j5 f (by omega)
  have g210 : m1 210 c 0 = nI ((List.range (i + 1)).foldl (fun a f => a ||| cC S c f) 0) := by rw [← hm1, mst_eq]
  have g210o : ∀ j, j ≠ c → m1 210 j = m 210 j := fun j hj => by
    funext x; rw [← hm1, mst_k, if_neg (fun q => hj q.1), mst_ne (by decide)]
  have e1 : m1 21 c 1 + nI (cC S c i / 2 ^ 0 % 2) = nI (tly S c 1 (i + 1)) := by rw [f1 21 (by decide) (by decide), j7 1 (by decide) (by decide), nI_add, t]
  rw [e1]
  have e2 : mst m1 21 c 1 (nI (tly S c 1 (i + 1))) 21 c 2 + nI (cC S c i / 2 ^ 1 % 2) = nI (tly S c 2 (i + 1)) := by
    rw [mst_k, if_neg (fun q => absurd q.2 (by decide)), f1 21 (by decide) (by decide), j7 2 (by decide) (by decide), nI_add, t]
  rw [e2]
  have e3 : mst (mst m1 21 c 1 (nI (tly S c 1 (i + 1)))) 21 c 2 (nI (tly S c 2 (i + 1))) 21 c 3 + nI (cC S c i / 2 ^ 2 % 2) = nI (tly S c 3 (i + 1)) := by
    rw [mst_k, if_neg (fun q => absurd q.2 (by decide)), mst_k, if_neg (fun q => absurd q.2 (by decide)), f1 21 (by decide) (by decide), j7 3 (by decide) (by decide), nI_add, t]
  rw [e3]
  generalize hm2 : mst (mst (mst m1 21 c 1 (nI (tly S c 1 (i + 1)))) 21 c 2 (nI (tly S c 2 (i + 1)))) 21 c 3 (nI (tly S c 3 (i + 1))) = m2
  have f2 : ∀ k, k ≠ 21 → m2 k = m1 k := fun k q => by rw [← hm2, mst_ne q, mst_ne q, mst_ne q]
  have f21 : ∀ j x, m2 21 j x = if j = c ∧ x = 3 then nI (tly S c 3 (i + 1)) else if j = c ∧ x = 2 then nI (tly S c 2 (i + 1)) else if j = c ∧ x = 1 then nI (tly S c 1 (i + 1)) else m1 21 j x := fun j x => by
    rw [← hm2, mst_k, mst_k, mst_k]
  refine hK m2 ⟨fun k q => ?_, fun k hk j hj => ?_, j3.keep (fun k q => ?_), fun e he => ?_, fun f hf => ?_, ?_, fun w hw1 hw3 => ?_, ?_⟩
  · rw [f2 k (fun e => q (by rw [e]; decide)), f1 k (fun e => q (by rw [e]; decide)) (fun e => q (by rw [e]; decide)), j1 k q]
  · simp only [List.mem_cons, List.not_mem_nil, or_false] at hk
    rcases hk with rfl | rfl | rfl
    · funext x
      rw [f21, if_neg (fun q => hj q.1), if_neg (fun q => hj q.1), if_neg (fun q => hj q.1), f1 21 (by decide) (by decide), j2 21 (by decide) j hj]
    · rw [f2 210 (by decide), g210o j hj, j2 210 (by decide) j hj]
    · rw [f2 211 (by decide), f1 211 (by decide) (by decide), j2 211 (by decide) j hj]
  · rw [f2 k (fun e => absurd (e ▸ q) (by decide)), f1 k (fun e => absurd (e ▸ q) (by decide)) (fun e => absurd (e ▸ q) (by decide))]
  · rw [f2 29 (by decide), f1 29 (by decide) (by decide)]; exact j4 e he
  · rw [f2 30 (by decide)]; exact g30 f hf
  · rw [f21, if_neg (fun q => absurd q.2 (by decide)), if_neg (fun q => absurd q.2 (by decide)), if_neg (fun q => absurd q.2 (by decide)), f1 21 (by decide) (by decide)]; exact j6
  · have : w = 1 ∨ w = 2 ∨ w = 3 := by omega
    rcases this with rfl | rfl | rfl
    · rw [f21, if_neg (fun q => absurd q.2 (by decide)), if_neg (fun q => absurd q.2 (by decide)), if_pos ⟨rfl, rfl⟩]
    · rw [f21, if_neg (fun q => absurd q.2 (by decide)), if_pos ⟨rfl, rfl⟩]
    · rw [f21, if_pos ⟨rfl, rfl⟩]
  · rw [f2 210 (by decide)]; exact g210
