/-! ORDER: sets -/
def rm (T c : Nat) : Nat := T &&& (4294967295 - 2 ^ c)
theorem rm_t {T c j : Nat} (hc : c < 32) (hj : j < 32) : (rm T c).testBit j = (T.testBit j && decide (j ≠ c)) := by
  unfold rm
  have hp : 2 ^ c < 2 ^ 32 := Nat.pow_lt_pow_right (by decide) hc
  have e : 4294967295 - 2 ^ c = 2 ^ 32 - (2 ^ c + 1) := by omega
  rw [Nat.testBit_and, e, Nat.testBit_two_pow_sub_succ hp, decide_eq_true hj, Bool.true_and, Nat.testBit_two_pow]
  congr 1
  by_cases q : c = j
  · rw [decide_eq_true q, decide_eq_false (fun z => z q.symm)]; rfl
  · rw [decide_eq_false q, decide_eq_true (show j ≠ c from fun z => q z.symm)]; rfl
theorem rm_le {T c : Nat} : rm T c ≤ T := Nat.and_le_left
theorem rm_lt {T c : Nat} (hc : c < 32) (h : T.testBit c = true) : rm T c < T := by
  have h1 := rm_le (T := T) (c := c)
  have h2 : rm T c ≠ T := fun e => by
    have := rm_t (T := T) hc hc
    rw [e, h, decide_eq_false (fun z => z rfl)] at this
    cases this
  omega
def sbS (T X : Nat) : Prop := ∀ j, T.testBit j = true → X.testBit j = true
theorem sbS_rm {T X c : Nat} (h : sbS T X) : sbS (rm T c) X := fun j hj => by
  unfold rm at hj
  rw [Nat.testBit_and, Bool.and_eq_true] at hj
  exact h j hj.1
theorem cpl_n {X : Nat} (hX : X < 2 ^ 32) : nI X ^^^ (-1) = nI (4294967295 - X) := by
  have e1 : (-1 : Int32) = nI 4294967295 := by decide
  rw [e1, fa_xor]
  congr 1
  apply Nat.eq_of_testBit_eq
  intro j
  have e : 4294967295 - X = 2 ^ 32 - (X + 1) := by omega
  rw [Nat.testBit_xor, e, Nat.testBit_two_pow_sub_succ hX, show 4294967295 = 2 ^ 32 - 1 from rfl, Nat.testBit_two_pow_sub_one]
  by_cases q : j < 32
  · rw [decide_eq_true q]; cases X.testBit j <;> rfl
  · rw [decide_eq_false q]
    have : X.testBit j = false := Nat.testBit_lt_two_pow (Nat.lt_of_lt_of_le hX (Nat.pow_le_pow_right (by decide) (by omega)))
    rw [this]; rfl
theorem sbS_iff {T X : Nat} (hT : T < 2 ^ 31) (hX : X < 2 ^ 31) : (nI T &&& (nI X ^^^ (-1))) = 0 ↔ sbS T X := by
  rw [cpl_n (by omega), fa_and]
  have hle : T &&& (4294967295 - X) ≤ T := Nat.and_le_left
  have e : 4294967295 - X = 2 ^ 32 - (X + 1) := by omega
  have h0 : nI (T &&& (4294967295 - X)) = 0 ↔ T &&& (4294967295 - X) = 0 := ni_eq (b := 0) (by omega) (by omega)
  rw [h0]
  constructor
  · intro h j hj
    have h1 : (T &&& (4294967295 - X)).testBit j = false := by rw [h, Nat.zero_testBit]
    rw [Nat.testBit_and, hj, e, Nat.testBit_two_pow_sub_succ (by omega), Bool.true_and] at h1
    have hj32 : j < 32 := by
      apply Classical.byContradiction
      intro z
      have : T.testBit j = false := Nat.testBit_lt_two_pow (Nat.lt_of_lt_of_le hT (Nat.pow_le_pow_right (by decide) (by omega)))
      rw [hj] at this; cases this
    rw [decide_eq_true hj32, Bool.true_and] at h1
    cases hb : X.testBit j with
    | true => rfl
    | false => rw [hb] at h1; cases h1
  · intro h
    apply Nat.eq_of_testBit_eq
    intro j
    rw [Nat.testBit_and, e, Nat.testBit_two_pow_sub_succ (by omega), Nat.zero_testBit]
    cases hb : T.testBit j with
    | false => rfl
    | true => rw [h j hb]; simp
def LT (q : List Nat) (T : Nat) : List Nat := q.filter (fun c => T.testBit c)
def dS (S : Mem) (T : Nat) : Nat → Nat
  | 0 => 0
  | n + 1 => dS S T n + (if T.testBit n = true then dN S n else 0)
theorem DD_p {S : Mem} {l r : List Nat} : DD S (l ++ r) = DD S l + DD S r := by
  unfold DD; rw [List.map_append, List.sum_append]
theorem DD_c {S : Mem} {c : Nat} {l : List Nat} : DD S (c :: l) = dN S c + DD S l := rfl
theorem DD_ins {S : Mem} {c : Nat} {l : List Nat} {p : Nat → Bool} : DD S ((ins S c l).filter p) = DD S (l.filter p) + (if p c = true then dN S c else 0) := by
  have e : l.filter p = (l.take (pl S c l l.length)).filter p ++ (l.drop (pl S c l l.length)).filter p := by rw [← List.filter_append, List.take_append_drop]
  rw [e]
  unfold ins
  rw [List.filter_append, List.filter_cons, DD_p, DD_p]
  by_cases h : p c = true
  · rw [if_pos h, if_pos h, DD_c]; omega
  · rw [if_neg h, if_neg h]; rfl
theorem DD_LT {S : Mem} {X T : Nat} (h : sbS T X) : ∀ {n : Nat}, DD S (LT (osrt S X n) T) = dS S T n
  | 0 => rfl
  | n + 1 => by
    rw [osrt, dS]
    by_cases b : X.testBit n = true
    · rw [if_pos b]
      unfold LT
      rw [DD_ins]
      have := DD_LT (S := S) h (n := n)
      unfold LT at this
      rw [this]
    · rw [if_neg b, DD_LT h, if_neg (fun z => b (h n z)), Nat.add_zero]
theorem dS_rm {S : Mem} {T c : Nat} (hc : c < 32) (h : T.testBit c = true) : ∀ {n : Nat}, n ≤ 32 → dS S (rm T c) n + (if c < n then dN S c else 0) = dS S T n
  | 0, _ => by rw [if_neg (Nat.not_lt_zero _)]; rfl
  | n + 1, hn => by
    have ih := dS_rm (S := S) hc h (n := n) (by omega)
    rw [dS, dS, rm_t hc (by omega), ← ih]
    by_cases e : n = c
    · subst e
      rw [decide_eq_false (fun z => z rfl), Bool.and_false, if_neg (by decide), if_pos (by omega), if_neg (by omega), if_pos h]
    · rw [decide_eq_true e, Bool.and_true]
      by_cases c1 : c < n
      · rw [if_pos (show c < n + 1 by omega), if_pos c1]; omega
      · rw [if_neg (show ¬ c < n + 1 by omega), if_neg c1]; omega
theorem dS_le {S : Mem} {T X : Nat} (h : sbS T X) : ∀ {n : Nat}, dS S T n ≤ dS S X n
  | 0 => Nat.le_refl _
  | n + 1 => by
    have ih := dS_le (S := S) h (n := n)
    rw [dS, dS]
    by_cases b : T.testBit n = true
    · rw [if_pos b, if_pos (h n b)]; omega
    · rw [if_neg b]; omega
theorem dS_50 {S : Mem} (hS : SOK S) {T : Nat} : ∀ {n : Nat}, n ≤ nc S → dS S T n ≤ 50 * n
  | 0, _ => Nat.le_refl _
  | n + 1, h => by
    have ih := dS_50 hS (T := T) (n := n) (by omega)
    have := (hS.dw (c := n) (by omega)).1.2
    rw [dS]
    split <;> omega
theorem KK_b {S : Mem} : ∀ {l : List Nat} {s : Nat}, (∀ c, c ∈ l → wN S c ≤ 50) → KK S s l ≤ l.length * (50 * (s + DD S l))
  | [], s, _ => Nat.zero_le _
  | c :: l, s, h => by
    have ih := KK_b (S := S) (l := l) (s := s + dN S c) (fun x hx => h x (List.mem_cons_of_mem _ hx))
    have hw := h c (List.mem_cons_self ..)
    rw [KK, DD_c, List.length_cons, Nat.succ_mul]
    have e : s + dN S c + DD S l = s + (dN S c + DD S l) := by omega
    rw [e] at ih
    have h2 : wN S c * (s + dN S c) ≤ 50 * (s + (dN S c + DD S l)) := Nat.mul_le_mul hw (by omega)
    omega
/-- least cost from a set on -/
def VT (S : Mem) (X T : Nat) : Nat := KK S (dS S X (nc S) - dS S T (nc S)) (LT (osrt S X (nc S)) T)
def cT (S : Mem) (X T c : Nat) : Nat := wN S c * (dS S X (nc S) - dS S T (nc S) + dN S c) + VT S X (rm T c)
theorem LT_m {S : Mem} {X T n c : Nat} : c ∈ LT (osrt S X n) T ↔ (c < n ∧ X.testBit c = true) ∧ T.testBit c = true := by
  unfold LT
  rw [List.mem_filter, osrt_m]
theorem LT_p {S : Mem} {X T n : Nat} : (LT (osrt S X n) T).Pairwise (rO S) := List.Pairwise.filter _ (osrt_p dN_p)
theorem LT_rm {S : Mem} {X T n c : Nat} (hn : n ≤ 32) (hc : c < 32) : LT (osrt S X n) (rm T c) = (LT (osrt S X n) T).filter (fun x => decide (x ≠ c)) := by
  unfold LT
  rw [List.filter_filter]
  apply List.filter_congr
  intro x hx
  have := (osrt_m.mp hx).1
  rw [rm_t hc (by omega), Bool.and_comm]
theorem cT_e {S : Mem} (hS : SOK S) {X T c : Nat} (h : sbS T X) (hc : c < nc S) (hb : T.testBit c = true) : cT S X T c = wN S c * (dS S X (nc S) - dS S T (nc S) + dN S c) + KK S (dS S X (nc S) - dS S T (nc S) + dN S c) ((LT (osrt S X (nc S)) T).filter (fun x => decide (x ≠ c))) := by
  have n1 := hS.ncs.1
  unfold cT VT
  have h1 := dS_rm (S := S) (T := T) (c := c) (by omega) hb (n := nc S) (by omega)
  rw [if_pos hc] at h1
  have h2 := dS_le (S := S) h (n := nc S)
  rw [LT_rm (by omega) (by omega), show dS S X (nc S) - dS S (rm T c) (nc S) = dS S X (nc S) - dS S T (nc S) + dN S c by omega]
theorem VT_b {S : Mem} (hS : SOK S) {X T : Nat} (h : sbS T X) : VT S X T ≤ 400000 := by
  have n1 := hS.ncs.1
  unfold VT
  have h1 := KK_b (S := S) (l := LT (osrt S X (nc S)) T) (s := dS S X (nc S) - dS S T (nc S)) (fun c hc => (hS.dw (LT_m.mp hc).1.1).2.2)
  have h2 := dS_le (S := S) h (n := nc S)
  have h3 := dS_50 hS (T := X) (n := nc S) (Nat.le_refl _)
  rw [DD_LT h] at h1
  have hl : (LT (osrt S X (nc S)) T).length ≤ 12 := by
    unfold LT
    have a := List.length_filter_le (fun c => T.testBit c) (osrt S X (nc S))
    have b : (osrt S X (nc S)).length = pcn X (nc S) := osrt_l
    have d : pcn X (nc S) ≤ nc S := pcn_le
    omega
  have h4 : (LT (osrt S X (nc S)) T).length * (50 * (dS S X (nc S) - dS S T (nc S) + dS S T (nc S))) ≤ 12 * (50 * 600) := Nat.mul_le_mul hl (Nat.mul_le_mul_left _ (by omega))
  omega
theorem cT_b {S : Mem} (hS : SOK S) {X T c : Nat} (h : sbS T X) (hc : c < nc S) : cT S X T c ≤ 500000 := by
  have n1 := hS.ncs.1
  unfold cT
  have h1 := VT_b hS (sbS_rm (c := c) h)
  have h3 := dS_50 hS (T := X) (n := nc S) (Nat.le_refl _)
  obtain ⟨⟨_, a2⟩, _, a4⟩ := hS.dw hc
  have h4 : wN S c * (dS S X (nc S) - dS S T (nc S) + dN S c) ≤ 50 * 650 := Nat.mul_le_mul a4 (by omega)
  omega
/-- the best of a set, one after another -/
def bsT (S : Mem) (X T : Nat) : Nat → Option Nat
  | 0 => none
  | c + 1 => if T.testBit c = true then (match bsT S X T c with
    | none => some (cT S X T c)
    | some b => if b ≤ cT S X T c then some b else some (cT S X T c)) else bsT S X T c
theorem bsT_i {S : Mem} {X T : Nat} : ∀ (n : Nat), (bsT S X T n = none → ∀ c, c < n → ¬ T.testBit c = true) ∧ (∀ b, bsT S X T n = some b → (∀ c, c < n → T.testBit c = true → b ≤ cT S X T c) ∧ ∃ c, c < n ∧ T.testBit c = true ∧ b = cT S X T c)
  | 0 => ⟨fun _ c hc => absurd hc (Nat.not_lt_zero _), fun b h => by (cases h)⟩
  | n + 1 => by
    obtain ⟨i1, i2⟩ := bsT_i (S := S) (X := X) (T := T) n
    rw [bsT]
    by_cases q : T.testBit n = true
    · rw [if_pos q]
      cases e : bsT S X T n with
      | none =>
        dsimp only
        refine ⟨fun h => by (cases h), fun b h => ?_⟩
        cases h
        refine ⟨fun c hc hb => ?_, n, by omega, q, rfl⟩
        by_cases ec : c = n
        · rw [ec]; exact Nat.le_refl _
        · exact absurd hb (i1 e c (by omega))
      | some b0 =>
        dsimp only
        obtain ⟨j1, c0, j2, j3, j4⟩ := i2 b0 e
        by_cases z : b0 ≤ cT S X T n
        · rw [if_pos z]
          refine ⟨fun h => by (cases h), fun b h => ?_⟩
          cases h
          refine ⟨fun c hc hb => ?_, c0, by omega, j3, j4⟩
          by_cases ec : c = n
          · rw [ec]; exact z
          · exact j1 c (by omega) hb
        · rw [if_neg z]
          refine ⟨fun h => by (cases h), fun b h => ?_⟩
          cases h
          refine ⟨fun c hc hb => ?_, n, by omega, q, rfl⟩
          by_cases ec : c = n
          · rw [ec]; exact Nat.le_refl _
          · have := j1 c (by omega) hb; omega
    · rw [if_neg q]
      refine ⟨fun h c hc => ?_, fun b h => ?_⟩
      · by_cases ec : c = n
        · rw [ec]; exact q
        · exact i1 h c (by omega)
      · obtain ⟨j1, c0, j2, j3, j4⟩ := i2 b h
        refine ⟨fun c hc hb => ?_, c0, by omega, j3, j4⟩
        by_cases ec : c = n
        · rw [ec] at hb; exact absurd hb q
        · exact j1 c (by omega) hb
theorem bsT_v {S : Mem} (hS : SOK S) {X T : Nat} (h : sbS T X) (h0 : T ≠ 0) (hT : T < 2 ^ nc S) : bsT S X T (nc S) = some (VT S X T) := by
  obtain ⟨c, hc⟩ := Nat.exists_testBit_of_ne_zero h0
  have hcn : c < nc S := by
    apply Classical.byContradiction
    intro z
    have : T.testBit c = false := Nat.testBit_lt_two_pow (Nat.lt_of_lt_of_le hT (Nat.pow_le_pow_right (by decide) (by omega)))
    rw [hc] at this; cases this
  have hmem : c ∈ LT (osrt S X (nc S)) T := LT_m.mpr ⟨⟨hcn, h c hc⟩, hc⟩
  obtain ⟨i1, i2⟩ := bsT_i (S := S) (X := X) (T := T) (nc S)
  cases e : bsT S X T (nc S) with
  | none => exact absurd hc (i1 e c hcn)
  | some b =>
    obtain ⟨j1, c0, j2, j3, j4⟩ := i2 b e
    have hp := LT_p (S := S) (X := X) (T := T) (n := nc S)
    have g1 : VT S X T ≤ b := by
      rw [j4, cT_e hS h j2 j3]
      exact KK_f hp (LT_m.mpr ⟨⟨j2, h c0 j3⟩, j3⟩)
    have g2 : b ≤ VT S X T := by
      cases el : LT (osrt S X (nc S)) T with
      | nil => rw [el] at hmem; cases hmem
      | cons hd tl =>
        have hm := LT_m.mp (show hd ∈ LT (osrt S X (nc S)) T by rw [el]; exact List.mem_cons_self ..)
        have := j1 hd hm.1.1 hm.2
        rw [cT_e hS h hm.1.1 hm.2, el] at this
        unfold VT
        rw [el]
        rw [el] at hp
        rw [KK_h hp]; exact this
    congr 1; omega
