/-! ORDER: what is asked -/
def dN (S : Mem) (c : Nat) : Nat := max 1 (S 207 c 0).toNatClampNeg
theorem dN_p {S : Mem} (c : Nat) : 0 < dN S c := by unfold dN; omega
def wN (S : Mem) (c : Nat) : Nat := (S 208 c 0).toNatClampNeg
def bfB (S : Mem) (a b : Nat) : Bool := decide (dN S a * wN S b < dN S b * wN S a)
def pl (S : Mem) (c : Nat) (l : List Nat) : Nat → Nat
  | 0 => 0
  | n + 1 => if bfB S c (l.getD n 0) = true then pl S c l n else n + 1
def ins (S : Mem) (c : Nat) (l : List Nat) : List Nat := l.take (pl S c l l.length) ++ c :: l.drop (pl S c l l.length)
def osrt (S : Mem) (X : Nat) : Nat → List Nat
  | 0 => []
  | c + 1 => if X.testBit c = true then ins S c (osrt S X c) else osrt S X c
def KK (S : Mem) : Nat → List Nat → Nat
  | _, [] => 0
  | s, c :: l => wN S c * (s + dN S c) + KK S (s + dN S c) l
def DD (S : Mem) (l : List Nat) : Nat := (l.map (dN S)).sum
def rO (S : Mem) (a b : Nat) : Prop := dN S a * wN S b < dN S b * wN S a ∨ (dN S a * wN S b = dN S b * wN S a ∧ a < b)
theorem pl_le {S : Mem} {c : Nat} {l : List Nat} : ∀ {n : Nat}, pl S c l n ≤ n
  | 0 => Nat.le_refl _
  | n + 1 => by
    have := pl_le (S := S) (c := c) (l := l) (n := n)
    rw [pl]; split <;> omega
theorem pl_hi {S : Mem} {c : Nat} {l : List Nat} : ∀ {n i : Nat}, pl S c l n ≤ i → i < n → bfB S c (l.getD i 0) = true
  | 0, i, _, h => absurd h (Nat.not_lt_zero _)
  | n + 1, i, h1, h2 => by
    rw [pl] at h1
    by_cases q : bfB S c (l.getD n 0) = true
    · rw [if_pos q] at h1
      by_cases e : i = n
      · rw [e]; exact q
      · exact pl_hi h1 (by omega)
    · rw [if_neg q] at h1; omega
theorem pl_lo {S : Mem} {c : Nat} {l : List Nat} : ∀ {n : Nat}, 0 < pl S c l n → ¬ bfB S c (l.getD (pl S c l n - 1) 0) = true
  | 0, h => absurd h (Nat.not_lt_zero _)
  | n + 1, h => by
    rw [pl] at h ⊢
    by_cases q : bfB S c (l.getD n 0) = true
    · rw [if_pos q] at h ⊢; exact pl_lo h
    · rw [if_neg q]; exact q
theorem rO_t {S : Mem} (hd : ∀ c, 0 < dN S c) {a b c : Nat} (h1 : rO S a b) (h2 : rO S b c) : rO S a c := by
  have pa := hd a
  have pb := hd b
  have pc := hd c
  -- compare d_a * w_c with d_c * w_a by way of d_b
  have k1 : dN S a * wN S b ≤ dN S b * wN S a := by rcases h1 with h | h <;> omega
  have k2 : dN S b * wN S c ≤ dN S c * wN S b := by rcases h2 with h | h <;> omega
  have m1 : dN S b * (dN S a * wN S c) ≤ dN S a * (dN S c * wN S b) := by
    rw [Nat.mul_left_comm]; exact Nat.mul_le_mul_left _ k2
  have m2 : dN S c * (dN S a * wN S b) ≤ dN S c * (dN S b * wN S a) := Nat.mul_le_mul_left _ k1
  have e1 : dN S a * (dN S c * wN S b) = dN S c * (dN S a * wN S b) := Nat.mul_left_comm _ _ _
  have e2 : dN S c * (dN S b * wN S a) = dN S b * (dN S c * wN S a) := Nat.mul_left_comm _ _ _
  have m3 : dN S b * (dN S a * wN S c) ≤ dN S b * (dN S c * wN S a) := by omega
  have m4 : dN S a * wN S c ≤ dN S c * wN S a := Nat.le_of_mul_le_mul_left m3 pb
  by_cases eq : dN S a * wN S c = dN S c * wN S a
  · refine Or.inr ⟨eq, ?_⟩
    -- then both were ties
    have n1 : dN S a * wN S b = dN S b * wN S a := by
      apply Classical.byContradiction
      intro z
      have : dN S a * wN S b < dN S b * wN S a := by omega
      have : dN S c * (dN S a * wN S b) < dN S c * (dN S b * wN S a) := Nat.mul_lt_mul_of_pos_left this pc
      rw [eq] at m1
      omega
    have n2 : dN S b * wN S c = dN S c * wN S b := by
      apply Classical.byContradiction
      intro z
      have : dN S b * wN S c < dN S c * wN S b := by omega
      have h3 : dN S a * (dN S b * wN S c) < dN S a * (dN S c * wN S b) := Nat.mul_lt_mul_of_pos_left this pa
      have e3 : dN S a * (dN S b * wN S c) = dN S b * (dN S a * wN S c) := Nat.mul_left_comm _ _ _
      rw [eq] at e3
      omega
    have q1 : a < b := by rcases h1 with h | h <;> omega
    have q2 : b < c := by rcases h2 with h | h <;> omega
    omega
  · exact Or.inl (by omega)
theorem ins_m {S : Mem} {c x : Nat} {l : List Nat} : x ∈ ins S c l ↔ x = c ∨ x ∈ l := by
  unfold ins
  rw [List.mem_append, List.mem_cons]
  constructor
  · rintro (h | h | h)
    · exact Or.inr (List.mem_of_mem_take h)
    · exact Or.inl h
    · exact Or.inr (List.mem_of_mem_drop h)
  · rintro (h | h)
    · exact Or.inr (Or.inl h)
    · rw [← List.take_append_drop (pl S c l l.length) l, List.mem_append] at h
      rcases h with h | h
      · exact Or.inl h
      · exact Or.inr (Or.inr h)
theorem osrt_m {S : Mem} {X : Nat} : ∀ {n x : Nat}, x ∈ osrt S X n ↔ x < n ∧ X.testBit x = true
  | 0, x => ⟨fun h => by (cases h), fun h => absurd h.1 (Nat.not_lt_zero _)⟩
  | n + 1, x => by
    rw [osrt]
    by_cases b : X.testBit n = true
    · rw [if_pos b, ins_m, osrt_m]
      constructor
      · rintro (h | h)
        · rw [h]; exact ⟨by omega, b⟩
        · exact ⟨by omega, h.2⟩
      · rintro ⟨h1, h2⟩
        by_cases e : x = n
        · exact Or.inl e
        · exact Or.inr ⟨by omega, h2⟩
    · rw [if_neg b, osrt_m]
      constructor
      · rintro ⟨h1, h2⟩; exact ⟨by omega, h2⟩
      · rintro ⟨h1, h2⟩
        have : x ≠ n := fun e => b (by rw [← e]; exact h2)
        exact ⟨by omega, h2⟩
theorem osrt_p {S : Mem} (hd : ∀ c, 0 < dN S c) {X : Nat} : ∀ {n : Nat}, (osrt S X n).Pairwise (rO S)
  | 0 => List.Pairwise.nil
  | n + 1 => by
    have ih := osrt_p hd (X := X) (n := n)
    rw [osrt]
    split
    · have hm : ∀ x, x ∈ osrt S X n → x < n := fun x hx => (osrt_m.mp hx).1
      generalize osrt S X n = l at ih hm
      unfold ins
      have hp := pl_le (S := S) (c := n) (l := l) (n := l.length)
      have hhi : ∀ x, x ∈ l.drop (pl S n l l.length) → rO S n x := by
        intro x hx
        obtain ⟨i, hi, e⟩ := List.getElem_of_mem hx
        rw [List.length_drop] at hi
        rw [List.getElem_drop] at e
        have := pl_hi (S := S) (c := n) (l := l) (n := l.length) (i := pl S n l l.length + i) (by omega) (by omega)
        rw [List.getD_eq_getElem?_getD, List.getElem?_eq_getElem (by omega)] at this
        have h2 : bfB S n x = true := by rw [← e]; exact this
        exact Or.inl (of_decide_eq_true h2)
      have hlo : ∀ x, x ∈ l.take (pl S n l l.length) → rO S x n := by
        intro x hx
        obtain ⟨i, hi, e⟩ := List.getElem_of_mem hx
        rw [List.length_take] at hi
        rw [List.getElem_take] at e
        have hpos : 0 < pl S n l l.length := by omega
        have h1 := pl_lo (S := S) (c := n) (l := l) (n := l.length) hpos
        rw [List.getD_eq_getElem?_getD, List.getElem?_eq_getElem (by omega)] at h1
        have hy : l[pl S n l l.length - 1]'(by omega) ∈ l := List.getElem_mem _
        have hyl := hm _ hy
        have hyn : rO S (l[pl S n l l.length - 1]'(by omega)) n := by
          have h2 : ¬ dN S n * wN S (l[pl S n l l.length - 1]'(by omega)) < dN S (l[pl S n l l.length - 1]'(by omega)) * wN S n := fun z => h1 (decide_eq_true z)
          by_cases q : dN S (l[pl S n l l.length - 1]'(by omega)) * wN S n < dN S n * wN S (l[pl S n l l.length - 1]'(by omega))
          · exact Or.inl q
          · exact Or.inr ⟨by omega, hyl⟩
        by_cases ei : i = pl S n l l.length - 1
        · subst ei; rw [← e]; exact hyn
        · have : rO S (l[i]'(by omega)) (l[pl S n l l.length - 1]'(by omega)) := List.pairwise_iff_getElem.mp ih i (pl S n l l.length - 1) (by omega) (by omega) (by omega)
          rw [e] at this
          exact rO_t hd this hyn
      rw [List.pairwise_append, List.pairwise_cons]
      refine ⟨List.Pairwise.sublist (List.take_sublist _ _) ih, ⟨hhi, List.Pairwise.sublist (List.drop_sublist _ _) ih⟩, fun a ha b hb => ?_⟩
      rcases List.mem_cons.mp hb with e | hb
      · rw [e]; exact hlo a ha
      · exact rO_t hd (hlo a ha) (hhi b hb)
    · exact ih
theorem rO_i {S : Mem} {a : Nat} : ¬ rO S a a := by
  rintro (h | h)
  · omega
  · omega
/-- the one that goes first -/
theorem KK_f {S : Mem} {c : Nat} : ∀ {l : List Nat} {s : Nat}, l.Pairwise (rO S) → c ∈ l → KK S s l ≤ wN S c * (s + dN S c) + KK S (s + dN S c) (l.filter (fun x => decide (x ≠ c)))
  | [], s, _, h => by cases h
  | b :: l, s, hp, h => by
    obtain ⟨hb, hl⟩ := List.pairwise_cons.mp hp
    by_cases e : b = c
    · subst e
      have hn : l.filter (fun x => decide (x ≠ b)) = l := by
        rw [List.filter_eq_self]
        intro x hx
        exact decide_eq_true (fun z => rO_i (z ▸ hb x hx))
      rw [List.filter_cons, if_neg (by simp), hn, KK]
      exact Nat.le_refl _
    · have hc : c ∈ l := (List.mem_cons.mp h).resolve_left (fun z => e z.symm)
      have ih := KK_f (s := s + dN S b) hl hc
      have hR := hb c hc
      rw [List.filter_cons, if_pos (decide_eq_true e), KK, KK]
      rw [show s + dN S c + dN S b = s + dN S b + dN S c by omega]
      have k : dN S b * wN S c ≤ dN S c * wN S b := by rcases hR with z | z <;> omega
      simp only [Nat.mul_add] at ih ⊢
      rw [Nat.mul_comm (dN S b), Nat.mul_comm (dN S c)] at k
      omega
theorem KK_h {S : Mem} {h : Nat} {l : List Nat} {s : Nat} (hp : (h :: l).Pairwise (rO S)) : KK S s (h :: l) = wN S h * (s + dN S h) + KK S (s + dN S h) ((h :: l).filter (fun x => decide (x ≠ h))) := by
  obtain ⟨hb, hl⟩ := List.pairwise_cons.mp hp
  have hn : l.filter (fun x => decide (x ≠ h)) = l := by
    rw [List.filter_eq_self]
    intro x hx
    exact decide_eq_true (fun z => rO_i (z ▸ hb x hx))
  rw [List.filter_cons, if_neg (by simp), hn, KK]
theorem KK_s {S : Mem} {h c : Nat} {l : List Nat} {s : Nat} (hp : (h :: l).Pairwise (rO S)) (hc : c ∈ h :: l) (hlt : c < h) : KK S s (h :: l) ≠ wN S c * (s + dN S c) + KK S (s + dN S c) ((h :: l).filter (fun x => decide (x ≠ c))) := by
  obtain ⟨hb, hl⟩ := List.pairwise_cons.mp hp
  have hcl : c ∈ l := (List.mem_cons.mp hc).resolve_left (by omega)
  have ih := KK_f (s := s + dN S h) hl hcl
  have hR : dN S h * wN S c < dN S c * wN S h := by rcases hb c hcl with z | z <;> omega
  rw [List.filter_cons, if_pos (decide_eq_true (show h ≠ c by omega)), KK, KK]
  rw [show s + dN S c + dN S h = s + dN S h + dN S c by omega]
  simp only [Nat.mul_add] at ih ⊢
  rw [Nat.mul_comm (dN S h), Nat.mul_comm (dN S c)] at hR
  omega
