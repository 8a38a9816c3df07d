/-! SUMS TURNED ROUND -/
theorem rsum_a {g : Nat → Nat} {m : Nat} : ∀ {k : Nat}, ((List.range (m + k)).map g).sum = ((List.range m).map g).sum + ((List.range k).map (fun b => g (m + b))).sum
  | 0 => by simp
  | k + 1 => by rw [← Nat.add_assoc, rsum_s, rsum_a, rsum_s]; omega
theorem rsum_8 {g : Nat → Nat} : ∀ {n : Nat}, ((List.range (8 * n)).map g).sum = ((List.range n).map (fun a => ((List.range 8).map (fun b => g (8 * a + b))).sum)).sum
  | 0 => rfl
  | n + 1 => by
    rw [rsum_s (n := n), ← rsum_8, show 8 * (n + 1) = 8 * n + 8 by omega, rsum_a]
theorem rsum_p {g h : Nat → Nat} : ∀ {n : Nat}, ((List.range n).map (fun a => g a + h a)).sum = ((List.range n).map g).sum + ((List.range n).map h).sum
  | 0 => rfl
  | n + 1 => by rw [rsum_s, rsum_s, rsum_s, rsum_p]; omega
theorem rsum_z : ∀ {n : Nat}, ((List.range n).map (fun _ => 0)).sum = 0
  | 0 => rfl
  | n + 1 => by rw [rsum_s, rsum_z]
theorem rsum_cm {F : Nat → Nat → Nat} {m : Nat} : ∀ {n : Nat}, ((List.range n).map (fun a => ((List.range m).map (fun b => F a b)).sum)).sum = ((List.range m).map (fun b => ((List.range n).map (fun a => F a b)).sum)).sum
  | 0 => by
    show 0 = _
    have : (fun b : Nat => ((List.range 0).map (fun a => F a b)).sum) = fun _ => 0 := by funext b; rfl
    rw [this, rsum_z]
  | n + 1 => by
    rw [rsum_s, rsum_cm, ← rsum_p]
    congr 2
    funext b
    rw [rsum_s]
theorem rsum_c {g h : Nat → Nat} {n : Nat} (e : ∀ a, a < n → g a = h a) : ((List.range n).map g).sum = ((List.range n).map h).sum := by
  congr 1
  apply List.map_congr_left
  intro a ha
  exact e a (List.mem_range.mp ha)
theorem rsum_rv {g : Nat → Nat} {K : Nat} (hK : K ≤ 3) : ((List.range (8 ^ K)).map (fun f => g (rv K f))).sum = ((List.range (8 ^ K)).map g).sum := by
  have hk : K = 0 ∨ K = 1 ∨ K = 2 ∨ K = 3 := by omega
  rcases hk with rfl | rfl | rfl | rfl
  · rfl
  · refine rsum_c (fun a ha => ?_)
    have : a < 8 := ha
    show g (a % 8) = g a
    rw [Nat.mod_eq_of_lt this]
  · rw [show (8 : Nat) ^ 2 = 8 * 8 from rfl, rsum_8, rsum_8, rsum_cm]
    refine rsum_c (fun a ha => rsum_c (fun b hb => ?_))
    show g ((8 * b + a) / 8 % 8 + (8 * b + a) % 8 * 8) = g (8 * a + b)
    congr 1; omega
  · rw [show (8 : Nat) ^ 3 = 8 * (8 * 8) from rfl, rsum_8, rsum_8 (g := g), rsum_8, rsum_8]
    have e1 : ((List.range 8).map (fun a => ((List.range 8).map (fun b => ((List.range 8).map (fun c => g (rv 3 (8 * (8 * a + b) + c)))).sum)).sum)).sum = ((List.range 8).map (fun a => ((List.range 8).map (fun b => ((List.range 8).map (fun c => g (8 * (8 * c + b) + a))).sum)).sum)).sum := by
      refine rsum_c (fun a ha => rsum_c (fun b hb => rsum_c (fun c hc => ?_)))
      show g ((8 * (8 * a + b) + c) / 64 % 8 + (8 * (8 * a + b) + c) / 8 % 8 * 8 + (8 * (8 * a + b) + c) % 8 * 64) = g (8 * (8 * c + b) + a)
      have x1 : (8 * (8 * a + b) + c) / 64 = a := by omega
      have x2 : (8 * (8 * a + b) + c) / 8 = 8 * a + b := by omega
      have x3 : (8 * (8 * a + b) + c) % 8 = c := by omega
      rw [x1, x2, x3]
      congr 1; omega
    rw [e1, rsum_cm]
    have e2 : ∀ b, ((List.range 8).map (fun a => ((List.range 8).map (fun c => g (8 * (8 * c + b) + a))).sum)).sum = ((List.range 8).map (fun c => ((List.range 8).map (fun a => g (8 * (8 * c + b) + a))).sum)).sum := fun b => rsum_cm (F := fun a c => g (8 * (8 * c + b) + a))
    rw [rsum_c (fun b _ => e2 b), rsum_cm]
