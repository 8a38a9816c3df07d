/-! ROWS BY THEIR LENGTH AND FIGURES -/
def rx : Nat → Nat → List Nat
  | 0, _ => []
  | L + 1, f => rx L (f / 8) ++ [f % 8]
theorem rx_pf : ∀ {L f : Nat}, rx L f = pfR (L + 1) f L
  | 0, _ => rfl
  | L + 1, f => by
    rw [rx, rx_pf, pfR_s]
    have e1 : L + 1 + 1 - 2 - L = 0 := by omega
    rw [e1, Nat.pow_zero, Nat.div_one]
    congr 1
    unfold pfR
    apply List.map_congr_left
    intro k hk
    have := List.mem_range.mp hk
    rw [show L + 1 + 1 - 2 - k = (L + 1 - 2 - k) + 1 by omega, Nat.pow_succ, Nat.mul_comm, Nat.div_div_eq_div_mul]
def kS (A : Nat → List Nat) (L f : Nat) : STt := runS A (rx L f)
def kD (L f : Nat) : Int := drw (rx L f)
theorem rx_l : ∀ {L f : Nat}, (rx L f).length = L
  | 0, _ => rfl
  | L + 1, f => by rw [rx, List.length_append, rx_l]; rfl
theorem kS_s {A : Nat → List Nat} {L f e : Nat} (he : e < 8) : kS A (L + 1) (8 * f + e) = stp A (kS A L f) e := by
  unfold kS
  rw [rx, show (8 * f + e) / 8 = f by omega, show (8 * f + e) % 8 = e by omega, runS_a]
theorem kD_s {L f e : Nat} (he : e < 8) : kD (L + 1) (8 * f + e) = kD L f + coin e := by
  unfold kD
  rw [rx, show (8 * f + e) / 8 = f by omega, show (8 * f + e) % 8 = e by omega, drw_a]
theorem kD_r {L f : Nat} : -(L : Int) ≤ kD L f ∧ kD L f ≤ L := by
  have := drw_l (rx L f)
  rw [rx_l] at this; exact this
def pX (A : Nat → List Nat) (L f : Nat) : Prop := ptB A (kS A L f) (kD L f)
theorem pX_e {A : Nat → List Nat} {L f : Nat} : partsF A (L + 1) f = true ↔ pX A L f := by
  rw [partsF_e, show L + 1 - 1 = L by omega, ← rx_pf]; exact Iff.rfl
theorem lpS_no {A : Nat → List Nat} : ∀ {m : Nat}, (∀ L, L < m → ∀ f, f < 8 ^ L → ¬ pX A L f) → lpS A m = none
  | 0, _ => rfl
  | m + 1, h => by
    rw [lpS, lpS_no (fun L hL => h L (by omega))]
    have : (List.range (8 ^ m)).find? (partsF A (m + 1)) = none := List.find?_eq_none.mpr (fun x hx q => h m (by omega) x (List.mem_range.mp hx) (pX_e.mp q))
    dsimp only
    rw [this]; rfl
theorem lpS_yes {A : Nat → List Nat} {m L f : Nat} (hL : L < m) (hf : f < 8 ^ L) (h : pX A L f) (h1 : ∀ L', L' < L → ∀ g, g < 8 ^ L' → ¬ pX A L' g) (h2 : ∀ g, g < f → ¬ pX A L g) : lpS A m = some (L + 1, f) := by
  refine lpS_up (m := L + 1) ?_ (by omega)
  rw [lpS, lpS_no h1]
  have : (List.range (8 ^ L)).find? (partsF A (L + 1)) = some f := List.find?_range_eq_some.mpr ⟨pX_e.mpr h, List.mem_range.mpr hf, fun x hx => by
    have : ¬ partsF A (L + 1) x = true := fun q => h2 x hx (pX_e.mp q)
    simpa using this⟩
  dsimp only
  rw [this]; rfl
theorem rowF_rx {L f : Nat} : rowF (L + 1) f = rx L f ++ [7] := by
  rw [rowF_e, show L + 1 - 1 = L by omega, ← rx_pf]
