/-! NUMBERS -/
theorem ni_lit (n : Nat) : (OfNat.ofNat n : Int32) = nI n := rfl
theorem ni_0 : (0 : Int32) = nI 0 := rfl
theorem ni_1 : (1 : Int32) = nI 1 := rfl
theorem ni_lt {a b : Nat} (ha : a < 2147483648) (hb : b < 2147483648) : nI a < nI b ↔ a < b := nI_ltI ha hb
theorem ni_le {a b : Nat} (ha : a < 2147483648) (hb : b < 2147483648) : nI a ≤ nI b ↔ a ≤ b := nI_leI ha hb
theorem ni_eq {a b : Nat} (ha : a < 2147483648) (hb : b < 2147483648) : nI a = nI b ↔ a = b := nI_eq ha hb
theorem ni_cl {a : Nat} (ha : a < 2147483648) : (nI a).toNatClampNeg = a := nI_clamp ha
theorem ni_sub {a b : Nat} (h : b ≤ a) : nI a - nI b = nI (a - b) := pk_sub h
theorem ni_in {a N : Nat} (ha : a < 2147483648) : vp_in (nI a) N ↔ a < N := by
  rw [vp_in_iff, nI_toInt ha]
  omega
theorem ni_nneg {a : Nat} (ha : a < 2147483648) : ¬ nI a < 0 := nI_pos ha
theorem ni_ge0 {a : Nat} (ha : a < 2147483648) : 0 ≤ nI a := nI_pos' ha
theorem ni_nem1 {a : Nat} (ha : a < 2147483648) : ¬ nI a = -1 := by
  intro h
  have h1 := congrArg Int32.toInt h
  rw [nI_toInt ha] at h1
  have : ((-1 : Int32)).toInt = -1 := by decide
  omega
/-- a number in a range, by its Nat -/
theorem ni_of {x : Int32} {n : Nat} (hn : n < 2147483648) (h0 : 0 ≤ x) (h1 : x < nI n) : ∃ k, k < n ∧ x = nI k := by
  obtain ⟨j, hj, rfl⟩ := nI_of (x := x) (Int32.not_lt.mpr h0)
  exact ⟨j, (ni_lt hj hn).mp h1, rfl⟩
theorem ni_ofle {x : Int32} {n : Nat} (hn : n < 2147483648) (h0 : 0 ≤ x) (h1 : x ≤ nI n) : ∃ k, k ≤ n ∧ x = nI k := by
  obtain ⟨j, hj, rfl⟩ := nI_of (x := x) (Int32.not_lt.mpr h0)
  exact ⟨j, (ni_le hj hn).mp h1, rfl⟩
theorem vin_of {x : Int32} {n : Nat} (hn : n < 2147483648) (h0 : 0 ≤ x) (h1 : x < nI n) : vp_in x n := by
  obtain ⟨k, hk, rfl⟩ := ni_of hn h0 h1
  exact (ni_in (by omega)).mpr hk
/-- the Int of a number: sums and differences that do not wrap -/
theorem ti_add {a b : Int32} (h1 : -2147483648 ≤ a.toInt + b.toInt) (h2 : a.toInt + b.toInt < 2147483648) : (a + b).toInt = a.toInt + b.toInt := by
  rw [Int32.toInt_add]; exact Int.bmod_eq_of_le (by omega) (by omega)
theorem ti_sub {a b : Int32} (h1 : -2147483648 ≤ a.toInt - b.toInt) (h2 : a.toInt - b.toInt < 2147483648) : (a - b).toInt = a.toInt - b.toInt := by
  rw [Int32.toInt_sub]; exact Int.bmod_eq_of_le (by omega) (by omega)
theorem ti_mul {a b : Int32} (h1 : -2147483648 ≤ a.toInt * b.toInt) (h2 : a.toInt * b.toInt < 2147483648) : (a * b).toInt = a.toInt * b.toInt := by
  rw [Int32.toInt_mul]; exact Int.bmod_eq_of_le (by omega) (by omega)
theorem ti_lt {a b : Int32} : a < b ↔ a.toInt < b.toInt := Int32.lt_iff_toInt_lt
theorem ti_le {a b : Int32} : a ≤ b ↔ a.toInt ≤ b.toInt := Int32.le_iff_toInt_le
theorem ti_eq {a b : Int32} : a = b ↔ a.toInt = b.toInt := Int32.toInt_inj.symm
def bi (p : Prop) [Decidable p] : Int32 := if p then 1 else 0
theorem bi_z {p : Prop} [Decidable p] : bi p = 0 ↔ ¬ p := by unfold bi; split <;> simp_all
theorem bi_nz {p : Prop} [Decidable p] : ¬ bi p = 0 ↔ p := by rw [bi_z]; simp
theorem bi_nar {p : Prop} [Decidable p] : narrow .boolean (.int (bi p)) = .int (bi p) := by unfold bi; split <;> rfl
theorem bi_t {p : Prop} [Decidable p] (h : p) : bi p = 1 := if_pos h
theorem bi_f {p : Prop} [Decidable p] (h : ¬ p) : bi p = 0 := if_neg h
/-! small methods, as equations -/
theorem e_X10_in {x l h : Int32} {M : Mem} {Q : Int32 → Mem → Prop} : wp_X10_in x l h M Q ↔ Q (bi (l ≤ x ∧ x ≤ h)) M := by
  unfold wp_X10_in bi
  by_cases h1 : x < l
  · have : ¬ (l ≤ x ∧ x ≤ h) := by grind
    simp [h1, this]
  · by_cases h2 : h < x
    · have : ¬ (l ≤ x ∧ x ≤ h) := by grind
      simp [h1, h2, this]
    · have : (l ≤ x ∧ x ≤ h) := by grind
      simp [h1, h2, this]
theorem e_X10_isVersion {x : Int32} {M : Mem} {Q : Int32 → Mem → Prop} : wp_X10_isVersion x M Q ↔ Q (bi (0 ≤ x ∧ x ≤ 3)) M := by
  unfold wp_X10_isVersion; rw [e_X10_in]; simp [bi_nar]
theorem e_X10_isSheet {x : Int32} {M : Mem} {Q : Int32 → Mem → Prop} : wp_X10_isSheet x M Q ↔ Q (bi (0 ≤ x ∧ x ≤ 3)) M := by
  unfold wp_X10_isSheet; rw [e_X10_in]; simp [bi_nar]
theorem e_X10_isEvent {x : Int32} {M : Mem} {Q : Int32 → Mem → Prop} : wp_X10_isEvent x M Q ↔ Q (bi (0 ≤ x ∧ x ≤ 7)) M := by
  unfold wp_X10_isEvent; rw [e_X10_in]; simp [bi_nar]
theorem e_X10_isCounter {x : Int32} {M : Mem} {Q : Int32 → Mem → Prop} : wp_X10_isCounter x M Q ↔ Q (bi (0 ≤ x ∧ x ≤ M 720 0 0 - 1)) M := by
  unfold wp_X10_isCounter; rw [e_X10_in]; simp [bi_nar]
theorem e_X10_isMix {x y z : Int32} {M : Mem} {Q : Int32 → Mem → Prop} : wp_X10_isMix x y z M Q ↔ Q (bi ((0 ≤ x ∧ x ≤ 3) ∧ (0 ≤ y ∧ y ≤ 3) ∧ (0 ≤ z ∧ z ≤ 65535))) M := by
  unfold wp_X10_isMix
  rw [e_X10_isVersion]
  by_cases h1 : (0 ≤ x ∧ x ≤ 3)
  · simp only [bi_t h1, e_X10_isVersion]
    by_cases h2 : (0 ≤ y ∧ y ≤ 3)
    · simp only [bi_t h2, e_X10_in]
      by_cases h3 : (0 ≤ z ∧ z ≤ 65535)
      · simp [h1, h2, h3, bi]
      · simp only [bi_f h3, bi_f (p := ((0 ≤ x ∧ x ≤ 3) ∧ (0 ≤ y ∧ y ≤ 3) ∧ (0 ≤ z ∧ z ≤ 65535))) (fun q => h3 q.2.2)]; simp
    · simp only [bi_f h2, bi_f (p := ((0 ≤ x ∧ x ≤ 3) ∧ (0 ≤ y ∧ y ≤ 3) ∧ (0 ≤ z ∧ z ≤ 65535))) (fun q => h2 q.2.1)]; simp
  · simp only [bi_f h1, bi_f (p := ((0 ≤ x ∧ x ≤ 3) ∧ (0 ≤ y ∧ y ≤ 3) ∧ (0 ≤ z ∧ z ≤ 65535))) (fun q => h1 q.1)]; simp
theorem e_X10_meets {x : Int32} {M : Mem} {Q : Int32 → Mem → Prop} : wp_X10_meets x M Q ↔ Q (-10 - x) (mst M 747 0 0 x) := by
  unfold wp_X10_meets; simp
theorem e_X9_finding {x : Int32} {M : Mem} {Q : Int32 → Mem → Prop} : wp_X9_finding x M Q ↔ Q (-10 - x) (mst M 661 0 0 x) := by
  unfold wp_X9_finding; simp
def at4 (x : Int32) : Option Nat := if 0 ≤ x ∧ x < 4 then some x.toNatClampNeg else none
theorem e_X9_versionAt {x : Int32} {M : Mem} {Q : Option Nat → Mem → Prop} : wp_X9_versionAt x M Q ↔ Q (at4 x) M := by
  unfold wp_X9_versionAt at4 w_X9_versionAt_9
  by_cases h1 : x < 0
  · have : ¬ (0 ≤ x ∧ x < 4) := by grind
    simp [h1, this]
  · by_cases h2 : x < 4
    · have h3 : (0 ≤ x ∧ x < 4) := by grind
      simp [h1, h2, h3, vin_of (n := 4) (by decide) h3.1 h3.2]
    · have : ¬ (0 ≤ x ∧ x < 4) := by grind
      simp [h1, h2, this]
theorem e_X9_sheetAt {x : Int32} {M : Mem} {Q : Option Nat → Mem → Prop} : wp_X9_sheetAt x M Q ↔ Q (at4 x) M := by
  unfold wp_X9_sheetAt at4 w_X9_sheetAt_9
  by_cases h1 : x < 0
  · have : ¬ (0 ≤ x ∧ x < 4) := by grind
    simp [h1, this]
  · by_cases h2 : x < 4
    · have h3 : (0 ≤ x ∧ x < 4) := by grind
      simp [h1, h2, h3, vin_of (n := 4) (by decide) h3.1 h3.2]
    · have : ¬ (0 ≤ x ∧ x < 4) := by grind
      simp [h1, h2, this]
theorem at4_some {x : Int32} {k : Nat} (hk : k < 4) (hx : x = nI k) : at4 x = some k := by
  subst hx
  unfold at4
  rw [if_pos ⟨ni_ge0 (by omega), (ni_lt (b := 4) (by omega) (by decide)).mpr hk⟩, ni_cl (by omega)]
theorem at4_cases (x : Int32) : (at4 x = none ∧ ¬ (0 ≤ x ∧ x ≤ 3)) ∨ ∃ k, k < 4 ∧ x = nI k ∧ at4 x = some k ∧ (0 ≤ x ∧ x ≤ 3) := by
  by_cases h : (0 ≤ x ∧ x < 4)
  · obtain ⟨k, hk, rfl⟩ := ni_of (n := 4) (by decide) h.1 h.2
    exact Or.inr ⟨k, hk, rfl, at4_some hk rfl, by grind⟩
  · refine Or.inl ⟨if_neg h, by grind⟩
theorem e_J9_min {x y : Int32} {M : Mem} {Q : Int32 → Mem → Prop} : wp_J9_min_7cf53 x y M Q ↔ Q (if y < x then y else x) M := by
  unfold wp_J9_min_7cf53; by_cases h : y < x <;> simp [h]
theorem e_J9_max {x y : Int32} {M : Mem} {Q : Int32 → Mem → Prop} : wp_J9_max_7cf53 x y M Q ↔ Q (if x < y then y else x) M := by
  unfold wp_J9_max_7cf53; by_cases h : x < y <;> simp [h]
