/-! HOW MANY BITS: bitCount of sixteen bits -/
theorem ush {k c : Nat} {cc : UInt32} (hk : k < 4294967296) (hc : cc.toNat = c) (h : c < 32) : ((nI k).toUInt32 >>> cc).toInt32 = nI (k / 2 ^ c) := by
  have e0 : (nI k).toUInt32.toNat = k := by
    show (BitVec.ofNat 32 k).toNat = k
    rw [BitVec.toNat_ofNat]; omega
  generalize (nI k).toUInt32 = u at e0
  have h1 : (u >>> cc).toNat = k / 2 ^ c := by
    rw [UInt32.toNat_shiftRight, hc, e0, Nat.shiftRight_eq_div_pow, Nat.mod_eq_of_lt h]
  rw [← h1]
  generalize u >>> cc = x
  unfold nI
  apply Int32.toBitVec_inj.mp
  show x.toBitVec = BitVec.ofNat 32 x.toBitVec.toNat
  simp
def by1 (a : Nat) : Nat := a - ((a / 2) &&& 85)
def by2 (a : Nat) : Nat := (a &&& 51) + ((a / 4) &&& 51)
def by3 (a : Nat) : Nat := (a + a / 16) &&& 15
theorem by_1 : ∀ a, a < 256 → ∀ c, c < 2 → (128 * c + a / 2) &&& 85 = (a / 2) &&& 85 ∧ (a / 2) &&& 85 ≤ a := by decide +kernel
theorem by_2 : ∀ a, a < 256 → ∀ c, c < 4 → (64 * c + a / 4) &&& 51 = (a / 4) &&& 51 ∧ by2 a ≤ 102 := by decide +kernel
theorem by_p : ∀ a, a < 256 → by3 (by2 (by1 a)) = pcn a 8 ∧ by2 (by1 a) ≤ 68 ∧ by1 a < 256 ∧ by2 (by1 a) % 16 ≤ 4 := by decide +kernel
theorem ms_b {x y m : Nat} (hx : x < 256) (hy : y < 256) (hm : m < 256) : (256 * y + x) &&& (16843009 * m) = 256 * (y &&& m) + (x &&& m) := by
  have e1 := an_s (l := 16) (a := 256 * y + x) (b := 0) (c := 256 * m + m) (e := 257 * m) (by omega) (by omega)
  have e2 := an_s (l := 8) (a := x) (b := y) (c := m) (e := m) (by omega) (by omega)
  rw [Nat.mul_zero, Nat.zero_add, Nat.zero_and, Nat.mul_zero, Nat.zero_add] at e1
  rw [show 16843009 * m = 2 ^ 16 * (257 * m) + (256 * m + m) by omega, e1]
  exact e2
theorem pcn_hi {a b l : Nat} (ha : a < 2 ^ l) : ∀ {n : Nat}, pcn (a + 2 ^ l * b) (l + n) = pcn a l + pcn b n
  | 0 => by rw [Nat.add_zero, pcn_lo (Nat.le_refl _), pcn]; rfl
  | n + 1 => by
    rw [← Nat.add_assoc, pcn, pcn_hi ha, pcn, Nat.pow_add, ← Nat.div_div_eq_div_mul, Nat.add_mul_div_left _ _ (Nat.pow_pos (by decide)), Nat.div_eq_of_lt ha, Nat.zero_add, Nat.add_assoc]
theorem bc1_n {a b : Nat} (ha : a < 256) (hb : b < 256) : bc1 (nI (256 * b + a)) = nI (256 * by1 b + by1 a) := by
  unfold bc1
  rw [ush (c := 1) (by omega) (by decide) (by decide)]
  have h1 := fa_and ((256 * b + a) / 2 ^ 1) 1431655765
  have ha1 := by_1 a ha (b % 2) (by omega)
  have hb1 := by_1 b hb 0 (by decide)
  have h2 := ms_b (x := 128 * (b % 2) + a / 2) (y := b / 2) (m := 85) (by omega) (by omega) (by decide)
  rw [show (256 * b + a) / 2 ^ 1 = 256 * (b / 2) + (128 * (b % 2) + a / 2) by omega, show 16843009 * 85 = 1431655765 from rfl] at *
  rw [h2, ha1.1] at h1
  have h3 : nI (256 * (b / 2) + (128 * (b % 2) + a / 2)) &&& 1431655765 = nI (256 * (b / 2 &&& 85) + (a / 2 &&& 85)) := h1
  rw [h3, ni_sub (by omega)]
  unfold by1
  congr 1
  omega
theorem bc2_n {a b : Nat} (ha : a < 256) (hb : b < 256) : bc2 (nI (256 * b + a)) = nI (256 * by2 b + by2 a) := by
  unfold bc2
  rw [ush (c := 2) (by omega) (by decide) (by decide)]
  have h1 := fa_and ((256 * b + a) / 2 ^ 2) 858993459
  have h0 := fa_and (256 * b + a) 858993459
  have ha1 := by_2 a ha (b % 4) (by omega)
  have h2 := ms_b (x := 64 * (b % 4) + a / 4) (y := b / 4) (m := 51) (by omega) (by omega) (by decide)
  have h4 := ms_b (x := a) (y := b) (m := 51) (by omega) (by omega) (by decide)
  rw [show 16843009 * 51 = 858993459 from rfl] at h2 h4
  rw [show (256 * b + a) / 2 ^ 2 = 256 * (b / 4) + (64 * (b % 4) + a / 4) by omega] at *
  rw [h2, ha1.1] at h1
  rw [h4] at h0
  have h3 : nI (256 * (b / 4) + (64 * (b % 4) + a / 4)) &&& 858993459 = nI (256 * (b / 4 &&& 51) + (a / 4 &&& 51)) := h1
  have h5 : nI (256 * b + a) &&& 858993459 = nI (256 * (b &&& 51) + (a &&& 51)) := h0
  rw [h3, h5, nI_add]
  unfold by2
  congr 1
  omega
theorem bc3_n {a b : Nat} (ha : a ≤ 68) (hb : b ≤ 68) (hb4 : b % 16 ≤ 4) : bc3 (nI (256 * b + a)) = nI (256 * by3 b + by3 a) := by
  unfold bc3
  rw [ush (c := 4) (by omega) (by decide) (by decide), nI_add]
  have h1 := fa_and (256 * b + a + (256 * b + a) / 2 ^ 4) 252645135
  have h2 := ms_b (x := a + a / 16 + 16 * (b % 16)) (y := b + b / 16) (m := 15) (by omega) (by omega) (by decide)
  rw [show 16843009 * 15 = 252645135 from rfl] at h2
  have m15 : ∀ z, z &&& 15 = z % 16 := fun z => Nat.and_two_pow_sub_one_eq_mod z 4
  rw [show 256 * b + a + (256 * b + a) / 2 ^ 4 = 256 * (b + b / 16) + (a + a / 16 + 16 * (b % 16)) by omega] at *
  rw [h2] at h1
  have h3 : nI (256 * (b + b / 16) + (a + a / 16 + 16 * (b % 16))) &&& 252645135 = nI (256 * (b + b / 16 &&& 15) + (a + a / 16 + 16 * (b % 16) &&& 15)) := h1
  rw [h3]
  unfold by3
  rw [m15, m15, m15]
  congr 1
  omega
theorem bc_16 {k : Nat} (hk : k < 65536) : bc5 (bc4 (bc3 (bc2 (bc1 (nI k))))) &&& 63 = nI (pcn k 16) := by
  obtain ⟨a, b, ha, hb, e⟩ : ∃ a b, a < 256 ∧ b < 256 ∧ k = 256 * b + a := ⟨k % 256, k / 256, by omega, by omega, by omega⟩
  obtain ⟨pa, qa, ra, _⟩ := by_p a ha
  obtain ⟨pb, qb, rb, sb⟩ := by_p b hb
  have la : pcn a 8 ≤ 8 := pcn_le
  have lb : pcn b 8 ≤ 8 := pcn_le
  have hp : pcn k 16 = pcn a 8 + pcn b 8 := by
    rw [e, Nat.add_comm]
    exact pcn_hi (l := 8) (n := 8) (by omega)
  rw [e, bc1_n ha hb, bc2_n ra rb, bc3_n qa qb sb, pa, pb]
  rw [← e, hp]
  unfold bc5 bc4
  rw [ush (c := 8) (by omega) (by decide) (by decide), nI_add, show (256 * pcn b 8 + pcn a 8) / 2 ^ 8 = pcn b 8 by omega]
  rw [ush (c := 16) (by omega) (by decide) (by decide), nI_add, show (256 * pcn b 8 + pcn a 8 + pcn b 8) / 2 ^ 16 = 0 by omega]
  have h1 := fa_and (256 * pcn b 8 + pcn a 8 + pcn b 8 + 0) 63
  rw [show (256 * pcn b 8 + pcn a 8 + pcn b 8 + 0) &&& 63 = (256 * pcn b 8 + pcn a 8 + pcn b 8 + 0) % 64 from Nat.and_two_pow_sub_one_eq_mod _ 6, show (256 * pcn b 8 + pcn a 8 + pcn b 8 + 0) % 64 = pcn a 8 + pcn b 8 by omega] at h1
  exact h1
theorem p_bitC {M : Mem} {k : Nat} (hk : k < 65536) {Q : Int32 → Mem → Prop} (hQ : Q (nI (pcn k 16)) M) : wp_J6_bitCount_0f7a4 (nI k) M Q := by
  unfold wp_J6_bitCount_0f7a4
  rintro _ rfl _ rfl _ rfl _ rfl _ rfl
  have := bc_16 hk
  unfold bc5 bc4 bc3 bc2 bc1 at this
  rw [this]; exact hQ
