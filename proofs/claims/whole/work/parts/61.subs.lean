/-! SUBSETS OF LINES, in the order of their bits -/
def pcn (k : Nat) : Nat → Nat
  | 0 => 0
  | j + 1 => pcn k j + k / 2 ^ j % 2
theorem pcn_le {k : Nat} : ∀ {n : Nat}, pcn k n ≤ n
  | 0 => Nat.le_refl _
  | n + 1 => by
    rw [pcn]
    have := pcn_le (k := k) (n := n)
    omega
theorem sh_m {k j : Nat} (hk : k < 2147483648) (hj : j < 16) : (nI k >>> (nI j &&& 31)) &&& 1 = nI (k / 2 ^ j % 2) := by
  rw [sh_r hk (by omega)]
  have := fa_and (k / 2 ^ j) 1
  rw [Nat.and_one_is_mod] at this
  exact this
theorem sm_pcn {k : Nat} (hk : k < 2147483648) : ∀ {n : Nat}, n ≤ 16 → sm (fun j => (nI k >>> (nI j &&& 31)) &&& 1) n = nI (pcn k n)
  | 0, _ => rfl
  | n + 1, h => by
    rw [sm, sm_pcn hk (by omega), sh_m hk (by omega), pcn]
    exact nI_add _ _
theorem bts_p {k : Nat} (hk : k < 2147483648) : bts (nI k) = nI (pcn k 16) := sm_pcn hk (Nat.le_refl _)
theorem pcn_z {a l : Nat} (h : a < 2 ^ l) : ∀ {n : Nat}, l ≤ n → pcn a n = pcn a l
  | 0, hn => by
    have : l = 0 := by omega
    rw [this]
  | n + 1, hn => by
    by_cases e : l = n + 1
    · rw [e]
    · have h2 : 2 ^ l ≤ 2 ^ n := Nat.pow_le_pow_right (by decide) (by omega)
      rw [pcn, pcn_z h (by omega), Nat.div_eq_of_lt (by omega)]; omega
theorem pcn_lo {a b l : Nat} : ∀ {n : Nat}, n ≤ l → pcn (a + 2 ^ l * b) n = pcn a n
  | 0, _ => rfl
  | n + 1, h => by
    rw [pcn, pcn, pcn_lo (by omega)]
    congr 1
    have e : 2 ^ l = 2 ^ n * (2 * 2 ^ (l - n - 1)) := by
      rw [← Nat.pow_succ', ← Nat.pow_add]; congr 1; omega
    rw [e, Nat.mul_assoc, Nat.add_mul_div_left _ _ (Nat.pow_pos (by decide)), Nat.mul_assoc]
    omega
theorem pcn_ad {a l n : Nat} (h : a < 2 ^ l) (hn : l < n) : pcn (a + 2 ^ l) n = pcn a n + 1 := by
  have h1 : a + 2 ^ l < 2 ^ (l + 1) := by rw [Nat.pow_succ]; omega
  rw [pcn_z h1 (by omega), pcn_z h (by omega), pcn]
  have := pcn_lo (a := a) (b := 1) (l := l) (n := l) (Nat.le_refl _)
  rw [Nat.mul_one] at this
  rw [this]
  have e : (a + 2 ^ l) / 2 ^ l = 1 := by
    rw [Nat.add_div_right _ (Nat.pow_pos (by decide)), Nat.div_eq_of_lt h]
  rw [e]
def al (d : Nat) : Nat → Nat
  | 0 => 1
  | l + 1 => if d / 2 ^ l % 2 = 1 then 2 * al d l else al d l
def ch (d : Nat) : Nat → Nat → Nat
  | 0, _ => 0
  | l + 1, x => if d / 2 ^ l % 2 = 1 then (if x < al d l then ch d l x else ch d l (x - al d l) + 2 ^ l) else ch d l x
theorem al_p {d : Nat} : ∀ {l : Nat}, al d l = 2 ^ pcn d l
  | 0 => rfl
  | l + 1 => by
    rw [al, pcn, al_p]
    split
    · next h => rw [h, Nat.pow_succ]; omega
    · next h => rw [show d / 2 ^ l % 2 = 0 by omega, Nat.add_zero]
theorem al_0 {d l : Nat} : 0 < al d l := by rw [al_p]; exact Nat.pow_pos (by decide)
theorem al_s {d l : Nat} : al d l ≤ al d (l + 1) := by rw [al]; split <;> omega
theorem al_m {d : Nat} : ∀ {l m : Nat}, l ≤ m → al d l ≤ al d m
  | l, 0, h => by
    have : l = 0 := by omega
    rw [this]; exact Nat.le_refl _
  | l, m + 1, h => by
    by_cases e : l = m + 1
    · rw [e]; exact Nat.le_refl _
    · exact Nat.le_trans (al_m (l := l) (m := m) (by omega)) al_s
theorem ch_0 {d : Nat} : ∀ {l : Nat}, ch d l 0 = 0
  | 0 => rfl
  | l + 1 => by
    rw [ch, ch_0]
    split
    · rw [if_pos al_0]
    · rfl
theorem ch_lt {d : Nat} : ∀ {l x : Nat}, ch d l x < 2 ^ l
  | 0, _ => Nat.one_pos
  | l + 1, x => by
    have h1 := ch_lt (d := d) (l := l) (x := x)
    have h2 := ch_lt (d := d) (l := l) (x := x - al d l)
    rw [ch, Nat.pow_succ]
    split
    · split <;> omega
    · omega
theorem ch_pc {d : Nat} : ∀ {l x : Nat}, l ≤ 16 → x < al d l → pcn (ch d l x) 16 = pcn x 16
  | 0, x, _, h => by
    have : x = 0 := by
      have : al d 0 = 1 := rfl
      omega
    rw [this]; rfl
  | l + 1, x, hl, h => by
    rw [al] at h
    rw [ch]
    by_cases b : d / 2 ^ l % 2 = 1
    · rw [if_pos b] at h ⊢
      by_cases c : x < al d l
      · rw [if_pos c]; exact ch_pc (by omega) c
      · rw [if_neg c, pcn_ad ch_lt (by omega), ch_pc (by omega) (by omega)]
        have e : x = (x - al d l) + 2 ^ pcn d l := by rw [← al_p]; omega
        have hp : pcn d l ≤ l := pcn_le
        have hx : x - al d l < 2 ^ pcn d l := by rw [← al_p]; omega
        generalize x - al d l = y at e hx
        rw [e, pcn_ad hx (by omega)]
    · rw [if_neg b] at h ⊢
      exact ch_pc (by omega) h
theorem an_s {l a b c e : Nat} (ha : a < 2 ^ l) (hc : c < 2 ^ l) : (2 ^ l * b + a) &&& (2 ^ l * e + c) = 2 ^ l * (b &&& e) + (a &&& c) := by
  apply Nat.eq_of_testBit_eq
  intro j
  have hac : a &&& c < 2 ^ l := Nat.lt_of_le_of_lt Nat.and_le_left ha
  rw [Nat.testBit_and, Nat.testBit_two_pow_mul_add _ ha, Nat.testBit_two_pow_mul_add _ hc, Nat.testBit_two_pow_mul_add _ hac]
  split <;> rw [Nat.testBit_and]
theorem ch_nx {d : Nat} : ∀ {l x : Nat}, x < al d l → ch d l x ≤ d % 2 ^ l ∧ (ch d l x = d % 2 ^ l ↔ x + 1 = al d l) ∧ ((2 ^ l + ch d l x - d % 2 ^ l) % 2 ^ l) &&& (d % 2 ^ l) = if x + 1 = al d l then 0 else ch d l (x + 1)
  | 0, x, h => by
    have a0 : al d 0 = 1 := rfl
    have : x = 0 := by omega
    subst this
    have e : d % 2 ^ 0 = 0 := by omega
    rw [e]
    exact ⟨Nat.le_refl _, ⟨fun _ => rfl, fun _ => rfl⟩, by rw [if_pos (show 0 + 1 = al d 0 from rfl), Nat.and_zero]⟩
  | l + 1, x, h => by
    have hlt := Nat.mod_lt d (show 2 ^ l > 0 from Nat.pow_pos (by decide))
    have hp : 2 ^ (l + 1) = 2 * 2 ^ l := by rw [Nat.pow_succ]; omega
    have hm : d % 2 ^ (l + 1) = d % 2 ^ l + 2 ^ l * (d / 2 ^ l % 2) := Nat.mod_mul
    have hc := ch_lt (d := d) (l := l) (x := x)
    by_cases b : d / 2 ^ l % 2 = 1
    · have hal : al d (l + 1) = 2 * al d l := by rw [al, if_pos b]
      have hch : ∀ x, ch d (l + 1) x = if x < al d l then ch d l x else ch d l (x - al d l) + 2 ^ l := fun x => by rw [ch, if_pos b]
      rw [b, Nat.mul_one] at hm
      rw [hal] at h
      rw [hm, hal, hch, hch, hp]
      by_cases c : x < al d l
      · obtain ⟨i1, i2, i3⟩ := ch_nx c
        rw [if_pos c, if_neg (show ¬ x + 1 = 2 * al d l by omega)]
        refine ⟨by omega, ⟨fun z => by omega, fun z => by omega⟩, ?_⟩
        by_cases c2 : x + 1 = al d l
        · have e := i2.mpr c2
          rw [if_neg (by omega), show x + 1 - al d l = 0 by omega, ch_0, e, show 2 * 2 ^ l + d % 2 ^ l - (d % 2 ^ l + 2 ^ l) = 2 ^ l by omega, Nat.mod_eq_of_lt (show 2 ^ l < 2 * 2 ^ l by omega)]
          have := an_s (l := l) (a := 0) (b := 1) (c := d % 2 ^ l) (e := 1) (by omega) hlt
          rw [Nat.mul_one, Nat.add_zero, Nat.zero_and, Nat.add_comm (2 ^ l) (d % 2 ^ l)] at this
          rw [this]; simp
        · have ne : ¬ ch d l x = d % 2 ^ l := fun z => c2 (i2.mp z)
          rw [if_neg c2] at i3
          rw [if_pos (by omega), ← i3, Nat.mod_eq_of_lt (show 2 ^ l + ch d l x - d % 2 ^ l < 2 ^ l by omega), show 2 * 2 ^ l + ch d l x - (d % 2 ^ l + 2 ^ l) = 2 ^ l + ch d l x - d % 2 ^ l by omega, Nat.mod_eq_of_lt (show 2 ^ l + ch d l x - d % 2 ^ l < 2 * 2 ^ l by omega)]
          have := an_s (l := l) (a := 2 ^ l + ch d l x - d % 2 ^ l) (b := 0) (c := d % 2 ^ l) (e := 1) (by omega) hlt
          rw [Nat.mul_one, Nat.mul_zero, Nat.zero_add, Nat.zero_and, Nat.mul_zero, Nat.zero_add, Nat.add_comm (2 ^ l) (d % 2 ^ l)] at this
          exact this
      · obtain ⟨i1, i2, i3⟩ := ch_nx (d := d) (l := l) (x := x - al d l) (by omega)
        have hc' := ch_lt (d := d) (l := l) (x := x - al d l)
        rw [if_neg c, if_neg (show ¬ x + 1 < al d l by omega)]
        rw [show x - al d l + 1 = x + 1 - al d l by omega] at i2 i3
        refine ⟨by omega, ⟨fun z => ?_, fun z => ?_⟩, ?_⟩
        · have := i2.mp (by omega); omega
        · have := i2.mpr (by omega); omega
        · by_cases c2 : x + 1 - al d l = al d l
          · have e := i2.mpr c2
            rw [if_pos (by omega), e, show 2 * 2 ^ l + (d % 2 ^ l + 2 ^ l) - (d % 2 ^ l + 2 ^ l) = 2 * 2 ^ l by omega, Nat.mod_self, Nat.zero_and]
          · have ne : ¬ ch d l (x - al d l) = d % 2 ^ l := fun z => c2 (i2.mp z)
            rw [if_neg c2] at i3
            rw [if_neg (by omega), ← i3, Nat.mod_eq_of_lt (show 2 ^ l + ch d l (x - al d l) - d % 2 ^ l < 2 ^ l by omega), show 2 * 2 ^ l + (ch d l (x - al d l) + 2 ^ l) - (d % 2 ^ l + 2 ^ l) = 2 ^ l * 1 + (2 ^ l + ch d l (x - al d l) - d % 2 ^ l) by omega, Nat.mod_eq_of_lt (show 2 ^ l * 1 + (2 ^ l + ch d l (x - al d l) - d % 2 ^ l) < 2 * 2 ^ l by omega)]
            have := an_s (l := l) (a := 2 ^ l + ch d l (x - al d l) - d % 2 ^ l) (b := 1) (c := d % 2 ^ l) (e := 1) (by omega) hlt
            rw [show 2 ^ l * 1 + d % 2 ^ l = d % 2 ^ l + 2 ^ l by omega] at this
            rw [this, show (1 &&& 1 : Nat) = 1 from rfl]
            omega
    · have b0 : d / 2 ^ l % 2 = 0 := by omega
      have hal : al d (l + 1) = al d l := by rw [al, if_neg b]
      have hch : ∀ x, ch d (l + 1) x = ch d l x := fun x => by rw [ch, if_neg b]
      rw [b0, Nat.mul_zero] at hm
      have hm2 : d % 2 ^ (l + 1) = d % 2 ^ l := hm
      rw [hal] at h
      rw [hm2, hal, hch, hch]
      obtain ⟨i1, i2, i3⟩ := ch_nx h
      refine ⟨i1, i2, ?_⟩
      rw [← i3]
      have hT : 2 ^ (l + 1) + ch d l x - d % 2 ^ l = 2 ^ l * 1 + (2 ^ l + ch d l x - d % 2 ^ l) := by omega
      rw [hT, hp]
      by_cases e : ch d l x = d % 2 ^ l
      · rw [show 2 ^ l * 1 + (2 ^ l + ch d l x - d % 2 ^ l) = 2 * 2 ^ l by omega, Nat.mod_self, show 2 ^ l + ch d l x - d % 2 ^ l = 2 ^ l by omega, Nat.mod_self]
      · rw [Nat.mod_eq_of_lt (show 2 ^ l * 1 + (2 ^ l + ch d l x - d % 2 ^ l) < 2 * 2 ^ l by omega), Nat.mod_eq_of_lt (show 2 ^ l + ch d l x - d % 2 ^ l < 2 ^ l by omega)]
        have := an_s (l := l) (a := 2 ^ l + ch d l x - d % 2 ^ l) (b := 1) (c := d % 2 ^ l) (e := 0) (by omega) hlt
        rw [Nat.mul_zero, Nat.zero_add, show (1 &&& 0 : Nat) = 0 from rfl, Nat.mul_zero, Nat.zero_add] at this
        exact this
