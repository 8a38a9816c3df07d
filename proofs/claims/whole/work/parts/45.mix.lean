/-! A STATE IN ONE NUMBER -/
def iI (z : Int) : Int32 := Int32.ofInt z
theorem iI_t {z : Int} (h1 : -2147483648 ≤ z) (h2 : z < 2147483648) : (iI z).toInt = z := Int32.toInt_ofInt_of_le (by omega) (by omega)
theorem iI_add {x y : Int} (hx : -1000000 ≤ x ∧ x ≤ 1000000) (hy : -1000000 ≤ y ∧ y ≤ 1000000) : iI x + iI y = iI (x + y) := by
  rw [ti_eq, ti_add, iI_t, iI_t, iI_t]
  all_goals (try rw [iI_t (by omega) (by omega), iI_t (by omega) (by omega)])
  all_goals omega
theorem iI_sub {x y : Int} (hx : -1000000 ≤ x ∧ x ≤ 1000000) (hy : -1000000 ≤ y ∧ y ≤ 1000000) : iI x - iI y = iI (x - y) := by
  rw [ti_eq, ti_sub, iI_t, iI_t, iI_t]
  all_goals (try rw [iI_t (by omega) (by omega), iI_t (by omega) (by omega)])
  all_goals omega
theorem iI_le {x y : Int} (hx : -1000000 ≤ x ∧ x ≤ 1000000) (hy : -1000000 ≤ y ∧ y ≤ 1000000) : iI x ≤ iI y ↔ x ≤ y := by
  rw [ti_le, iI_t (by omega) (by omega), iI_t (by omega) (by omega)]
theorem iI_eq {x y : Int} (hx : -1000000 ≤ x ∧ x ≤ 1000000) (hy : -1000000 ≤ y ∧ y ≤ 1000000) : iI x = iI y ↔ x = y := by
  rw [ti_eq, iI_t (by omega) (by omega), iI_t (by omega) (by omega)]
theorem iI_n {k : Nat} (h : k < 1000000) : nI k = iI k := by
  rw [ti_eq, nI_toInt (by omega), iI_t (by omega) (by omega)]
theorem i_99 : (99 : Int32) = iI 99 := by decide
theorem i_m99 : (-99 : Int32) = iI (-99) := by decide
def stOk (s : STt) : Prop := (∀ k, k < 3 → -99 ≤ rgI s k ∧ rgI s k ≤ 99) ∧ s.2.2.2 < 2
def stN (s : STt) : Nat := s.2.2.2 * 16777216 + (rgI s 0 + 99).toNat * 65536 + (rgI s 1 + 99).toNat * 256 + (rgI s 2 + 99).toNat
def stI (s : STt) : Int32 := nI (stN s)
theorem clI_r (x : Int) : -99 ≤ clI x ∧ clI x ≤ 99 := by unfold clI; split <;> (try split) <;> omega
theorem rgI_S {s : STt} {k j : Nat} {v : Int} (hk : k < 3) (hj : j < 3) : rgI (rgS s k v) j = if j = k then v else rgI s j := by
  have : k = 0 ∨ k = 1 ∨ k = 2 := by omega
  have : j = 0 ∨ j = 1 ∨ j = 2 := by omega
  rcases ‹k = 0 ∨ k = 1 ∨ k = 2› with rfl | rfl | rfl <;> rcases ‹j = 0 ∨ j = 1 ∨ j = 2› with rfl | rfl | rfl <;> rfl
theorem rgS_m {s : STt} {k : Nat} {v : Int} (hk : k < 3) : (rgS s k v).2.2.2 = s.2.2.2 := by
  have : k = 0 ∨ k = 1 ∨ k = 2 := by omega
  rcases this with rfl | rfl | rfl <;> rfl
theorem stOk_0 : stOk s0 := ⟨by decide, by decide⟩
theorem act1_m {s : STt} {m : Nat} (hm : m < 2) : act1 s (192 + m) = (s.1, s.2.1, s.2.2.1, m) := by
  unfold act1; rw [if_pos (by omega), show (192 + m) % 2 = m by omega]
def avl (s : STt) (w : Nat) : Int := if 10 ≤ w then rgI s (w - 10) else (w : Int)
theorem act1_r {s : STt} {r g w : Nat} (hr : r < 3) (hg : g < 3) (hw : w < 13) : act1 s (16 * r + 64 * g + w) = rgS s r (clI (if g = 0 then rgI s r + avl s w else if g = 1 then rgI s r - avl s w else avl s w)) := by
  unfold act1 avl
  rw [if_neg (by omega), show (16 * r + 64 * g + w) / 16 % 4 = r by omega, show (16 * r + 64 * g + w) / 64 = g by omega, show (16 * r + 64 * g + w) % 16 = w by omega]
theorem avl_r {s : STt} {w : Nat} (hs : stOk s) (hw : w < 13) : -99 ≤ avl s w ∧ avl s w ≤ 99 := by
  unfold avl; split
  · exact hs.1 _ (by omega)
  · omega
theorem stOk_a {s : STt} {c : Nat} (hs : stOk s) (hc : cdok c) : stOk (act1 s c) := by
  rcases cdok_e hc with ⟨r, g, w, hr, hg, hw, rfl⟩ | ⟨m, hm, rfl⟩
  · rw [act1_r hr hg hw]
    refine ⟨fun k hk => ?_, by rw [rgS_m hr]; exact hs.2⟩
    rw [rgI_S hr hk]
    split
    · exact clI_r _
    · exact hs.1 k hk
  · rw [act1_m hm]
    exact ⟨fun k hk => by
      have : k = 0 ∨ k = 1 ∨ k = 2 := by omega
      rcases this with rfl | rfl | rfl
      · exact hs.1 0 hk
      · exact hs.1 1 hk
      · exact hs.1 2 hk, hm⟩
theorem stN_p {s : STt} (hs : stOk s) : ∃ A B C, A ≤ 198 ∧ B ≤ 198 ∧ C ≤ 198 ∧ stN s = s.2.2.2 * 16777216 + A * 65536 + B * 256 + C ∧ rgI s 0 = (A : Int) - 99 ∧ rgI s 1 = (B : Int) - 99 ∧ rgI s 2 = (C : Int) - 99 := by
  have h0 := hs.1 0 (by decide)
  have h1 := hs.1 1 (by decide)
  have h2 := hs.1 2 (by decide)
  exact ⟨(rgI s 0 + 99).toNat, (rgI s 1 + 99).toNat, (rgI s 2 + 99).toNat, by omega, by omega, by omega, rfl, by omega, by omega, by omega⟩
theorem an_255 (k : Nat) : nI k &&& 255 = nI (k % 256) := by
  have := fa_and k 255
  rw [show k &&& 255 = k % 256 from Nat.and_two_pow_sub_one_eq_mod k 8] at this
  exact this
theorem n99 {A : Nat} (h : A ≤ 198) : nI A - 99 = iI ((A : Int) - 99) := by
  rw [iI_n (by omega), i_99, iI_sub (by omega) (by omega)]
theorem st_l {s : STt} (hs : stOk s) : ((stI s >>> ((16 : Int32) &&& 31)) &&& 255) - 99 = iI (rgI s 0) := by
  obtain ⟨A, B, C, hA, hB, hC, e, eA, eB, eC⟩ := stN_p hs
  have hm := hs.2
  unfold stI
  rw [e, ni_lit 16, sh_r (by omega) (by decide), an_255, show (s.2.2.2 * 16777216 + A * 65536 + B * 256 + C) / 2 ^ 16 % 256 = A by omega, n99 hA, eA]
theorem st_p {s : STt} (hs : stOk s) : ((stI s >>> ((8 : Int32) &&& 31)) &&& 255) - 99 = iI (rgI s 1) := by
  obtain ⟨A, B, C, hA, hB, hC, e, eA, eB, eC⟩ := stN_p hs
  have hm := hs.2
  unfold stI
  rw [e, ni_lit 8, sh_r (by omega) (by decide), an_255, show (s.2.2.2 * 16777216 + A * 65536 + B * 256 + C) / 2 ^ 8 % 256 = B by omega, n99 hB, eB]
theorem st_c {s : STt} (hs : stOk s) : (stI s &&& 255) - 99 = iI (rgI s 2) := by
  obtain ⟨A, B, C, hA, hB, hC, e, eA, eB, eC⟩ := stN_p hs
  have hm := hs.2
  unfold stI
  rw [e, an_255, show (s.2.2.2 * 16777216 + A * 65536 + B * 256 + C) % 256 = C by omega, n99 hC, eC]
theorem st_m {s : STt} (hs : stOk s) : (stI s >>> ((24 : Int32) &&& 31)) &&& 1 = nI s.2.2.2 := by
  obtain ⟨A, B, C, hA, hB, hC, e, eA, eB, eC⟩ := stN_p hs
  have hm := hs.2
  unfold stI
  rw [e, ni_lit 24, sh_r (by omega) (by decide), an_1, show (s.2.2.2 * 16777216 + A * 65536 + B * 256 + C) / 2 ^ 24 % 2 = s.2.2.2 by omega]
theorem p99 {A : Nat} (h : A ≤ 198) : iI ((A : Int) - 99) + 99 = nI A := by
  rw [i_99, iI_add (by omega) (by omega), iI_n (by omega), show (A : Int) - 99 + 99 = A by omega]
theorem st_pk {s : STt} (hs : stOk s) : (((nI s.2.2.2 <<< ((24 : Int32) &&& 31)) ||| ((iI (rgI s 0) + 99) <<< ((16 : Int32) &&& 31))) ||| ((iI (rgI s 1) + 99) <<< ((8 : Int32) &&& 31))) ||| (iI (rgI s 2) + 99) = stI s := by
  obtain ⟨A, B, C, hA, hB, hC, e, eA, eB, eC⟩ := stN_p hs
  have hm := hs.2
  unfold stI
  rw [e, eA, eB, eC, p99 hA, p99 hB, p99 hC, ni_lit 24, ni_lit 16, ni_lit 8, sh_l (by decide) (by omega), sh_l (by decide) (by omega), sh_l (by decide) (by omega), fa_or, fa_or, fa_or]
  congr 1
  have e1 : s.2.2.2 * 2 ^ 24 ||| A * 2 ^ 16 = s.2.2.2 * 2 ^ 24 + A * 2 ^ 16 := by
    rw [Nat.mul_comm s.2.2.2, ← Nat.two_pow_add_eq_or_of_lt (by omega)]
  have e2 : (s.2.2.2 * 2 ^ 24 + A * 2 ^ 16) ||| B * 2 ^ 8 = s.2.2.2 * 2 ^ 24 + A * 2 ^ 16 + B * 2 ^ 8 := by
    rw [show s.2.2.2 * 2 ^ 24 + A * 2 ^ 16 = 2 ^ 16 * (s.2.2.2 * 256 + A) by omega, ← Nat.two_pow_add_eq_or_of_lt (by omega)]
  have e3 : (s.2.2.2 * 2 ^ 24 + A * 2 ^ 16 + B * 2 ^ 8) ||| C = s.2.2.2 * 2 ^ 24 + A * 2 ^ 16 + B * 2 ^ 8 + C := by
    rw [show s.2.2.2 * 2 ^ 24 + A * 2 ^ 16 + B * 2 ^ 8 = 2 ^ 8 * (s.2.2.2 * 65536 + A * 256 + B) by omega, ← Nat.two_pow_add_eq_or_of_lt (by omega)]
  rw [e1, e2, e3]
theorem st_line : ∀ e, e < 8 → ∀ m, m < 2 → ((nI e &&& 7) <<< ((1 : Int32) &&& 31)) ||| nI m = nI (2 * e + m) := by decide +kernel
/-! the class does an ACT -/
def RgM (k0 : Nat) (M : Mem) (s : STt) : Prop := ∀ k, k < 3 → M k0 0 k = iI (rgI s k)
theorem RgM.st {k0 : Nat} {M : Mem} {s : STt} (h : RgM k0 M s) {r : Nat} (hr : r < 3) {v : Int} : RgM k0 (mst M k0 0 r (iI v)) (rgS s r v) := by
  intro k hk
  rw [mst_k, rgI_S hr hk]
  by_cases e : k = r
  · rw [if_pos ⟨rfl, e⟩, if_pos e]
  · rw [if_neg (fun z => e z.2), if_neg e]; exact h k hk
theorem p_act65 {M : Mem} {r : Nat} {z : Int} (hr : r < 3) (hz : -1000 ≤ z ∧ z ≤ 1000) {Q : Mem → Prop} (hQ : Q (mst M 33 0 r (iI (clI z)))) : w_X4_act_65 Q (nI r) (iI z) M := by
  unfold w_X4_act_65 w_X4_act_93
  simp only [forall_eq]
  rw [ni_cl (by omega), i_m99, i_99, iI_le (by omega) (by omega), iI_le (by omega) (by omega)]
  have hin : vp_in (nI r) 4 := (ni_in (by omega)).mpr (by omega)
  unfold clI at hQ
  refine ⟨fun h => ⟨fun g => ⟨hin, ?_⟩, fun g => ⟨hin, ?_⟩⟩, fun h => ⟨hin, ?_⟩⟩
  · rw [if_neg (by omega), if_neg (by omega)] at hQ; exact hQ
  · rw [if_neg (by omega), if_pos (by omega)] at hQ; exact hQ
  · rw [if_pos (by omega)] at hQ; exact hQ
theorem bt_a : ∀ r, r < 3 → ∀ g, g < 3 → ∀ w, w < 13 → (nI (16 * r + 64 * g + w) >>> ((4 : Int32) &&& 31)) &&& 3 = nI r ∧ nI (16 * r + 64 * g + w) &&& 15 = nI w ∧ nI (16 * r + 64 * g + w) >>> ((6 : Int32) &&& 31) = nI g := by decide +kernel
theorem bt_10 : ∀ w, w < 3 → (nI (10 + w) - 10) &&& 3 = nI w := by decide +kernel
theorem p_X4_act {M : Mem} {s : STt} {c : Nat} (hs : stOk s) (hR : RgM 33 M s) (hc : cdok c) (h3 : c < 192) {Q : Mem → Prop} (hQ : ∀ M1, RgM 33 M1 (act1 s c) → (∀ k, k ≠ 33 → M1 k = M k) → Q M1) : wp_X4_act (nI c) M Q := by
  rcases cdok_e hc with ⟨r, g, w, hr, hg, hw, rfl⟩ | ⟨m, hm, rfl⟩
  · obtain ⟨b1, b2, b3⟩ := bt_a r hr g hg w hw
    have ho := hs.1 r hr
    have hv := avl_r hs hw
    rw [act1_r hr hg hw] at hQ
    have main : ∀ x, x = iI (avl s w) → w_X4_act_29 Q (nI (16 * r + 64 * g + w)) (nI r) x M := by
      rintro _ rfl
      unfold w_X4_act_29
      rw [b3, ni_cl (by omega), hR r hr, iI_add (by omega) (by omega), iI_sub (by omega) (by omega)]
      simp only [forall_eq]
      have hin : vp_in (nI r) 4 := (ni_in (by omega)).mpr (by omega)
      refine ⟨fun z => ⟨hin, ?_⟩, fun z => ⟨fun z2 => ⟨hin, ?_⟩, fun z2 => ?_⟩⟩
      · have e := (ni_eq (b := 0) (by omega) (by omega)).mp z
        rw [if_pos e] at hQ
        exact p_act65 hr (by omega) (hQ _ (hR.st hr) (fun k hk => mst_ne hk))
      · have e := (ni_eq (b := 1) (by omega) (by omega)).mp z2
        rw [if_neg (by omega), if_pos e] at hQ
        exact p_act65 hr (by omega) (hQ _ (hR.st hr) (fun k hk => mst_ne hk))
      · have e0 : g ≠ 0 := fun q => z (by rw [q]; rfl)
        have e1 : g ≠ 1 := fun q => z2 (by rw [q]; rfl)
        rw [if_neg e0, if_neg e1] at hQ
        exact p_act65 hr (by omega) (hQ _ (hR.st hr) (fun k hk => mst_ne hk))
    unfold wp_X4_act
    rintro _ rfl _ rfl
    rw [b1, b2]
    refine ⟨fun z => ?_, fun z => ?_⟩
    · have h10 := (ni_lt (b := 10) (by omega) (by omega)).mp z
      refine main _ ?_
      unfold avl; rw [if_neg (by omega)]; exact iI_n (by omega)
    · have h10 : 10 ≤ w := by
        apply Classical.byContradiction
        intro q
        exact z ((ni_lt (b := 10) (by omega) (by omega)).mpr (by omega))
      have := bt_10 (w - 10) (by omega)
      rw [show 10 + (w - 10) = w by omega] at this
      rw [this, ni_cl (by omega), hR (w - 10) (by omega)]
      refine ⟨(ni_in (by omega)).mpr (by omega), ?_⟩
      rintro _ rfl
      refine main _ ?_
      unfold avl; rw [if_pos h10]
  · omega
