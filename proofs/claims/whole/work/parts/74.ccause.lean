/-! THE CLASS FILLS: the CAUSES of a FILL -/
theorem p_X2_causesOfRow {S M : Mem} (hS : SOK S) {c f : Nat} (hc : c < nc S) (hf : f < 512) (hE4 : M 204 = S 204) (hE5 : M 205 = S 205) (hMx : MxC S M (cvr S c) (cvr S c) 0) (hI : FI S M c) {Q : Int32 → Mem → Prop} (hQ : ∀ M1, (∀ k, k ∉ flk → M1 k = M k) → FI S M1 c → Q (nI (causeF S c (rv (clost S c) f))) M1) : wp_X2_causesOfRow (nI f) c M Q := by
  obtain ⟨l1, l2⟩ := hS.cl hc
  obtain ⟨bD, bL⟩ := hS.dl hc
  have bd := drw_12 hS (f := rv (clost S c) f) hc
  unfold wp_X2_causesOfRow
  refine p_X2_give hS hc hf hI (fun M1 hF1 hI1 h24 => ?_)
  rintro _ rfl
  have hfe : ∀ p, (cR S c (rv (clost S c) f)).getD p 0 < 8 := fun p => hS.fe hc p
  have hcl : (cR S c (rv (clost S c) f)).length = cln S c := cR_l
  rw [causeF_e] at hQ
  generalize hrr : cR S c (rv (clost S c) f) = r at bd h24 hfe hcl hQ
  have e204 : M1 204 c 0 = iI (cD S c) := by rw [hF1 204 (by decide), hE4]; exact (iI_o _).symm
  have e205 : ∀ m : Mem, (∀ k, k ∉ flk → m k = M1 k) → m 205 c 0 = iI (cL S c) := fun m hm => by rw [hm 205 (by decide), hF1 205 (by decide), hE5]; exact (iI_o _).symm
  have fr0 : ∀ k, k ∉ flk → M1 k = M k := fun k q => hF1 k (fun e => q (by clear q; revert e; revert k; decide))
  rw [e204, iI_n1]
  have hb12 : ∀ i, -12 ≤ drw (r.take i) ∧ drw (r.take i) ≤ 12 := fun i => by
    have h := drw_l (r.take i)
    have : (r.take i).length ≤ 12 := by rw [List.length_take]; omega
    omega
  suffices hh : ∃ g, w_X2_causesOfRow_15 Q g c (iI (drw (r.take 0) - cD S c)) (nI 0) M1 by
    have e0 : drw (r.take 0) - cD S c = -cD S c := by
      have : drw (r.take 0) = 0 := rfl
      omega
    rw [e0] at hh; exact hh
  refine pk_loop (fun g i (m : Mem) => w_X2_causesOfRow_15 Q g c (iI (drw (r.take i) - cD S c)) (nI i) m) (fun i m => m = M1) (cln S c) 0 M1 (Nat.zero_le _) rfl ?_ ?_
  · rintro g m rfl
    rw [List.take_of_length_le (by omega)]
    have em1 : (-1 : Int32) = iI (-1) := by decide
    have e1 : (1 : Int32) = iI 1 := by decide
    have e0 : (0 : Int32) = iI 0 := by decide
    have hbw : -200 ≤ drw r - cD S c ∧ drw r - cD S c ≤ 200 := by omega
    unfold w_X2_causesOfRow_15
    rw [hI1.1.1]
    refine ⟨fun _ => ⟨fun q => ?_, fun q => ⟨fun q2 => ?_, fun q2 => ?_⟩⟩, fun q => absurd ((ni_le (by omega) (by omega)).mpr (Nat.le_refl _)) q⟩
    · rw [em1, iI_lt (by omega) (by omega)] at q
      have := hQ m fr0 hI1
      rw [if_neg (fun z => by omega), if_neg (fun z => by omega), if_neg (fun z => by omega)] at this
      exact this
    · have q' : ¬ drw r - cD S c < -1 := fun z => q (by rw [em1, iI_lt (by omega) (by omega)]; exact z)
      have q2' : drw r - cD S c ≤ 1 := by rw [e1, iI_le (by omega) (by omega)] at q2; exact q2
      have hMx1 : MxC S m (cvr S c) (cvr S c) 0 := hMx.keep (fun k q => hF1 k (by revert q; revert k; decide))
      have hrow : ∀ p, p < cln S c → r.getD p 0 < 8 ∧ m 24 0 p = nI (r.getD p 0) := fun p hp => ⟨hfe p, h24 p hp⟩
      have hro : ∀ p, p < cln S c → ro m p = r.getD p 0 := fun p hp => by
        have := hfe p
        unfold ro; rw [h24 p hp, ni_cl (by omega)]
      have hrl : rl (ro m) (cln S c) = r := by rw [rl_c hro, ← hcl, rl_g]
      refine p_X2_runPlain hS hc hMx1 hI1 hrow (fun m2 hF2 hI2 h26 => ?_)
      have fr2 : ∀ k, k ∉ flk → m2 k = m k := fun k q => hF2 k (fun e => q (by clear q; revert e; revert k; decide))
      have fr2' : ∀ k, k ∉ flk → m2 k = M k := fun k q => (fr2 k q).trans (fr0 k q)
      have hokr : stOk (runS (vA S (cvr S c)) r) := runV_ok
      have hbl := hokr.1 2 (by decide)
      unfold wp_X9_ledgerOf
      rw [hI2.1.1, ni_cl (by omega), h26 _ (Nat.le_refl _), hrl, st_c hokr]
      refine ⟨(ni_in (by omega)).mpr (by omega), ?_⟩
      dsimp only
      rw [e205 m2 fr2, iI_eq (by omega) (by omega)]
      have g88 : ∀ b : Int32, (b = 0 ∨ b = 1) → (b = 1 ↔ (runS (vA S (cvr S c)) r).2.2.1 = cL S c) → w_X2_causesOfRow_88 Q c (iI (drw r - cD S c)) b m2 := by
        intro b hb ib
        have hb0 : b = 0 → ¬ (runS (vA S (cvr S c)) r).2.2.1 = cL S c := fun q z => by
          have := ib.mpr z
          rw [q] at this; exact absurd this (by decide)
        have hb1 : ¬ b = 0 → (runS (vA S (cvr S c)) r).2.2.1 = cL S c := fun q => ib.mp (hb.resolve_left q)
        unfold w_X2_causesOfRow_88
        refine ⟨fun q3 => ?_, fun q3 => ⟨fun q4 => ?_, fun q4 => ?_⟩⟩
        · have z0 : drw r - cD S c = 0 := by rw [e0, iI_eq (by omega) (by omega)] at q3; exact q3
          have hMx2 : MxC S m2 (cvr S c) (cvr S c) 0 := hMx1.keep (fun k q => hF2 k (by revert q; revert k; decide))
          have er : ro m2 = ro m := by unfold ro; rw [hF2 24 (by decide)]
          refine p_X2_runPosted hS hc hMx2 hI2 (fun p hp => by rw [hF2 24 (by decide)]; exact hrow p hp) (fun i hi => by rw [er]; exact h26 i hi) (fun m3 hF3 hI3 hps => ?_)
          obtain ⟨cnt, hc78, hps⟩ := hps
          have fr3 : ∀ k, k ∉ flk → m3 k = m2 k := fun k q => hF3 k (fun e => q (by clear q; revert e; revert k; decide))
          have fr3' : ∀ k, k ∉ flk → m3 k = M k := fun k q => (fr3 k q).trans (fr2' k q)
          have hal : (∃ s, pset (vA S (cvr S c)) (ro m2) (cln S c) s ∧ s.2.2.1 = cL S c) ↔ afar (vA S (cvr S c)) r (cL S c) = true := by
            rw [afar_p, hcl, er]
            constructor
            · rintro ⟨s, x1, x2⟩; exact ⟨s, pset_c hro x1, x2⟩
            · rintro ⟨s, x1, x2⟩; exact ⟨s, pset_c (fun j hj => (hro j hj).symm) x1, x2⟩
          have g121 : ∀ y : Int32, (y = 0 ∧ ¬ (runS (vA S (cvr S c)) r).2.2.1 = cL S c) ∨ (y = 1 ∧ (runS (vA S (cvr S c)) r).2.2.1 = cL S c) → w_X2_causesOfRow_121 Q c y m3 := by
            intro y hy
            unfold w_X2_causesOfRow_121
            rw [e205 m3 (fun k q => (fr3 k q).trans (fr2 k q))]
            have hq3 := hQ m3 fr3' hI3
            rw [if_neg (c := (runS (vA S (cvr S c)) r).2.2.1 = cL S c ∧ (drw r - cD S c = 1 ∨ cD S c - drw r = 1)) (fun z => by omega)] at hq3
            refine p_X2_isPostedTo (n := cln S c) l1 hI3.1.1 hc78 hps (fun s hs => pset_ok hs) bL (fun h => ⟨fun z => absurd z (by decide), fun _ => ?_⟩) (fun h => ⟨fun _ => ?_, fun z => absurd rfl z⟩)
            · rw [if_pos (c := drw r = cD S c ∧ afar (vA S (cvr S c)) r (cL S c) = true) ⟨by omega, hal.mp h⟩] at hq3
              rcases hy with ⟨rfl, z⟩ | ⟨rfl, z⟩
              · rw [if_neg (fun q => z q.1)] at hq3; exact hq3
              · rw [if_pos ⟨z, by omega⟩] at hq3; exact hq3
            · rw [if_neg (c := drw r = cD S c ∧ afar (vA S (cvr S c)) r (cL S c) = true) (fun z => h (hal.mpr z.2))] at hq3
              rcases hy with ⟨rfl, z⟩ | ⟨rfl, z⟩
              · rw [if_neg (fun q => z q.1)] at hq3; exact hq3
              · rw [if_pos ⟨z, by omega⟩] at hq3; exact hq3
          exact ⟨fun q4 => g121 0 (Or.inl ⟨rfl, hb0 q4⟩), fun q4 => g121 1 (Or.inr ⟨rfl, hb1 q4⟩)⟩
        · have z0 : ¬ drw r - cD S c = 0 := fun z => q3 (by rw [z]; rfl)
          have := hQ m2 fr2' hI2
          rw [if_neg (fun z => hb0 q4 z.1), if_neg (fun z => hb0 q4 z.1), if_neg (fun z => by omega)] at this
          exact this
        · have z0 : ¬ drw r - cD S c = 0 := fun z => q3 (by rw [z]; rfl)
          have := hQ m2 fr2' hI2
          rw [if_neg (fun z => by omega), if_pos ⟨hb1 q4, by omega⟩, if_neg (fun z => by omega)] at this
          exact this
      exact ⟨fun q3 => g88 1 (Or.inr rfl) ⟨fun _ => q3, fun _ => rfl⟩, fun q3 => g88 0 (Or.inl rfl) ⟨fun z => absurd z (by decide), fun z => absurd z q3⟩⟩
    · have q2' : ¬ drw r - cD S c ≤ 1 := fun z => q2 (by rw [e1, iI_le (by omega) (by omega)]; exact z)
      have := hQ m fr0 hI1
      rw [if_neg (fun z => by omega), if_neg (fun z => by omega), if_neg (fun z => by omega)] at this
      exact this
  · rintro g i m hi rfl ih
    have hb := hb12 i
    have hce := coin_r (r.getD i 0)
    unfold w_X2_causesOfRow_15
    rw [hI1.1.1, ni_cl (by omega), h24 i hi]
    refine ⟨fun q => absurd ((ni_le (by omega) (by omega)).mp q) (by omega), fun _ => ⟨(ni_in (by omega)).mpr (by omega), p_coinsOf (hfe i) ?_⟩⟩
    rintro _ rfl
    rw [iI_add (by omega) (by omega), nI_1]
    have := ih m rfl
    rw [tk_s (by omega), drw_a] at this
    rw [show drw (r.take i) - cD S c + coin (r.getD i 0) = drw (r.take i) + coin (r.getD i 0) - cD S c by omega]
    exact this
def lfN (le : Nat → Nat) (f : Nat) : Nat → Nat
  | 0 => 0
  | j + 1 => lfN le f j + le (f / 8 ^ j % 8) * 8 ^ j
theorem lfN_lt {le : Nat → Nat} {f : Nat} (h : ∀ e, e < 8 → le e ≤ e) : ∀ {n : Nat}, lfN le f n < 8 ^ n
  | 0 => Nat.one_pos
  | n + 1 => by
    have h1 := lfN_lt (f := f) h (n := n)
    have h2 := h (f / 8 ^ n % 8) (by omega)
    have h3 : le (f / 8 ^ n % 8) * 8 ^ n ≤ 7 * 8 ^ n := Nat.mul_le_mul_right _ (by omega)
    rw [lfN, Nat.pow_succ]
    omega
theorem lfN_le {le : Nat → Nat} {f : Nat} (h : ∀ e, e < 8 → le e ≤ e) : ∀ {n : Nat}, lfN le f n ≤ f % 8 ^ n
  | 0 => Nat.zero_le _
  | n + 1 => by
    have h1 := lfN_le (f := f) h (n := n)
    have h2 : le (f / 8 ^ n % 8) * 8 ^ n ≤ f / 8 ^ n % 8 * 8 ^ n := Nat.mul_le_mul_right _ (h _ (by omega))
    have h3 : f % 8 ^ (n + 1) = f % 8 ^ n + 8 ^ n * (f / 8 ^ n % 8) := Nat.mod_mul
    rw [lfN, h3, Nat.mul_comm (8 ^ n)]
    omega
theorem lfN_d {le : Nat → Nat} {f : Nat} (h : ∀ e, e < 8 → le e ≤ e) : ∀ {n j : Nat}, j < n → lfN le f n / 8 ^ j % 8 = le (f / 8 ^ j % 8)
  | 0, j, hj => absurd hj (Nat.not_lt_zero _)
  | n + 1, j, hj => by
    have h1 := lfN_lt (f := f) h (n := n)
    have h2 := h (f / 8 ^ n % 8) (by omega)
    rw [lfN]
    by_cases e : j = n
    · subst e
      rw [Nat.add_mul_div_right _ _ (Nat.pow_pos (by decide)), Nat.div_eq_of_lt h1]
      omega
    · rw [← lfN_d h (n := n) (j := j) (by omega)]
      have e8 : le (f / 8 ^ n % 8) * 8 ^ n = 8 ^ j * (8 * (le (f / 8 ^ n % 8) * 8 ^ (n - j - 1))) := by
        have : 8 ^ n = 8 ^ j * (8 * 8 ^ (n - j - 1)) := by rw [← Nat.pow_succ', ← Nat.pow_add]; congr 1; omega
        generalize le (f / 8 ^ n % 8) = y
        rw [this, Nat.mul_left_comm, Nat.mul_left_comm y 8]
      rw [e8, Nat.add_mul_div_left _ _ (Nat.pow_pos (by decide))]
      omega
theorem lf_cause {S : Mem} (hS : SOK S) {c f : Nat} {le : Nat → Nat} (hc : c < nc S) (hle : ∀ e, e < 8 → le e ≤ e ∧ al2 (vA S (cvr S c)) (le e) e) : causeF S c (rv (clost S c) (lfN le f (clost S c))) = causeF S c (rv (clost S c) f) := by
  have hl3 := hS.lo hc
  refine al2_cause (fun i => ?_) (by rw [fillR_l, fillR_l])
  by_cases hi : i < cln S c
  · rw [fillR_g hi, fillR_g hi]
    by_cases e : S 20 c i = -1
    · have hlt : lostN (S 20 c) i < clost S c := lostN_l hi e
      rw [if_pos e, if_pos e, rv_d hl3 hlt, rv_d hl3 hlt, lfN_d (fun e he => (hle e he).1) (by omega)]
      exact (hle _ (by omega)).2
    · rw [if_neg e, if_neg e]; exact al2.rf
  · rw [List.getD_eq_getElem?_getD, List.getD_eq_getElem?_getD, List.getElem?_eq_none (by rw [fillR_l]; omega), List.getElem?_eq_none (by rw [fillR_l]; omega)]
    exact al2.rf
theorem p_X2_likeFill {A : Nat → List Nat} {M : Mem} {K f : Nat} {le : Nat → Nat} (hK : K ≤ 3) (hf : f < 512) (h309 : M 309 0 0 = nI K) (hL : LeI A M le 8) {Q : Int32 → Mem → Prop} (hQ : Q (nI (lfN le f K)) M) : wp_X2_likeFill (nI f) M Q := by
  have hle : ∀ e, e < 8 → le e ≤ e := fun e he => (hL e he).2.1
  unfold wp_X2_likeFill
  suffices hh : ∃ g, w_X2_likeFill_4 Q g (nI f) (nI (lfN le f 0)) (nI (3 * 0)) M from hh
  refine pk_loop (fun g j (z : Unit) => w_X2_likeFill_4 Q g (nI f) (nI (lfN le f j)) (nI (3 * j)) M) (fun _ _ => True) K 0 () (Nat.zero_le _) trivial ?_ ?_
  · intro g _ _
    have e3 : (3 : Int32) * nI K = nI (3 * K) := pk_mul ..
    unfold w_X2_likeFill_4
    rw [h309, e3]
    exact ⟨fun _ => hQ, fun q => absurd ((ni_le (by omega) (by omega)).mpr (Nat.le_refl _)) q⟩
  · intro g j _ hj _ ih
    have e3 : (3 : Int32) * nI K = nI (3 * K) := pk_mul ..
    have hd : f / 8 ^ j % 8 < 8 := by omega
    obtain ⟨k1, k2, _⟩ := hL _ hd
    have hp : 2 ^ (3 * j) ≤ 2 ^ 6 := Nat.pow_le_pow_right (by decide) (by omega)
    have hm : le (f / 8 ^ j % 8) * 2 ^ (3 * j) ≤ 7 * 2 ^ 6 := Nat.mul_le_mul (by omega) hp
    have hlt := lfN_lt (f := f) hle (n := j)
    have e8 : (8 : Nat) ^ j = 2 ^ (3 * j) := by rw [Nat.pow_mul]
    unfold w_X2_likeFill_4
    rw [h309, e3, dg_sh (by omega) (by omega), ni_cl (show f / 8 ^ j % 8 < 2147483648 by omega), k1, sh_l (by omega) (by omega), fa_or]
    refine ⟨fun q => absurd ((ni_le (by omega) (by omega)).mp q) (by omega), fun _ => ⟨(ni_in (by omega)).mpr hd, ?_⟩⟩
    rintro _ rfl
    have e4 : nI (3 * j) + 3 = nI (3 * (j + 1)) := by
      have := nI_add (3 * j) 3
      rw [show 3 * (j + 1) = 3 * j + 3 by omega]; exact this
    have e5 : lfN le f j ||| le (f / 8 ^ j % 8) * 2 ^ (3 * j) = lfN le f (j + 1) := by
      rw [Nat.or_comm, Nat.mul_comm, ← Nat.two_pow_add_eq_or_of_lt (by rw [← e8]; exact hlt), lfN, e8]
      rw [Nat.mul_comm, Nat.add_comm]
    rw [e4, e5]
    exact ih () trivial
