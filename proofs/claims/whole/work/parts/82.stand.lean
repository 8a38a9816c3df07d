/-! STANDING, FALLING -/
def jst (S : Mem) (H j : Nat) : Nat := if (S 22 0 j &&& (nI H ^^^ (-1))) = 0 ∧ (S 23 0 j = 0 ∨ ¬ (S 23 0 j &&& nI H) = 0) then H ||| 2 ^ (8 + j) else H
def jps (S : Mem) (H : Nat) : Nat → Nat
  | 0 => H
  | j + 1 => jst S (jps S H j) j
def jit (S : Mem) (H : Nat) : Nat → Nat
  | 0 => H
  | k + 1 => jps S (jit S H k) (jdn S)
theorem jst_le {S : Mem} {H j : Nat} : H ≤ jst S H j := by
  unfold jst
  split
  · exact Nat.left_le_or
  · exact Nat.le_refl _
theorem jst_lt {S : Mem} {H j : Nat} (hH : H < 2 ^ 24) (hj : j < 16) : jst S H j < 2 ^ 24 := by
  unfold jst
  split
  · exact Nat.or_lt_two_pow hH (Nat.pow_lt_pow_right (by decide) (by omega))
  · exact hH
theorem jps_le {S : Mem} {H : Nat} : ∀ {j : Nat}, H ≤ jps S H j
  | 0 => Nat.le_refl _
  | j + 1 => Nat.le_trans jps_le jst_le
theorem jps_lt {S : Mem} {H : Nat} (hH : H < 2 ^ 24) : ∀ {j : Nat}, j ≤ 16 → jps S H j < 2 ^ 24
  | 0, _ => hH
  | j + 1, h => jst_lt (jps_lt hH (by omega)) (by omega)
theorem jit_lt {S : Mem} (hS : SOK S) {H : Nat} (hH : H < 2 ^ 24) : ∀ {k : Nat}, jit S H k < 2 ^ 24
  | 0 => hH
  | k + 1 => jps_lt (jit_lt hS hH) hS.jd.1
theorem jit_st {S : Mem} {H k : Nat} (h : jit S H (k + 1) = jit S H k) : ∀ {m : Nat}, k ≤ m → jit S H m = jit S H k
  | 0, hm => by
    have : k = 0 := by omega
    rw [this]
  | m + 1, hm => by
    by_cases e : k = m + 1
    · rw [e]
    · have ih := jit_st h (m := m) (by omega)
      rw [jit, ih]
      exact h
theorem pcn_or {H l : Nat} (hb : H / 2 ^ l % 2 = 0) : ∀ {n : Nat}, pcn (H ||| 2 ^ l) n = pcn H n + (if l < n then 1 else 0)
  | 0 => by rw [if_neg (Nat.not_lt_zero _)]; rfl
  | n + 1 => by
    have tb : ∀ x i : Nat, x / 2 ^ i % 2 = (x.testBit i).toNat := fun x i => by
      rw [Nat.testBit_eq_decide_div_mod_eq]
      by_cases e : x / 2 ^ i % 2 = 1
      · rw [decide_eq_true e, e]; rfl
      · rw [decide_eq_false e]
        show x / 2 ^ i % 2 = 0
        omega
    rw [pcn, pcn, pcn_or hb, tb (H ||| 2 ^ l) n, Nat.testBit_or, Nat.testBit_two_pow, tb H n]
    by_cases e : l = n
    · subst e
      have h0 : H.testBit l = false := by
        rw [tb] at hb
        cases h : H.testBit l with
        | false => rfl
        | true => rw [h] at hb; cases hb
      rw [if_neg (by omega), if_pos (by omega), h0, decide_eq_true rfl]; rfl
    · rw [decide_eq_false e, Bool.or_false]
      by_cases c : l < n
      · rw [if_pos c, if_pos (by omega)]; omega
      · rw [if_neg c, if_neg (by omega)]; omega
theorem or_256 {H j : Nat} : (H ||| 2 ^ (8 + j)) / 256 = H / 256 ||| 2 ^ j := by
  apply Nat.eq_of_testBit_eq
  intro i
  rw [show (256 : Nat) = 2 ^ 8 from rfl, Nat.testBit_div_two_pow, Nat.testBit_or, Nat.testBit_or, Nat.testBit_div_two_pow, Nat.testBit_two_pow, Nat.testBit_two_pow]
  congr 1
  by_cases e : j = i
  · rw [decide_eq_true (by omega), decide_eq_true e]
  · rw [decide_eq_false (by omega), decide_eq_false e]
theorem or_set {H l : Nat} (h : ¬ H / 2 ^ l % 2 = 0) : H ||| 2 ^ l = H := by
  apply Nat.eq_of_testBit_eq
  intro i
  rw [Nat.testBit_or, Nat.testBit_two_pow]
  by_cases e : l = i
  · subst e
    rw [Nat.testBit_eq_decide_div_mod_eq, decide_eq_true (show H / 2 ^ l % 2 = 1 by omega)]; rfl
  · rw [decide_eq_false e, Bool.or_false]
def mu (H : Nat) : Nat := pcn (H / 256) 16
theorem jst_mu {S : Mem} {H j : Nat} (hj : j < 16) : (jst S H j = H ∧ True) ∨ mu (jst S H j) = mu H + 1 := by
  unfold jst mu
  split
  · by_cases e : H / 2 ^ (8 + j) % 2 = 0
    · refine Or.inr ?_
      have e2 : H / 256 / 2 ^ j % 2 = 0 := by
        rw [Nat.div_div_eq_div_mul, show 256 * 2 ^ j = 2 ^ (8 + j) by rw [Nat.pow_add]]; exact e
      rw [or_256, pcn_or e2, if_pos hj]
    · exact Or.inl ⟨or_set e, trivial⟩
  · exact Or.inl ⟨rfl, trivial⟩
theorem jps_mu {S : Mem} {H : Nat} : ∀ {j : Nat}, j ≤ 16 → jps S H j = H ∨ mu H + 1 ≤ mu (jps S H j)
  | 0, _ => Or.inl rfl
  | j + 1, h => by
    rw [jps]
    rcases jst_mu (S := S) (H := jps S H j) (j := j) (by omega) with ⟨e, _⟩ | e
    · rw [e]; exact jps_mu (by omega)
    · rcases jps_mu (S := S) (H := H) (j := j) (by omega) with e2 | e2
      · rw [e2] at e ⊢; exact Or.inr (by omega)
      · exact Or.inr (by omega)
theorem jit_mu {S : Mem} (hS : SOK S) {H : Nat} : ∀ {k : Nat}, (∃ m, m < k ∧ jit S H (m + 1) = jit S H m) ∨ k ≤ mu (jit S H k)
  | 0 => Or.inr (Nat.zero_le _)
  | k + 1 => by
    rcases jit_mu hS (H := H) (k := k) with ⟨m, hm, e⟩ | e
    · exact Or.inl ⟨m, by omega, e⟩
    · rcases jps_mu (S := S) (H := jit S H k) (j := jdn S) hS.jd.1 with e2 | e2
      · exact Or.inl ⟨k, by omega, e2⟩
      · refine Or.inr ?_
        rw [jit]; omega
theorem jit_fix {S : Mem} (hS : SOK S) {H : Nat} : jit S H 17 = jit S H 16 := by
  rcases jit_mu hS (H := H) (k := 17) with ⟨m, hm, e⟩ | e
  · rw [jit_st e (m := 17) (by omega), jit_st e (m := 16) (by omega)]
  · have : mu (jit S H 17) ≤ 16 := pcn_le
    omega
theorem nI_or8 {H j : Nat} (hj : j < 16) : nI H ||| (1 <<< ((8 + nI j) &&& 31)) = nI (H ||| 2 ^ (8 + j)) := by
  have e : (8 : Int32) + nI j = nI (8 + j) := nI_add 8 j
  rw [e, sh_1 (by omega), fa_or]
theorem sh_8 {H : Nat} (hH : H < 2 ^ 24) : nI H >>> ((8 : Int32) &&& 31) = nI (H / 256) := sh_r (j := 8) (by omega) (by decide)
theorem p_X1_ledBackTo {S M : Mem} (hS : SOK S) (hE : EsC S M) {H : Nat} (hH : H < 2 ^ 24) {Q : Int32 → Mem → Prop} (hQ : Q (nI (jit S H 17 / 256)) M) : wp_X1_ledBackTo (nI H) M Q := by
  obtain ⟨d1, d2⟩ := hS.jd
  unfold wp_X1_ledBackTo
  suffices hh : ∃ g, w_X1_ledBackTo_7 Q g (nI (jit S H 0)) (if 0 = 0 then -1 else nI (jit S H (0 - 1))) (nI 0) M from hh
  refine pk_loop (fun g k (z : Unit) => w_X1_ledBackTo_7 Q g (nI (jit S H k)) (if k = 0 then -1 else nI (jit S H (k - 1))) (nI k) M) (fun _ _ => True) 17 0 () (Nat.zero_le _) trivial ?_ ?_
  · intro g _ _
    unfold w_X1_ledBackTo_7
    rw [sh_8 (jit_lt hS hH)]
    exact ⟨fun _ => hQ, fun q => absurd ((ni_lt (a := 16) (by omega) (by omega)).mpr (by omega)) q⟩
  · intro g k _ hk _ ih
    have hlt := jit_lt hS hH (k := k)
    have hlt1 := jit_lt hS hH (k := k - 1)
    unfold w_X1_ledBackTo_7
    rw [sh_8 hlt]
    refine ⟨fun q => absurd ((ni_lt (a := 16) (by omega) (by omega)).mp q) (by omega), fun _ => ⟨fun q => ?_, fun q => ?_⟩⟩
    · by_cases k0 : k = 0
      · rw [if_pos k0] at q; exact absurd q (ni_nem1 (by omega))
      · rw [if_neg k0] at q
        have e := (ni_eq (by omega) (by omega)).mp q
        have : jit S H (k - 1 + 1) = jit S H (k - 1) := by rw [show k - 1 + 1 = k by omega]; exact e
        rw [jit_st this (m := 17) (by omega), ← e] at hQ
        exact hQ
    · have nx := ih () trivial
      rw [if_neg (by omega), show k + 1 - 1 = k by omega] at nx
      refine pk_loop (fun g' j (z : Unit) => w_X1_ledBackTo_24 Q (fun x2 x3 x4 M => w_X1_ledBackTo_7 Q g x2 x3 x4 M) g' (nI (jps S (jit S H k) j)) (nI (jit S H k)) (nI k) (nI j) M) (fun _ _ => True) (jdn S) 0 () (Nat.zero_le _) trivial ?_ ?_
      · intro g' _ _
        unfold w_X1_ledBackTo_24
        rw [hE.k 252, d2, nI_1]
        exact ⟨fun _ => nx, fun q => absurd ((ni_le (by omega) (by omega)).mpr (Nat.le_refl _)) q⟩
      · intro g' j _ hj _ ih'
        have nx' := ih' () trivial
        rw [jps] at nx'
        unfold jst at nx'
        have in16 : vp_in (nI j) 16 := (ni_in (by omega)).mpr (by omega)
        unfold w_X1_ledBackTo_24 w_X1_ledBackTo_69 w_X1_ledBackTo_79
        rw [hE.k 252, d2, hE.k 22, hE.k 23, ni_cl (by omega), nI_or8 (by omega), nI_1 j]
        have add : (S 22 0 j &&& (nI (jps S (jit S H k) j) ^^^ (-1))) = 0 ∧ (S 23 0 j = 0 ∨ ¬ (S 23 0 j &&& nI (jps S (jit S H k) j)) = 0) → w_X1_ledBackTo_24 Q (fun x2 x3 x4 M => w_X1_ledBackTo_7 Q g x2 x3 x4 M) g' (nI (jps S (jit S H k) j ||| 2 ^ (8 + j))) (nI (jit S H k)) (nI k) (nI (j + 1)) M := fun q => by
          rw [if_pos q] at nx'; exact nx'
        refine ⟨fun q => absurd ((ni_le (by omega) (by omega)).mp q) (by omega), fun _ => ⟨in16, fun q => ⟨in16, fun q2 => ?_, fun q2 => ⟨in16, fun q3 => ?_, fun q3 => ?_⟩⟩, fun q => ?_⟩⟩
        · rintro _ rfl; exact add ⟨q, Or.inl q2⟩
        · rw [if_neg (fun z => z.2.elim q2 (fun y => y q3))] at nx'; exact nx'
        · rintro _ rfl; exact add ⟨q, Or.inr q3⟩
        · rw [if_neg (fun z => q z.1)] at nx'; exact nx'
theorem p_X10_standsOn {S M : Mem} (hS : SOK S) (hI : InvR S M) {H : Nat} (hH : H < 2 ^ 24) {Q : Int32 → Mem → Prop} (hQ : Q (nI (jit S H 17 / 256)) M) : wp_X10_standsOn (nI H) M Q := by
  obtain ⟨d1, d2⟩ := hS.jd
  obtain ⟨j1, j2, j3⟩ := hI.j
  unfold wp_X10_standsOn
  suffices hh : ∃ g, w_X10_standsOn_4 Q g (nI (jit S H 0)) (if 0 = 0 then 1 else bi (jit S H 0 ≠ jit S H (0 - 1))) M from hh
  refine pk_loop (fun g k (z : Unit) => w_X10_standsOn_4 Q g (nI (jit S H k)) (if k = 0 then 1 else bi (jit S H k ≠ jit S H (k - 1))) M) (fun _ _ => True) 17 0 () (Nat.zero_le _) trivial ?_ ?_
  · intro g _ _
    unfold w_X10_standsOn_4
    have hf := jit_fix hS (H := H)
    rw [sh_8 (jit_lt hS hH), if_neg (by decide), bi_f (fun z => z hf)]
    exact ⟨fun _ => hQ, fun q => absurd rfl q⟩
  · intro g k _ hk _ ih
    have hlt := jit_lt hS hH (k := k)
    unfold w_X10_standsOn_4
    rw [sh_8 hlt]
    refine ⟨fun q => ?_, fun q => ?_⟩
    · by_cases k0 : k = 0
      · rw [if_pos k0] at q; exact absurd q (by decide)
      · rw [if_neg k0, bi_z] at q
        have e : jit S H k = jit S H (k - 1) := Classical.byContradiction q
        have : jit S H (k - 1 + 1) = jit S H (k - 1) := by rw [show k - 1 + 1 = k by omega]; exact e
        rw [jit_st this (m := 17) (by omega), ← e] at hQ
        exact hQ
    · have nx := ih () trivial
      rw [if_neg (by omega), show k + 1 - 1 = k by omega] at nx
      suffices hh : ∃ g', w_X10_standsOn_13 Q (fun x2 x3 M => w_X10_standsOn_4 Q g x2 x3 M) g' (nI (jps S (jit S H k) 0)) (bi (jps S (jit S H k) 0 ≠ jit S H k)) (nI 0) M by
        rw [bi_f (fun z => z rfl)] at hh; exact hh
      refine pk_loop (fun g' j (z : Unit) => w_X10_standsOn_13 Q (fun x2 x3 M => w_X10_standsOn_4 Q g x2 x3 M) g' (nI (jps S (jit S H k) j)) (bi (jps S (jit S H k) j ≠ jit S H k)) (nI j) M) (fun _ _ => True) (jdn S) 0 () (Nat.zero_le _) trivial ?_ ?_
      · intro g' _ _
        unfold w_X10_standsOn_13
        rw [j1, d2]
        exact ⟨fun _ => nx, fun q => absurd ((ni_le (by omega) (by omega)).mpr (Nat.le_refl _)) q⟩
      · intro g' j _ hj _ ih'
        have nx' := ih' () trivial
        rw [jps] at nx'
        unfold jst at nx'
        have hj' : j < (S 252 0 0).toNatClampNeg := hj
        obtain ⟨t1, t2⟩ := j3 j hj'
        have in16 : vp_in (nI j) 16 := (ni_in (by omega)).mpr (by omega)
        have hle : jit S H k ≤ jps S (jit S H k) j := jps_le
        have hpl := jps_lt (S := S) hlt (j := j) (by omega)
        have e8 : (8 : Int32) + nI j = nI (8 + j) := nI_add 8 j
        have e256 : (256 : Int32) <<< (nI j &&& 31) = nI (2 ^ (8 + j)) := by
          have hp : 2 ^ j ≤ 2 ^ 15 := Nat.pow_le_pow_right (by decide) (by omega)
          have := sh_l (k := 256) (j := j) (by omega) (by omega)
          rw [show 256 * 2 ^ j = 2 ^ (8 + j) by rw [Nat.pow_add]] at this
          exact this
        generalize jps S (jit S H k) j = P at nx' hle hpl ⊢
        have no : ¬ ((S 22 0 j &&& (nI P ^^^ (-1))) = 0 ∧ (S 23 0 j = 0 ∨ ¬ (S 23 0 j &&& nI P) = 0)) → w_X10_standsOn_62 Q (fun x2 x3 M => w_X10_standsOn_4 Q g x2 x3 M) (fun x2 x3 x4 M => w_X10_standsOn_13 Q (fun x2 x3 M => w_X10_standsOn_4 Q g x2 x3 M) g' x2 x3 x4 M) (nI P) (bi (P ≠ jit S H k)) (nI j) M := fun q => by
          rw [if_neg q] at nx'
          unfold w_X10_standsOn_62 w_X10_standsOn_63 w_X10_standsOn_93
          rw [nI_1]
          exact ⟨fun _ => nx', fun z => absurd rfl z⟩
        have yes : ((S 22 0 j &&& (nI P ^^^ (-1))) = 0 ∧ (S 23 0 j = 0 ∨ ¬ (S 23 0 j &&& nI P) = 0)) → w_X10_standsOn_58 Q (fun x2 x3 M => w_X10_standsOn_4 Q g x2 x3 M) (fun x2 x3 x4 M => w_X10_standsOn_13 Q (fun x2 x3 M => w_X10_standsOn_4 Q g x2 x3 M) g' x2 x3 x4 M) (nI P) (bi (P ≠ jit S H k)) (nI j) M := fun q => by
          rw [if_pos q] at nx'
          unfold w_X10_standsOn_58 w_X10_standsOn_63 w_X10_standsOn_93
          rw [e8, e256, fa_or, nI_1]
          have hsm : (nI P >>> (nI (8 + j) &&& 31)) &&& 1 = nI (P / 2 ^ (8 + j) % 2) := by
            rw [sh_r (by omega) (by omega), an_1]
          rw [hsm]
          refine ⟨fun z => absurd z (by decide), fun _ => ⟨fun z => ?_, fun z => ?_⟩⟩
          · have z0 := (ni_eq (b := 0) (by omega) (by omega)).mp z
            rintro _ rfl
            have hne : P ||| 2 ^ (8 + j) ≠ jit S H k := by
              have h1 : P ≤ P ||| 2 ^ (8 + j) := Nat.left_le_or
              have h2 : P ||| 2 ^ (8 + j) ≠ P := fun e => by
                have : (P ||| 2 ^ (8 + j)).testBit (8 + j) = P.testBit (8 + j) := by rw [e]
                rw [Nat.testBit_or, Nat.testBit_two_pow_self, Bool.or_true, Nat.testBit_eq_decide_div_mod_eq, decide_eq_false (by omega)] at this
                cases this
              omega
            rw [bi_t hne] at nx'; exact nx'
          · have z0 : ¬ P / 2 ^ (8 + j) % 2 = 0 := fun e => z (by rw [e]; rfl)
            rw [or_set z0] at nx'; exact nx'
        unfold w_X10_standsOn_13
        rw [j1, d2, ni_cl (by omega), t1, t2]
        exact ⟨fun q => absurd ((ni_le (by omega) (by omega)).mp q) (by omega), fun _ => ⟨in16, fun q => ⟨in16, fun q2 => yes ⟨q, Or.inl q2⟩, fun q2 => ⟨in16, fun q3 => no (fun z => z.2.elim q2 (fun y => y q3)), fun q3 => yes ⟨q, Or.inr q3⟩⟩⟩, fun q => no (fun z => q z.1)⟩⟩
def grd (S : Mem) : Nat := (S 253 0 0).toNatClampNeg
theorem SOK.gr {S : Mem} (h : SOK S) : grd S < 256 ∧ S 253 0 0 = nI (grd S) := by
  obtain ⟨k, hk, e⟩ := rng_nat (n := 255) (by decide) h.j.2.1
  unfold grd
  rw [e, ni_cl (by omega)]
  exact ⟨by omega, rfl⟩
def a_standing (S : Mem) : Int32 := nI (jit S (grd S) 17 / 256)
def a_falling (S : Mem) (g : Int32) : Int32 := if 0 ≤ g ∧ g ≤ 7 then nI (jit S (grd S) 17 / 256) &&& (nI (jit S (grd S &&& (4294967295 - 2 ^ g.toNatClampNeg)) 17 / 256) ^^^ (-1)) else -2
theorem C_standing {t : Nat} {S M : Mem} (hS : SOK S) (hI : InvC t S M) {Q : Int32 → Mem → Prop} (hQ : Q (a_standing S) M) : wp_X9_standing M Q := by
  obtain ⟨g1, g2⟩ := hS.gr
  unfold wp_X9_standing
  rw [hI.1.k 253, g2]
  exact p_X1_ledBackTo hS hI.1 (by omega) hQ
theorem R_standing {S M : Mem} (hS : SOK S) (hI : InvR S M) {Q : Int32 → Mem → Prop} (hQ : Q (a_standing S) M) : wp_X10_standing M Q := by
  obtain ⟨g1, g2⟩ := hS.gr
  unfold wp_X10_standing
  rw [hI.j.2.1, g2]
  exact p_X10_standsOn hS hI (by omega) hQ
theorem C_falling {t : Nat} {S M : Mem} (hS : SOK S) (hI : InvC t S M) (g : Int32) {Q : Int32 → Mem → Prop} (hQ : Q (a_falling S g) M) : wp_X9_falling g M Q := by
  obtain ⟨g1, g2⟩ := hS.gr
  unfold a_falling at hQ
  unfold wp_X9_falling
  refine ⟨fun q => ?_, fun q => ⟨fun q2 => ?_, fun q2 => ?_⟩⟩
  · rw [if_neg (fun z => absurd z.1 (by grind))] at hQ; exact hQ
  · have hg : 0 ≤ g ∧ g ≤ 7 := ⟨by grind, by grind⟩
    rw [if_pos hg] at hQ
    obtain ⟨x, hx, rfl⟩ := ni_ofle (n := 7) (by decide) hg.1 hg.2
    rw [ni_cl (by omega)] at hQ
    have hl := (gn_off (grd S) g1 x (by omega)).2
    rw [hI.1.k 253, g2]
    refine p_X1_ledBackTo hS hI.1 (by omega) ?_
    rw [hI.1.k 253, g2, sh_1 (by omega), cp_1 x (by omega), fa_and]
    exact p_X1_ledBackTo hS hI.1 (by omega) hQ
  · rw [if_neg (fun z => absurd z.2 (by grind))] at hQ; exact hQ
theorem R_falling {S M : Mem} (hS : SOK S) (hI : InvR S M) (g : Int32) {Q : Int32 → Mem → Prop} (hQ : Q (a_falling S g) M) : wp_X10_falling g M Q := by
  obtain ⟨g1, g2⟩ := hS.gr
  unfold a_falling at hQ
  unfold wp_X10_falling
  rw [e_X10_in, bi_z, Classical.not_not]
  refine ⟨fun q => ?_, fun hg => ?_⟩
  · rw [if_neg q] at hQ; exact hQ
  · rw [if_pos hg] at hQ
    obtain ⟨x, hx, rfl⟩ := ni_ofle (n := 7) (by decide) hg.1 hg.2
    rw [ni_cl (by omega)] at hQ
    have hl := (gn_off (grd S) g1 x (by omega)).2
    rw [hI.j.2.1, g2]
    refine p_X10_standsOn hS hI (by omega) ?_
    rw [hI.j.2.1, g2, sh_1 (by omega), cp_1 x (by omega), fa_and]
    exact p_X10_standsOn hS hI (by omega) hQ
