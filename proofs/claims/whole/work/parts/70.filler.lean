/-! THE CLASS FILLS: its row, and what has been run of it -/
def rl (ro : Nat → Nat) (i : Nat) : List Nat := (List.range i).map ro
theorem rl_s {ro : Nat → Nat} {i : Nat} : rl ro (i + 1) = rl ro i ++ [ro i] := by unfold rl; rw [List.range_succ, List.map_append]; rfl
theorem rl_c {ro ro' : Nat → Nat} {i : Nat} (h : ∀ j, j < i → ro j = ro' j) : rl ro i = rl ro' i := by
  unfold rl
  apply List.map_congr_left
  intro j hj
  exact h j (List.mem_range.mp hj)
theorem rl_g {r : List Nat} : rl (fun j => r.getD j 0) r.length = r := by
  have : ∀ i, i ≤ r.length → rl (fun j => r.getD j 0) i = r.take i := by
    intro i
    induction i with
    | zero => intro _; rfl
    | succ i ih => intro h; rw [rl_s, ih (by omega), tk_s (by omega)]
  rw [this _ (Nat.le_refl _), List.take_length]
def zok (z : Int) : Prop := (-3 ≤ z ∧ z ≤ 3) ∧ z ≠ 0
def pset (A : Nat → List Nat) (ro : Nat → Nat) : Nat → STt → Prop
  | 0, s => ∃ z, zok z ∧ s = bmp s0 z
  | i + 1, s => (∃ s', pset A ro i s' ∧ s = stp A s' (ro i)) ∨ ∃ z, zok z ∧ s = bmp (runS A (rl ro (i + 1))) z
theorem pset_c {A : Nat → List Nat} {ro ro' : Nat → Nat} : ∀ {i : Nat}, (∀ j, j < i → ro j = ro' j) → ∀ {s : STt}, pset A ro i s → pset A ro' i s
  | 0, _, _, h => h
  | i + 1, hc, s, h => by
    rcases h with ⟨s', h1, h2⟩ | ⟨z, h1, h2⟩
    · exact Or.inl ⟨s', pset_c (fun j hj => hc j (by omega)) h1, by rw [h2, hc i (by omega)]⟩
    · exact Or.inr ⟨z, h1, by rw [h2, rl_c hc]⟩
/-- of a row: what can be behind it, with a row posted from afar -/
theorem pset_p {A : Nat → List Nat} {r : List Nat} : ∀ {i : Nat}, i ≤ r.length → ∀ {s : STt}, (pset A (fun j => r.getD j 0) i s ↔ ∃ p z, p ≤ i ∧ zok z ∧ s = postS A (r.take i) p z)
  | 0, _, s => by
    constructor
    · rintro ⟨z, h1, h2⟩
      exact ⟨0, z, Nat.le_refl _, h1, h2⟩
    · rintro ⟨p, z, hp, h1, h2⟩
      have : p = 0 := by omega
      subst this
      exact ⟨z, h1, h2⟩
  | i + 1, hi, s => by
    have hl : (r.take i).length = i := by rw [List.length_take]; omega
    have hr : rl (fun j => r.getD j 0) (i + 1) = r.take (i + 1) := by
      have := rl_g (r := r.take (i + 1))
      rw [List.length_take, Nat.min_eq_left hi] at this
      rw [← this]
      refine rl_c (fun j hj => ?_)
      rw [List.getD_eq_getElem?_getD, List.getD_eq_getElem?_getD, List.getElem?_take, if_pos hj]
    have hst : ∀ p z, p ≤ i → postS A (r.take (i + 1)) p z = stp A (postS A (r.take i) p z) (r.getD i 0) := by
      intro p z hp
      unfold postS
      rw [tk_s (by omega), List.take_append_of_le_length (by omega), List.drop_append_of_le_length (by omega), List.foldl_append]
      rfl
    have hla : ∀ z, postS A (r.take (i + 1)) (i + 1) z = bmp (runS A (r.take (i + 1))) z := by
      intro z
      unfold postS
      rw [List.take_of_length_le (by rw [List.length_take]; omega), List.drop_of_length_le (by rw [List.length_take]; omega)]
      rfl
    constructor
    · rintro (⟨s', h1, h2⟩ | ⟨z, h1, h2⟩)
      · obtain ⟨p, z, hp, hz, e⟩ := (pset_p (i := i) (by omega)).mp h1
        exact ⟨p, z, by omega, hz, by rw [h2, e, hst p z hp]⟩
      · exact ⟨i + 1, z, Nat.le_refl _, h1, by rw [h2, hr, hla]⟩
    · rintro ⟨p, z, hp, hz, e⟩
      by_cases ep : p = i + 1
      · subst ep
        exact Or.inr ⟨z, hz, by rw [e, hla, hr]⟩
      · exact Or.inl ⟨_, (pset_p (i := i) (by omega)).mpr ⟨p, z, by omega, hz, rfl⟩, by rw [e, hst p z (by omega)]⟩
theorem afar_p {A : Nat → List Nat} {r : List Nat} {L : Int} : afar A r L = true ↔ ∃ s, pset A (fun j => r.getD j 0) r.length s ∧ s.2.2.1 = L := by
  rw [afar_iff]
  constructor
  · rintro ⟨p, j, hp, hj, h3, e⟩
    exact ⟨_, (pset_p (Nat.le_refl _)).mpr ⟨p, (j : Int) - 3, hp, ⟨by omega, by omega⟩, by rw [List.take_length]⟩, e⟩
  · rintro ⟨s, h1, h2⟩
    obtain ⟨p, z, hp, hz, e⟩ := (pset_p (Nat.le_refl _)).mp h1
    rw [List.take_length] at e
    have hz' := hz.1
    have hz2 := hz.2
    refine ⟨p, (z + 3).toNat, hp, by omega, by omega, ?_⟩
    rw [show (((z + 3).toNat : Nat) : Int) - 3 = z by omega, ← e]; exact h2
theorem pset_ok {S : Mem} {v : Nat} {ro : Nat → Nat} : ∀ {i : Nat} {s : STt}, pset (vA S v) ro i s → stOk s
  | 0, s, ⟨z, _, h⟩ => by rw [h]; exact bmp_ok stOk_0
  | i + 1, s, Or.inl ⟨s', h1, h2⟩ => by rw [h2]; exact stOk_v (pset_ok h1)
  | i + 1, s, Or.inr ⟨z, _, h⟩ => by rw [h]; exact bmp_ok runV_ok
def ro (M : Mem) : Nat → Nat := fun j => (M 24 0 j).toNatClampNeg
def PSI (A : Nat → List Nat) (M : Mem) (i cnt : Nat) (P : STt → Prop) : Prop := M 28 0 i = nI cnt ∧ (∀ k, k < cnt → ∃ s, stOk s ∧ M 86 i k = stI s ∧ P s) ∧ (∀ s, P s → ∃ k, k < cnt ∧ M 86 i k = stI s)
def FI (S M : Mem) (c : Nat) : Prop :=
  (M 308 0 0 = nI (cln S c) ∧ M 309 0 0 = nI (clost S c)) ∧
  (∀ p, p < cln S c → S 20 c p = -1 → M 25 0 (lostN (S 20 c) p) = nI p) ∧
  (∀ p, p < cln S c → ¬ S 20 c p = -1 → M 24 0 p = S 20 c p) ∧
  (∃ u, u ≤ cln S c ∧ M 310 0 0 = nI u ∧ ∀ i, i ≤ u → M 26 0 i = stI (runS (vA S (cvr S c)) (rl (ro M) i))) ∧
  (∃ w, w ≤ cln S c ∧ M 311 0 0 = nI w ∧ ∀ i, i ≤ w → ∃ cnt, cnt ≤ 6 * (i + 1) ∧ PSI (vA S (cvr S c)) M i cnt (pset (vA S (cvr S c)) (ro M) i))
theorem FI.keep {S M M' : Mem} {c : Nat} (h : FI S M c) (hk : ∀ k, k ∈ [308, 309, 25, 24, 310, 26, 311, 28, 86] → M' k = M k) : FI S M' c := by
  have e (k : Nat) (q : k ∈ [308, 309, 25, 24, 310, 26, 311, 28, 86] := by decide) : M' k = M k := hk k q
  have er : ro M' = ro M := by unfold ro; rw [e 24]
  unfold FI PSI at h ⊢
  rw [er, e 308, e 309, e 25, e 24, e 310, e 26, e 311, e 28, e 86]
  exact h
theorem lostN_x {ev : Nat → Int32} : ∀ {n i : Nat}, i < lostN ev n → ∃ p, p < n ∧ ev p = -1 ∧ lostN ev p = i
  | 0, i, h => absurd h (Nat.not_lt_zero _)
  | n + 1, i, h => by
    rw [lostN] at h
    by_cases c : i < lostN ev n
    · obtain ⟨p, hp, a, b⟩ := lostN_x c
      exact ⟨p, by omega, a, b⟩
    · by_cases e : ev n = -1
      · rw [if_pos e] at h
        exact ⟨n, by omega, e, by omega⟩
      · rw [if_neg e] at h; omega
theorem lostN_l {ev : Nat → Int32} {p n : Nat} (hp : p < n) (he : ev p = -1) : lostN ev p < lostN ev n := by
  have h1 := lostN_m (ev := ev) (i := p + 1) (j := n) (by omega)
  rw [lostN, if_pos he] at h1
  omega
theorem lostN_j {ev : Nat → Int32} {p q : Nat} (hp : ev p = -1) (hq : ev q = -1) (h : lostN ev p = lostN ev q) : p = q := by
  rcases Nat.lt_trichotomy p q with c | c | c
  · have := lostN_l c hp; omega
  · exact c
  · have := lostN_l c hq; omega
/-- figures turned round -/
def rv : Nat → Nat → Nat
  | 0, _ => 0
  | 1, f => f % 8
  | 2, f => f / 8 % 8 + f % 8 * 8
  | _, f => f / 64 % 8 + f / 8 % 8 * 8 + f % 8 * 64
theorem q8_2 {a b : Nat} (ha : a < 8) (hb : b < 8) : (b + a * 8) / 8 % 8 = a ∧ (b + a * 8) % 8 = b := by
  have e : (b + a * 8) / 8 = a := by omega
  rw [e]; exact ⟨by omega, by omega⟩
theorem q8_3 {a b c : Nat} (ha : a < 8) (hb : b < 8) (hc : c < 8) : (c + b * 8 + a * 64) / 64 % 8 = a ∧ (c + b * 8 + a * 64) / 8 % 8 = b ∧ (c + b * 8 + a * 64) % 8 = c := by
  have e : (c + b * 8 + a * 64) / 64 = a := by omega
  have e2 : (c + b * 8 + a * 64) / 8 = b + 8 * a := by omega
  rw [e, e2]; exact ⟨by omega, by omega, by omega⟩
theorem rv_d {K i f : Nat} (hK : K ≤ 3) (hi : i < K) : rv K f / 8 ^ i % 8 = f / 8 ^ (K - 1 - i) % 8 := by
  have hk : K = 1 ∨ K = 2 ∨ K = 3 := by omega
  rcases hk with rfl | rfl | rfl
  · have : i = 0 := by omega
    subst this
    show f % 8 / 1 % 8 = f / 1 % 8
    omega
  · have : i = 0 ∨ i = 1 := by omega
    rcases this with rfl | rfl
    · show (f / 8 % 8 + f % 8 * 8) / 1 % 8 = f / 8 % 8
      rw [Nat.div_one]; exact (q8_2 (by omega) (by omega)).2
    · show (f / 8 % 8 + f % 8 * 8) / 8 % 8 = f / 1 % 8
      rw [Nat.div_one]; exact (q8_2 (by omega) (by omega)).1
  · have : i = 0 ∨ i = 1 ∨ i = 2 := by omega
    rcases this with rfl | rfl | rfl
    · show (f / 64 % 8 + f / 8 % 8 * 8 + f % 8 * 64) / 1 % 8 = f / 64 % 8
      rw [Nat.div_one]; exact (q8_3 (by omega) (by omega) (by omega)).2.2
    · show (f / 64 % 8 + f / 8 % 8 * 8 + f % 8 * 64) / 8 % 8 = f / 8 % 8
      exact (q8_3 (by omega) (by omega) (by omega)).2.1
    · show (f / 64 % 8 + f / 8 % 8 * 8 + f % 8 * 64) / 64 % 8 = f / 1 % 8
      rw [Nat.div_one]; exact (q8_3 (by omega) (by omega) (by omega)).1
theorem rv_lt {K f : Nat} (hK : K ≤ 3) : rv K f < 8 ^ K := by
  have hk : K = 0 ∨ K = 1 ∨ K = 2 ∨ K = 3 := by omega
  rcases hk with rfl | rfl | rfl | rfl
  · show 0 < 1; omega
  · show f % 8 < 8; omega
  · show f / 8 % 8 + f % 8 * 8 < 64; omega
  · show f / 64 % 8 + f / 8 % 8 * 8 + f % 8 * 64 < 512; omega
theorem rv_v {K f : Nat} (hK : K ≤ 3) (hf : f < 8 ^ K) : rv K (rv K f) = f := by
  have hk : K = 0 ∨ K = 1 ∨ K = 2 ∨ K = 3 := by omega
  rcases hk with rfl | rfl | rfl | rfl
  · have h : f < 1 := hf
    show 0 = f; omega
  · have h : f < 8 := hf
    show f % 8 % 8 = f; omega
  · have h : f < 64 := hf
    show (f / 8 % 8 + f % 8 * 8) / 8 % 8 + (f / 8 % 8 + f % 8 * 8) % 8 * 8 = f
    have e1 : (f / 8 % 8 + f % 8 * 8) / 8 % 8 = f % 8 := (q8_2 (by omega) (by omega)).1
    have e2 : (f / 8 % 8 + f % 8 * 8) % 8 = f / 8 % 8 := (q8_2 (by omega) (by omega)).2
    rw [e1, e2]; omega
  · have h : f < 512 := hf
    show (f / 64 % 8 + f / 8 % 8 * 8 + f % 8 * 64) / 64 % 8 + (f / 64 % 8 + f / 8 % 8 * 8 + f % 8 * 64) / 8 % 8 * 8 + (f / 64 % 8 + f / 8 % 8 * 8 + f % 8 * 64) % 8 * 64 = f
    have e1 : (f / 64 % 8 + f / 8 % 8 * 8 + f % 8 * 64) / 64 % 8 = f % 8 := (q8_3 (by omega) (by omega) (by omega)).1
    have e2 : (f / 64 % 8 + f / 8 % 8 * 8 + f % 8 * 64) / 8 % 8 = f / 8 % 8 := (q8_3 (by omega) (by omega) (by omega)).2.1
    have e3 : (f / 64 % 8 + f / 8 % 8 * 8 + f % 8 * 64) % 8 = f / 64 % 8 := (q8_3 (by omega) (by omega) (by omega)).2.2
    rw [e1, e2, e3]
    have e4 : f / 64 = f / 8 / 8 := by rw [Nat.div_div_eq_div_mul]
    clear e1 e2 e3
    omega
theorem e_min {a b : Nat} (ha : a < 2147483648) (hb : b < 2147483648) : (if nI b < nI a then nI b else nI a) = nI (min a b) := by
  by_cases h : b < a
  · rw [if_pos ((ni_lt hb ha).mpr h), Nat.min_eq_right (by omega)]
  · rw [if_neg (fun q => h ((ni_lt hb ha).mp q)), Nat.min_eq_left (by omega)]
theorem FI.give {S M : Mem} {c p : Nat} {x : Int32} (h : FI S M c) (hp : p < cln S c) (he : S 20 c p = -1) {u w : Nat} (hu : M 310 0 0 = nI u) (hw : M 311 0 0 = nI w) (hu' : u ≤ cln S c) (hw' : w ≤ cln S c) (hl : cln S c ≤ 12) : FI S (mst (mst (mst M 24 0 p x) 310 0 0 (nI (min u p))) 311 0 0 (nI (min w p))) c := by
  obtain ⟨⟨a1, a2⟩, a3, a4, ⟨u1, b1, b2, b3⟩, ⟨w1, d1, d2, d3⟩⟩ := h
  have hu1 : u1 = u := (ni_eq (by omega) (by omega)).mp (b2.symm.trans hu)
  have hw1 : w1 = w := (ni_eq (by omega) (by omega)).mp (d2.symm.trans hw)
  subst hu1 hw1
  have e24 : ∀ j, j ≠ p → mst (mst (mst M 24 0 p x) 310 0 0 (nI (min u1 p))) 311 0 0 (nI (min w1 p)) 24 0 j = M 24 0 j := fun j hj => by
    rw [mst_ne (by decide), mst_ne (by decide), mst_k, if_neg (fun q => hj q.2)]
  have eo : ∀ k, k ≠ 24 → k ≠ 310 → k ≠ 311 → mst (mst (mst M 24 0 p x) 310 0 0 (nI (min u1 p))) 311 0 0 (nI (min w1 p)) k = M k := fun k q1 q2 q3 => by
    rw [mst_ne q3, mst_ne q2, mst_ne q1]
  have ero : ∀ i j, i ≤ p → j < i → ro M j = ro (mst (mst (mst M 24 0 p x) 310 0 0 (nI (min u1 p))) 311 0 0 (nI (min w1 p))) j := fun i j hi hj => by
    unfold ro; rw [e24 j (by omega)]
  refine ⟨⟨by rw [eo 308 (by decide) (by decide) (by decide)]; exact a1, by rw [eo 309 (by decide) (by decide) (by decide)]; exact a2⟩, fun q hq hq1 => by rw [eo 25 (by decide) (by decide) (by decide)]; exact a3 q hq hq1, fun q hq hq1 => ?_, ⟨min u1 p, by omega, by rw [mst_ne (by decide), mst_eq], fun i hi => ?_⟩, ⟨min w1 p, by omega, by rw [mst_eq], fun i hi => ?_⟩⟩
  · rw [e24 q (fun z => hq1 (by rw [z]; exact he))]; exact a4 q hq hq1
  · rw [eo 26 (by decide) (by decide) (by decide), b3 i (by omega), rl_c (fun j hj => ero i j (by omega) hj)]
  · obtain ⟨cnt, f1, f2, f3, f4⟩ := d3 i (by omega)
    refine ⟨cnt, f1, ?_, ?_, ?_⟩
    · rw [eo 28 (by decide) (by decide) (by decide)]; exact f2
    · rw [eo 86 (by decide) (by decide) (by decide)]
      intro k hk
      obtain ⟨s, g1, g2, g3⟩ := f3 k hk
      exact ⟨s, g1, g2, pset_c (fun j hj => ero i j (by omega) hj) g3⟩
    · rw [eo 86 (by decide) (by decide) (by decide)]
      intro s hs
      exact f4 s (pset_c (fun j hj => (ero i j (by omega) hj).symm) hs)
theorem dg_sh {f k : Nat} (hf : f < 2147483648) (hk : k < 10) : (nI f >>> (nI (3 * k) &&& 31)) &&& 7 = nI (f / 8 ^ k % 8) := by
  rw [sh_r hf (by omega)]
  have := fa_and (f / 2 ^ (3 * k)) 7
  rw [show (f / 2 ^ (3 * k)) &&& 7 = (f / 2 ^ (3 * k)) % 8 from Nat.and_two_pow_sub_one_eq_mod _ 3] at this
  have e : (8 : Nat) ^ k = 2 ^ (3 * k) := by rw [Nat.pow_mul]
  rw [e]; exact this
theorem p_X2_give {S M : Mem} (hS : SOK S) {c f : Nat} (hc : c < nc S) (hf : f < 512) (hI : FI S M c) {Q : Mem → Prop} (hQ : ∀ M1, (∀ k, k ∉ [24, 310, 311] → M1 k = M k) → FI S M1 c → (∀ p, p < cln S c → M1 24 0 p = nI ((cR S c (rv (clost S c) f)).getD p 0)) → Q M1) : wp_X2_give (nI f) M Q := by
  obtain ⟨l1, l2⟩ := hS.cl hc
  have hl3 := hS.lo hc
  unfold wp_X2_give
  refine pk_loop (fun g i (m : Mem) => w_X2_give_2 Q g (nI f) (nI i) m) (fun i m => (∀ k, k ∉ [24, 310, 311] → m k = M k) ∧ FI S m c ∧ ∀ p, p < cln S c → S 20 c p = -1 → lostN (S 20 c) p < i → m 24 0 p = nI (f / 8 ^ (clost S c - 1 - lostN (S 20 c) p) % 8)) (clost S c) 0 M (Nat.zero_le _) ⟨fun _ _ => rfl, hI, fun p _ _ z => absurd z (Nat.not_lt_zero _)⟩ ?_ ?_
  · rintro g m ⟨h1, h2, h3⟩
    unfold w_X2_give_2
    rw [h2.1.2]
    refine ⟨fun _ => hQ m h1 h2 (fun p hp => ?_), fun q => absurd ((ni_le (by omega) (by omega)).mpr (Nat.le_refl _)) q⟩
    unfold cR
    rw [fillR_g hp]
    by_cases e : S 20 c p = -1
    · have hlt : lostN (S 20 c) p < clost S c := lostN_l hp e
      rw [if_pos e, h3 p hp e hlt, rv_d hl3 hlt]
    · obtain ⟨x, hx, ex⟩ := hS.evc hc e
      rw [if_neg e, h2.2.2.1 p hp e, ex, ni_cl (by omega)]
  · rintro g i m hi ⟨h1, h2, h3⟩ ih
    obtain ⟨p, hp, he, hpi⟩ := lostN_x (ev := S 20 c) (n := cln S c) (i := i) hi
    have e25 : m 25 0 i = nI p := by rw [← hpi]; exact h2.2.1 p hp he
    have e3 : (3 : Int32) * ((nI (clost S c) - 1) - nI i) = nI (3 * (clost S c - 1 - i)) := by
      have a1 : nI (clost S c) - 1 = nI (clost S c - 1) := ni_sub (b := 1) (by omega)
      rw [a1, ni_sub (by omega)]
      exact pk_mul ..
    have in3 : vp_in (nI i) 3 := (ni_in (by omega)).mpr (by omega)
    have in12 : vp_in (nI p) 12 := (ni_in (by omega)).mpr (by omega)
    unfold w_X2_give_2 wp_X2_shiftOf w_X2_give_82
    dsimp only
    rw [h2.1.2, e3, dg_sh (by omega) (by omega), ni_cl (show i < 2147483648 by omega), e25, ni_cl (show p < 2147483648 by omega)]
    refine ⟨fun q => absurd ((ni_le (by omega) (by omega)).mp q) (by omega), fun _ => ?_⟩
    rintro _ rfl
    have nx : ∀ m2, (∀ k, k ∉ [24, 310, 311] → m2 k = m k) → FI S m2 c → (m2 24 0 p = nI (f / 8 ^ (clost S c - 1 - i) % 8)) → (∀ j, j ≠ p → m2 24 0 j = m 24 0 j) → w_X2_give_2 Q g (nI f) (nI i + 1) m2 := by
      intro m2 q1 q2 q3 q4
      rw [nI_1]
      refine ih m2 ⟨fun k q => (q1 k q).trans (h1 k q), q2, fun p' hp' he' hlt => ?_⟩
      by_cases e : p' = p
      · subst e; rw [hpi]; exact q3
      · rw [q4 p' e]
        refine h3 p' hp' he' ?_
        have : lostN (S 20 c) p' ≠ i := fun z => e (lostN_j he' he (z.trans hpi.symm))
        omega
    refine ⟨in3, in12, fun q => nx m (fun _ _ => rfl) h2 q (fun _ _ => rfl), fun q => ⟨in3, in12, ?_⟩⟩
    rintro _ rfl
    obtain ⟨u, hu, eu, _⟩ := h2.2.2.2.1
    obtain ⟨w, hw, ew, _⟩ := h2.2.2.2.2
    refine ⟨in3, ?_⟩
    rw [e_J9_min, mst_ne (show 310 ≠ 24 by decide), mst_ne (show 25 ≠ 24 by decide), e25, eu, e_min (by omega) (by omega)]
    rintro _ rfl
    refine ⟨in3, ?_⟩
    rw [e_J9_min, mst_ne (show 311 ≠ 310 by decide), mst_ne (show 311 ≠ 24 by decide), mst_ne (show 25 ≠ 310 by decide), mst_ne (show 25 ≠ 24 by decide), e25, ew, e_min (by omega) (by omega)]
    rintro _ rfl
    refine nx _ (fun k q => ?_) (h2.give hp he eu ew hu hw l1) ?_ (fun j hj => ?_)
    · simp only [List.mem_cons, List.not_mem_nil, or_false, not_or] at q
      rw [mst_ne q.2.2, mst_ne q.2.1, mst_ne q.1]
    · rw [mst_ne (by decide), mst_ne (by decide), mst_eq]
    · rw [mst_ne (by decide), mst_ne (by decide), mst_k, if_neg (fun q => hj q.2)]
