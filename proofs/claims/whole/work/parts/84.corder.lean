/-! ORDER: the class -/
theorem SOK.dw {S : Mem} (h : SOK S) {c : Nat} (hc : c < nc S) : (S 207 c 0 = nI (dN S c) ∧ dN S c ≤ 50) ∧ (S 208 c 0 = nI (wN S c) ∧ wN S c ≤ 50) := by
  have hp := h.c hc
  have r7 : rng (S 207 c 0) 1 50 := hp.2.2.2.2.2.2.2.1
  have r8 : rng (S 208 c 0) 0 50 := hp.2.2.2.2.2.2.2.2
  obtain ⟨d, hd, ed⟩ := rng_nat (n := 50) (by decide) (x := S 207 c 0) ⟨by have := r7.1; omega, r7.2⟩
  obtain ⟨w, hw, ew⟩ := rng_nat (n := 50) (by decide) r8
  have hd1 : 1 ≤ d := by
    have := r7.1
    rw [ed, nI_toInt (by omega)] at this
    omega
  unfold dN wN
  rw [ed, ew, ni_cl (by omega), ni_cl (by omega), Nat.max_eq_right hd1]
  exact ⟨⟨rfl, hd⟩, ⟨rfl, hw⟩⟩
theorem pcn_mo {k : Nat} : ∀ {i j : Nat}, i ≤ j → pcn k i ≤ pcn k j
  | i, 0, h => by
    have : i = 0 := by omega
    rw [this]; exact Nat.le_refl _
  | i, j + 1, h => by
    by_cases e : i = j + 1
    · rw [e]; exact Nat.le_refl _
    · have := pcn_mo (k := k) (i := i) (j := j) (by omega)
      rw [pcn]; omega
theorem tb_d {X i : Nat} : X.testBit i = true ↔ X / 2 ^ i % 2 = 1 := by rw [Nat.testBit_eq_decide_div_mod_eq, decide_eq_true_eq]
theorem osrt_l {S : Mem} {X : Nat} : ∀ {n : Nat}, (osrt S X n).length = pcn X n
  | 0 => rfl
  | n + 1 => by
    rw [osrt, pcn]
    by_cases b : X.testBit n = true
    · rw [if_pos b, tb_d.mp b, ← osrt_l (S := S) (n := n)]
      unfold ins
      have := pl_le (S := S) (c := n) (l := osrt S X n) (n := (osrt S X n).length)
      rw [List.length_append, List.length_cons, List.length_take, List.length_drop]
      omega
    · rw [if_neg b, osrt_l]
      have : ¬ X / 2 ^ n % 2 = 1 := fun z => b (tb_d.mpr z)
      omega
theorem insg {l : List Nat} {p c i : Nat} (hp : p ≤ l.length) : (l.take p ++ c :: l.drop p).getD i 0 = if i < p then l.getD i 0 else if i = p then c else l.getD (i - 1) 0 := by
  have hl : (l.take p).length = p := by rw [List.length_take]; omega
  by_cases h1 : i < p
  · rw [if_pos h1, gd_l (by omega), List.getD_eq_getElem?_getD, List.getD_eq_getElem?_getD, List.getElem?_take, if_pos h1]
  · rw [if_neg h1, gd_r (by omega), hl]
    by_cases h2 : i = p
    · rw [if_pos h2, h2, Nat.sub_self]; rfl
    · rw [if_neg h2]
      obtain ⟨j, hj⟩ : ∃ j, i - p = j + 1 := ⟨i - p - 1, by omega⟩
      rw [hj, List.getD_eq_getElem?_getD, List.getElem?_cons_succ, List.getElem?_drop, List.getD_eq_getElem?_getD, show p + j = i - 1 by omega]
theorem p_X9_isBefore {S M : Mem} (hS : SOK S) (hE : EsC S M) {a b : Nat} (ha : a < nc S) (hb : b < nc S) {Q : Int32 → Mem → Prop} (hQ : Q (bi (bfB S a b = true)) M) : wp_X9_isBefore (nI a) (nI b) M Q := by
  obtain ⟨⟨a1, a2⟩, a3, a4⟩ := hS.dw ha
  obtain ⟨⟨b1, b2⟩, b3, b4⟩ := hS.dw hb
  have m1 : dN S b * wN S a ≤ 50 * 50 := Nat.mul_le_mul b2 a4
  have m2 : dN S a * wN S b ≤ 50 * 50 := Nat.mul_le_mul a2 b4
  unfold wp_X9_isBefore
  rw [e_X9_counterAt, atC_some hS hE ha]
  refine ⟨fun z => by (cases z), fun j z => ?_⟩
  cases z
  rw [e_X9_counterAt, atC_some hS hE hb]
  refine ⟨fun z => by (cases z), fun j z => ?_⟩
  cases z
  rw [hE.k 207, hE.k 208, a1, a3, b1, b3, pk_mul, pk_mul, ni_le (by omega) (by omega)]
  refine ⟨fun q => ?_, fun q => ?_⟩
  · rw [bi_f (fun z => by have := of_decide_eq_true z; omega)] at hQ; exact hQ
  · have hb' : bfB S a b = true := decide_eq_true (by omega)
    rw [bi_t hb'] at hQ; exact hQ
theorem p_enq13 {S M0 : Mem} (hS : SOK S) (hE : EsC S M0) {c : Nat} {l : List Nat} (hc : c < nc S) (hl : ∀ i, i < l.length → l.getD i 0 < nc S) (hn : l.length < 8) {Q : Mem → Prop} : ∀ (p : Nat) (M : Mem), p ≤ l.length → (∀ k, k ≠ 52 → M k = M0 k) → (∀ i, i < p → M 52 0 i = nI (l.getD i 0)) → (∀ i, p ≤ i → i < l.length → M 52 0 (i + 1) = nI (l.getD i 0)) → (∀ M1, (∀ k, k ≠ 52 → M1 k = M0 k) → (∀ i, i < l.length + 1 → M1 52 0 i = nI ((l.take (pl S c l p) ++ c :: l.drop (pl S c l p)).getD i 0)) → Q M1) → w_X9_enqueue_13 Q (p + 1) (nI c) (nI p) M := by
  have n1 := hS.ncs.1
  have fin : ∀ (p q : Nat) (M : Mem), p ≤ l.length → pl S c l q = p → (∀ k, k ≠ 52 → M k = M0 k) → (∀ i, i < p → M 52 0 i = nI (l.getD i 0)) → (∀ i, p ≤ i → i < l.length → M 52 0 (i + 1) = nI (l.getD i 0)) → (∀ M1, (∀ k, k ≠ 52 → M1 k = M0 k) → (∀ i, i < l.length + 1 → M1 52 0 i = nI ((l.take (pl S c l q) ++ c :: l.drop (pl S c l q)).getD i 0)) → Q M1) → w_X9_enqueue_53 Q (nI c) (nI p) M := by
    intro p q M hp hq h1 h2 h3 hQ
    unfold w_X9_enqueue_53
    refine ⟨(ni_in (by omega)).mpr (by omega), ?_⟩
    rintro _ rfl
    rw [ni_cl (by omega)]
    refine hQ _ (fun k z => (mst_ne z).trans (h1 k z)) (fun i hi => ?_)
    rw [hq, insg hp, mst_k]
    by_cases e1 : i < p
    · rw [if_pos e1, if_neg (fun z => by omega)]; exact h2 i e1
    · rw [if_neg e1]
      by_cases e2 : i = p
      · rw [if_pos e2, if_pos ⟨rfl, e2⟩]
      · rw [if_neg e2, if_neg (fun z => e2 z.2)]
        have := h3 (i - 1) (by omega) (by omega)
        rw [show i - 1 + 1 = i by omega] at this
        exact this
  intro p
  induction p with
  | zero =>
    intro M hp h1 h2 h3 hQ
    unfold w_X9_enqueue_13
    exact ⟨fun _ => fin 0 0 M hp rfl h1 h2 h3 hQ, fun z => absurd (by decide) z⟩
  | succ p ih =>
    intro M hp h1 h2 h3 hQ
    have hE' : EsC S M := fun k q => (h1 k (fun e => absurd (e ▸ q) (by decide))).trans (hE k q)
    have e1 : nI (p + 1) - 1 = nI p := nI_pred p
    have e2 : nI (p + 1) + (-1) = nI p := by rw [← e1]; grind
    unfold w_X9_enqueue_13
    rw [e1, e2, ni_cl (show p < 2147483648 by omega), ni_cl (show p + 1 < 2147483648 by omega), h2 p (by omega)]
    refine ⟨fun q => absurd ((ni_le (b := 0) (by omega) (by omega)).mp q) (by omega), fun _ => ⟨(ni_in (by omega)).mpr (by omega), p_X9_isBefore hS hE' hc (hl p (by omega)) ?_⟩⟩
    rw [bi_z, Classical.not_not]
    refine ⟨fun q => fin (p + 1) (p + 1) M hp (by rw [pl, if_neg q]) h1 h2 h3 hQ, fun q => ⟨(ni_in (by omega)).mpr (by omega), (ni_in (by omega)).mpr (by omega), ?_⟩⟩
    rintro _ rfl
    rw [h2 p (by omega)]
    refine ih _ (by omega) (fun k z => (mst_ne z).trans (h1 k z)) (fun i hi => ?_) (fun i h4 h5 => ?_) (fun M1 k1 k2 => hQ M1 k1 ?_)
    · rw [mst_k, if_neg (fun z => by omega)]; exact h2 i (by omega)
    · rw [mst_k]
      by_cases e : i = p
      · rw [if_pos ⟨rfl, by omega⟩, e]
      · rw [if_neg (fun z => by omega)]; exact h3 i (by omega) h5
    · rw [pl, if_pos q]; exact k2
theorem p_X9_enqueue {S M : Mem} (hS : SOK S) (hE : EsC S M) {c : Nat} {l : List Nat} (hc : c < nc S) (hl : ∀ i, i < l.length → l.getD i 0 < nc S) (hn : l.length < 8) (h52 : ∀ i, i < l.length → M 52 0 i = nI (l.getD i 0)) {Q : Mem → Prop} (hQ : ∀ M1, (∀ k, k ≠ 52 → M1 k = M k) → (∀ i, i < l.length + 1 → M1 52 0 i = nI ((ins S c l).getD i 0)) → Q M1) : wp_X9_enqueue (nI c) (nI l.length) M Q := by
  unfold wp_X9_enqueue
  refine ⟨fun q => absurd q (ni_nneg (by omega)), fun _ => ⟨fun _ => ⟨l.length + 1, ?_⟩, fun q => absurd ((ni_lt (b := 8) (by omega) (by omega)).mpr hn) q⟩⟩
  exact p_enq13 hS hE hc hl hn l.length M (Nat.le_refl _) (fun _ _ => rfl) h52 (fun i h1 h2 => absurd h1 (by omega)) hQ
theorem KK_a {S : Mem} {c : Nat} : ∀ {l : List Nat} {s : Nat}, KK S s (l ++ [c]) = KK S s l + wN S c * (s + DD S l + dN S c)
  | [], s => by
    show wN S c * (s + dN S c) + 0 = 0 + wN S c * (s + 0 + dN S c)
    rw [Nat.add_zero, Nat.add_zero, Nat.zero_add]
  | b :: l, s => by
    have hD : DD S (b :: l) = dN S b + DD S l := rfl
    rw [List.cons_append, KK, KK_a, KK, hD, show s + (dN S b + DD S l) + dN S c = s + dN S b + DD S l + dN S c by omega]
    omega
theorem DD_a {S : Mem} {c : Nat} {l : List Nat} : DD S (l ++ [c]) = DD S l + dN S c := by
  unfold DD
  rw [List.map_append, List.sum_append]; simp
theorem p_X9_costOfQueue {S M : Mem} (hS : SOK S) (hE : EsC S M) {l : List Nat} (hl : ∀ i, i < l.length → l.getD i 0 < nc S) (hn : l.length ≤ 8) (h52 : ∀ i, i < l.length → M 52 0 i = nI (l.getD i 0)) {Q : Int32 → Mem → Prop} (hQ : Q (nI (KK S 0 l)) M) : wp_X9_costOfQueue (nI l.length) M Q := by
  unfold wp_X9_costOfQueue
  suffices hh : ∃ g, w_X9_costOfQueue_7 Q g (nI l.length) (nI (KK S 0 (l.take 0))) (nI (DD S (l.take 0))) (nI 0) M from hh
  refine pk_loop (fun g k (z : Unit) => w_X9_costOfQueue_7 Q g (nI l.length) (nI (KK S 0 (l.take k))) (nI (DD S (l.take k))) (nI k) M) (fun _ _ => True) l.length 0 () (Nat.zero_le _) trivial ?_ ?_
  · intro g _ _
    unfold w_X9_costOfQueue_7
    rw [List.take_length]
    exact ⟨fun _ => hQ, fun q => absurd ((ni_le (by omega) (by omega)).mpr (Nat.le_refl _)) q⟩
  · intro g k _ hk _ ih
    have nx := ih () trivial
    have hlk := hl k hk
    obtain ⟨⟨a1, a2⟩, a3, a4⟩ := hS.dw hlk
    rw [tk_s hk, KK_a, DD_a, Nat.zero_add] at nx
    unfold w_X9_costOfQueue_7 w_X9_costOfQueue_56
    rw [ni_cl (by omega), h52 k hk, e_X9_counterAt, atC_some hS hE hlk, nI_1]
    refine ⟨fun q => absurd ((ni_le (by omega) (by omega)).mp q) (by omega), fun _ => ⟨fun q => absurd ((ni_le (a := 8) (by omega) (by omega)).mp q) (by omega), fun _ => ⟨(ni_in (by omega)).mpr (by omega), fun z => by (cases z), fun j z => ?_⟩⟩⟩
    cases z
    rintro _ rfl _ rfl
    rw [hE.k 207, hE.k 208, a1, a3, nI_add, pk_mul, nI_add, Nat.mul_comm (DD S (l.take k) + dN S (l.getD k 0))]
    exact nx
def a_order (S : Mem) (x i : Int32) : Int32 := if (0 ≤ x ∧ x < nI (2 ^ nc S)) ∧ pcn x.toNatClampNeg 16 ≤ 8 ∧ (i = -1 ∨ (0 ≤ i ∧ i < nI (pcn x.toNatClampNeg 16))) then (if i = -1 then nI (KK S 0 (osrt S x.toNatClampNeg (nc S))) else nI ((osrt S x.toNatClampNeg (nc S)).getD i.toNatClampNeg 0)) else -2
theorem osrt_g {S : Mem} {X n i : Nat} (hi : i < (osrt S X n).length) : (osrt S X n).getD i 0 < n ∧ X.testBit ((osrt S X n).getD i 0) = true := by
  rw [List.getD_eq_getElem?_getD, List.getElem?_eq_getElem hi]
  exact osrt_m.mp (List.getElem_mem hi)
theorem C_order {t : Nat} {S M : Mem} (hS : SOK S) (hI : InvC t S M) (x i : Int32) {Q : Int32 → Mem → Prop} (hQ : ∀ M1, InvC (t + 1) S M1 → FrC M M1 → Q (a_order S x i) M1) : wp_X9_order x i M Q := by
  obtain ⟨n1, n2⟩ := hS.ncs
  have hp2 : 2 ^ nc S ≤ 2 ^ 12 := Nat.pow_le_pow_right (by decide) n1
  unfold a_order at hQ
  unfold wp_X9_order
  by_cases hx : 0 ≤ x ∧ x < nI (2 ^ nc S)
  · obtain ⟨X, hX, rfl⟩ := ni_of (n := 2 ^ nc S) (by omega) hx.1 hx.2
    rw [ni_cl (show X < 2147483648 by omega)] at hQ
    have hp16 : pcn X 16 ≤ 16 := pcn_le
    have hpz : pcn X 16 = pcn X (nc S) := pcn_z hX (by omega)
    refine p_bitC (by omega) ?_
    rw [hI.1.k 660, n2, sh_1 (by omega)]
    refine ⟨fun q => absurd q (ni_nneg (by omega)), fun _ => ⟨fun q => absurd ((ni_le (by omega) (by omega)).mp q) (by omega), fun _ => ⟨fun q => ?_, fun q => ⟨fun q2 => ?_, fun q2 => ⟨fun q3 => ?_, fun q3 => ?_⟩⟩⟩⟩⟩
    · have := (ni_lt (a := 8) (by omega) (by omega)).mp q
      rw [if_neg (fun z => by omega)] at hQ
      exact hQ M hI.more FrC.rf
    · rw [if_neg (fun z => by rcases z.2.2 with z | z <;> grind)] at hQ
      exact hQ M hI.more FrC.rf
    · have h8 : pcn X 16 ≤ 8 := by
        have : ¬ 8 < pcn X 16 := fun z => q ((ni_lt (a := 8) (by omega) (by omega)).mpr z)
        omega
      have hi : i = -1 ∨ (0 ≤ i ∧ i < nI (pcn X 16)) := by
        by_cases e : i = -1
        · exact Or.inl e
        · exact Or.inr ⟨by grind, q3⟩
      rw [if_pos ⟨hx, h8, hi⟩] at hQ
      suffices hh : ∃ g, w_X9_order_44 Q g (nI X) i (nI (osrt S X 0).length) (nI 0) M from hh
      refine pk_loop (fun g c (m : Mem) => w_X9_order_44 Q g (nI X) i (nI (osrt S X c).length) (nI c) m) (fun c m => (∀ k, k ≠ 52 → m k = M k) ∧ ∀ j, j < (osrt S X c).length → m 52 0 j = nI ((osrt S X c).getD j 0)) (nc S) 0 M (Nat.zero_le _) ⟨fun _ _ => rfl, fun j hj => absurd hj (Nat.not_lt_zero _)⟩ ?_ ?_
      · rintro g m ⟨h1, h2⟩
        have hIm : InvC t S m := hI.keep (fun k q => h1 k (fun e => absurd (e ▸ q) (by decide)))
        have hfm : FrC M m := fun k q => h1 k (fun e => absurd q (nrefk (by rw [e]; decide)))
        have hQ' := hQ m hIm.more hfm
        have hlen : (osrt S X (nc S)).length = pcn X 16 := by rw [osrt_l, hpz]
        unfold w_X9_order_44
        rw [hIm.1.k 660, n2]
        refine ⟨fun _ => ⟨fun e => ?_, fun e => ?_⟩, fun z => absurd ((ni_le (by omega) (by omega)).mpr (Nat.le_refl _)) z⟩
        · rw [if_pos e] at hQ'
          exact p_X9_costOfQueue hS hIm.1 (fun j hj => (osrt_g hj).1) (by omega) h2 hQ'
        · rw [if_neg e] at hQ'
          have hi2 := hi.resolve_left e
          obtain ⟨y, hy, rfl⟩ := ni_of (n := pcn X 16) (by omega) hi2.1 hi2.2
          rw [ni_cl (by omega)] at hQ' ⊢
          rw [h2 y (by omega)]
          exact ⟨(ni_in (by omega)).mpr (by omega), hQ'⟩
      · rintro g c m hc ⟨h1, h2⟩ ih
        have hIm : InvC t S m := hI.keep (fun k q => h1 k (fun e => absurd (e ▸ q) (by decide)))
        have hlen : (osrt S X c).length = pcn X c := osrt_l
        have hm1 : pcn X (c + 1) ≤ pcn X 16 := pcn_mo (by omega)
        unfold w_X9_order_44 w_X9_order_74
        rw [hIm.1.k 660, n2, sh_m (by omega) (by omega)]
        refine ⟨fun z => absurd ((ni_le (by omega) (by omega)).mp z) (by omega), fun _ => ⟨fun z => ?_, fun z => ?_⟩⟩
        · have hb := (ni_eq (b := 1) (by omega) (by omega)).mp z
          have hbt := tb_d.mpr hb
          rw [pcn, hb] at hm1
          have e1 : nI (osrt S X c).length + 1 = nI ((osrt S X c).length + 1) := by rw [nI_1]
          have e2 : nI c + 1 = nI (c + 1) := by rw [nI_1]
          rw [e1, e2]
          refine p_X9_enqueue hS hIm.1 hc (fun j hj => by have := (osrt_g hj).1; omega) (by omega) h2 (fun m2 k1 k2 => ?_)
          have hos : osrt S X (c + 1) = ins S c (osrt S X c) := by rw [osrt, if_pos hbt]
          have hol : (osrt S X (c + 1)).length = (osrt S X c).length + 1 := by rw [osrt_l, pcn, hb, hlen]
          have := ih m2 ⟨fun k q => (k1 k q).trans (h1 k q), fun j hj => by rw [hos]; exact k2 j (by omega)⟩
          rw [hol] at this
          exact this
        · have hb : ¬ X.testBit c = true := fun e => z (by rw [tb_d.mp e]; rfl)
          have hos : osrt S X (c + 1) = osrt S X c := by rw [osrt, if_neg hb]
          have := ih m ⟨h1, by rw [hos]; exact h2⟩
          rw [hos] at this
          rw [nI_1]; exact this
    · have hg0 := ni_ge0 (a := pcn X 16) (by omega)
      rw [if_neg (fun z => by
        rcases z.2.2 with z | z
        · exact q3 (by grind)
        · exact q3 z.2)] at hQ
      exact hQ M hI.more FrC.rf
  · rw [if_neg (fun z => hx z.1)] at hQ
    have bad := hQ M hI.more FrC.rf
    unfold wp_J6_bitCount_0f7a4
    rintro _ rfl _ rfl _ rfl _ rfl _ rfl
    rw [hI.1.k 660, n2, sh_1 (by omega)]
    refine ⟨fun _ => bad, fun q => ⟨fun _ => bad, fun q2 => absurd ⟨?_, ?_⟩ hx⟩⟩
    · grind
    · grind
