/-! LIKE -/
def hB (S : Mem) (c o k b : Nat) : Bool := (List.range k).all (fun i => decide (S 20 c (b + i) = -1) || decide (S 20 c (b + i) = S 20 o (cln S o - k + i)))
def hE (S : Mem) (c o k : Nat) : Bool := (List.range (cln S c + 1 - k)).any (fun b => hB S c o k b)
def lstB (S : Mem) (c k : Nat) : Bool := (List.range k).any (fun i => decide (S 20 c (cln S c - k + i) = -1))
def lkN (S : Mem) (c k : Nat) : Nat → Nat
  | 0 => 0
  | o + 1 => if (o ≠ c ∧ S 200 o 0 = S 200 c 0) ∧ hE S o c k = true then lkN S c k o ||| 2 ^ o else lkN S c k o
def a_like (S : Mem) (c k : Int32) : Int32 := if (0 ≤ c ∧ c ≤ S 660 0 0 - 1) ∧ (1 ≤ k ∧ k ≤ S 202 c.toNatClampNeg 0) then (if lstB S c.toNatClampNeg k.toNatClampNeg = true then -3 else nI (lkN S c.toNatClampNeg k.toNatClampNeg (nc S))) else -2
theorem hB_y {S : Mem} {c o k b : Nat} (h : ∀ i, i < k → S 20 c (b + i) = -1 ∨ S 20 c (b + i) = S 20 o (cln S o - k + i)) : hB S c o k b = true := by
  unfold hB
  rw [List.all_eq_true]
  intro i hi
  rw [Bool.or_eq_true, decide_eq_true_eq, decide_eq_true_eq]
  exact h i (List.mem_range.mp hi)
theorem hB_n {S : Mem} {c o k b i : Nat} (hi : i < k) (h1 : ¬ S 20 c (b + i) = -1) (h2 : ¬ S 20 c (b + i) = S 20 o (cln S o - k + i)) : ¬ hB S c o k b = true := by
  intro h
  unfold hB at h
  rw [List.all_eq_true] at h
  have := h i (List.mem_range.mpr hi)
  rw [Bool.or_eq_true, decide_eq_true_eq, decide_eq_true_eq] at this
  exact this.elim h1 h2
theorem hE_y {S : Mem} {c o k b : Nat} (hb : b + k ≤ cln S c) (h : hB S c o k b = true) : hE S c o k = true := by
  unfold hE
  rw [List.any_eq_true]
  exact ⟨b, List.mem_range.mpr (by omega), h⟩
theorem hE_n {S : Mem} {c o k : Nat} (h : ∀ b, b < cln S c + 1 - k → ¬ hB S c o k b = true) : ¬ hE S c o k = true := by
  unfold hE
  rw [List.any_eq_true]
  rintro ⟨b, hb, q⟩
  exact h b (List.mem_range.mp hb) q
theorem lst_y {S : Mem} {c k i : Nat} (hi : i < k) (h : S 20 c (cln S c - k + i) = -1) : lstB S c k = true := by
  unfold lstB
  rw [List.any_eq_true]
  exact ⟨i, List.mem_range.mpr hi, decide_eq_true h⟩
theorem lst_n {S : Mem} {c k : Nat} (h : ∀ i, i < k → ¬ S 20 c (cln S c - k + i) = -1) : ¬ lstB S c k = true := by
  unfold lstB
  rw [List.any_eq_true]
  rintro ⟨i, hi, q⟩
  exact h i (List.mem_range.mp hi) (of_decide_eq_true q)
theorem p_X0_hasLostFrom {S M : Mem} (hS : SOK S) (hE : EsC S M) {c k : Nat} (hc : c < nc S) (hk : k ≤ cln S c) {Q : Int32 → Mem → Prop} (hQ : Q (bi (lstB S c k = true)) M) : wp_X0_hasLostFrom c (nI (cln S c - k)) M Q := by
  obtain ⟨l1, l2⟩ := hS.cl hc
  unfold wp_X0_hasLostFrom
  rw [e_J9_max, if_neg (ni_nneg (by omega))]
  suffices hh : ∃ g, w_X0_hasLostFrom_6 Q g c (nI (cln S c - k + 0)) M from hh
  refine pk_loop (fun g i (z : Unit) => w_X0_hasLostFrom_6 Q g c (nI (cln S c - k + i)) M) (fun i _ => ∀ j, j < i → ¬ S 20 c (cln S c - k + j) = -1) k 0 () (Nat.zero_le _) (fun j hj => absurd hj (Nat.not_lt_zero _)) ?_ ?_
  · intro g _ h
    unfold w_X0_hasLostFrom_6
    rw [hE.k 202, l2, show cln S c - k + k = cln S c by omega]
    rw [bi_f (lst_n h)] at hQ
    exact ⟨fun _ => hQ, fun q => absurd ((ni_le (by omega) (by omega)).mpr (Nat.le_refl _)) q⟩
  · intro g i _ hi h ih
    unfold w_X0_hasLostFrom_6
    rw [hE.k 202, l2, hE.k 20, ni_cl (by omega), nI_1]
    refine ⟨fun q => absurd ((ni_le (by omega) (by omega)).mp q) (by omega), fun _ => ⟨(ni_in (by omega)).mpr (by omega), fun q => ?_, fun q => ?_⟩⟩
    · rw [bi_t (lst_y hi q)] at hQ; exact hQ
    · refine ih () (fun j hj => ?_)
      by_cases e : j = i
      · subst e; exact q
      · exact h j (by omega)
theorem p_X0_holdsAt {S M : Mem} (hS : SOK S) (hE : EsC S M) {c o k b : Nat} (hc : c < nc S) (ho : o < nc S) (hk : k ≤ cln S o) (hb : b + k ≤ cln S c) {Q : Int32 → Mem → Prop} (hQ : Q (bi (hB S c o k b = true)) M) : wp_X0_holdsAt c (nI b) o (nI k) M Q := by
  obtain ⟨l1, l2⟩ := hS.cl hc
  obtain ⟨o1, o2⟩ := hS.cl ho
  unfold wp_X0_holdsAt
  rintro _ rfl
  rw [hE.k 202, o2, ni_sub hk]
  refine ⟨fun _ => ?_, fun q => absurd (ni_ge0 (by omega)) q⟩
  refine pk_loop (fun g i (z : Unit) => w_X0_holdsAt_18 Q g c (nI b) o (nI k) (nI (cln S o - k)) (nI i) M) (fun i _ => ∀ j, j < i → S 20 c (b + j) = -1 ∨ S 20 c (b + j) = S 20 o (cln S o - k + j)) k 0 () (Nat.zero_le _) (fun j hj => absurd hj (Nat.not_lt_zero _)) ?_ ?_
  · intro g _ h
    unfold w_X0_holdsAt_18
    rw [bi_t (hB_y h)] at hQ
    exact ⟨fun _ => hQ, fun q => absurd ((ni_le (by omega) (by omega)).mpr (Nat.le_refl _)) q⟩
  · intro g i _ hi h ih
    have nx : (S 20 c (b + i) = -1 ∨ S 20 c (b + i) = S 20 o (cln S o - k + i)) → w_X0_holdsAt_18 Q g c (nI b) o (nI k) (nI (cln S o - k)) (nI (i + 1)) M := fun q => ih () (fun j hj => by
      by_cases e : j = i
      · subst e; exact q
      · exact h j (by omega))
    unfold w_X0_holdsAt_18 w_X0_holdsAt_61
    rw [nI_add, nI_add, ni_cl (by omega), ni_cl (by omega), hE.k 20, nI_1]
    refine ⟨fun q => absurd ((ni_le (by omega) (by omega)).mp q) (by omega), fun _ => ⟨(ni_in (by omega)).mpr (by omega), fun q => nx (Or.inl q), fun q => ⟨(ni_in (by omega)).mpr (by omega), (ni_in (by omega)).mpr (by omega), fun q2 => nx (Or.inr q2), fun q2 => ?_⟩⟩⟩
    rw [bi_f (hB_n hi q q2)] at hQ; exact hQ
theorem p_X0_holdsEndOf {S M : Mem} (hS : SOK S) (hE' : EsC S M) {c o k : Nat} (hc : c < nc S) (ho : o < nc S) (hk0 : 0 < k) (hk : k ≤ cln S o) {Q : Int32 → Mem → Prop} (hQ : Q (bi (hE S c o k = true)) M) : wp_X0_holdsEndOf c o (nI k) M Q := by
  obtain ⟨l1, l2⟩ := hS.cl hc
  obtain ⟨o1, o2⟩ := hS.cl ho
  unfold wp_X0_holdsEndOf
  refine pk_loop (fun g b (z : Unit) => w_X0_holdsEndOf_2 Q g c o (nI k) (nI b) M) (fun b _ => ∀ b', b' < b → ¬ hB S c o k b' = true) (cln S c + 1 - k) 0 () (Nat.zero_le _) (fun j hj => absurd hj (Nat.not_lt_zero _)) ?_ ?_
  · intro g _ h
    unfold w_X0_holdsEndOf_2
    rw [hE'.k 202, l2, nI_add]
    rw [bi_f (hE_n h)] at hQ
    exact ⟨fun _ => hQ, fun q => absurd ((ni_lt (by omega) (by omega)).mpr (by omega)) q⟩
  · intro g b _ hb h ih
    unfold w_X0_holdsEndOf_2
    rw [hE'.k 202, l2, nI_add, nI_1]
    refine ⟨fun q => absurd ((ni_lt (by omega) (by omega)).mp q) (by omega), fun _ => p_X0_holdsAt hS hE' hc ho hk (by omega) ?_⟩
    rw [bi_z, Classical.not_not]
    refine ⟨fun q => ih () (fun b' hb' => ?_), fun q => ?_⟩
    · by_cases e : b' = b
      · subst e; exact q
      · exact h b' (by omega)
    · rw [bi_t (hE_y (by omega) q)] at hQ; exact hQ
theorem C_like {t : Nat} {S M : Mem} (hS : SOK S) (hI : InvC t S M) (c k : Int32) {Q : Int32 → Mem → Prop} (hQ : Q (a_like S c k) M) : wp_X9_like c k M Q := by
  unfold wp_X9_like
  rw [e_X9_counterAt]
  unfold a_like at hQ
  obtain ⟨n1, n2⟩ := hS.ncs
  rcases atC_cases hS hI.1 c with ⟨h1, h2⟩ | ⟨x, hx, rfl, h1, h2⟩
  · rw [h1]; unfold okC at h2
    rw [if_neg (fun z => h2 z.1)] at hQ
    exact ⟨fun _ => hQ, fun j e => by (cases e)⟩
  · rw [h1]; unfold okC at h2
    obtain ⟨l1, l2⟩ := hS.cl hx
    refine ⟨fun e => by (cases e), fun j e => ?_⟩
    cases e
    rw [cn_cl hS hx, l2] at hQ
    rw [hI.1.k 202, l2]
    refine ⟨fun q => ?_, fun q => ⟨fun q2 => ?_, fun q2 => ?_⟩⟩
    · rw [if_neg (fun z => absurd z.2.1 (by grind))] at hQ; exact hQ
    · have hk1 : (1 : Int32) ≤ k := by grind
      rw [if_pos ⟨h2, hk1, q2⟩] at hQ
      obtain ⟨y, hy, rfl⟩ := ni_ofle (n := cln S x) (x := k) (by omega) (by grind) q2
      have hy1 : 1 ≤ y := (ni_le (a := 1) (by omega) (by omega)).mp hk1
      rw [ni_cl (show y < 2147483648 by omega)] at hQ
      rw [ni_sub hy]
      refine p_X0_hasLostFrom hS hI.1 hx hy ?_
      rw [bi_z, Classical.not_not]
      refine ⟨fun z => ?_, fun z => ?_⟩
      · rw [if_neg z] at hQ
        refine pk_loop (fun g o (z : Unit) => w_X9_like_48 Q g (nI x) (nI y) x (nI (lkN S x y o)) (nI o) M) (fun _ _ => True) (nc S) 0 () (Nat.zero_le _) trivial ?_ ?_
        · intro g _ _
          unfold w_X9_like_48
          rw [hI.1.k 660, n2]
          exact ⟨fun _ => hQ, fun q => absurd ((ni_le (by omega) (by omega)).mpr (Nat.le_refl _)) q⟩
        · intro g o _ ho _ ih
          have nx := ih () trivial
          rw [lkN] at nx
          unfold w_X9_like_48 w_X9_like_107
          rw [hI.1.k 660, n2, e_X9_counterAt, atC_some hS hI.1 ho, nI_1]
          refine ⟨fun q => absurd ((ni_le (by omega) (by omega)).mp q) (by omega), fun _ => ⟨fun z => by (cases z), fun j z => ?_⟩⟩
          cases z
          refine ⟨fun q => ?_, fun q => ?_⟩
          · have : o = x := (ni_eq (by omega) (by omega)).mp q
            rw [if_neg (fun z => z.1.1 this)] at nx; exact nx
          · have hne : o ≠ x := fun e => q (by rw [e])
            rw [hI.1.k 200]
            refine ⟨fun q2 => p_X0_holdsEndOf hS hI.1 ho hx (by omega) hy ?_, fun q2 => ?_⟩
            · rw [bi_z, Classical.not_not]
              refine ⟨fun q3 => ?_, fun q3 => ?_⟩
              · rw [if_neg (fun z => q3 z.2)] at nx; exact nx
              · rintro _ rfl
                rw [if_pos ⟨⟨hne, q2⟩, q3⟩] at nx
                rw [sh_1 (by omega), fa_or]; exact nx
            · rw [if_neg (fun z => q2 z.1.2)] at nx; exact nx
      · rw [if_pos z] at hQ; exact hQ
    · rw [if_neg (fun z => q2 z.2.2)] at hQ; exact hQ
def hBp (S : Mem) (c o k b n : Nat) : Bool := (List.range n).all (fun i => decide (S 20 c (b + i) = -1) || decide (S 20 c (b + i) = S 20 o (cln S o - k + i)))
theorem hBp_i {S : Mem} {c o k b n : Nat} : hBp S c o k b n = true ↔ ∀ i, i < n → S 20 c (b + i) = -1 ∨ S 20 c (b + i) = S 20 o (cln S o - k + i) := by
  unfold hBp
  rw [List.all_eq_true]
  constructor
  · intro h i hi
    have := h i (List.mem_range.mpr hi)
    rw [Bool.or_eq_true, decide_eq_true_eq, decide_eq_true_eq] at this
    exact this
  · intro h i hi
    rw [Bool.or_eq_true, decide_eq_true_eq, decide_eq_true_eq]
    exact h i (List.mem_range.mp hi)
theorem p_X10_comesIn {S M : Mem} (hS : SOK S) (hI : InvR S M) {c o k : Nat} (hc : c < nc S) (ho : o < nc S) (hk0 : 0 < k) (hk : k ≤ cln S o) {Q : Int32 → Mem → Prop} (hQ : Q (bi (hE S c o k = true)) M) : wp_X10_comesIn (nI c) (nI o) (nI k) M Q := by
  obtain ⟨n1, n2⟩ := hS.ncs
  obtain ⟨l1, l2⟩ := hS.cl hc
  obtain ⟨o1, o2⟩ := hS.cl ho
  obtain ⟨r1, r2, r3, _⟩ := hI.c hc
  obtain ⟨s1, s2, s3, _⟩ := hI.c ho
  unfold wp_X10_comesIn
  refine pk_loop (fun g b (z : Unit) => w_X10_comesIn_3 Q g (nI c) (nI o) (nI k) (nI b) M) (fun b _ => ∀ b', b' < b → ¬ hB S c o k b' = true) (cln S c + 1 - k) 0 () (Nat.zero_le _) (fun j hj => absurd hj (Nat.not_lt_zero _)) ?_ ?_
  · intro g _ h
    unfold w_X10_comesIn_3
    rw [cn_cl hS hc, r2, l2, nI_add]
    rw [bi_f (hE_n h)] at hQ
    exact ⟨cn_in hS hc, fun _ => hQ, fun q => absurd ((ni_lt (by omega) (by omega)).mpr (by omega)) q⟩
  · intro g b _ hb h ih
    unfold w_X10_comesIn_3
    rw [cn_cl hS hc, r2, l2, nI_add]
    refine ⟨cn_in hS hc, fun q => absurd ((ni_lt (by omega) (by omega)).mp q) (by omega), fun _ => ?_⟩
    suffices hh : ∃ g', w_X10_comesIn_22 Q (fun x1 x2 x3 x4 M => w_X10_comesIn_3 Q g x1 x2 x3 x4 M) g' (nI c) (nI o) (nI k) (nI b) (bi (hBp S c o k b 0 = true)) (nI 0) M by
      rw [bi_t (hBp_i.mpr (fun j hj => absurd hj (Nat.not_lt_zero _)))] at hh; exact hh
    refine pk_loop (fun g' i (z : Unit) => w_X10_comesIn_22 Q (fun x1 x2 x3 x4 M => w_X10_comesIn_3 Q g x1 x2 x3 x4 M) g' (nI c) (nI o) (nI k) (nI b) (bi (hBp S c o k b i = true)) (nI i) M) (fun _ _ => True) k 0 () (Nat.zero_le _) trivial ?_ ?_
    · intro g' _ _
      unfold w_X10_comesIn_22
      rw [bi_z, Classical.not_not, nI_1, hBp_i]
      refine ⟨fun _ => ⟨fun q => ih () (fun b' hb' => ?_), fun q => ?_⟩, fun q => absurd ((ni_le (by omega) (by omega)).mpr (Nat.le_refl _)) q⟩
      · by_cases e : b' = b
        · subst e
          intro z
          apply q
          intro j hj
          by_cases e1 : S 20 c (b' + j) = -1
          · exact Or.inl e1
          · by_cases e2 : S 20 c (b' + j) = S 20 o (cln S o - k + j)
            · exact Or.inr e2
            · exact absurd z (hB_n hj e1 e2)
        · exact h b' (by omega)
      · rw [bi_t (hE_y (by omega) (hB_y q))] at hQ; exact hQ
    · intro g' i _ hi _ ih'
      have nx := ih' () trivial
      have e12 : ∀ z, (12 : Int32) * nI z = nI (12 * z) := fun z => pk_mul ..
      have ei1 : nI i + 1 = nI (i + 1) := by rw [nI_1]
      unfold w_X10_comesIn_22 w_X10_comesIn_82 w_X10_comesIn_86 w_X10_comesIn_87
      rw [e12, e12, nI_add, nI_add, cn_cl hS ho, s2, o2, nI_add, ni_sub (show k ≤ 12 * o + cln S o by omega), nI_add, ei1, ni_cl (show 12 * c + b + i < 2147483648 by omega), ni_cl (show 12 * o + cln S o - k + i < 2147483648 by omega), show 12 * c + b + i = 12 * c + (b + i) by omega, show 12 * o + cln S o - k + i = 12 * o + (cln S o - k + i) by omega, r3 (b + i) (by omega), s3 (cln S o - k + i) (by omega)]
      refine ⟨fun q => absurd ((ni_le (by omega) (by omega)).mp q) (by omega), fun _ => ⟨(ni_in (by omega)).mpr (by omega), ?_⟩⟩
      rintro _ rfl
      rw [bi_z, Classical.not_not, hBp_i]
      have yes : (∀ j, j < i → S 20 c (b + j) = -1 ∨ S 20 c (b + j) = S 20 o (cln S o - k + j)) → (S 20 c (b + i) = -1 ∨ S 20 c (b + i) = S 20 o (cln S o - k + i)) → w_X10_comesIn_22 Q (fun x1 x2 x3 x4 M => w_X10_comesIn_3 Q g x1 x2 x3 x4 M) g' (nI c) (nI o) (nI k) (nI b) 1 (nI (i + 1)) M := fun q1 q2 => by
        rw [bi_t (hBp_i.mpr (fun j hj => by
          by_cases e : j = i
          · subst e; exact q2
          · exact q1 j (by omega)))] at nx
        exact nx
      refine ⟨fun q => ?_, fun q => ⟨fun q2 => yes q (Or.inl q2), fun q2 => ⟨cn_in hS ho, (ni_in (by omega)).mpr (by omega), fun q3 => yes q (Or.inr q3), fun q3 => ?_⟩⟩⟩
      · rw [bi_f (fun z => q (fun j hj => hBp_i.mp z j (by omega)))] at nx; exact nx
      · rw [bi_f (fun z => (hBp_i.mp z i (by omega)).elim q2 q3)] at nx; exact nx
theorem R_like {S M : Mem} (hS : SOK S) (hI : InvR S M) (c k : Int32) {Q : Int32 → Mem → Prop} (hQ : Q (a_like S c k) M) : wp_X10_like c k M Q := by
  unfold wp_X10_like
  simp only [e_X10_isCounter, e_X10_in, bi_z, Classical.not_not, hI.n]
  unfold a_like at hQ
  obtain ⟨n1, n2⟩ := hS.ncs
  refine ⟨fun h => ?_, fun h => ?_⟩
  · rw [if_neg (fun z => h z.1)] at hQ; exact hQ
  · obtain ⟨x, hx, rfl⟩ := okC_nat hS h
    obtain ⟨l1, l2⟩ := hS.cl hx
    obtain ⟨r1, r2, r3, _⟩ := hI.c hx
    rw [cn_cl hS hx, l2] at hQ
    rw [cn_cl hS hx, r2, l2]
    have hle : nI (cln S x) ≤ nI 12 := (ni_le (by omega) (by omega)).mpr l1
    have e12' : (12 : Int32) = nI 12 := rfl
    refine ⟨fun h2 => ?_, fun h2 => ⟨cn_in hS hx, fun q2 => ?_, fun q2 => ?_⟩⟩
    · rw [if_neg (fun z => h2 ⟨z.2.1, by rw [e12']; exact Int32.le_trans z.2.2 hle⟩)] at hQ; exact hQ
    · rw [if_pos ⟨h, h2.1, q2⟩] at hQ
      obtain ⟨y, hy, rfl⟩ := ni_ofle (n := cln S x) (x := k) (by omega) (by have := h2.1; grind) q2
      have hy1 : 1 ≤ y := (ni_le (a := 1) (by omega) (by omega)).mp h2.1
      rw [ni_cl (show y < 2147483648 by omega)] at hQ
      have e12 : (12 : Int32) * nI x = nI (12 * x) := pk_mul ..
      suffices hh : ∃ g, w_X10_like_33 Q g (nI x) (nI y) (nI (0 + 1)) M from hh
      refine pk_loop (fun g i (z : Unit) => w_X10_like_33 Q g (nI x) (nI y) (nI (i + 1)) M) (fun i _ => ∀ j, j < i → ¬ S 20 x (cln S x - (j + 1)) = -1) y 0 () (Nat.zero_le _) (fun j hj => absurd hj (Nat.not_lt_zero _)) ?_ ?_
      · intro g _ hno
        unfold w_X10_like_33
        have hl : ¬ lstB S x y = true := lst_n (fun i hi => by
          have := hno (y - 1 - i) (by omega)
          rw [show cln S x - (y - 1 - i + 1) = cln S x - y + i by omega] at this
          exact this)
        rw [if_neg hl] at hQ
        refine ⟨fun _ => ?_, fun q => absurd ((ni_lt (by omega) (by omega)).mpr (by omega)) q⟩
        refine pk_loop (fun g o (z : Unit) => w_X10_like_74 Q g (nI x) (nI y) (nI (lkN S x y o)) (nI o) M) (fun _ _ => True) (nc S) 0 () (Nat.zero_le _) trivial ?_ ?_
        · intro g _ _
          unfold w_X10_like_74
          rw [hI.n, n2]
          exact ⟨fun _ => hQ, fun q => absurd ((ni_le (by omega) (by omega)).mpr (Nat.le_refl _)) q⟩
        · intro g o _ ho _ ih
          have nx := ih () trivial
          obtain ⟨t1, _⟩ := hI.c ho
          rw [lkN] at nx
          have no : ¬ ((o ≠ x ∧ S 200 o 0 = S 200 x 0) ∧ hE S o x y = true) → w_X10_like_124 Q (fun x1 x2 x3 x4 M => w_X10_like_74 Q g x1 x2 x3 x4 M) (nI x) (nI y) (nI o) (nI (lkN S x y o)) M := fun q => by
            rw [if_neg q] at nx
            unfold w_X10_like_124 w_X10_like_125
            rintro _ rfl
            rw [show (0 : Int32) = nI 0 from rfl, fa_or, Nat.or_zero, nI_1]; exact nx
          unfold w_X10_like_74
          rw [hI.n, n2, cn_cl hS hx, cn_cl hS ho, r1, t1]
          refine ⟨fun q => absurd ((ni_le (by omega) (by omega)).mp q) (by omega), fun _ => ⟨fun q => ?_, fun q => ⟨cn_in hS ho, cn_in hS hx, fun q2 => ?_, fun q2 => ?_⟩⟩⟩
          · have : o = x := (ni_eq (by omega) (by omega)).mp q
            exact no (fun z => z.1.1 this)
          · have hne : o ≠ x := fun e => q (by rw [e])
            refine p_X10_comesIn hS hI ho hx (by omega) hy ?_
            rw [bi_z, Classical.not_not]
            refine ⟨fun q3 => no (fun z => q3 z.2), fun q3 => ?_⟩
            rw [if_pos ⟨⟨hne, q2⟩, q3⟩] at nx
            unfold w_X10_like_125
            rintro _ rfl
            rw [sh_1 (by omega), fa_or, nI_1]; exact nx
          · exact no (fun z => q2 z.1.2)
      · intro g i _ hi hno ih
        unfold w_X10_like_33
        rw [cn_cl hS hx, r2, l2, e12, nI_add, ni_sub (show i + 1 ≤ 12 * x + cln S x by omega), ni_cl (by omega), show 12 * x + cln S x - (i + 1) = 12 * x + (cln S x - (i + 1)) by omega, r3 (cln S x - (i + 1)) (by omega), nI_1]
        refine ⟨fun q => absurd ((ni_lt (by omega) (by omega)).mp q) (by omega), fun _ => ⟨cn_in hS hx, (ni_in (by omega)).mpr (by omega), fun q => ?_, fun q => ih () (fun j hj => ?_)⟩⟩
        · have hl : lstB S x y = true := lst_y (i := y - 1 - i) (by omega) (by rw [show cln S x - y + (y - 1 - i) = cln S x - (i + 1) by omega]; exact q)
          rw [if_pos hl] at hQ; exact hQ
        · by_cases e : j = i
          · subst e; exact q
          · exact hno j (by omega)
    · rw [if_neg (fun z => q2 z.2.2)] at hQ; exact hQ
