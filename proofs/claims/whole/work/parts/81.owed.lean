/-! OWED -/
def wiI (S : Mem) (c day : Int32) : Nat → Int32
  | 0 => 0
  | i + 1 => if S 34 0 i = c ∧ ¬ day < S 35 0 i then wiI S c day i + (S 36 0 i + (((S 36 0 i * S 454 0 0) * ((day - S 35 0 i) / 10)) / 1000)) else wiI S c day i
def owC (S : Mem) (c : Nat) (day : Int32) : Int32 := if ¬ S 205 c 0 ≤ S 204 c 0 ∧ allCa S c % 2 = 1 then wiI S (nI c) day (pdn S) else 0
def owA (S : Mem) (day : Int32) : Nat → Int32
  | 0 => 0
  | i + 1 => owA S day i + owC S i day
def osC (S : Mem) (x day : Int32) : Nat → Int32
  | 0 => 0
  | i + 1 => if x = -1 ∨ x = nI i then osC S x day i + owC S i day else osC S x day i
def a_owed (S : Mem) (c day : Int32) : Int32 := if (c = -1 ∨ (0 ≤ c ∧ c ≤ S 660 0 0 - 1)) ∧ (0 ≤ day ∧ day ≤ 399) then (if c = -1 then owA S day (nc S) else owC S c.toNatClampNeg day) else -2
theorem wi_0 {S : Mem} {c day : Int32} : ∀ {n : Nat}, (∀ i, i < n → ¬ (S 34 0 i = c ∧ ¬ day < S 35 0 i)) → wiI S c day n = 0
  | 0, _ => rfl
  | n + 1, h => by rw [wiI, if_neg (h n (by omega)), wi_0 (fun i hi => h i (by omega))]
theorem os_a {S : Mem} {day : Int32} : ∀ {n : Nat}, osC S (-1) day n = owA S day n
  | 0 => rfl
  | n + 1 => by rw [osC, if_pos (Or.inl rfl), os_a, owA]
theorem i0_a (x : Int32) : x + 0 = x := by grind
theorem os_c {S : Mem} {day : Int32} {c : Nat} (hc : c < 1000) : ∀ {n : Nat}, n < 1000 → osC S (nI c) day n = if c < n then owC S c day else 0
  | 0, _ => by rw [if_neg (Nat.not_lt_zero _)]; rfl
  | n + 1, hn => by
    rw [osC, os_c hc (by omega)]
    by_cases e : c = n
    · subst e
      rw [if_pos (Or.inr rfl), if_neg (by omega), if_pos (by omega)]
      grind
    · rw [if_neg (fun z => z.elim (fun q => ni_nem1 (by omega) q) (fun q => e ((ni_eq (by omega) (by omega)).mp q)))]
      by_cases c1 : c < n
      · rw [if_pos c1, if_pos (by omega)]
      · rw [if_neg c1, if_neg (by omega)]
theorem p_X5_withInterest {S M : Mem} (hS : SOK S) (hE : EsC S M) (c day : Int32) {Q : Int32 → Mem → Prop} (hQ : Q (wiI S c day (pdn S)) M) : wp_X5_withInterest c day M Q := by
  obtain ⟨p1, p2⟩ := hS.pd
  unfold wp_X5_withInterest
  refine pk_loop (fun g i (z : Unit) => w_X5_withInterest_5 Q g c day (wiI S c day i) (nI i) M) (fun _ _ => True) (pdn S) 0 () (Nat.zero_le _) trivial ?_ ?_
  · intro g _ _
    unfold w_X5_withInterest_5
    rw [hE.k 453, p2]
    exact ⟨fun _ => hQ, fun q => absurd ((ni_le (by omega) (by omega)).mpr (Nat.le_refl _)) q⟩
  · intro g i _ hi _ ih
    have nx := ih () trivial
    rw [wiI] at nx
    have in40 : vp_in (nI i) 40 := (ni_in (by omega)).mpr (by omega)
    unfold w_X5_withInterest_5 w_X5_withInterest_80
    rw [hE.k 453, p2, hE.k 34, hE.k 35, hE.k 36, hE.k 454, ni_cl (by omega), nI_1]
    refine ⟨fun q => absurd ((ni_le (by omega) (by omega)).mp q) (by omega), fun _ => ⟨in40, fun q => ⟨in40, fun q2 => ?_, fun q2 => ⟨in40, by decide, ?_⟩⟩, fun q => ?_⟩⟩
    · rw [if_neg (fun z => z.2 q2)] at nx; exact nx
    · rintro _ rfl
      refine ⟨in40, in40, by decide, ?_⟩
      rintro _ rfl
      rw [if_pos ⟨q, q2⟩] at nx; exact nx
    · rw [if_neg (fun z => q z.1)] at nx; exact nx
theorem p_X5_hasAny {S M : Mem} (hS : SOK S) (hE : EsC S M) (c day : Int32) {Q : Int32 → Mem → Prop} (h0 : (∀ i, i < pdn S → ¬ (S 34 0 i = c ∧ ¬ day < S 35 0 i)) → Q 0 M) (h1 : Q 1 M) : wp_X5_hasAny c day M Q := by
  obtain ⟨p1, p2⟩ := hS.pd
  unfold wp_X5_hasAny
  refine pk_loop (fun g i (z : Unit) => w_X5_hasAny_2 Q g c day (nI i) M) (fun i _ => ∀ j, j < i → ¬ (S 34 0 j = c ∧ ¬ day < S 35 0 j)) (pdn S) 0 () (Nat.zero_le _) (fun j hj => absurd hj (Nat.not_lt_zero _)) ?_ ?_
  · intro g _ h
    unfold w_X5_hasAny_2
    rw [hE.k 453, p2]
    exact ⟨fun _ => h0 h, fun q => absurd ((ni_le (by omega) (by omega)).mpr (Nat.le_refl _)) q⟩
  · intro g i _ hi h ih
    have in40 : vp_in (nI i) 40 := (ni_in (by omega)).mpr (by omega)
    have nx : ¬ (S 34 0 i = c ∧ ¬ day < S 35 0 i) → w_X5_hasAny_2 Q g c day (nI (i + 1)) M := fun q => ih () (fun j hj => by
      by_cases e : j = i
      · subst e; exact q
      · exact h j (by omega))
    unfold w_X5_hasAny_2 w_X5_hasAny_32
    rw [hE.k 453, p2, hE.k 34, hE.k 35, ni_cl (by omega), nI_1]
    exact ⟨fun q => absurd ((ni_le (by omega) (by omega)).mp q) (by omega), fun _ => ⟨in40, fun q => ⟨in40, fun q2 => nx (fun z => z.2 q2), fun q2 => h1⟩, fun q => nx (fun z => q z.1)⟩⟩
theorem p_X9_owedOn {t : Nat} {S M : Mem} (hS : SOK S) (hI : InvC t S M) (x day : Int32) {Q : Int32 → Mem → Prop} (hQ : ∀ M1, InvC t S M1 → FrC M M1 → Q (osC S x day (nc S)) M1) : wp_X9_owedOn x day M Q := by
  obtain ⟨n1, n2⟩ := hS.ncs
  unfold wp_X9_owedOn
  refine pk_loop (fun g i (m : Mem) => w_X9_owedOn_5 Q g x day (osC S x day i) (nI i) m) (fun i m => InvC t S m ∧ FrC M m) (nc S) 0 M (Nat.zero_le _) ⟨hI, FrC.rf⟩ ?_ ?_
  · rintro g m ⟨h1, h2⟩
    unfold w_X9_owedOn_5
    rw [h1.1.k 660, n2]
    exact ⟨fun _ => hQ m h1 h2, fun q => absurd ((ni_le (by omega) (by omega)).mpr (Nat.le_refl _)) q⟩
  · rintro g i m hi ⟨h1, h2⟩ ih
    have add : ∀ (m2 : Mem) (y : Int32), (x = -1 ∨ x = nI i) → InvC t S m2 → FrC M m2 → y = osC S x day i + owC S i day → w_X9_owedOn_5 Q g x day y (nI (i + 1)) m2 := fun m2 y q k1 k2 e => by
      have := ih m2 ⟨k1, k2⟩
      rw [osC, if_pos q, ← e] at this; exact this
    have g33 : (x = -1 ∨ x = nI i) → w_X9_owedOn_33_1 Q (fun x1 x2 x3 x4 M => w_X9_owedOn_5 Q g x1 x2 x3 x4 M) x day (osC S x day i) (nI i) i m := by
      intro hx
      unfold w_X9_owedOn_33_1 wp_X0_isShort w_X9_owedOn_92 w_X9_owedOn_90
      rw [h1.1.k 204, h1.1.k 205, nI_1]
      refine ⟨fun q => ⟨fun _ => ?_, fun z => absurd rfl z⟩, fun q => ⟨fun z => absurd z (by decide), fun _ => ?_⟩⟩
      · refine add m _ hx h1 h2 ?_
        unfold owC
        rw [if_neg (fun z => z.1 q), i0_a]
      · refine p_X5_hasAny hS h1.1 _ _ (fun hno => ⟨fun _ => ?_, fun z => absurd rfl z⟩) ⟨fun z => absurd z (by decide), fun _ => ?_⟩
        · refine add m _ hx h1 h2 ?_
          have : owC S i day = 0 := by
            unfold owC
            split
            · exact wi_0 hno
            · rfl
          rw [this, i0_a]
        · refine p_X9_judge hS h1 hi (fun m2 k1 k2 hJ => ?_)
          have h8 := allCa_8 (S := S) (c := i)
          rw [hJ.2.1, an_1]
          refine ⟨fun z => ?_, fun z => p_X5_withInterest hS k1.1 _ _ ?_⟩
          · have z' := (ni_eq (b := 0) (by omega) (by omega)).mp z
            rintro _ rfl
            unfold w_X9_owedOn_92
            rw [nI_1]
            refine add m2 _ hx k1 (h2.tr k2) ?_
            unfold owC
            rw [if_neg (fun y => by omega)]
          · have z' : allCa S i % 2 = 1 := by
              have : ¬ allCa S i % 2 = 0 := fun e => z (by rw [e]; rfl)
              omega
            rintro _ rfl
            unfold w_X9_owedOn_92
            rw [nI_1]
            refine add m2 _ hx k1 (h2.tr k2) ?_
            unfold owC
            rw [if_pos ⟨q, z'⟩]
    unfold w_X9_owedOn_5
    rw [h1.1.k 660, n2, e_X9_counterAt, atC_some hS h1.1 hi]
    refine ⟨fun q => absurd ((ni_le (by omega) (by omega)).mp q) (by omega), fun _ => ⟨fun z => by (cases z), fun j z => ?_⟩⟩
    cases z
    refine ⟨fun q => g33 (Or.inl q), fun q => ⟨fun q2 => g33 (Or.inr q2), fun q2 => ?_⟩⟩
    unfold w_X9_owedOn_92
    rw [nI_1]
    have := ih m ⟨h1, h2⟩
    rw [osC, if_neg (fun z => z.elim q q2)] at this; exact this
theorem C_owed {t : Nat} {S M : Mem} (hS : SOK S) (hI : InvC t S M) (c day : Int32) {Q : Int32 → Mem → Prop} (hQ : ∀ M1, InvC (t + 1) S M1 → FrC M M1 → Q (a_owed S c day) M1) : wp_X9_owed c day M Q := by
  obtain ⟨n1, n2⟩ := hS.ncs
  unfold a_owed at hQ
  have g13 : (c = -1 ∨ (0 ≤ c ∧ c ≤ S 660 0 0 - 1)) → w_X9_owed_13 Q c day M := by
    intro hc
    unfold w_X9_owed_13 wp_X9_isDay
    have bad : ¬ (0 ≤ day ∧ day ≤ 399) → Q (-2) M := fun q => by
      have := hQ M hI.more FrC.rf
      rw [if_neg (fun z => q z.2)] at this; exact this
    refine ⟨fun q => ⟨fun _ => bad (by grind), fun z => absurd rfl z⟩, fun q => ⟨fun q2 => ⟨fun _ => bad (by grind), fun z => absurd rfl z⟩, fun q2 => ⟨fun z => absurd z (by decide), fun _ => ?_⟩⟩⟩
    have hd : 0 ≤ day ∧ day ≤ 399 := ⟨by grind, by grind⟩
    refine p_X9_owedOn hS hI c day (fun M1 h1 h2 => ?_)
    have := hQ M1 h1.more h2
    rw [if_pos ⟨hc, hd⟩] at this
    by_cases e : c = -1
    · rw [if_pos e] at this
      rw [e, os_a]; exact this
    · rw [if_neg e] at this
      obtain ⟨k, hk, rfl⟩ := okC_nat hS (hc.resolve_left e)
      rw [cn_cl hS hk] at this
      rw [os_c (by omega) (by omega), if_pos hk]; exact this
  unfold wp_X9_owed
  refine ⟨fun q => g13 (Or.inl q), fun q => ?_⟩
  rw [e_X9_counterAt]
  rcases atC_cases hS hI.1 c with ⟨h1, h2⟩ | ⟨x, hx, rfl, h1, h2⟩
  · rw [h1]; unfold okC at h2
    have := hQ M hI.more FrC.rf
    rw [if_neg (fun z => z.1.elim q h2)] at this
    exact ⟨fun _ => this, fun j e => by (cases e)⟩
  · rw [h1]; unfold okC at h2
    exact ⟨fun e => by (cases e), fun j e => g13 (Or.inr h2)⟩
theorem cl_bit {S : Mem} {c f : Nat} : (causeF S c f).testBit 0 = true ↔ ((runS (vA S (cvr S c)) (cR S c f)).2.2.1 = cL S c ∧ drw (cR S c f) = cD S c) := by
  rw [causeF_e, Nat.testBit_zero, decide_eq_true_eq]
  constructor
  · intro h
    apply Classical.byContradiction
    intro q
    rw [if_neg q] at h
    revert h
    split <;> split <;> decide
  · intro h
    rw [if_pos h]
    split <;> split <;> decide
theorem al_bit {S : Mem} {c : Nat} : allCa S c % 2 = 1 ↔ ∃ f, f < 8 ^ clost S c ∧ ((runS (vA S (cvr S c)) (cR S c f)).2.2.1 = cL S c ∧ drw (cR S c f) = cD S c) := by
  have h1 : (allCa S c).testBit 0 = true ↔ allCa S c % 2 = 1 := by rw [Nat.testBit_zero, decide_eq_true_eq]
  rw [← h1]
  unfold allCa
  rw [ror_t (g := fun f => causeF S c f)]
  constructor
  · rintro ⟨f, hf, q⟩; exact ⟨f, hf, cl_bit.mp q⟩
  · rintro ⟨f, hf, q⟩; exact ⟨f, hf, cl_bit.mpr q⟩
theorem p_X10_owedOn {S M : Mem} (hS : SOK S) (hI : InvR S M) {c : Nat} (hc : c < nc S) (day : Int32) {Q : Int32 → Mem → Prop} (hQ : ∀ M1, InvR S M1 → FrR M M1 → Q (owC S c day) M1) : wp_X10_owedOn (nI c) day M Q := by
  obtain ⟨p1, p2⟩ := hS.pd
  have hl := hS.lo hc
  have h512 := p8_512 hl
  unfold wp_X10_owedOn wp_X10_isOwed
  refine p_X10_isShort hS hI hc ?_
  have no : ∀ m, InvR S m → FrR M m → ¬ (¬ S 205 c 0 ≤ S 204 c 0 ∧ allCa S c % 2 = 1) → Q 0 m := fun m h1 h2 q => by
    have := hQ m h1 h2
    unfold owC at this
    rw [if_neg q] at this; exact this
  by_cases hs : S 205 c 0 ≤ S 204 c 0
  · rw [if_pos hs]
    exact ⟨fun _ => ⟨fun _ => no M hI FrR.rf (fun z => z.1 hs), fun z => absurd rfl z⟩, fun z => absurd rfl z⟩
  · rw [if_neg hs]
    refine ⟨fun z => absurd z (by decide), fun _ => ?_⟩
    refine pk_loop (fun g f (m : Mem) => w_X10_isOwed_12 (fun r2 M1 => ((r2 = 0) → (Q 0 M1)) ∧ ((¬ r2 = 0) → (∃ f1 : Nat, w_X10_owedOn_15 Q f1 (nI c) day 0 0 M1))) g (nI c) (nI f) m) (fun f m => InvR S m ∧ FrR M m ∧ ∀ f', f' < f → ¬ ((runS (vA S (cvr S c)) (cR S c f')).2.2.1 = cL S c ∧ drw (cR S c f') = cD S c)) (8 ^ clost S c) 0 M (Nat.zero_le _) ⟨hI, FrR.rf, fun j hj => absurd hj (Nat.not_lt_zero _)⟩ ?_ ?_
    · rintro g m ⟨h1, h2, h3⟩
      unfold w_X10_isOwed_12
      refine p_X10_fillMany hS h1 hc ⟨fun _ => ⟨fun _ => no m h1 h2 (fun z => ?_), fun z => absurd rfl z⟩, fun q => absurd ((ni_le (by omega) (by omega)).mpr (Nat.le_refl _)) q⟩
      obtain ⟨f, hf, q⟩ := al_bit.mp z.2
      exact h3 f hf q
    · rintro g f m hf ⟨h1, h2, h3⟩ ih
      unfold w_X10_isOwed_12
      refine p_X10_fillMany hS h1 hc ⟨fun q => absurd ((ni_le (by omega) (by omega)).mp q) (by omega), fun _ => p_X10_isClear hS h1 hc (by omega) (fun m2 k1 k2 _ _ => ?_)⟩
      rw [bi_z, Classical.not_not, nI_1]
      have fr2 : FrR M m2 := h2.tr (cb_fr k2)
      refine ⟨fun q => ih m2 ⟨k1, fr2, fun f' hf' => ?_⟩, fun q => ⟨fun z => absurd z (by decide), fun _ => ?_⟩⟩
      · by_cases e : f' = f
        · subst e; exact q
        · exact h3 f' (by omega)
      · have hcl : allCa S c % 2 = 1 := al_bit.mpr ⟨f, hf, q⟩
        have hQ' := hQ m2 k1 fr2
        unfold owC at hQ'
        rw [if_pos ⟨hs, hcl⟩] at hQ'
        obtain ⟨r1, r2, r3⟩ := k1.p
        refine pk_loop (fun g i (z : Unit) => w_X10_owedOn_15 Q g (nI c) day (wiI S (nI c) day i) (nI i) m2) (fun _ _ => True) (pdn S) 0 () (Nat.zero_le _) trivial ?_ ?_
        · intro g _ _
          unfold w_X10_owedOn_15
          rw [r1, p2]
          exact ⟨fun _ => hQ', fun q => absurd ((ni_le (by omega) (by omega)).mpr (Nat.le_refl _)) q⟩
        · intro g i _ hi _ ih2
          have nx := ih2 () trivial
          rw [wiI] at nx
          have hi' : i < (S 453 0 0).toNatClampNeg := hi
          obtain ⟨t1, t2, t3⟩ := r3 i hi'
          have in40 : vp_in (nI i) 40 := (ni_in (by omega)).mpr (by omega)
          unfold w_X10_owedOn_15 w_X10_owedOn_86
          rw [r1, p2, ni_cl (by omega), t1, t2, t3, r2, nI_1]
          refine ⟨fun q => absurd ((ni_le (by omega) (by omega)).mp q) (by omega), fun _ => ⟨in40, fun q => ⟨in40, fun q2 => ?_, fun q2 => ⟨in40, in40, in40, by decide, by decide, ?_⟩⟩, fun q => ?_⟩⟩
          · rw [if_neg (fun z => z.2 q2)] at nx; exact nx
          · rintro _ rfl
            rw [if_pos ⟨q, q2⟩] at nx; exact nx
          · rw [if_neg (fun z => q z.1)] at nx; exact nx
theorem p_X10_owedAll {S M : Mem} (hS : SOK S) (hI : InvR S M) (day : Int32) {Q : Int32 → Mem → Prop} (hQ : ∀ M1, InvR S M1 → FrR M M1 → Q (owA S day (nc S)) M1) : wp_X10_owedAll day M Q := by
  obtain ⟨n1, n2⟩ := hS.ncs
  unfold wp_X10_owedAll
  refine pk_loop (fun g i (m : Mem) => w_X10_owedAll_4 Q g day (owA S day i) (nI i) m) (fun i m => InvR S m ∧ FrR M m) (nc S) 0 M (Nat.zero_le _) ⟨hI, FrR.rf⟩ ?_ ?_
  · rintro g m ⟨h1, h2⟩
    unfold w_X10_owedAll_4
    rw [h1.n, n2]
    exact ⟨fun _ => hQ m h1 h2, fun q => absurd ((ni_le (by omega) (by omega)).mpr (Nat.le_refl _)) q⟩
  · rintro g i m hi ⟨h1, h2⟩ ih
    unfold w_X10_owedAll_4
    rw [h1.n, n2, nI_1]
    refine ⟨fun q => absurd ((ni_le (by omega) (by omega)).mp q) (by omega), fun _ => p_X10_owedOn hS h1 hi day (fun m2 k1 k2 => ?_)⟩
    rintro _ rfl
    exact ih m2 ⟨k1, h2.tr k2⟩
theorem R_owed {S M : Mem} (hS : SOK S) (hI : InvR S M) (c day : Int32) {Q : Int32 → Mem → Prop} (hQ : ∀ M1, InvR S M1 → FrR M M1 → Q (a_owed S c day) M1) : wp_X10_owed c day M Q := by
  unfold a_owed at hQ
  have g13 : (c = -1 ∨ (0 ≤ c ∧ c ≤ S 660 0 0 - 1)) → w_X10_owed_13 Q c day M := by
    intro hc
    unfold w_X10_owed_13
    rw [e_X10_in, bi_z, Classical.not_not]
    refine ⟨fun q => ?_, fun q => ⟨fun q2 => ?_, fun q2 => ?_⟩⟩
    · have := hQ M hI FrR.rf
      rw [if_neg (fun z => q z.2)] at this; exact this
    · refine p_X10_owedAll hS hI day (fun M1 h1 h2 => ?_)
      have := hQ M1 h1 h2
      rw [if_pos ⟨hc, q⟩, if_pos q2] at this; exact this
    · obtain ⟨k, hk, rfl⟩ := okC_nat hS (hc.resolve_left q2)
      refine p_X10_owedOn hS hI hk day (fun M1 h1 h2 => ?_)
      have := hQ M1 h1 h2
      rw [if_pos ⟨hc, q⟩, if_neg q2, cn_cl hS hk] at this; exact this
  unfold wp_X10_owed
  refine ⟨fun q => g13 (Or.inl q), fun q => ?_⟩
  rw [e_X10_isCounter, bi_z, Classical.not_not, hI.n]
  refine ⟨fun q2 => ?_, fun q2 => g13 (Or.inr q2)⟩
  have := hQ M hI FrR.rf
  rw [if_neg (fun z => z.1.elim q q2)] at this; exact this
