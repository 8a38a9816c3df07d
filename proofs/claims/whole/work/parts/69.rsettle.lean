/-! SETTLING: the reference -/
def mkp (rd : Nat) : Nat → Nat
  | 0 => 0
  | k + 1 => mkp rd k + rd / 2 ^ k % 2 * (7 * 2 ^ (3 * k))
theorem mkp_t : ∀ rd, rd < 8 → ∀ k, k < 3 → (rd / 2 ^ k % 2 = 1 → mkp rd k ||| 7 * 2 ^ (3 * k) = mkp rd (k + 1)) ∧ (¬ rd / 2 ^ k % 2 = 1 → mkp rd k = mkp rd (k + 1)) := by decide +kernel
theorem mkp_3 : ∀ rd, rd < 8 → mkp rd 3 = mk8 rd ∧ mk8 rd < 512 := by decide +kernel
def seF (m : Mem) (k n : Nat) : Nat → Int32 := fun x => if x < n then m k 0 x else 0
theorem seF_st {m : Mem} {k n i : Nat} {v : Int32} (h : i < n) : seF (mst m k 0 i v) k n = fun x => if x = i then v else seF m k n x := by
  funext x
  unfold seF
  rw [mst_k]
  by_cases e : x = i
  · rw [if_pos (show x < n by omega), if_pos ⟨rfl, e⟩, if_pos e]
  · rw [if_neg (show ¬ (0 = 0 ∧ x = i) from fun q => e q.2), if_neg e]
theorem seF_sm {m : Mem} {k n i : Nat} (h : i < n) : seF (mst m k 0 i (m k 0 i)) k n = seF m k n := by
  rw [seF_st h]
  funext x
  by_cases e : x = i
  · rw [if_pos e, e]; unfold seF; rw [if_pos h]
  · rw [if_neg e]
theorem p_X10_settles {S M : Mem} {c rd : Nat} (hr : rd < 8) (hl : clost S c ≤ 3) (h73 : ∀ f, f < 8 ^ clost S c → M 73 0 f = nI (causeF S c f)) {Q : Int32 → Mem → Prop} (hQ : ∀ M1, (∀ k, k ≠ 74 → M1 k = M k) → Q (bi (settl S c rd = true)) M1) : wp_X10_settles (nI (8 ^ clost S c)) (nI rd) M Q := by
  have h512 := p8_512 hl
  obtain ⟨mk3, mkl⟩ := mkp_3 rd hr
  have hC : ∀ f, causeF S c f < 100 := fun f => by have := causeF_7 (S := S) (c := c) (f := f); omega
  unfold wp_X10_settles
  suffices hh : ∃ g, w_X10_settles_5 Q g (nI (8 ^ clost S c)) (nI rd) (nI (mkp rd 0)) (nI 0) M from hh
  refine pk_loop (fun g k (m : Mem) => w_X10_settles_5 Q g (nI (8 ^ clost S c)) (nI rd) (nI (mkp rd k)) (nI k) m) (fun k m => m = M) 3 0 M (Nat.zero_le _) rfl ?_ ?_
  · rintro g m rfl
    unfold w_X10_settles_5
    refine ⟨fun _ => ?_, fun z => absurd ((ni_le (a := 3) (by omega) (by omega)).mpr (Nat.le_refl _)) z⟩
    rw [mk3]
    refine pk_loop (fun g f (z : Mem) => w_X10_settles_44 Q g (nI (8 ^ clost S c)) (nI (mk8 rd)) (nI f) z) (fun f z => (∀ k, k ≠ 74 → z k = m k) ∧ ∀ x, x < f → z 74 0 x = 0) (8 ^ clost S c) 0 m (Nat.zero_le _) ⟨fun _ _ => rfl, fun x hx => absurd hx (Nat.not_lt_zero _)⟩ ?_ ?_
    · rintro g2 z ⟨h1, h2⟩
      unfold w_X10_settles_44
      refine ⟨fun _ => ?_, fun q => absurd ((ni_le (by omega) (by omega)).mpr (Nat.le_refl _)) q⟩
      have hs0 : SeenI (seF z 74 (8 ^ clost S c)) (causeF S c) (fun f => f &&& mk8 rd) 0 := fun x => Or.inl ⟨by
        unfold seF
        split
        · next hx => exact h2 x hx
        · rfl, fun g hg => absurd hg (Nat.not_lt_zero _)⟩
      refine pk_loop (fun g f (z : Mem) => w_X10_settles_67 Q g (nI (8 ^ clost S c)) (nI (mk8 rd)) (nI f) z) (fun f z => (∀ k, k ≠ 74 → z k = m k) ∧ SeenI (seF z 74 (8 ^ clost S c)) (causeF S c) (fun f => f &&& mk8 rd) f) (8 ^ clost S c) 0 z (Nat.zero_le _) ⟨h1, hs0⟩ ?_ ?_
      · rintro g3 y ⟨q1, q2⟩
        unfold w_X10_settles_67
        refine ⟨fun _ => ?_, fun q => absurd ((ni_le (by omega) (by omega)).mpr (Nat.le_refl _)) q⟩
        have := hQ y q1
        rw [bi_t ((settl_iff hr hl).mpr q2.all)] at this
        exact this
      · rintro g3 f y hf ⟨q1, q2⟩ ih
        have hk : f &&& mk8 rd ≤ f := Nat.and_le_left
        have in1 : vp_in (nI f) 512 := (ni_in (by omega)).mpr (by omega)
        have in2 : vp_in (nI (f &&& mk8 rd)) 512 := (ni_in (by omega)).mpr (by omega)
        have e73 : y 73 0 f = nI (causeF S c f) := by rw [q1 73 (by decide)]; exact h73 f hf
        have hCf := hC f
        have ese : seF y 74 (8 ^ clost S c) (f &&& mk8 rd) = y 74 0 (f &&& mk8 rd) := if_pos (by omega)
        have g118 : (causeF S c f ≠ 0 → (y 74 0 (f &&& mk8 rd) = 0 ∨ y 74 0 (f &&& mk8 rd) = nI (causeF S c f))) → w_X10_settles_118 Q (fun x1 x3 x4 M => w_X10_settles_67 Q g3 x1 x3 x4 M) (nI (8 ^ clost S c)) (nI (mk8 rd)) (nI f) (nI (f &&& mk8 rd)) y := by
          intro hs
          unfold w_X10_settles_118 w_X10_settles_151
          rw [ni_cl (by omega), ni_cl (by omega), e73, nI_1]
          refine ⟨in1, fun z => ⟨in2, in2, ?_⟩, fun z => ⟨in1, in2, ?_⟩⟩
          · have z' := (ni_eq (b := 0) (by omega) (by omega)).mp z
            rintro _ rfl
            refine ih _ ⟨fun k q => (mst_ne q).trans (q1 k q), ?_⟩
            rw [seF_sm (by omega)]
            exact q2.no z'
          · have z' : causeF S c f ≠ 0 := fun e => z (by rw [e]; rfl)
            rintro _ rfl
            refine ih _ ⟨fun k q => (mst_ne q).trans (q1 k q), ?_⟩
            rw [seF_st (by omega)]
            exact q2.yes hC z' (by rw [ese]; exact hs z')
        unfold w_X10_settles_67
        refine ⟨fun q => absurd ((ni_le (by omega) (by omega)).mp q) (by omega), fun _ => ?_⟩
        rintro _ rfl
        rw [fa_and, ni_cl (show f < 2147483648 by omega), ni_cl (show f &&& mk8 rd < 2147483648 by omega), e73]
        refine ⟨in1, fun z => g118 (fun q => absurd ((ni_eq (b := 0) (by omega) (by omega)).mp z) q), fun z => ⟨in2, fun z2 => g118 (fun _ => Or.inl z2), fun z2 => ⟨in2, in1, fun z3 => g118 (fun _ => Or.inr z3), fun z3 => ?_⟩⟩⟩
        have z' : causeF S c f ≠ 0 := fun e => z (by rw [e]; rfl)
        obtain ⟨g, hg, ek, hg0, hgn⟩ := q2.bad (by rw [ese]; exact z2) (by rw [ese]; exact z3)
        have := hQ y q1
        rw [bi_f] at this
        · exact this
        · intro hst
          exact hgn ((settl_iff hr hl).mp hst g f (by omega) hf ek hg0 z')
    · rintro g2 f z hf ⟨h1, h2⟩ ih
      unfold w_X10_settles_44
      refine ⟨fun q => absurd ((ni_le (by omega) (by omega)).mp q) (by omega), fun _ => ⟨(ni_in (by omega)).mpr (by omega), ?_⟩⟩
      rintro _ rfl
      rw [nI_1, ni_cl (by omega)]
      refine ih _ ⟨fun k q => (mst_ne q).trans (h1 k q), fun x hx => ?_⟩
      rw [mst_k]
      by_cases e : x = f
      · rw [if_pos ⟨rfl, e⟩]
      · rw [if_neg (fun q => e q.2)]; exact h2 x (by omega)
  · rintro g k m hk rfl ih
    obtain ⟨t1, t2⟩ := mkp_t rd hr k hk
    have e3 : (3 : Int32) * nI k = nI (3 * k) := pk_mul ..
    have e7 : (7 : Int32) <<< (nI (3 * k) &&& 31) = nI (7 * 2 ^ (3 * k)) := by
      have hp : 2 ^ (3 * k) ≤ 2 ^ 6 := Nat.pow_le_pow_right (by decide) (by omega)
      exact sh_l (k := 7) (by omega) (by omega)
    unfold w_X10_settles_5 w_X10_settles_33
    rw [sh_m (by omega) (by omega), e3, e7, nI_1]
    refine ⟨fun q => absurd ((ni_le (a := 3) (by omega) (by omega)).mp q) (by omega), fun _ => ⟨fun q => ?_, fun q => ?_⟩⟩
    · rintro _ rfl
      have := (ni_eq (b := 1) (by omega) (by omega)).mp q
      rw [fa_or, t1 this]
      exact ih m rfl
    · rintro _ rfl
      have : ¬ rd / 2 ^ k % 2 = 1 := fun e => q (by rw [e]; rfl)
      rw [show (0 : Int32) = nI 0 from rfl, fa_or, Nat.or_zero, t2 this]
      exact ih m rfl
def bsN (st : Nat → Bool) : Nat → Option Nat
  | 0 => none
  | x + 1 => match bsN st x with
    | none => if st x = true then some x else none
    | some y => if pcn x 16 < pcn y 16 ∧ st x = true then some x else some y
def bO : Option Nat → Int32
  | none => -1
  | some x => nI x
theorem bsN_lt {st : Nat → Bool} : ∀ {n x : Nat}, bsN st n = some x → x < n
  | 0, x, h => by cases h
  | n + 1, x, h => by
    rw [bsN] at h
    cases e : bsN st n with
    | none =>
      rw [e] at h
      dsimp only at h
      split at h
      · cases h; omega
      · cases h
    | some y =>
      have := bsN_lt e
      rw [e] at h
      dsimp only at h
      split at h
      · cases h; omega
      · cases h; omega
theorem bsN_c {st st' : Nat → Bool} : ∀ {n : Nat}, (∀ i, i < n → st i = st' i) → bsN st n = bsN st' n
  | 0, _ => rfl
  | n + 1, h => by rw [bsN, bsN, bsN_c (fun i hi => h i (by omega)), h n (by omega)]
def pgN (st : Nat → Bool) (n : Nat) : Nat := (([0, 1, 2, 4, 3, 5, 6, 7].filter (fun r => decide (r < 2 ^ n))).find? st).getD 0
theorem bsN_i {st : Nat → Bool} : ∀ (X : Nat), (bsN st X = none → ∀ y, y < X → ¬ st y = true) ∧ (∀ x, bsN st X = some x → x < X ∧ st x = true ∧ ∀ y, y < X → st y = true → pcn x 16 ≤ pcn y 16 ∧ (pcn x 16 = pcn y 16 → x ≤ y))
  | 0 => ⟨fun _ y hy => absurd hy (Nat.not_lt_zero _), fun x h => by (cases h)⟩
  | X + 1 => by
    obtain ⟨i1, i2⟩ := bsN_i (st := st) X
    rw [bsN]
    cases e : bsN st X with
    | none =>
      dsimp only
      have hn := i1 e
      by_cases c : st X = true
      · rw [if_pos c]
        refine ⟨fun h => by (cases h), fun x h => ?_⟩
        cases h
        refine ⟨by omega, c, fun y hy hok => ?_⟩
        by_cases ey : y = X
        · subst ey; exact ⟨Nat.le_refl _, fun _ => Nat.le_refl _⟩
        · exact absurd hok (hn y (by omega))
      · rw [if_neg c]
        refine ⟨fun _ y hy => ?_, fun x h => by (cases h)⟩
        by_cases ey : y = X
        · subst ey; exact c
        · exact hn y (by omega)
    | some z =>
      dsimp only
      obtain ⟨j1, j2, j3⟩ := i2 z e
      by_cases c : pcn X 16 < pcn z 16 ∧ st X = true
      · rw [if_pos c]
        refine ⟨fun h => by (cases h), fun x h => ?_⟩
        cases h
        refine ⟨by omega, c.2, fun y hy hok => ?_⟩
        by_cases ey : y = X
        · subst ey; exact ⟨Nat.le_refl _, fun _ => Nat.le_refl _⟩
        · have := j3 y (by omega) hok
          exact ⟨by omega, fun q => by omega⟩
      · rw [if_neg c]
        refine ⟨fun h => by (cases h), fun x h => ?_⟩
        cases h
        refine ⟨by omega, j2, fun y hy hok => ?_⟩
        by_cases ey : y = X
        · subst ey
          have : ¬ pcn y 16 < pcn z 16 := fun q => c ⟨q, hok⟩
          exact ⟨by omega, fun _ => by omega⟩
        · exact j3 y (by omega) hok
def rPg (a b : Nat) : Prop := pcn a 16 < pcn b 16 ∨ (pcn a 16 = pcn b 16 ∧ a < b)
theorem po_8 : pcn 0 16 = 0 ∧ pcn 1 16 = 1 ∧ pcn 2 16 = 1 ∧ pcn 3 16 = 2 ∧ pcn 4 16 = 1 ∧ pcn 5 16 = 2 ∧ pcn 6 16 = 2 ∧ pcn 7 16 = 3 := by decide +kernel
theorem pw_8 : [0, 1, 2, 4, 3, 5, 6, 7].Pairwise rPg := by
  obtain ⟨p0, p1, p2, p3, p4, p5, p6, p7⟩ := po_8
  simp only [List.pairwise_cons, List.mem_cons, List.not_mem_nil, or_false, rPg]
  refine ⟨?_, ?_, ?_, ?_, ?_, ?_, ?_, fun _ h => h.elim, List.Pairwise.nil⟩
  · rintro a (rfl | rfl | rfl | rfl | rfl | rfl | rfl) <;> omega
  · rintro a (rfl | rfl | rfl | rfl | rfl | rfl) <;> omega
  · rintro a (rfl | rfl | rfl | rfl | rfl) <;> omega
  · rintro a (rfl | rfl | rfl | rfl) <;> omega
  · rintro a (rfl | rfl | rfl) <;> omega
  · rintro a (rfl | rfl) <;> omega
  · rintro a rfl; omega
theorem bs_pg {st : Nat → Bool} {n : Nat} (hn : n ≤ 3) (h : st (2 ^ n - 1) = true) : bsN st (2 ^ n) = some (pgN st n) := by
  have h8 : 2 ^ n ≤ 8 := Nat.pow_le_pow_right (n := 2) (i := n) (j := 3) (by decide) hn
  have h0 : 0 < 2 ^ n := Nat.pow_pos (by decide)
  have hmem : ∀ y, y < 2 ^ n → y ∈ [0, 1, 2, 4, 3, 5, 6, 7].filter (fun r => decide (r < 2 ^ n)) := by
    intro y hy
    rw [List.mem_filter]
    refine ⟨?_, decide_eq_true hy⟩
    simp only [List.mem_cons, List.not_mem_nil, or_false]
    omega
  have hpw := List.Pairwise.filter (fun r => decide (r < 2 ^ n)) pw_8
  unfold pgN
  generalize hL : [0, 1, 2, 4, 3, 5, 6, 7].filter (fun r => decide (r < 2 ^ n)) = l at hmem hpw
  cases e : l.find? st with
  | none => exact absurd h (List.find?_eq_none.mp e _ (hmem _ (by omega)))
  | some x =>
    show bsN st (2 ^ n) = some x
    obtain ⟨hx, as, bs, el, has⟩ := List.find?_eq_some_iff_append.mp e
    have hx2 : x < 2 ^ n := by
      have : x ∈ l := List.mem_of_find?_eq_some e
      rw [← hL] at this
      exact of_decide_eq_true (List.mem_filter.mp this).2
    have hR : ∀ y, y < 2 ^ n → st y = true → pcn x 16 ≤ pcn y 16 ∧ (pcn x 16 = pcn y 16 → x ≤ y) := by
      intro y hy hyt
      have hm := hmem y hy
      rw [el] at hm hpw
      rcases List.mem_append.mp hm with q | q
      · have := has y q
        rw [hyt] at this; exact absurd this (by decide)
      · rcases List.mem_cons.mp q with q | q
        · rw [q]; exact ⟨Nat.le_refl _, fun _ => Nat.le_refl _⟩
        · have := (List.pairwise_cons.mp (List.pairwise_append.mp hpw).2.1).1 y q
          unfold rPg at this
          exact ⟨by omega, fun z => by omega⟩
    obtain ⟨i1, i2⟩ := bsN_i (st := st) (2 ^ n)
    cases e2 : bsN st (2 ^ n) with
    | none => exact absurd hx (i1 e2 x hx2)
    | some z =>
      obtain ⟨j1, j2, j3⟩ := i2 z e2
      have a1 := hR z j1 j2
      have b1 := j3 x hx2 hx
      have e3 : pcn x 16 = pcn z 16 := by omega
      have q1 := a1.2 e3
      have q2 := b1.2 e3.symm
      have : z = x := by omega
      rw [this]
theorem pag_pg {S : Mem} {c : Nat} : pagCa S c = pgN (settl S c) (clost S c) := rfl
theorem pgN_8 {st : Nat → Bool} {n : Nat} : pgN st n < 8 := by
  unfold pgN
  cases e : ([0, 1, 2, 4, 3, 5, 6, 7].filter (fun r => decide (r < 2 ^ n))).find? st with
  | none => decide
  | some x =>
    have h1 := (List.mem_filter.mp (List.mem_of_find?_eq_some e)).1
    show x < 8
    clear e; revert h1; revert x; decide
theorem settl_full {S : Mem} {c : Nat} (hl : clost S c ≤ 3) : settl S c (2 ^ clost S c - 1) = true := by
  have h8 : 2 ^ clost S c ≤ 8 := Nat.pow_le_pow_right (n := 2) (i := clost S c) (j := 3) (by decide) hl
  have h0 : 0 < 2 ^ clost S c := Nat.pow_pos (by decide)
  have h512 := p8_512 hl
  rw [settl_iff (by omega) hl]
  intro f g hf hg hk _ _
  rw [mk8_e _ (by omega) f (by omega), mk8_e _ (by omega) g (by omega)] at hk
  have : f = g := by
    have hc : clost S c = 0 ∨ clost S c = 1 ∨ clost S c = 2 ∨ clost S c = 3 := by omega
    rcases hc with e | e | e | e <;> rw [e] at hf hg hk <;> omega
  rw [this]
theorem R_settling {S M : Mem} (hS : SOK S) (hI : InvR S M) (c w : Int32) {Q : Int32 → Mem → Prop} (hQ : ∀ M1, InvR S M1 → FrR M M1 → Q (a_settling S c w) M1) : wp_X10_settling c w M Q := by
  unfold wp_X10_settling
  simp only [e_X10_isCounter, e_X10_in, bi_z, Classical.not_not, hI.n]
  unfold a_settling at hQ
  refine ⟨fun h => ?_, fun h => ⟨fun h2 => ?_, fun h2 => ?_⟩⟩
  · rw [if_neg (fun z => h z.1)] at hQ; exact hQ M hI FrR.rf
  · rw [if_neg (fun z => h2 z.2)] at hQ; exact hQ M hI FrR.rf
  · rw [if_pos ⟨h, h2⟩] at hQ
    obtain ⟨k, hk, rfl⟩ := okC_nat hS h
    rw [cn_cl hS hk] at hQ
    have hl := hS.lo hk
    have h512 := p8_512 hl
    refine p_X10_fillMany hS hI hk ?_
    suffices hh : ∃ g, w_X10_settling_32 Q g (nI k) w (nI (8 ^ clost S k)) (nI ((List.range 0).foldl (fun a f => a ||| causeF S k f) 0)) (nI 0) M from hh
    refine pk_loop (fun g i (m : Mem) => w_X10_settling_32 Q g (nI k) w (nI (8 ^ clost S k)) (nI ((List.range i).foldl (fun a f => a ||| causeF S k f) 0)) (nI i) m) (fun i m => InvR S m ∧ FrR M m ∧ ∀ f, f < i → m 73 0 f = nI (causeF S k f)) (8 ^ clost S k) 0 M (Nat.zero_le _) ⟨hI, FrR.rf, fun f hf => absurd hf (Nat.not_lt_zero _)⟩ ?_ ?_
    · rintro g m ⟨h1, h3, h73⟩
      have hal : ∀ n, (List.range n).foldl (fun a f => a ||| causeF S k f) 0 < 2 ^ 3 := by
        intro n
        induction n with
        | zero => show 0 < 2 ^ 3; decide
        | succ n ih =>
          rw [ror_s (g := fun f => causeF S k f)]
          have := causeF_7 (S := S) (c := k) (f := n)
          exact Nat.or_lt_two_pow ih (by omega)
      have hal' : allCa S k < 8 := hal (8 ^ clost S k)
      unfold w_X10_settling_32
      refine ⟨fun _ => ⟨fun z => ?_, fun z => ?_⟩, fun z => absurd ((ni_le (by omega) (by omega)).mpr (Nat.le_refl _)) z⟩
      · have z' : allCa S k = 0 := (ni_eq (a := allCa S k) (b := 0) (by omega) (by omega)).mp z
        rw [if_pos z'] at hQ
        exact hQ m h1 h3
      · have z' : ¬ allCa S k = 0 := fun e => z (by show nI (allCa S k) = 0; rw [e]; rfl)
        rw [if_neg z'] at hQ
        have h8 : 2 ^ clost S k ≤ 8 := Nat.pow_le_pow_right (n := 2) (i := clost S k) (j := 3) (by decide) hl
        refine pk_loop (fun g i (y : Mem) => w_X10_settling_84 Q g (nI k) w (nI (8 ^ clost S k)) (bO (bsN (settl S k) i)) (nI i) y) (fun i y => ∀ q, q ≠ 74 → y q = m q) (2 ^ clost S k) 0 m (Nat.zero_le _) (fun _ _ => rfl) ?_ ?_
        · rintro g2 y hy
          have hIy : InvR S y := h1.keep (fun q hq => hy q (fun e => absurd (e ▸ hq) (by unfold irk; decide)))
          have hfy : FrR M y := h3.tr (fun q hq => hy q (fun e => hq (yrefk (by rw [e]; decide))))
          unfold w_X10_settling_84
          refine p_X10_lostMany hS hIy hk ?_
          rw [sh_1 (by omega), bs_pg hl (settl_full hl)]
          have := hQ y hIy hfy
          rw [pag_pg] at this
          have hpg := pgN_8 (st := settl S k) (n := clost S k)
          refine ⟨fun _ => ⟨fun z2 => ?_, fun z2 => p_X10_ones _ ?_⟩, fun z2 => absurd ((ni_le (by omega) (by omega)).mpr (Nat.le_refl _)) z2⟩
          · rw [if_pos z2] at this; exact this
          · rw [if_neg z2] at this
            refine ⟨cn_in hS hk, ?_⟩
            have eb : bts (bO (some (pgN (settl S k) (clost S k)))) = nI (pcn (pgN (settl S k) (clost S k)) 16) := bts_p (by omega)
            rw [eb, cn_cl hS hk, (hIy.c hk).2.2.2.2.2.1]
            exact this
        · rintro g2 i y hi hy ih
          have hIy : InvR S y := h1.keep (fun q hq => hy q (fun e => absurd (e ▸ hq) (by unfold irk; decide)))
          have nx : ∀ y2 b, (∀ q, q ≠ 74 → y2 q = y q) → b = bO (bsN (settl S k) (i + 1)) → w_X10_settling_132 Q (fun x1 x2 x3 x5 x6 M => w_X10_settling_84 Q g2 x1 x2 x3 x5 x6 M) (nI k) w (nI (8 ^ clost S k)) (nI i) b y2 := by
            rintro y2 _ q1 rfl
            unfold w_X10_settling_132
            rw [nI_1]
            exact ih y2 (fun q hq => (q1 q hq).trans (hy q hq))
          have g115 : (∀ x, bsN (settl S k) i = some x → pcn i 16 < pcn x 16) → w_X10_settling_115 Q (fun x1 x2 x3 x5 x6 M => w_X10_settling_84 Q g2 x1 x2 x3 x5 x6 M) (nI k) w (nI (8 ^ clost S k)) (bO (bsN (settl S k) i)) (nI i) y := by
            intro hb
            unfold w_X10_settling_115 w_X10_settling_130
            refine p_X10_settles (S := S) (c := k) (by omega) hl (fun f hf => by rw [hy 73 (by decide)]; exact h73 f hf) (fun y2 q1 => ?_)
            rw [bi_z, Classical.not_not]
            refine ⟨fun z2 => nx y2 _ q1 ?_, fun z2 => nx y2 _ q1 ?_⟩
            · rw [bsN]
              cases e : bsN (settl S k) i with
              | none => dsimp only; rw [if_neg z2]
              | some x => dsimp only; rw [if_neg (fun q => z2 q.2)]
            · rw [bsN]
              cases e : bsN (settl S k) i with
              | none => dsimp only; rw [if_pos z2]; rfl
              | some x => dsimp only; rw [if_pos ⟨hb x e, z2⟩]; rfl
          unfold w_X10_settling_84
          refine p_X10_lostMany hS hIy hk ?_
          rw [sh_1 (by omega)]
          refine ⟨fun z2 => absurd ((ni_le (by omega) (by omega)).mp z2) (by omega), fun _ => ⟨fun z2 => g115 (fun x hx => ?_), fun z2 => p_X10_ones _ (p_X10_ones _ ?_)⟩⟩
          · have := bsN_lt hx
            rw [hx] at z2
            exact absurd z2 (ni_nem1 (by omega))
          · cases e : bsN (settl S k) i with
            | none => rw [e] at z2; exact absurd rfl z2
            | some x =>
              have hx := bsN_lt e
              have p1 : pcn i 16 ≤ 16 := pcn_le
              have p2 : pcn x 16 ≤ 16 := pcn_le
              have eb : bts (bO (some x)) = nI (pcn x 16) := bts_p (by omega)
              rw [eb, bts_p (by omega)]
              rw [e] at g115
              refine ⟨fun z3 => ?_, fun z3 => g115 (fun x' hx' => ?_)⟩
              · have := (ni_le (by omega) (by omega)).mp z3
                unfold w_X10_settling_130
                refine nx y _ (fun _ _ => rfl) ?_
                rw [bsN, e]
                dsimp only
                rw [if_neg (fun q => by omega)]
              · cases hx'
                have : ¬ pcn x 16 ≤ pcn i 16 := fun q => z3 ((ni_le (by omega) (by omega)).mpr q)
                omega
    · rintro g i m hi ⟨h1, h3, h73⟩ ih
      unfold w_X10_settling_32
      have ini : vp_in (nI i) 512 := (ni_in (by omega)).mpr (by omega)
      refine ⟨fun z => absurd ((ni_le (by omega) (by omega)).mp z) (by omega), fun _ => p_X10_causesBy hS h1 hk (by omega) (fun m2 f1 f2 => ⟨ini, ?_⟩)⟩
      rintro _ rfl
      refine ⟨ini, ?_⟩
      rintro _ rfl
      rw [ni_cl (by omega), mst_eq, fa_or, nI_1, ← ror_s (g := fun f => causeF S k f)]
      refine ih _ ⟨f1.keep (fun q hq => mst_ne (fun e => absurd (e ▸ hq) (by unfold irk; decide))), (h3.tr (cb_fr f2)).tr (FrR.st (yrefk (by decide))), fun f hf => ?_⟩
      rw [mst_k]
      by_cases e : f = i
      · rw [if_pos ⟨rfl, e⟩, e]
      · rw [if_neg (fun q => e q.2), f2 73 (by unfold cbk rvk; decide)]; exact h73 f (by omega)
