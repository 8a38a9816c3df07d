/-! THE CLASS SEEKS: a STATE and a drawer in one number -/
def kyN (s : STt) (d : Int) : Nat := (d + 8).toNat * 33554432 + stN s
def kyI (s : STt) (d : Int) : Int32 := nI (kyN s d)
theorem stN_lt {s : STt} (hs : stOk s) : stN s < 33554432 := by
  obtain ⟨A, B, C, hA, hB, hC, e, _, _, _⟩ := stN_p hs
  have := hs.2
  omega
theorem kyN_lt {s : STt} {d : Int} (hs : stOk s) (hd : -8 ≤ d ∧ d ≤ 8) : kyN s d < 2147483648 := by
  have := stN_lt hs
  unfold kyN; omega
theorem ky_mk {s : STt} {d : Int} (hs : stOk s) (hd : -8 ≤ d ∧ d ≤ 8) : ((iI d + 8) <<< ((25 : Int32) &&& 31)) ||| stI s = kyI s d := by
  have h1 := stN_lt hs
  have e8 : (8 : Int32) = iI 8 := by decide
  rw [e8, iI_add (by omega) (by omega)]
  have : iI (d + 8) = nI (d + 8).toNat := by rw [iI_n (by omega)]; congr 1; omega
  unfold stI kyI kyN
  rw [this, ni_lit 25, sh_l (by decide) (by omega), fa_or]
  congr 1
  rw [Nat.mul_comm, ← Nat.two_pow_add_eq_or_of_lt (show stN s < 2 ^ 25 by omega)]
theorem ky_st {s : STt} {d : Int} (hs : stOk s) : kyI s d &&& 33554431 = stI s := by
  have h1 := stN_lt hs
  unfold kyI kyN stI
  have := fa_and ((d + 8).toNat * 33554432 + stN s) 33554431
  rw [show ((d + 8).toNat * 33554432 + stN s) &&& 33554431 = ((d + 8).toNat * 33554432 + stN s) % 33554432 from Nat.and_two_pow_sub_one_eq_mod _ 25, show ((d + 8).toNat * 33554432 + stN s) % 33554432 = stN s by omega] at this
  exact this
theorem ky_dr {s : STt} {d : Int} (hs : stOk s) (hd : -8 ≤ d ∧ d ≤ 8) : (kyI s d >>> ((25 : Int32) &&& 31)) - 8 = iI d := by
  have h1 := stN_lt hs
  have h2 := kyN_lt hs hd
  have e8 : (8 : Int32) = iI 8 := by decide
  unfold kyI
  rw [ni_lit 25, sh_r h2 (by decide), show kyN s d / 2 ^ 25 = (d + 8).toNat by unfold kyN; omega, iI_n (by omega), e8, iI_sub (by omega) (by omega)]
  congr 1; omega
theorem stN_inj {s s' : STt} (hs : stOk s) (hs' : stOk s') (h : stN s = stN s') : s = s' := by
  obtain ⟨A, B, C, hA, hB, hC, e, eA, eB, eC⟩ := stN_p hs
  obtain ⟨A', B', C', hA', hB', hC', e', eA', eB', eC'⟩ := stN_p hs'
  have m1 := hs.2
  have m2 := hs'.2
  obtain ⟨l, p, c, m⟩ := s
  obtain ⟨l', p', c', m'⟩ := s'
  simp only [rgI] at eA eB eC eA' eB' eC'
  simp only at e e' m1 m2
  rw [e, e'] at h
  have : m = m' ∧ A = A' ∧ B = B' ∧ C = C' := by omega
  obtain ⟨r1, r2, r3, r4⟩ := this
  subst r1 r2 r3 r4
  rw [eA, eB, eC, eA', eB', eC']
theorem ky_inj {s s' : STt} {d d' : Int} (hs : stOk s) (hs' : stOk s') (hd : -8 ≤ d ∧ d ≤ 8) (hd' : -8 ≤ d' ∧ d' ≤ 8) (h : kyI s d = kyI s' d') : s = s' ∧ d = d' := by
  have h1 := stN_lt hs
  have h2 := stN_lt hs'
  have h3 := (ni_eq (kyN_lt hs hd) (kyN_lt hs' hd')).mp h
  unfold kyN at h3
  exact ⟨stN_inj hs hs' (by omega), by omega⟩
def ptB (A : Nat → List Nat) (s : STt) (d : Int) : Prop := ¬ rgI (stp A s 7) 2 = d
theorem p_X6_partsByBalance {S M : Mem} (hS : SOK S) {v o ls : Nat} {s : STt} {d : Int} (hMx : MxC S M v o ls) (hs : stOk s) (hd : -8 ≤ d ∧ d ≤ 8) {Q : Int32 → Mem → Prop} (h0 : ∀ M1, (∀ k, k ≠ 33 → M1 k = M k) → ¬ ptB (mixA (vA S v) (vA S o) ls) s d → Q 0 M1) (h1 : ∀ M1, (∀ k, k ≠ 33 → M1 k = M k) → ptB (mixA (vA S v) (vA S o) ls) s d → Q 1 M1) : wp_X6_partsByBalance (stI s) (iI d) M Q := by
  unfold wp_X6_partsByBalance wp_X9_ledgerOf
  refine p_X4_after (e := 7) hS hMx hs (by decide) (fun M1 hF => ?_)
  have hst : stOk (stp (mixA (vA S v) (vA S o) ls) s 7) := stOk_s hs
  have h2 := hst.1 2 (by decide)
  rw [st_c hst]
  dsimp only
  rw [iI_eq (by omega) (by omega)]
  exact ⟨fun z => h0 M1 hF (fun q => q z), fun z => h1 M1 hF z⟩
/-- a row that parts is a kept row, an EVENT more, and a BALANCE -/
theorem partsF_e {A : Nat → List Nat} {n f : Nat} : partsF A n f = true ↔ ptB A (runS A (pfR n f (n - 1))) (drw (pfR n f (n - 1))) := by
  unfold partsF ptB
  rw [rowF_e, runS_a, drw_a, decide_eq_true_eq]
  have c7 : coin 7 = 0 := by decide
  rw [c7, Int.add_zero]
  exact Iff.rfl
