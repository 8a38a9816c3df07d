/-! CAUSES: the reference -/
theorem iI_o (x : Int32) : iI x.toInt = x := Int32.ofInt_toInt x
theorem iI_n1 (w : Int) : - iI w = iI (-w) := by
  unfold iI
  rw [Int32.ofInt_neg]
def cD (S : Mem) (c : Nat) : Int := (S 204 c 0).toInt
def cL (S : Mem) (c : Nat) : Int := (S 205 c 0).toInt
theorem SOK.dl {S : Mem} (h : SOK S) {c : Nat} (hc : c < nc S) : (-99 ≤ cD S c ∧ cD S c ≤ 99) ∧ (-99 ≤ cL S c ∧ cL S c ≤ 99) := ⟨(h.c hc).2.2.2.2.1, (h.c hc).2.2.2.2.2.1⟩
def cR (S : Mem) (c f : Nat) : List Nat := fillR (S 20 c) (cln S c) f
theorem cR_l {S : Mem} {c f : Nat} : (cR S c f).length = cln S c := fillR_l
theorem drw_12 {S : Mem} (hS : SOK S) {c f : Nat} (hc : c < nc S) : -12 ≤ drw (cR S c f) ∧ drw (cR S c f) ≤ 12 := by
  have := drw_l (cR S c f)
  have h2 := (hS.cl hc).1
  rw [cR_l] at this
  omega
/-- of the row in 72 -/
def r72 (S M : Mem) (c f : Nat) : Prop := ∀ i, i < cln S c → M 72 0 i = nI ((cR S c f).getD i 0)
def gak : List Nat := rvk ++ [716, 717, 718, 62, 714, 715]
theorem postS_ok {S : Mem} {v p : Nat} {r : List Nat} {z : Int} : stOk (postS (vA S v) r p z) := by
  have : ∀ (l : List Nat) {s : STt}, stOk s → stOk (l.foldl (stp (vA S v)) s) := by
    intro l
    induction l with
    | nil => intro s h; exact h
    | cons e l ih => intro s h; exact ih (stOk_v h)
  exact this _ (bmp_ok (this _ stOk_0))
theorem runV_ok {S : Mem} {v : Nat} {r : List Nat} : stOk (runS (vA S v) r) := by
  have := runS_ok (S := S) (v := v) (o := v) (ls := 0) r stOk_0
  rw [mixA_s] at this; exact this
theorem afar_iff {A : Nat → List Nat} {r : List Nat} {L : Int} : afar A r L = true ↔ ∃ p j : Nat, p ≤ r.length ∧ j < 7 ∧ j ≠ 3 ∧ (postS A r p ((j : Int) - 3)).2.2.1 = L := by
  unfold afar
  rw [List.any_eq_true]
  constructor
  · rintro ⟨p, hp, h⟩
    rw [List.any_eq_true] at h
    obtain ⟨z, hz, h⟩ := h
    have hp' := List.mem_range.mp hp
    have e := of_decide_eq_true h
    simp only [List.mem_cons, List.not_mem_nil, or_false] at hz
    refine ⟨p, (z + 3).toNat, by omega, by omega, by omega, ?_⟩
    rw [show (((z + 3).toNat : Nat) : Int) - 3 = z by omega]; exact e
  · rintro ⟨p, j, hp, hj, h3, e⟩
    refine ⟨p, List.mem_range.mpr (by omega), ?_⟩
    rw [List.any_eq_true]
    refine ⟨(j : Int) - 3, ?_, decide_eq_true e⟩
    simp only [List.mem_cons, List.not_mem_nil, or_false]
    omega
theorem p_X10_isFromAfar {S M : Mem} (hS : SOK S) (hI : InvR S M) {c f : Nat} (hc : c < nc S) (h72 : r72 S M c f) {Q : Int32 → Mem → Prop} (hQ : ∀ M1, InvR S M1 → (∀ k, k ∉ gak → M1 k = M k) → Q (bi (drw (cR S c f) = cD S c ∧ afar (vA S (cvr S c)) (cR S c f) (cL S c) = true)) M1) : wp_X10_isFromAfar (nI c) M Q := by
  obtain ⟨l1, l2⟩ := hS.cl hc
  obtain ⟨bD, bL⟩ := hS.dl hc
  have bd := drw_12 hS (f := f) hc
  unfold wp_X10_isFromAfar
  refine pk_loop (fun g p (m : Mem) => w_X10_isFromAfar_2 Q g (nI c) (nI p) m) (fun p m => InvR S m ∧ (∀ k, k ∉ gak → m k = M k) ∧ ∀ p' j : Nat, p' < p → j < 7 → j ≠ 3 → ¬ ((postS (vA S (cvr S c)) (cR S c f) p' ((j : Int) - 3)).2.2.1 = cL S c ∧ drw (cR S c f) = cD S c)) (cln S c + 1) 0 M (Nat.zero_le _) ⟨hI, fun _ _ => rfl, fun p' j h => absurd h (Nat.not_lt_zero _)⟩ ?_ ?_
  · rintro g m ⟨h1, h2, h3⟩
    unfold w_X10_isFromAfar_2
    rw [cn_cl hS hc, (h1.c hc).2.1, l2]
    refine ⟨cn_in hS hc, fun _ => ?_, fun q => absurd ((ni_lt (by omega) (by omega)).mpr (by omega)) q⟩
    have := hQ m h1 h2
    rw [bi_f] at this
    · exact this
    · rintro ⟨q1, q2⟩
      obtain ⟨p, j, hp, hj, h3', e⟩ := afar_iff.mp q2
      rw [cR_l] at hp
      exact h3 p j (by omega) hj h3' ⟨e, q1⟩
  · rintro g p m hp ⟨h1, h2, h3⟩ ih
    unfold w_X10_isFromAfar_2
    rw [cn_cl hS hc, (h1.c hc).2.1, l2]
    refine ⟨cn_in hS hc, fun q => absurd ((ni_lt (by omega) (by omega)).mp q) (by omega), fun _ => ?_⟩
    have e3 : (-3 : Int32) = iI (((0 : Nat) : Int) - 3) := by decide
    rw [e3]
    refine pk_loop (fun g' j (m : Mem) => w_X10_isFromAfar_15 Q (fun x1 x2 M => w_X10_isFromAfar_2 Q g x1 x2 M) g' (nI c) (nI p) (iI ((j : Int) - 3)) m) (fun j m => InvR S m ∧ (∀ k, k ∉ gak → m k = M k) ∧ ∀ j' : Nat, j' < j → j' ≠ 3 → ¬ ((postS (vA S (cvr S c)) (cR S c f) p ((j' : Int) - 3)).2.2.1 = cL S c ∧ drw (cR S c f) = cD S c)) 7 0 m (Nat.zero_le _) ⟨h1, h2, fun j h => absurd h (Nat.not_lt_zero _)⟩ ?_ ?_
    · rintro g' m' ⟨g1, g2, g3⟩
      unfold w_X10_isFromAfar_15
      refine ⟨fun _ => ?_, fun q => absurd (by decide) q⟩
      rw [nI_1]
      refine ih m' ⟨g1, g2, fun p' j hp' hj h3' => ?_⟩
      by_cases e : p' = p
      · subst e; exact g3 j hj h3'
      · exact h3 p' j (by omega) hj h3'
    · rintro g' j m' hj ⟨g1, g2, g3⟩ ih'
      have e4 : (4 : Int32) = iI 4 := by decide
      have e0 : (0 : Int32) = iI 0 := by decide
      have e1 : (1 : Int32) = iI 1 := by decide
      have nx : ∀ m2, InvR S m2 → (∀ k, k ∉ gak → m2 k = M k) → (j ≠ 3 → ¬ ((postS (vA S (cvr S c)) (cR S c f) p ((j : Int) - 3)).2.2.1 = cL S c ∧ drw (cR S c f) = cD S c)) → w_X10_isFromAfar_15 Q (fun x1 x2 M => w_X10_isFromAfar_2 Q g x1 x2 M) g' (nI c) (nI p) (iI ((j : Int) - 3) + 1) m2 := fun m2 f1 f2 f3 => by
        rw [e1, iI_add (by omega) (by omega), show (j : Int) - 3 + 1 = ((j + 1 : Nat) : Int) - 3 by omega]
        refine ih' m2 ⟨f1, f2, fun j' hj' h3' => ?_⟩
        by_cases e : j' = j
        · subst e; exact f3 h3'
        · exact g3 j' (by omega) h3'
      unfold w_X10_isFromAfar_15 w_X10_isFromAfar_61
      refine ⟨fun q => ?_, fun _ => ⟨fun q => ?_, fun q => ?_⟩⟩
      · rw [e4, iI_le (by omega) (by omega)] at q; omega
      · rw [e0, iI_eq (by omega) (by omega)] at q
        exact nx m' g1 g2 (fun q3 => by omega)
      · have hj3 : j ≠ 3 := fun e => q (by rw [e]; decide)
        refine p_X10_goesAll (r := cR S c f) (p := p) hS g1 hc cR_l (fun i => hS.fe hc i) (fun i hi => by rw [g2 72 (by unfold gak rvk; decide)]; exact h72 i hi) (fun k hk => ni_eq (by omega) (by omega)) (by omega) (fun m2 f1 f2 f3 => ?_)
        obtain ⟨r1, r2, r3, r4, r5, r6⟩ := f1.c hc
        rw [gfi_p (by rw [cR_l]; omega)] at f2
        have hps : stOk (postS (vA S (cvr S c)) (cR S c f) p ((j : Int) - 3)) := postS_ok
        have b2 := hps.1 2 (by decide)
        have c2 : (2 : Int32).toNatClampNeg = 2 := rfl
        have f3' : ∀ k, k ∉ gak → m2 k = M k := fun k q => (f3 k q).trans (g2 k q)
        rw [c2, cn_cl hS hc, f2.1 2 (by decide), f2.2.2, r4, r5, ← iI_o (S 204 c 0), ← iI_o (S 205 c 0)]
        have hL : (iI (rgI (postS (vA S (cvr S c)) (cR S c f) p ((j : Int) - 3)) 2) = iI (S 205 c 0).toInt) ↔ (postS (vA S (cvr S c)) (cR S c f) p ((j : Int) - 3)).2.2.1 = cL S c := by
          rw [iI_eq (by omega) (by show _ ∧ _; unfold cL at bL; omega)]; exact Iff.rfl
        have hD : (iI (drw (cR S c f)) = iI (S 204 c 0).toInt) ↔ drw (cR S c f) = cD S c := by
          rw [iI_eq (by omega) (by show _ ∧ _; unfold cD at bD; omega)]; exact Iff.rfl
        rw [hL, hD]
        refine ⟨(ni_in (a := 2) (by decide)).mpr (by decide), cn_in hS hc, fun q1 => ⟨cn_in hS hc, fun q2 => ?_, fun q2 => ?_⟩, fun q1 => ?_⟩
        · have := hQ m2 f1 f3'
          rw [bi_t ⟨q2, afar_iff.mpr ⟨p, j, by rw [cR_l]; omega, hj, hj3, q1⟩⟩] at this
          exact this
        · exact nx m2 f1 f3' (fun _ q => q2 q.2)
        · exact nx m2 f1 f3' (fun _ q => q1 q.1)
theorem p_X10_isClear {S M : Mem} (hS : SOK S) (hI : InvR S M) {c f : Nat} (hc : c < nc S) (hf : f < 2147483648) {Q : Int32 → Mem → Prop} (hQ : ∀ M1, InvR S M1 → (∀ k, k ∉ cbk → M1 k = M k) → r72 S M1 c f → StR M1 (runS (vA S (cvr S c)) (cR S c f)) (drw (cR S c f)) → Q (bi ((runS (vA S (cvr S c)) (cR S c f)).2.2.1 = cL S c ∧ drw (cR S c f) = cD S c)) M1) : wp_X10_isClear (nI c) (nI f) M Q := by
  obtain ⟨l1, l2⟩ := hS.cl hc
  obtain ⟨bD, bL⟩ := hS.dl hc
  have bd := drw_12 hS (f := f) hc
  unfold wp_X10_isClear
  refine p_X10_filledBy hS hI hc hf (fun M1 hF1 h72 => ?_)
  have hI1 : InvR S M1 := hI.keep (fun k q => hF1 k (fun e => absurd (e ▸ q) (by unfold irk; decide)))
  have e0 : (0 : Int32) = iI 0 := by decide
  have goal : wp_X10_goesAll (nI c) (-1) (iI 0) M1 (fun M2 => vp_in (2 : Int32) 3 ∧ (vp_in (nI c) 12 ∧ ((((M2 62 0 (2 : Int32).toNatClampNeg) = (M2 68 0 (nI c).toNatClampNeg)) → (vp_in (nI c) 12 ∧ ((((M2 715 0 0) = (M2 67 0 (nI c).toNatClampNeg)) → (Q 1 M2)) ∧ ((¬ (M2 715 0 0) = (M2 67 0 (nI c).toNatClampNeg)) → (Q 0 M2))))) ∧ ((¬ (M2 62 0 (2 : Int32).toNatClampNeg) = (M2 68 0 (nI c).toNatClampNeg)) → (Q 0 M2))))) := by
    refine p_X10_goesAll (r := cR S c f) (p := cln S c + 1) hS hI1 hc cR_l (fun i => hS.fe hc i) h72 (fun k hk => ⟨fun q => absurd q (ni_nem1 (by omega)), fun q => absurd q (by omega)⟩) (by omega) (fun m2 f1 f2 f3 => ?_)
    obtain ⟨r1, r2, r3, r4, r5, r6⟩ := f1.c hc
    rw [gfi_n (by rw [cR_l]; omega)] at f2
    have hps : stOk (runS (vA S (cvr S c)) (cR S c f)) := runV_ok
    have b2 := hps.1 2 (by decide)
    have c2 : (2 : Int32).toNatClampNeg = 2 := rfl
    have f3' : ∀ k, k ∉ cbk → m2 k = M k := fun k q => (f3 k (fun z => q (by clear q; revert z; revert k; unfold cbk rvk; decide))).trans (hF1 k (fun e => q (by rw [e]; unfold cbk rvk; decide)))
    have h72' : r72 S m2 c f := fun i hi => by rw [f3 72 (by unfold rvk; decide)]; exact h72 i hi
    have := hQ m2 f1 f3' h72' f2
    rw [c2, cn_cl hS hc, f2.1 2 (by decide), f2.2.2, r4, r5, ← iI_o (S 204 c 0), ← iI_o (S 205 c 0)]
    have hL : (iI (rgI (runS (vA S (cvr S c)) (cR S c f)) 2) = iI (S 205 c 0).toInt) ↔ (runS (vA S (cvr S c)) (cR S c f)).2.2.1 = cL S c := by
      rw [iI_eq (by omega) (by show _ ∧ _; unfold cL at bL; omega)]; exact Iff.rfl
    have hD : (iI (drw (cR S c f)) = iI (S 204 c 0).toInt) ↔ drw (cR S c f) = cD S c := by
      rw [iI_eq (by omega) (by show _ ∧ _; unfold cD at bD; omega)]; exact Iff.rfl
    rw [hL, hD]
    refine ⟨(ni_in (a := 2) (by decide)).mpr (by decide), cn_in hS hc, fun q1 => ⟨cn_in hS hc, fun q2 => ?_, fun q2 => ?_⟩, fun q1 => ?_⟩
    · rw [bi_t ⟨q1, q2⟩] at this; exact this
    · rw [bi_f (fun q => q2 q.2)] at this; exact this
    · rw [bi_f (fun q => q1 q.1)] at this; exact this
  rw [← e0] at goal
  exact goal
theorem causeF_e {S : Mem} {c f : Nat} : causeF S c f = (if (runS (vA S (cvr S c)) (cR S c f)).2.2.1 = cL S c ∧ drw (cR S c f) = cD S c then 1 else 0) + (if (runS (vA S (cvr S c)) (cR S c f)).2.2.1 = cL S c ∧ (drw (cR S c f) - cD S c = 1 ∨ cD S c - drw (cR S c f) = 1) then 2 else 0) + (if drw (cR S c f) = cD S c ∧ afar (vA S (cvr S c)) (cR S c f) (cL S c) = true then 4 else 0) := rfl
theorem causeF_7 {S : Mem} {c f : Nat} : causeF S c f ≤ 7 := by
  rw [causeF_e]
  split <;> split <;> split <;> decide
theorem p_X10_causesBy {S M : Mem} (hS : SOK S) (hI : InvR S M) {c f : Nat} (hc : c < nc S) (hf : f < 2147483648) {Q : Int32 → Mem → Prop} (hQ : ∀ M1, InvR S M1 → (∀ k, k ∉ cbk → M1 k = M k) → Q (nI (causeF S c f)) M1) : wp_X10_causesBy (nI c) (nI f) M Q := by
  obtain ⟨bD, bL⟩ := hS.dl hc
  have bd := drw_12 hS (f := f) hc
  unfold wp_X10_causesBy
  refine p_X10_isClear hS hI hc hf (fun M1 hI1 hF1 h72 hR => ?_)
  obtain ⟨r1, r2, r3, r4, r5, r6⟩ := hI1.c hc
  have hps : stOk (runS (vA S (cvr S c)) (cR S c f)) := runV_ok
  have b2 := hps.1 2 (by decide)
  have c2 : (2 : Int32).toNatClampNeg = 2 := rfl
  have hL : (iI (rgI (runS (vA S (cvr S c)) (cR S c f)) 2) = iI (S 205 c 0).toInt) ↔ (runS (vA S (cvr S c)) (cR S c f)).2.2.1 = cL S c := by
    rw [iI_eq (by omega) (by show _ ∧ _; unfold cL at bL; omega)]; exact Iff.rfl
  have hcg : ∀ k, k ∉ cbk → k ∉ gak := fun k q z => q (by clear q; revert z; revert k; unfold gak cbk rvk; decide)
  rw [causeF_e] at hQ
  have g66 : ∀ (a b : Nat) (m : Mem), m = M1 → a = (if (runS (vA S (cvr S c)) (cR S c f)).2.2.1 = cL S c ∧ drw (cR S c f) = cD S c then 1 else 0) → b = (if (runS (vA S (cvr S c)) (cR S c f)).2.2.1 = cL S c ∧ (drw (cR S c f) - cD S c = 1 ∨ cD S c - drw (cR S c f) = 1) then 2 else 0) → w_X10_causesBy_66 Q (nI c) (nI b) (nI a) m := by
    rintro a b m rfl ea eb
    unfold w_X10_causesBy_66
    refine p_X10_isFromAfar hS hI1 hc h72 (fun M2 hI2 hF2 => ?_)
    have := hQ M2 hI2 (fun k q => (hF2 k (hcg k q)).trans (hF1 k q))
    rw [← ea, ← eb] at this
    rw [bi_z, Classical.not_not]
    refine ⟨fun q => ?_, fun q => ?_⟩
    · rw [if_neg q] at this
      rw [nI_add, show (0 : Int32) = nI 0 from rfl, nI_add]; exact this
    · rw [if_pos q] at this
      rw [nI_add, show (4 : Int32) = nI 4 from rfl, nI_add]; exact this
  have g45 : ∀ (b : Int32), (b = 0 ∨ b = 1) → (b = 1 ↔ (runS (vA S (cvr S c)) (cR S c f)).2.2.1 = cL S c ∧ (drw (cR S c f) - cD S c = 1 ∨ cD S c - drw (cR S c f) = 1)) → w_X10_causesBy_45 Q (nI c) (bi ((runS (vA S (cvr S c)) (cR S c f)).2.2.1 = cL S c ∧ drw (cR S c f) = cD S c)) b M1 := by
    intro b hb ib
    unfold w_X10_causesBy_45 w_X10_causesBy_56
    rw [bi_z, Classical.not_not]
    have hb' : (b = 0 → ¬ ((runS (vA S (cvr S c)) (cR S c f)).2.2.1 = cL S c ∧ (drw (cR S c f) - cD S c = 1 ∨ cD S c - drw (cR S c f) = 1))) ∧ (¬ b = 0 → ((runS (vA S (cvr S c)) (cR S c f)).2.2.1 = cL S c ∧ (drw (cR S c f) - cD S c = 1 ∨ cD S c - drw (cR S c f) = 1))) := by
      refine ⟨fun q z => ?_, fun q => ?_⟩
      · have := ib.mpr z
        rw [q] at this; exact absurd this (by decide)
      · rcases hb with h | h
        · exact absurd h q
        · exact ib.mp h
    refine ⟨fun q => ⟨fun q2 => ?_, fun q2 => ?_⟩, fun q => ⟨fun q2 => ?_, fun q2 => ?_⟩⟩
    · exact g66 0 0 M1 rfl (by rw [if_neg q]) (by rw [if_neg (hb'.1 q2)])
    · exact g66 0 2 M1 rfl (by rw [if_neg q]) (by rw [if_pos (hb'.2 q2)])
    · exact g66 1 0 M1 rfl (by rw [if_pos q]) (by rw [if_neg (hb'.1 q2)])
    · exact g66 1 2 M1 rfl (by rw [if_pos q]) (by rw [if_pos (hb'.2 q2)])
  unfold w_X10_causesBy_44 wp_X10_amount
  rw [c2, cn_cl hS hc, hR.1 2 (by decide), hR.2.2, r4, r5, ← iI_o (S 204 c 0), ← iI_o (S 205 c 0), hL, iI_sub (by omega) (by show _ ∧ _; unfold cD at bD; omega)]
  refine ⟨(ni_in (a := 2) (by decide)).mpr (by decide), cn_in hS hc, fun q1 => ⟨cn_in hS hc, ?_⟩, fun q1 => g45 0 (Or.inl rfl) ⟨fun z => absurd z (by decide), fun z => absurd z.1 q1⟩⟩
  have e0 : (0 : Int32) = iI 0 := by decide
  have e1 : (1 : Int32) = iI 1 := by decide
  have hw : drw (cR S c f) - (S 204 c 0).toInt = drw (cR S c f) - cD S c := rfl
  rw [hw]
  generalize hww : drw (cR S c f) - cD S c = w
  have bw : -1000 ≤ w ∧ w ≤ 1000 := by omega
  have hw2 : cD S c - drw (cR S c f) = -w := by omega
  rw [hww, hw2] at g45
  refine ⟨fun q => ?_, fun q => ?_⟩
  · have q' : 0 ≤ w := by rw [e0, iI_le (by omega) (by omega)] at q; exact q
    refine ⟨fun q2 => g45 1 (Or.inr rfl) ⟨fun _ => ⟨q1, Or.inl ?_⟩, fun _ => rfl⟩, fun q2 => g45 0 (Or.inl rfl) ⟨fun z => absurd z (by decide), fun z => ?_⟩⟩
    · rw [e1, iI_eq (by omega) (by omega)] at q2; exact q2
    · rcases z.2 with z | z
      · exact absurd (by rw [z]; rfl) q2
      · omega
  · have q' : ¬ 0 ≤ w := fun z => q (by rw [e0, iI_le (by omega) (by omega)]; exact z)
    rw [iI_n1]
    refine ⟨fun q2 => g45 1 (Or.inr rfl) ⟨fun _ => ⟨q1, Or.inr ?_⟩, fun _ => rfl⟩, fun q2 => g45 0 (Or.inl rfl) ⟨fun z => absurd z (by decide), fun z => ?_⟩⟩
    · rw [e1, iI_eq (by omega) (by omega)] at q2; exact q2
    · rcases z.2 with z | z
      · omega
      · exact absurd (by rw [z]; rfl) q2
