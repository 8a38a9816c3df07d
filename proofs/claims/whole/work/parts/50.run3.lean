/-! RUN, the reference -/
theorem p_run213 {M : Mem} {st : STt} {d : Int} {w y : Int32} {b : Prop} [Decidable b] (hR : StR M st d) (hw : 0 ≤ w ∧ w ≤ 5) (hy : ¬ y = 0 ↔ (b ∧ ¬ rgI st 2 = d)) {Q : Int32 → Mem → Prop} (hQ : Q (oRun st d b w) M) : w_X10_run_213 Q w y M := by
  obtain ⟨r1, r2, r3⟩ := hR
  obtain ⟨j, hj, rfl⟩ := ni_ofle (n := 5) (by decide) hw.1 hw.2
  unfold w_X10_run_213
  rw [r2, r3]
  unfold oRun at hQ
  have ne : ∀ c, c < 6 → j ≠ c → ¬ nI j = nI c := fun c hc h e => h ((ni_eq (by omega) (by omega)).mp e)
  refine ⟨fun z => ⟨fun z2 => ?_, fun z2 => ⟨fun z3 => ?_, fun z3 => ⟨fun z4 => ?_, fun z4 => ?_⟩⟩⟩, fun z => ?_⟩
  · have := (ni_eq (b := 3) (by omega) (by omega)).mp z2
    subst this
    rw [if_neg (by decide), if_neg (by decide), if_neg (by decide), if_pos (by decide)] at hQ; exact hQ
  · have := (ni_eq (b := 4) (by omega) (by omega)).mp z3
    subst this
    rw [if_neg (by decide), if_neg (by decide), if_neg (by decide), if_neg (by decide), if_pos (by decide)] at hQ; exact hQ
  · have h3 := (ni_le (a := 3) (by omega) (by omega)).mp z
    rw [if_neg (show ¬ nI j = (0 : Int32) from ne 0 (by decide) (by omega)), if_neg (show ¬ nI j = (1 : Int32) from ne 1 (by decide) (by omega)), if_neg (show ¬ nI j = (2 : Int32) from ne 2 (by decide) (by omega)), if_neg z2, if_neg z3, if_neg (fun q => (hy.mpr q) z4)] at hQ; exact hQ
  · have h3 := (ni_le (a := 3) (by omega) (by omega)).mp z
    rw [if_neg (show ¬ nI j = (0 : Int32) from ne 0 (by decide) (by omega)), if_neg (show ¬ nI j = (1 : Int32) from ne 1 (by decide) (by omega)), if_neg (show ¬ nI j = (2 : Int32) from ne 2 (by decide) (by omega)), if_neg z2, if_neg z3, if_pos (hy.mp z4)] at hQ; exact hQ
  · have h3 : j < 3 := by
      apply Classical.byContradiction
      intro q
      exact z ((ni_le (a := 3) (by omega) (by omega)).mpr (by omega))
    rw [ni_cl (by omega), r1 j h3]
    refine ⟨(ni_in (by omega)).mpr h3, ?_⟩
    have : j = 0 ∨ j = 1 ∨ j = 2 := by omega
    rcases this with rfl | rfl | rfl
    · rw [if_pos (by decide)] at hQ; exact hQ
    · rw [if_neg (by decide), if_pos (by decide)] at hQ; exact hQ
    · rw [if_neg (by decide), if_neg (by decide), if_pos (by decide)] at hQ; exact hQ
theorem p_run140 {S M : Mem} (hS : SOK S) {v o ls k m : Nat} {w : Int32} (hMx : MxR S M v o ls) (hk : k < 4) (e84 : ∀ i, i < 40 → M 84 0 (40 * k + i) = S 42 k i) (hm : m ≤ 40) (hev : lostN (lgF S k) m = 0) (hw : 0 ≤ w ∧ w ≤ 5) (h0 : StR M s0 0) {Q : Int32 → Mem → Prop} (hQ : ∀ M1, (∀ q, q ∉ gsk → M1 q = M q) → Q (oRun (runS (mixA (vA S v) (vA S o) ls) (rwE S k m)) (drw (rwE S k m)) (0 < m ∧ S 42 k (m - 1) = 7) w) M1) : ∃ f, w_X10_run_140 Q f (nI k) (nI m) w 0 M := by
  refine pk_loop (fun f i (z : Mem) => w_X10_run_140 Q f (nI k) (nI m) w (nI i) z) (fun i z => StR z (runS (mixA (vA S v) (vA S o) ls) (rwE S k i)) (drw (rwE S k i)) ∧ ∀ q, q ∉ gsk → z q = M q) m 0 M (Nat.zero_le _) ⟨h0, fun _ _ => rfl⟩ ?_ ?_
  · rintro f z ⟨hR, hF⟩
    have hst : stOk (runS (mixA (vA S v) (vA S o) ls) (rwE S k m)) := runS_ok _ stOk_0
    have h2 := hst.1 2 (by decide)
    have hd := drw_l (rwE S k m)
    rw [rwE_l] at hd
    unfold w_X10_run_140 w_X10_run_212
    refine ⟨fun _ => ⟨fun q => ?_, fun q => ?_⟩, fun q => absurd ((ni_le (by omega) (by omega)).mpr (Nat.le_refl _)) q⟩
    · have m0 := (ni_le (b := 0) (by omega) (by omega)).mp q
      exact p_run213 hR hw ⟨fun h => absurd rfl h, fun h => absurd h.1.1 (by omega)⟩ (hQ z hF)
    · have m0 : 0 < m := by
        apply Classical.byContradiction
        intro h
        exact q ((ni_le (b := 0) (by omega) (by omega)).mpr (by omega))
      have hx : 40 * nI k + nI m - 1 = nI (40 * k + (m - 1)) := by rw [ni_lit 40, pk_mul, nI_add, ni_1, ni_sub (by omega)]; congr 1; omega
      have c2 : (2 : Int32).toNatClampNeg = 2 := rfl
      rw [hx, ni_cl (by omega), hF 84 (by decide), e84 (m - 1) (by omega), c2, hR.1 2 (by decide), hR.2.2, iI_eq (by omega) (by omega)]
      refine ⟨(ni_in (by omega)).mpr (by omega), fun x => ⟨(ni_in (a := 2) (by decide)).mpr (by decide), fun y => ?_, fun y => ?_⟩, fun x => ?_⟩
      · exact p_run213 hR hw ⟨fun h => absurd rfl h, fun h => absurd y h.2⟩ (hQ z hF)
      · exact p_run213 hR hw ⟨fun _ => ⟨⟨m0, x⟩, y⟩, fun _ => by decide⟩ (hQ z hF)
      · exact p_run213 hR hw ⟨fun h => absurd rfl h, fun h => absurd h.1.2 x⟩ (hQ z hF)
  · rintro f i z hi ⟨hR, hF⟩ ih
    obtain ⟨e, he, e1, e2⟩ := ev_of (lost0.mp hev i hi)
    have hst : stOk (runS (mixA (vA S v) (vA S o) ls) (rwE S k i)) := runS_ok _ stOk_0
    have hd := drw_l (rwE S k i)
    rw [rwE_l] at hd
    have hx : 40 * nI k + nI i = nI (40 * k + i) := by rw [ni_lit 40, pk_mul, nI_add]
    unfold w_X10_run_140
    refine ⟨fun q => absurd ((ni_le (by omega) (by omega)).mp q) (by omega), fun _ => ?_⟩
    rw [hx, ni_cl (by omega), hF 84 (by decide), e84 i (by omega), e1]
    refine ⟨(ni_in (by omega)).mpr (by omega), ?_⟩
    refine p_X10_goes hS (hMx.keep (fun q hq => hF q (by revert hq; revert q; decide))) hst he hR (by omega) (fun M2 hR2 hF2 => ?_)
    rw [nI_1]
    refine ih M2 ⟨?_, fun q hq => (hF2 q hq).trans (hF q hq)⟩
    rw [rwE_s, runS_a, drw_a, e2]; exact hR2
theorem R_run {S M : Mem} (hS : SOK S) (hI : InvR S M) (v o ls s n w : Int32) {Q : Int32 → Mem → Prop} (hQ : ∀ M1, InvR (n_run S v o ls s n w) M1 → FrR M M1 → Q (a_run S v o ls s n w) M1) : wp_X10_run v o ls s n w M Q := by
  have no (h : ¬ okR v o ls s n w) : Q (-1000) M := by
    have := hQ M
    rw [(run_no h).1, (run_no h).2] at this
    exact this hI FrR.rf
  unfold wp_X10_run w_X10_run_64 w_X10_run_80
  simp only [e_X10_isMix, e_X10_isSheet, e_X10_in, bi_z, Classical.not_not]
  refine ⟨fun h => no (fun z => h z.1), fun h => ⟨fun g => no (fun z => g z.2.1), fun g => ⟨fun p => no (fun z => p z.2.2.1), fun p => ⟨fun q => no (fun z => q z.2.2.2), fun q => ?_⟩⟩⟩⟩
  have ok : okR v o ls s n w := ⟨h, g, p, q⟩
  obtain ⟨v', hv, rfl⟩ := ni_ofle (n := 3) (by decide) h.1.1 h.1.2
  obtain ⟨o', ho, rfl⟩ := ni_ofle (n := 3) (by decide) h.2.1.1 h.2.1.2
  obtain ⟨l', hl, rfl⟩ := ni_ofle (n := 65535) (by decide) h.2.2.1 h.2.2.2
  obtain ⟨k, hk, rfl⟩ := ni_ofle (n := 3) (by decide) g.1 g.2
  obtain ⟨m, hm, rfl⟩ := ni_ofle (n := 40) (by decide) p.1 p.2
  have hk4 : k < 4 := by omega
  have ink : vp_in (nI k) 4 := (ni_in (by omega)).mpr hk4
  have ck : (nI k).toNatClampNeg = k := ni_cl (by omega)
  have cm : (nI m).toNatClampNeg = m := ni_cl (by omega)
  obtain ⟨t1, t2, t3, t4⟩ := hI.h hk4
  obtain ⟨s1, s2⟩ := hS.sl hk4
  have e2 : M 81 0 k = 0 ↔ ¬ S 551 k 0 = 0 := by rcases there hS hI hk4 with ⟨e1, e2⟩ | ⟨e1, e2⟩ <;> rw [e1, e2] <;> decide
  rw [ck, e2, t3]
  refine ⟨ink, fun a => ⟨ink, fun _ => ?_, fun z => absurd a z⟩, fun a => ⟨ink, fun b => ?_, fun b => ⟨ink, fun z => absurd z a, fun _ => ?_⟩⟩⟩
  · rintro _ rfl
    have := hQ (mst M 747 0 0 1)
    rw [(run_1 ok (by rw [ck]; exact a)).1, (run_1 ok (by rw [ck]; exact a)).2] at this
    exact this (hI.fnd 1) frR1
  · have a' := Classical.not_not.mp a
    have r3 := run_3 (S := S) ok (by rw [ck]; exact a') (by rw [ck]; exact b)
    have hQ' : ∀ M1, InvR S M1 → FrR M M1 → Q (a_run S (nI v') (nI o') (nI l') (nI k) (nI m) w) M1 := by rw [r3] at hQ; exact hQ
    have hmL : m ≤ sln S k := by rw [s2] at b; exact (ni_le (by omega) (by omega)).mp b
    refine pk_loop (fun f i (z : Unit) => w_X10_run_90 Q f (nI v') (nI o') (nI l') (nI k) (nI m) w (nI i) M) (fun i _ => lostN (lgF S k) i = 0) m 0 () (Nat.zero_le _) rfl ?_ ?_
    · intro f _ h0
      refine ⟨fun _ => ?_, fun z => absurd ((ni_le (by omega) (by omega)).mpr (Nat.le_refl _)) z⟩
      refine p_X10_mixes hS hI (by omega) (by omega) (by omega) (fun M1 hI1 hMx hF1 => p_X10_begins (fun M2 hR2 hF2 => ?_))
      have hI2 : InvR S M2 := hI1.keep (fun q hq => hF2 q (by revert hq; revert q; unfold irk gsk; decide))
      have nn : ∀ k, k ∈ rvk ++ [716, 717, 718] → (53 ≤ k ∧ k ≤ 85) ∨ 700 ≤ k := by decide
      have ng : ∀ k, k ∈ gsk → (53 ≤ k ∧ k ≤ 85) ∨ 700 ≤ k := by decide
      have hf2 : FrR M M2 := fun q hq => (hF2 q (fun z => hq (yrefk (ng q z)))).trans (hF1 q (fun z => hq (yrefk (nn q z))))
      refine p_run140 hS (hMx.keep (fun q hq => hF2 q (by revert hq; revert q; unfold gsk; decide))) hk4 (fun i hi => (hI2.h hk4).2.2.2 i hi) (by omega) h0 q hR2 (fun M3 hF3 => ?_)
      have := hQ' M3 (hI2.keep (fun q hq => hF3 q (by revert hq; revert q; unfold irk gsk; decide))) (hf2.tr (fun q hq => hF3 q (fun z => hq (yrefk (ng q z)))))
      rw [run_5 (by omega) (by omega) (by omega) hk4 hm ok a' b h0] at this
      exact this
    · intro f i _ hi h0 ih
      have hx : 40 * nI k + nI i = nI (40 * k + i) := by rw [ni_lit 40, pk_mul, nI_add]
      refine ⟨fun z => absurd ((ni_le (by omega) (by omega)).mp z) (by omega), fun _ => ?_⟩
      rw [hx, ni_cl (by omega), t4 i (by omega), e_X10_isEvent]
      simp only [bi_z, Classical.not_not]
      refine ⟨(ni_in (by omega)).mpr (by omega), fun z => ?_, fun z => ?_⟩
      · have := hQ' M hI FrR.rf
        rw [run_4 (by rw [ck, cm]; exact fun q => (lost0.mp q i hi) (lgE_m.mpr z))] at this
        exact this
      · rw [nI_1]
        refine ih () ?_
        have e1 : ¬ lgF S k i = -1 := fun q => (lgE_m.mp q) z
        unfold lostN; rw [if_neg e1, h0]
  · rintro _ rfl
    have a' := Classical.not_not.mp a
    have := hQ (mst M 747 0 0 2)
    rw [(run_2 ok (by rw [ck]; exact a') (by rw [ck]; exact b)).1, (run_2 ok (by rw [ck]; exact a') (by rw [ck]; exact b)).2] at this
    exact this (hI.fnd 2) frR1
