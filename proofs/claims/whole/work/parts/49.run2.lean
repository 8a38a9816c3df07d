/-! RUN, the class -/
theorem run_no {S : Mem} {v o ls s n w : Int32} (h : ¬ okR v o ls s n w) : a_run S v o ls s n w = -1000 ∧ n_run S v o ls s n w = S := ⟨if_neg (fun z => h z.1), if_neg h⟩
theorem run_1 {S : Mem} {v o ls s n w : Int32} (h : okR v o ls s n w) (h1 : ¬ S 551 s.toNatClampNeg 0 = 0) : a_run S v o ls s n w = -1000 ∧ n_run S v o ls s n w = mst S 661 0 0 1 := ⟨if_neg (fun z => h1 z.2.1), by unfold n_run; rw [if_pos h, if_neg h1]⟩
theorem run_2 {S : Mem} {v o ls s n w : Int32} (h : okR v o ls s n w) (h1 : S 551 s.toNatClampNeg 0 = 0) (h2 : ¬ n ≤ S 553 s.toNatClampNeg 0) : a_run S v o ls s n w = -1000 ∧ n_run S v o ls s n w = mst S 661 0 0 2 := ⟨if_neg (fun z => h2 z.2.2.1), by unfold n_run; rw [if_pos h, if_pos h1, if_neg h2]⟩
theorem run_3 {S : Mem} {v o ls s n w : Int32} (h : okR v o ls s n w) (h1 : S 551 s.toNatClampNeg 0 = 0) (h2 : n ≤ S 553 s.toNatClampNeg 0) : n_run S v o ls s n w = S := by unfold n_run; rw [if_pos h, if_pos h1, if_pos h2]
theorem run_4 {S : Mem} {v o ls s n w : Int32} (h3 : ¬ lostN (lgF S s.toNatClampNeg) n.toNatClampNeg = 0) : a_run S v o ls s n w = -1000 := if_neg (fun z => h3 z.2.2.2)
theorem run_5 {S : Mem} {v o ls s n : Nat} {w : Int32} (hv : v < 4) (ho : o < 4) (hl : ls < 65536) (hs : s < 4) (hn : n ≤ 40) (h : okR (nI v) (nI o) (nI ls) (nI s) (nI n) w) (h1 : S 551 s 0 = 0) (h2 : nI n ≤ S 553 s 0) (h3 : lostN (lgF S s) n = 0) : a_run S (nI v) (nI o) (nI ls) (nI s) (nI n) w = oRun (runS (mixA (vA S v) (vA S o) ls) (rwE S s n)) (drw (rwE S s n)) (0 < n ∧ S 42 s (n - 1) = 7) w := by
  unfold a_run
  simp only [ni_cl (show v < 2147483648 by omega), ni_cl (show o < 2147483648 by omega), ni_cl (show ls < 2147483648 by omega), ni_cl (show s < 2147483648 by omega), ni_cl (show n < 2147483648 by omega)]
  rw [if_pos ⟨h, h1, h2, h3⟩]
theorem p_eor61 {M : Mem} {st : STt} {d : Int} {w x6 : Int32} {b : Prop} [Decidable b] (hst : stOk st) (hd : -100 ≤ d ∧ d ≤ 100) (hb : x6 = 7 ↔ b) {Q : Int32 → Mem → Prop} (hQ : Q (oRun st d b w) M) : w_X9_endOfRun_61 Q w (stI st) (iI d) x6 M := by
  unfold w_X9_endOfRun_61 wp_X9_ledgerOf wp_X9_modeOf
  have h2 := hst.1 2 (by decide)
  rw [st_l hst, st_p hst, st_c hst, st_m hst]
  unfold oRun at hQ
  refine ⟨fun e => ?_, fun e => ?_, fun e => ?_, fun e => ?_, fun e => ?_, fun e0 e1 e2 e3 e4 => ⟨fun g => ⟨fun z => ?_, fun z => ?_⟩, fun g => ?_⟩⟩
  · rw [if_pos e] at hQ; exact hQ
  · rw [if_neg (by rw [e]; decide), if_pos e] at hQ; exact hQ
  · rw [if_neg (by rw [e]; decide), if_neg (by rw [e]; decide), if_pos e] at hQ; exact hQ
  · rw [if_neg (by rw [e]; decide), if_neg (by rw [e]; decide), if_neg (by rw [e]; decide), if_pos e] at hQ; exact hQ
  · rw [if_neg (by rw [e]; decide), if_neg (by rw [e]; decide), if_neg (by rw [e]; decide), if_neg (by rw [e]; decide), if_pos e] at hQ; exact hQ
  · have z' := (iI_eq (by omega) (by omega)).mp z
    rw [if_neg e0, if_neg e1, if_neg e2, if_neg e3, if_neg e4, if_neg (fun q => q.2 z')] at hQ; exact hQ
  · have z' : ¬ rgI st 2 = d := fun q => z (by rw [q])
    rw [if_neg e0, if_neg e1, if_neg e2, if_neg e3, if_neg e4, if_pos ⟨hb.mp g, z'⟩] at hQ; exact hQ
  · rw [if_neg e0, if_neg e1, if_neg e2, if_neg e3, if_neg e4, if_neg (fun q => g (hb.mpr q.1))] at hQ; exact hQ
theorem p_coinsOf {M : Mem} {e : Nat} (he : e < 8) {Q : Int32 → Mem → Prop} (hQ : Q (iI (coin e)) M) : wp_X9_coinsOf (nI e) M Q := by
  unfold wp_X9_coinsOf
  unfold coin at hQ
  refine ⟨fun z => ?_, fun z => ⟨fun z2 => ?_, fun z2 => ?_⟩⟩
  · rw [if_pos ((ni_eq (b := 0) (by omega) (by omega)).mp z)] at hQ; exact hQ
  · have := (ni_eq (b := 1) (by omega) (by omega)).mp z2
    rw [if_neg (by omega), if_pos this] at hQ; exact hQ
  · rw [if_neg (fun q => z (by rw [q]; rfl)), if_neg (fun q => z2 (by rw [q]; rfl))] at hQ; exact hQ
theorem ev_of {x : Int32} (h : ¬ lgE x = -1) : ∃ e, e < 8 ∧ x = nI e ∧ x.toNatClampNeg = e := by
  have h' : 0 ≤ x ∧ x ≤ 7 := by
    apply Classical.byContradiction
    intro q
    exact h (lgE_m.mpr q)
  obtain ⟨e, he, rfl⟩ := ni_ofle (n := 7) (by decide) h'.1 h'.2
  exact ⟨e, by omega, rfl, ni_cl (by omega)⟩
theorem p_X9_endOfRun {S M : Mem} (hS : SOK S) {v o ls k m : Nat} {w : Int32} (hMx : MxC S M v o ls) (e42 : M 42 = S 42) (hm : m ≤ 40) (hev : lostN (lgF S k) m = 0) {Q : Int32 → Mem → Prop} (hQ : ∀ M1, (∀ q, q ≠ 33 → M1 q = M q) → Q (oRun (runS (mixA (vA S v) (vA S o) ls) (rwE S k m)) (drw (rwE S k m)) (0 < m ∧ S 42 k (m - 1) = 7) w) M1) : wp_X9_endOfRun k (nI m) w M Q := by
  unfold wp_X9_endOfRun
  have a42 : alen 42 = 40 := by decide
  have x1 : stI s0 = 6513507 := by decide +kernel
  have x2 : runS (mixA (vA S v) (vA S o) ls) (rwE S k 0) = s0 := rfl
  have x3 : iI (drw (rwE S k 0)) = 0 := by
    have : drw (rwE S k 0) = 0 := rfl
    rw [this]; decide
  suffices H : ∃ f, w_X9_endOfRun_13 Q f k (nI m) w (stI (runS (mixA (vA S v) (vA S o) ls) (rwE S k 0))) (iI (drw (rwE S k 0))) (if (0 : Nat) = 0 then -1 else S 42 k (0 - 1)) (nI 0) M by
    rw [x2, x1, x3, if_pos rfl] at H; exact H
  refine pk_loop (fun f i (z : Mem) => w_X9_endOfRun_13 Q f k (nI m) w (stI (runS (mixA (vA S v) (vA S o) ls) (rwE S k i))) (iI (drw (rwE S k i))) (if i = 0 then -1 else S 42 k (i - 1)) (nI i) z) (fun i z => ∀ q, q ≠ 33 → z q = M q) m 0 M (Nat.zero_le _) (fun _ _ => rfl) ?_ ?_
  · intro f z hF
    unfold w_X9_endOfRun_13
    refine ⟨fun _ => ?_, fun q => absurd ((ni_le (by omega) (by omega)).mpr (Nat.le_refl _)) q⟩
    have hd := drw_l (rwE S k m)
    rw [rwE_l] at hd
    refine p_eor61 (runS_ok _ stOk_0) (by omega) ?_ (hQ z hF)
    by_cases e : m = 0
    · rw [if_pos e]; exact ⟨fun q => absurd q (by decide), fun q => absurd q.1 (by omega)⟩
    · rw [if_neg e]; exact ⟨fun q => ⟨by omega, q⟩, fun q => q.2⟩
  · intro f i z hi hF ih
    obtain ⟨e, he, e1, e2⟩ := ev_of (lost0.mp hev i hi)
    have hst : stOk (runS (mixA (vA S v) (vA S o) ls) (rwE S k i)) := runS_ok _ stOk_0
    have hd := drw_l (rwE S k i)
    rw [rwE_l] at hd
    unfold w_X9_endOfRun_13
    rw [a42]
    refine ⟨fun q => absurd ((ni_le (by omega) (by omega)).mp q) (by omega), fun _ => ⟨fun q => absurd ((ni_le (by omega) (by omega)).mp q) (by omega), fun _ => ⟨(ni_in (by omega)).mpr (by omega), ?_⟩⟩⟩
    rintro _ rfl
    rw [ni_cl (by omega), hF 42 (by decide), e42, e1]
    refine p_X4_after hS (hMx.keep (fun q hq => hF q (by revert hq; revert q; decide))) hst he (fun M2 hF2 => p_coinsOf he ?_)
    rintro _ rfl
    have hc := coin_r e
    rw [iI_add (by omega) (by omega), nI_1]
    have := ih M2 (fun q hq => (hF2 q hq).trans (hF q hq))
    rw [rwE_s, runS_a, drw_a, e2, if_neg (by omega), show i + 1 - 1 = i by omega, e1] at this
    exact this
theorem C_run {t : Nat} {S M : Mem} (hS : SOK S) (hI : InvC t S M) (v o ls s n w : Int32) {Q : Int32 → Mem → Prop} (hQ : ∀ M1, InvC (t + 1) (n_run S v o ls s n w) M1 → FrC M M1 → Q (a_run S v o ls s n w) M1) : wp_X9_run v o ls s n w M Q := by
  have no (h : ¬ okR v o ls s n w) (M1 : Mem) (hI1 : InvC t S M1) (hf : FrC M M1) : Q (-1000) M1 := by
    have := hQ M1
    rw [(run_no h).1, (run_no h).2] at this
    exact this hI1.more hf
  unfold wp_X9_run w_X9_run_72 w_X9_run_86
  refine p_X9_setMix hS hI (fun h => ⟨fun _ => no (fun z => h z.1) M hI FrC.rf, fun z => absurd rfl z⟩) (fun v' o' ls' M1 ev eo el hok hI1 hMx hF => ⟨fun z => absurd z (by decide), fun _ => ?_⟩)
  have nn : ∀ k, k ∈ rdk ++ [401, 402, 403] → k < 53 ∨ (85 < k ∧ k < 700) := by decide
  have hf : FrC M M1 := fun k q => hF k (fun z => nrefk (nn k z) q)
  refine ⟨fun a => no (fun z => by have := z.2.2.1.1; grind) M1 hI1 hf, fun a => ⟨fun b => no (fun z => by have := z.2.2.1.2; grind) M1 hI1 hf, fun b => ⟨fun c => no (fun z => by have := z.2.2.2.1; grind) M1 hI1 hf, fun c => ⟨fun d => ?_, fun d => no (fun z => d z.2.2.2.2) M1 hI1 hf⟩⟩⟩⟩
  rw [e_X9_sheetAt]
  rcases at4_cases s with ⟨h1, h2⟩ | ⟨k, hk, rfl, h1, h2⟩
  · rw [h1]
    exact ⟨fun _ => no (fun z => h2 z.2.1) M1 hI1 hf, fun j e => by cases e⟩
  · rw [h1]
    refine ⟨fun e => by (cases e), fun j e => ?_⟩
    cases e
    have a' : 0 ≤ n := by grind
    have b' : n ≤ 40 := by grind
    have c' : 0 ≤ w := by grind
    obtain ⟨m, hm, rfl⟩ := ni_ofle (n := 40) (by decide) a' b'
    have ok : okR v o ls (nI k) (nI m) w := ⟨hok, h2, ⟨a', b'⟩, c', d⟩
    have ck : (nI k).toNatClampNeg = k := ni_cl (by omega)
    have cm : (nI m).toNatClampNeg = m := ni_cl (by omega)
    obtain ⟨s1, s2⟩ := hS.sl hk
    rw [hI1.1.k 551, hI1.1.k 553]
    have w1 : ¬ S 551 k 0 = 0 → Q (-1000) (mst M1 661 0 0 1) := fun z => by
      have := hQ (mst M1 661 0 0 1)
      rw [(run_1 ok (by rw [ck]; exact z)).1, (run_1 ok (by rw [ck]; exact z)).2] at this
      exact this (hI1.fnd 1) (hf.tr frC1)
    refine ⟨fun x => ⟨fun y => ?_, fun y => ⟨fun _ => ?_, fun q => absurd x q⟩⟩, fun x => ⟨fun q => absurd q x, fun _ => ?_⟩⟩
    · have r3 := run_3 (S := S) ok (by rw [ck]; exact x) (by rw [ck]; exact y)
      have hQ' : ∀ M1, InvC (t + 1) S M1 → FrC M M1 → Q (a_run S v o ls (nI k) (nI m) w) M1 := by rw [r3] at hQ; exact hQ
      have hmL : m ≤ sln S k := by rw [s2] at y; exact (ni_le (by omega) (by omega)).mp y
      have hFl : lgF M1 k = lgF S k := by unfold lgF; rw [hI1.1.k 42]
      refine p_X7_countEvents (L := sln S k) (by rw [hI1.1.k 553]; exact s2) s1 hmL ?_
      rw [hFl, ni_le (by omega) (by omega)]
      have hll := lostN_le (lgF S k) m
      refine ⟨fun z => ?_, fun z => ?_⟩
      · have h0 : lostN (lgF S k) m = 0 := by omega
        refine p_X9_endOfRun hS hMx (hI1.1.k 42) (by omega) h0 (fun M2 hF2 => ?_)
        have := hQ' M2 (hI1.keep (fun q hq => hF2 q (by revert hq; revert q; unfold ick esk; decide))).more (hf.tr (fun q hq => hF2 q (fun z => by subst z; exact nrefk (by decide) hq)))
        subst ev eo el
        rw [run_5 hMx.1.1 hMx.1.2.1 hMx.1.2.2 hk hm ok x y h0] at this
        exact this
      · have := hQ' M1 hI1.more hf
        rw [run_4 (by rw [ck, cm]; omega)] at this
        exact this
    · rintro _ rfl
      have := hQ (mst M1 661 0 0 2)
      rw [(run_2 ok (by rw [ck]; exact x) (by rw [ck]; exact y)).1, (run_2 ok (by rw [ck]; exact x) (by rw [ck]; exact y)).2] at this
      exact this (hI1.fnd 2) (hf.tr frC1)
    · rintro _ rfl
      exact w1 x
