/-! THE CLASS FILLS: it begins; EVENTS that do the same -/
theorem p_X4_set1 {t : Nat} {S M : Mem} (hS : SOK S) (hI : InvC t S M) {v : Nat} (hv : v < 4) {Q : Mem → Prop} (hQ : ∀ M1, InvC t S M1 → MxC S M1 v v 0 → M1 609 v 0 = 1 → (∀ k, k ∉ rdk ++ [401, 402, 403] → M1 k = M k) → Q M1) : wp_X4_set v v 0 M Q := by
  unfold wp_X4_set
  refine p_X8_read hS hI hv (fun M1 hI1 h1 hV1 hF1 => p_X8_read hS hI1 hv (fun M2 hI2 h2 hV2 hF2 => ?_))
  rintro _ rfl _ rfl _ rfl
  have fr : ∀ k, k ∉ [401, 402, 403] → mst (mst (mst M2 401 0 0 (nI v)) 402 0 0 (nI v)) 403 0 0 0 k = M2 k := fun k hk => by
    simp only [List.mem_cons, List.not_mem_nil, or_false, not_or] at hk
    rw [mst_ne hk.2.2, mst_ne hk.2.1, mst_ne hk.1]
  have hVc : VCok (S 43 v) (vln S v) (mst (mst (mst M2 401 0 0 (nI v)) 402 0 0 (nI v)) 403 0 0 0) v := by
    have e1 := fr 607 (by decide)
    have e2 := fr 44 (by decide)
    have e3 := fr 45 (by decide)
    have e4 := fr 46 (by decide)
    have e5 := fr 47 (by decide)
    have e6 := fr 48 (by decide)
    simp only [VCok, e1, e2, e3, e4, e5, e6] at hV2 ⊢
    exact hV2
  refine hQ _ (hI2.keep (fun k q => fr k (by revert q; revert k; decide))) ⟨⟨hv, hv, by decide⟩, ⟨?_, ?_, mst_eq⟩, hVc, hVc⟩ ?_ (fun k q => ?_)
  · rw [mst_ne (by decide), mst_ne (by decide), mst_eq]
  · rw [mst_ne (by decide), mst_eq]
  · rw [fr 609 (by decide)]; exact h2
  · rw [fr k (fun z => q (List.mem_append_right _ z)), hF2.1 k (fun z => q (List.mem_append_left _ z)), hF1.1 k (fun z => q (List.mem_append_left _ z))]
def flk : List Nat := [24, 25, 26, 28, 86, 33, 308, 309, 310, 311]
theorem p_X2_begin {S M : Mem} (hS : SOK S) (hE : EsC S M) {c : Nat} (hc : c < nc S) {Q : Mem → Prop} (hQ : ∀ M1, (∀ k, k ∉ flk → M1 k = M k) → FI S M1 c → Q M1) : wp_X2_begin c M Q := by
  obtain ⟨l1, l2⟩ := hS.cl hc
  have hl3 := hS.lo hc
  unfold wp_X2_begin
  rintro _ rfl _ rfl
  rw [hE.k 202, l2]
  refine pk_loop (fun g i (m : Mem) => w_X2_begin_15 Q g c (nI i) m) (fun i m => (∀ k, k ∉ [24, 25, 308, 309] → m k = M k) ∧ (m 308 0 0 = nI (cln S c) ∧ m 309 0 0 = nI (lostN (S 20 c) i)) ∧ (∀ p, p < i → S 20 c p = -1 → m 25 0 (lostN (S 20 c) p) = nI p) ∧ (∀ p, p < i → m 24 0 p = S 20 c p)) (cln S c) 0 (mst (mst M 308 0 0 (nI (cln S c))) 309 0 0 0) (Nat.zero_le _) ⟨fun k q => ?_, ⟨?_, ?_⟩, fun p hp => absurd hp (Nat.not_lt_zero _), fun p hp => absurd hp (Nat.not_lt_zero _)⟩ ?_ ?_
  · simp only [List.mem_cons, List.not_mem_nil, or_false, not_or] at q
    rw [mst_ne q.2.2.2, mst_ne q.2.2.1]
  · rw [mst_ne (by decide), mst_eq]
  · rw [mst_eq]; rfl
  · rintro g m ⟨h1, ⟨h2, h3⟩, h4, h5⟩
    unfold w_X2_begin_15
    rw [h2]
    refine ⟨fun _ => ⟨(ni_in (a := 0) (by decide)).mpr (by decide), ?_⟩, fun q => absurd ((ni_le (by omega) (by omega)).mpr (Nat.le_refl _)) q⟩
    rintro _ rfl _ rfl
    refine ⟨(ni_in (a := 0) (by decide)).mpr (by decide), ?_⟩
    rintro _ rfl
    have c0 : (0 : Int32).toNatClampNeg = 0 := rfl
    have x1 : (6513507 : Int32) = stI s0 := by decide +kernel
    rw [c0, x1]
    have fr : ∀ k, k ∉ [26, 310, 28] → mst (mst (mst m 26 0 0 (stI s0)) 310 0 0 0) 28 0 0 0 k = m k := fun k hk => by
      simp only [List.mem_cons, List.not_mem_nil, or_false, not_or] at hk
      rw [mst_ne hk.2.2, mst_ne hk.2.1, mst_ne hk.1]
    have g26 : mst (mst (mst m 26 0 0 (stI s0)) 310 0 0 0) 28 0 0 0 26 0 0 = stI s0 := by rw [mst_ne (by decide), mst_ne (by decide), mst_eq]
    have g310 : mst (mst (mst m 26 0 0 (stI s0)) 310 0 0 0) 28 0 0 0 310 0 0 = nI 0 := by rw [mst_ne (by decide), mst_eq]; rfl
    have g28 : mst (mst (mst m 26 0 0 (stI s0)) 310 0 0 0) 28 0 0 0 28 0 0 = nI 0 := by rw [mst_eq]; rfl
    generalize mst (mst (mst m 26 0 0 (stI s0)) 310 0 0 0) 28 0 0 0 = m1 at fr g26 g310 g28
    suffices hh : wp_X2_postFromAfar (nI 0) m1 (fun M10 => ∀ M11, M11 = mst M10 311 0 0 0 → Q M11) from hh
    refine p_X2_postFromAfar (A := vA S (cvr S c)) (P := fun _ => False) (s := s0) (by decide) stOk_0 g26 ⟨g28, fun k hk => absurd hk (Nat.not_lt_zero _), fun s hs => hs.elim⟩ (by decide) (fun m2 cnt' y1 y2 y3 => ?_)
    rintro _ rfl
    have fr2 : ∀ k, k ∉ [26, 310, 28, 86, 33, 311] → mst m2 311 0 0 0 k = m k := fun k q => by
      rw [mst_ne (fun e => q (by rw [e]; decide)), y2.1 k (fun e => q (by clear q; revert e; revert k; decide)), fr k (fun e => q (by clear q; revert e; revert k; decide))]
    refine hQ _ (fun k q => ?_) ⟨⟨by rw [fr2 308 (by decide)]; exact h2, by rw [fr2 309 (by decide)]; exact h3⟩, fun p hp he => by rw [fr2 25 (by decide)]; exact h4 p hp he, fun p hp he => by rw [fr2 24 (by decide)]; exact h5 p hp, ⟨0, Nat.zero_le _, ?_, fun i hi => ?_⟩, ⟨0, Nat.zero_le _, ?_, fun i hi => ⟨cnt', ?_, ?_⟩⟩⟩
    · rw [fr2 k (fun e => q (by clear q; revert e; revert k; decide)), h1 k (fun e => q (by clear q; revert e; revert k; decide))]
    · rw [mst_ne (by decide), y2.1 310 (by decide)]; exact g310
    · have : i = 0 := by omega
      subst this
      rw [mst_ne (by decide), y2.1 26 (by decide)]; exact g26
    · rw [mst_eq]; rfl
    · omega
    · have : i = 0 := by omega
      subst this
      refine y3.cg (by rw [mst_ne (by decide)]) (by rw [mst_ne (by decide)]) (fun s => ⟨fun h => h.elim (fun z => z.elim) id, fun h => Or.inr h⟩)
  · rintro g i m hi ⟨h1, ⟨h2, h3⟩, h4, h5⟩ ih
    have hlo : lostN (S 20 c) i ≤ 3 := Nat.le_trans (lostN_m (by omega)) hl3
    have in12 : vp_in (nI i) 12 := (ni_in (by omega)).mpr (by omega)
    unfold w_X2_begin_15 w_X2_begin_73
    rw [h2, ni_cl (show i < 2147483648 by omega), h1 20 (by decide), hE.k 20, nI_1]
    refine ⟨fun q => absurd ((ni_le (by omega) (by omega)).mp q) (by omega), fun _ => ⟨in12, in12, ?_⟩⟩
    rintro _ rfl
    rw [mst_eq, mst_ne (show 309 ≠ 24 by decide), h3]
    have e24 : ∀ p, p < i + 1 → mst m 24 0 i (S 20 c i) 24 0 p = S 20 c p := fun p hp => by
      rw [mst_k]
      by_cases e : p = i
      · rw [if_pos ⟨rfl, e⟩, e]
      · rw [if_neg (fun q => e q.2)]; exact h5 p (by omega)
    refine ⟨in12, fun q => ⟨fun q2 => ?_, fun q2 => ?_⟩, fun q => ?_⟩
    · have h6 := (ni_le (a := 3) (by omega) (by omega)).mp q2
      have : lostN (S 20 c) i < lostN (S 20 c) (cln S c) := lostN_l hi q
      unfold clost at hl3
      omega
    · have h6 : lostN (S 20 c) i < 3 := by
        have : ¬ 3 ≤ lostN (S 20 c) i := fun z => q2 ((ni_le (a := 3) (by omega) (by omega)).mpr z)
        omega
      refine ⟨(ni_in (by omega)).mpr h6, ?_⟩
      rintro _ rfl _ rfl
      rw [ni_cl (by omega), mst_ne (show 309 ≠ 25 by decide), mst_ne (show 309 ≠ 24 by decide), h3, nI_1]
      refine ih _ ⟨fun k q => ?_, ⟨?_, ?_⟩, fun p hp he => ?_, fun p hp => ?_⟩
      · simp only [List.mem_cons, List.not_mem_nil, or_false, not_or] at q
        rw [mst_ne q.2.2.2, mst_ne q.2.1, mst_ne q.1]
        exact h1 k (by simp only [List.mem_cons, List.not_mem_nil, or_false, not_or]; exact q)
      · rw [mst_ne (by decide), mst_ne (by decide), mst_ne (by decide)]; exact h2
      · rw [mst_eq, lostN, if_pos q]
      · rw [mst_ne (by decide), mst_k]
        by_cases e : p = i
        · rw [if_pos ⟨rfl, by rw [e]⟩, e]
        · have : lostN (S 20 c) p < lostN (S 20 c) i := lostN_l (by omega) he
          rw [if_neg (fun q => by omega), mst_ne (by decide)]
          exact h4 p (by omega) he
      · rw [mst_ne (by decide), mst_ne (by decide)]; exact e24 p hp
    · refine ih _ ⟨fun k q2 => (mst_ne (fun e => q2 (by rw [e]; decide))).trans (h1 k q2), ⟨by rw [mst_ne (by decide)]; exact h2, by rw [mst_ne (by decide), lostN, if_neg q]; exact h3⟩, fun p hp he => ?_, e24⟩
      rw [mst_ne (by decide)]
      have : p ≠ i := fun e => q (by rw [← e]; exact he)
      exact h4 p (by omega) he
/-- EVENTS that do the same -/
def al2 (A : Nat → List Nat) (e e' : Nat) : Prop := (∀ s : STt, s.2.2.2 < 2 → stp A s e = stp A s e') ∧ coin e = coin e'
theorem al2.rf {A : Nat → List Nat} {e : Nat} : al2 A e e := ⟨fun _ _ => rfl, rfl⟩
theorem al2_of {A : Nat → List Nat} {e e' : Nat} (h0 : A (2 * e) = A (2 * e')) (h1 : A (2 * e + 1) = A (2 * e' + 1)) (hc : coin e = coin e') : al2 A e e' := by
  refine ⟨fun s hs => ?_, hc⟩
  unfold stp
  have : s.2.2.2 = 0 ∨ s.2.2.2 = 1 := by omega
  rcases this with q | q
  · rw [q, Nat.add_zero, Nat.add_zero, h0]
  · rw [q, h1]
theorem al2_gst {S : Mem} {v : Nat} {r r' : List Nat} {p : Nat} {z : Int} (h : ∀ i, al2 (vA S v) (r.getD i 0) (r'.getD i 0)) : ∀ {i : Nat}, gst (vA S v) r p z i = gst (vA S v) r' p z i
  | 0 => rfl
  | i + 1 => by
    have ih := al2_gst (p := p) (z := z) h (i := i)
    rw [gst, gst, ih]
    have ok : stOk (if i = p then bmp (gst (vA S v) r' p z i) z else gst (vA S v) r' p z i) := by
      split
      · exact bmp_ok gst_ok
      · exact gst_ok
    exact (h i).1 _ ok.2
theorem al2_drw {A : Nat → List Nat} {r r' : List Nat} (h : ∀ i, al2 A (r.getD i 0) (r'.getD i 0)) (hl : r.length = r'.length) : drw r = drw r' := by
  have : ∀ i, i ≤ r.length → drw (r.take i) = drw (r'.take i) := by
    intro i
    induction i with
    | zero => intro _; rfl
    | succ i ih => intro hi; rw [tk_s (by omega), tk_s (by omega), drw_a, drw_a, ih (by omega), (h i).2]
  have h2 := this r.length (Nat.le_refl _)
  rw [List.take_length, hl, List.take_length] at h2
  exact h2
theorem al2_cause {S : Mem} {v : Nat} {r r' : List Nat} {D L : Int} (h : ∀ i, al2 (vA S v) (r.getD i 0) (r'.getD i 0)) (hl : r.length = r'.length) : causeR (vA S v) r D L = causeR (vA S v) r' D L := by
  have e1 : runS (vA S v) r = runS (vA S v) r' := by
    rw [← gfi_n (z := 0) (p := r.length + 1) (by omega), ← gfi_n (r := r') (z := 0) (p := r.length + 1) (by omega)]
    unfold gfi
    rw [hl, al2_gst h]
  have e2 := al2_drw h hl
  have e3 : afar (vA S v) r L = afar (vA S v) r' L := by
    rw [Bool.eq_iff_iff, afar_iff, afar_iff]
    have ep : ∀ p z, p ≤ r.length → postS (vA S v) r p z = postS (vA S v) r' p z := fun p z hp => by
      rw [← gfi_p hp, ← gfi_p (r := r') (by omega)]
      unfold gfi
      rw [hl, al2_gst h]
    constructor
    · rintro ⟨p, j, hp, hj, h3, e⟩
      exact ⟨p, j, by omega, hj, h3, by rw [← ep p _ hp]; exact e⟩
    · rintro ⟨p, j, hp, hj, h3, e⟩
      exact ⟨p, j, by omega, hj, h3, by rw [ep p _ (by omega)]; exact e⟩
  unfold causeR
  rw [e1, e2, e3]
/-- the least that does the same, as the class finds it -/
def LeI (A : Nat → List Nat) (M : Mem) (le : Nat → Nat) (n : Nat) : Prop := ∀ e, e < n → M 29 0 e = nI (le e) ∧ le e ≤ e ∧ al2 A (le e) e
theorem p_X2_findLikeEvents {t : Nat} {S M : Mem} (hS : SOK S) (hI : InvC t S M) {v : Nat} (hv : v < 4) (h6 : M 609 v 0 = 1) {Q : Mem → Prop} (hQ : ∀ M1 le, (∀ k, k ≠ 29 → M1 k = M k) → LeI (vA S v) M1 le 8 → Q M1) : wp_X2_findLikeEvents v M Q := by
  unfold wp_X2_findLikeEvents
  refine pk_loop (fun g e (m : Mem × (Nat → Nat)) => w_X2_findLikeEvents_2 Q g v (nI e) m.1) (fun e m => (∀ k, k ≠ 29 → m.1 k = M k) ∧ LeI (vA S v) m.1 m.2 e) 8 0 (M, fun _ => 0) (Nat.zero_le _) ⟨fun _ _ => rfl, fun e he => absurd he (Nat.not_lt_zero _)⟩ ?_ ?_
  · rintro g ⟨m, le⟩ ⟨h1, h2⟩
    unfold w_X2_findLikeEvents_2
    exact ⟨fun _ => hQ m le h1 h2, fun q => absurd ((ni_le (a := 8) (by omega) (by omega)).mpr (Nat.le_refl _)) q⟩
  · rintro g e ⟨m, le⟩ he ⟨h1, h2⟩ ih
    dsimp only at h1 h2 ⊢
    have hIm : InvC t S m := hI.keep (fun k q => h1 k (fun e => absurd (e ▸ q) (by decide)))
    have h6m : m 609 v 0 = 1 := by rw [h1 609 (by decide)]; exact h6
    have fin : ∀ l, l ≤ e → al2 (vA S v) l e → w_X2_findLikeEvents_64 Q (fun j1 x2 M => w_X2_findLikeEvents_2 Q g j1 x2 M) v (nI e) (nI l) m := by
      intro l hle ha
      unfold w_X2_findLikeEvents_64
      refine ⟨(ni_in (by omega)).mpr he, ?_⟩
      rintro _ rfl
      rw [ni_cl (by omega), nI_1]
      refine ih (mst m 29 0 e (nI l), upN le e l) ⟨fun k q => (mst_ne q).trans (h1 k q), fun e' he' => ?_⟩
      dsimp only
      rw [mst_k]
      by_cases q : e' = e
      · subst q
        rw [if_pos ⟨rfl, rfl⟩, show upN le e' l e' = l from if_pos rfl]
        exact ⟨rfl, hle, ha⟩
      · rw [if_neg (fun z => q z.2), show upN le e l e' = le e' from if_neg q]
        exact h2 e' (by omega)
    unfold w_X2_findLikeEvents_2
    refine ⟨fun q => absurd ((ni_le (a := 8) (by omega) (by omega)).mp q) (by omega), fun _ => ?_⟩
    refine pk_loop (fun g' l (z : Unit) => w_X2_findLikeEvents_10 Q (fun j1 x2 M => w_X2_findLikeEvents_2 Q g j1 x2 M) g' v (nI e) (nI l) m) (fun _ _ => True) e 0 () (Nat.zero_le _) trivial ?_ ?_
    · intro g' _ _
      unfold w_X2_findLikeEvents_10
      exact ⟨fun _ => fin e (Nat.le_refl _) al2.rf, fun q => absurd ((ni_le (by omega) (by omega)).mpr (Nat.le_refl _)) q⟩
    · intro g' l _ hl _ ih'
      have nx := ih' () trivial
      have cl := coin_r l
      have ce := coin_r e
      have d2 : ∀ x, (2 : Int32) * nI x = nI (2 * x) := fun x => pk_mul ..
      unfold w_X2_findLikeEvents_10 w_X2_findLikeEvents_58
      rw [nI_1, d2, d2, nI_1, nI_1]
      refine ⟨fun q => absurd ((ni_le (by omega) (by omega)).mp q) (by omega), fun _ => p_coinsOf (by omega) (p_coinsOf he ⟨fun q => ?_, fun q => nx⟩)⟩
      have hco : coin l = coin e := (iI_eq (by omega) (by omega)).mp q
      refine p_X8_tellsAlike hS hIm hv hv (by omega) (by omega) h6m h6m ?_
      rw [bi_z, Classical.not_not]
      refine ⟨fun _ => nx, fun q1 => p_X8_tellsAlike hS hIm hv hv (by omega) (by omega) h6m h6m ?_⟩
      rw [bi_z, Classical.not_not]
      exact ⟨fun _ => nx, fun q2 => fin l (by omega) (al2_of q1 q2 hco)⟩
