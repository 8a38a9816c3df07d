/-! THE CLASS FILLS: the CAUSES of a row -/
theorem p_X2_runPosted {S M : Mem} (hS : SOK S) {c : Nat} {r : Nat → Nat} (hc : c < nc S) (hMx : MxC S M (cvr S c) (cvr S c) 0) (hI : FI S M c) (hr : ∀ p, p < cln S c → r p < 8 ∧ M 24 0 p = nI (r p)) (h26 : ∀ i, i ≤ cln S c → M 26 0 i = stI (runS (vA S (cvr S c)) (rl (ro M) i))) {Q : Mem → Prop} (hQ : ∀ M1, (∀ k, k ∉ [28, 86, 33, 311] → M1 k = M k) → FI S M1 c → (∃ cnt, cnt ≤ 78 ∧ PSI (vA S (cvr S c)) M1 (cln S c) cnt (pset (vA S (cvr S c)) (ro M) (cln S c))) → Q M1) : wp_X2_runPosted M Q := by
  obtain ⟨l1, l2⟩ := hS.cl hc
  obtain ⟨⟨a1, a2⟩, a3, a4, hu, ⟨w, b1, b2, b3⟩⟩ := hI
  unfold wp_X2_runPosted
  rintro _ rfl
  rw [b2]
  refine pk_loop (fun g i (m : Mem) => w_X2_runPosted_5 Q g (nI i) m) (fun i m => (∀ k, k ∉ [28, 86, 33] → m k = M k) ∧ ∀ j, j ≤ i → ∃ cnt, cnt ≤ 6 * (j + 1) ∧ PSI (vA S (cvr S c)) m j cnt (pset (vA S (cvr S c)) (ro M) j)) (cln S c) w M b1 ⟨fun _ _ => rfl, b3⟩ ?_ ?_
  · rintro g m ⟨h1, h2⟩
    unfold w_X2_runPosted_5
    rw [h1 308 (by decide), a1]
    refine ⟨fun _ => ?_, fun q => absurd ((ni_le (by omega) (by omega)).mpr (Nat.le_refl _)) q⟩
    rintro _ rfl
    have fr : ∀ k, k ∉ [28, 86, 33, 311] → mst m 311 0 0 (nI (cln S c)) k = M k := fun k q => by
      rw [mst_ne (fun e => q (by rw [e]; decide)), h1 k (fun e => q (by clear q; revert e; revert k; decide))]
    have er : ro (mst m 311 0 0 (nI (cln S c))) = ro M := by unfold ro; rw [fr 24 (by decide)]
    have h2' : ∀ j, j ≤ cln S c → ∃ cnt, cnt ≤ 6 * (j + 1) ∧ PSI (vA S (cvr S c)) (mst m 311 0 0 (nI (cln S c))) j cnt (pset (vA S (cvr S c)) (ro M) j) := fun j hj => by
      obtain ⟨cnt, x1, x2⟩ := h2 j hj
      exact ⟨cnt, x1, x2.cg (by rw [mst_ne (by decide)]) (by rw [mst_ne (by decide)]) (fun _ => Iff.rfl)⟩
    refine hQ _ fr ⟨⟨by rw [fr 308 (by decide)]; exact a1, by rw [fr 309 (by decide)]; exact a2⟩, by rw [fr 25 (by decide)]; exact a3, by rw [fr 24 (by decide)]; exact a4, ?_, ⟨cln S c, Nat.le_refl _, mst_eq, by rw [er]; exact h2'⟩⟩ ?_
    · rw [er, fr 310 (by decide), fr 26 (by decide)]; exact hu
    · obtain ⟨cnt, x1, x2⟩ := h2' (cln S c) (Nat.le_refl _)
      exact ⟨cnt, by omega, x2⟩
  · rintro g i m hi ⟨h1, h2⟩ ih
    obtain ⟨hr1, hr2⟩ := hr i hi
    have hro : ro M i = r i := by unfold ro; rw [hr2, ni_cl (by omega)]
    obtain ⟨cnt, hcnt, q1, q2, q3⟩ := h2 i (Nat.le_refl _)
    unfold w_X2_runPosted_5
    rw [h1 308 (by decide), a1, nI_1]
    refine ⟨fun q => absurd ((ni_le (by omega) (by omega)).mp q) (by omega), fun _ => ⟨(ni_in (by omega)).mpr (by omega), ?_⟩⟩
    rintro _ rfl
    rw [ni_cl (by omega)]
    have o0 : oth (i + 1) m (mst m 28 0 (i + 1) 0) := ⟨fun k q => mst_ne (fun e => q (by rw [e]; decide)), fun j hj => ⟨by rw [mst_k, if_neg (fun q => hj q.2)], by rw [mst_ne (by decide)]⟩⟩
    refine pk_loop (fun g' k (z : Mem) => w_X2_runPosted_24 Q (fun x2 M => w_X2_runPosted_5 Q g x2 M) g' (nI i) (nI k) z) (fun k z => oth (i + 1) m z ∧ ∃ c2, c2 ≤ k ∧ PSI (vA S (cvr S c)) z (i + 1) c2 (fun s => ∃ k' s', k' < k ∧ stOk s' ∧ m 86 i k' = stI s' ∧ s = stp (vA S (cvr S c)) s' (r i))) cnt 0 (mst m 28 0 (i + 1) 0) (Nat.zero_le _) ⟨o0, 0, Nat.le_refl _, mst_eq, fun k hk => absurd hk (Nat.not_lt_zero _), fun s ⟨k', s', hk', _⟩ => absurd hk' (Nat.not_lt_zero _)⟩ ?_ ?_
    · rintro g' z ⟨z1, c2, z2, z3⟩
      unfold w_X2_runPosted_24
      rw [ni_cl (by omega), (z1.2 i (by omega)).1, q1, nI_1]
      refine ⟨(ni_in (by omega)).mpr (by omega), fun _ => ?_, fun q => absurd ((ni_le (by omega) (by omega)).mpr (Nat.le_refl _)) q⟩
      have e26 : z 26 0 (i + 1) = stI (runS (vA S (cvr S c)) (rl (ro M) (i + 1))) := by
        rw [z1.1 26 (by decide), h1 26 (by decide)]; exact h26 (i + 1) (by omega)
      refine p_X2_postFromAfar (by omega) runV_ok e26 z3 (by omega) (fun z' c3 y1 y2 y3 => ih z' ⟨fun k q => ((z1.tr y2).1 k q).trans (h1 k q), fun j hj => ?_⟩)
      by_cases e : j = i + 1
      · subst e
        refine ⟨c3, by omega, y3.cg rfl rfl (fun s => ⟨fun h => ?_, fun h => ?_⟩)⟩
        · rcases h with ⟨k', s', hk', ok', e1, e2⟩ | h
          · obtain ⟨s2, t1, t2, t3⟩ := q2 k' hk'
            have : s2 = s' := stI_inj t1 ok' (t2.symm.trans e1)
            subst this
            exact Or.inl ⟨s2, t3, by rw [hro]; exact e2⟩
          · exact Or.inr h
        · rcases h with ⟨s', h1', h2'⟩ | h
          · obtain ⟨k', hk', e1⟩ := q3 s' h1'
            exact Or.inl ⟨k', s', hk', pset_ok h1', e1, by rw [h2', hro]⟩
          · exact Or.inr h
      · obtain ⟨c4, x1, x2⟩ := h2 j (by omega)
        exact ⟨c4, x1, x2.cg ((z1.tr y2).2 j e).1 ((z1.tr y2).2 j e).2 (fun _ => Iff.rfl)⟩
    · rintro g' k z hk ⟨z1, c2, z2, z3⟩ ih'
      obtain ⟨s2, t1, t2, t3⟩ := q2 k hk
      unfold w_X2_runPosted_24
      rw [ni_cl (show i < 2147483648 by omega), ni_cl (show k < 2147483648 by omega), (z1.2 i (by omega)).1, q1, (z1.2 i (by omega)).2, t2, z1.1 24 (by decide), h1 24 (by decide), hr2, nI_1, nI_1]
      refine ⟨(ni_in (by omega)).mpr (by omega), fun q => absurd ((ni_le (by omega) (by omega)).mp q) (by omega), fun _ => ⟨(ni_in (by omega)).mpr (by omega), (ni_in (by omega)).mpr (by omega), (ni_in (by omega)).mpr (by omega), ?_⟩⟩
      have hMxz : MxC S z (cvr S c) (cvr S c) 0 := hMx.keep (fun k q => (z1.1 k (by revert q; revert k; decide)).trans (h1 k (by revert q; revert k; decide)))
      refine p_X4_after hS hMxz t1 hr1 (fun z' hF => ?_)
      rw [mixA_s]
      have o1 : oth (i + 1) z z' := oth.af hF
      refine p_X2_addPosted (by omega) (stOk_v t1) (z3.cg (M1 := z') (by rw [hF 28 (by decide)]) (by rw [hF 86 (by decide)]) (fun _ => Iff.rfl)) (by omega) (fun z'' c3 y1 y2 y3 => ih' z'' ⟨(z1.tr o1).tr y2, c3, by omega, y3.cg rfl rfl (fun s => ⟨fun h => ?_, fun h => ?_⟩)⟩)
      · rcases h with ⟨k', s', hk', ok', e1, e2⟩ | h
        · exact ⟨k', s', by omega, ok', e1, e2⟩
        · exact ⟨k, s2, by omega, t1, t2, h⟩
      · obtain ⟨k', s', hk', ok', e1, e2⟩ := h
        by_cases e : k' = k
        · subst e
          have : s' = s2 := stI_inj ok' t1 (e1.symm.trans t2)
          subst this
          exact Or.inr e2
        · exact Or.inl ⟨k', s', by omega, ok', e1, e2⟩
theorem p_X2_isPostedTo {A : Nat → List Nat} {M : Mem} {n cnt : Nat} {P : STt → Prop} {L : Int} (hn : n ≤ 12) (h308 : M 308 0 0 = nI n) (hc : cnt ≤ 78) (hP : PSI A M n cnt P) (hok : ∀ s, P s → stOk s) (hL : -99 ≤ L ∧ L ≤ 99) {Q : Int32 → Mem → Prop} (h1 : (∃ s, P s ∧ s.2.2.1 = L) → Q 1 M) (h0 : (¬ ∃ s, P s ∧ s.2.2.1 = L) → Q 0 M) : wp_X2_isPostedTo (iI L) M Q := by
  obtain ⟨p1, p2, p3⟩ := hP
  unfold wp_X2_isPostedTo
  refine pk_loop (fun g k (m : Mem) => w_X2_isPostedTo_2 Q g (iI L) (nI k) m) (fun k m => m = M ∧ ∀ j, j < k → ∀ s, stOk s → M 86 n j = stI s → ¬ s.2.2.1 = L) cnt 0 M (Nat.zero_le _) ⟨rfl, fun j hj => absurd hj (Nat.not_lt_zero _)⟩ ?_ ?_
  · rintro g m ⟨rfl, h2⟩
    unfold w_X2_isPostedTo_2
    rw [h308, ni_cl (by omega), p1]
    refine ⟨(ni_in (by omega)).mpr (by omega), fun _ => h0 ?_, fun q => absurd ((ni_le (by omega) (by omega)).mpr (Nat.le_refl _)) q⟩
    rintro ⟨s, hs, e⟩
    obtain ⟨k, hk, ek⟩ := p3 s hs
    obtain ⟨s2, t1, t2, t3⟩ := p2 k hk
    have hs2 : stOk s := hok s hs
    exact h2 k hk s hs2 ek e
  · rintro g k m hk ⟨rfl, h2⟩ ih
    obtain ⟨s2, t1, t2, t3⟩ := p2 k hk
    have hb := t1.1 2 (by decide)
    unfold w_X2_isPostedTo_2 wp_X9_ledgerOf
    rw [h308, ni_cl (show n < 2147483648 by omega), ni_cl (show k < 2147483648 by omega), p1, t2, st_c t1, nI_1]
    refine ⟨(ni_in (by omega)).mpr (by omega), fun q => absurd ((ni_le (by omega) (by omega)).mp q) (by omega), fun _ => ⟨(ni_in (by omega)).mpr (by omega), (ni_in (by omega)).mpr (by omega), fun q => ?_, fun q => ?_⟩⟩
    · rw [iI_eq (by omega) (by omega)] at q
      exact h1 ⟨s2, t3, q⟩
    · refine ih m ⟨rfl, fun j hj s hs e => ?_⟩
      by_cases ej : j = k
      · subst ej
        have : s = s2 := stI_inj hs t1 (e.symm.trans t2)
        subst this
        exact fun z => q (by rw [show rgI s 2 = s.2.2.1 from rfl, z])
      · exact h2 j (by omega) s hs e
