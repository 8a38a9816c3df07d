/-! THE CLASS SEEKS -/
def fnk : List Nat := [33, 37, 38, 39, 40, 41, 505]
theorem MxC.fn {S M M' : Mem} {v o ls : Nat} (h : MxC S M v o ls) (hk : ∀ k, k ∉ fnk → M' k = M k) : MxC S M' v o ls := h.keep (fun k q => hk k (by revert q; revert k; decide))
def GoI (S : Mem) (v o ls lim : Nat) (M : Mem) (K : Nat) (nx : Nat → Nat) (b c : Nat) (M1 : Mem) (K1 : Nat) (nx1 : Nat → Nat) : Prop := (∀ k, k ∉ fnk → M1 k = M k) ∧ K ≤ K1 ∧ (∀ i, i < K → nx1 i = nx i) ∧ (∀ i, K ≤ i → i < K1 → b ≤ nx1 i) ∧ NdI (mixA (vA S v) (vA S o) ls) M1 K1 nx1 c ∧ Cov (mixA (vA S v) (vA S o) ls) lim K1 nx1 c
theorem Cov.tw {A : Nat → List Nat} {lim K : Nat} {nx : Nat → Nat} {c i : Nat} (h : Cov A lim K nx c) (hi : i < K) (hc : nx i < c) (h1 : tS A (nx i) = tS A c) (h2 : tD (nx i) = tD c) : Cov A lim K nx (c + 1) := by
  intro z hz
  by_cases e : z = c
  · subst e
    refine ⟨fun q => (h _ hc).1 (by unfold tP at q ⊢; rw [h1, h2]; exact q), fun _ => ⟨i, hi, by omega, h1, h2⟩⟩
  · exact h z (by omega)
theorem Cov.far {A : Nat → List Nat} {lim K : Nat} {nx : Nat → Nat} {c : Nat} (h : Cov A lim K nx c) (hc : lim ≤ c) (hp : ¬ tP A c) : Cov A lim K nx (c + 1) := by
  intro z hz
  by_cases e : z = c
  · subst e
    exact ⟨hp, fun q => absurd q (by omega)⟩
  · exact h z (by omega)
theorem Cov.new {A : Nat → List Nat} {lim K : Nat} {nx : Nat → Nat} {c : Nat} (h : Cov A lim K nx c) (hp : ¬ tP A c) : Cov A lim (K + 1) (upN nx K c) (c + 1) := by
  intro z hz
  by_cases e : z = c
  · subst e
    refine ⟨hp, fun _ => ⟨K, by omega, ?_, ?_, ?_⟩⟩ <;> rw [show upN nx K z K = z from if_pos rfl]
    exact Nat.le_refl _
  · obtain ⟨a, b⟩ := h z (by omega)
    refine ⟨a, fun q => ?_⟩
    obtain ⟨i, hi, x1, x2, x3⟩ := b q
    exact ⟨i, by omega, by rw [show upN nx K c i = nx i from if_neg (by omega)]; exact ⟨x1, x2, x3⟩⟩
theorem tS_ok {S : Mem} {v o ls x : Nat} : stOk (tS (mixA (vA S v) (vA S o) ls) x) := runS_ok _ stOk_0
theorem p_X6_goOnFrom {S M : Mem} (hS : SOK S) {v o ls : Nat} (hMx : MxC S M v o ls) {K : Nat} {nx : Nat → Nat} {ν kp lim : Nat} (hkp : kp = 0 ∧ lim ≤ 8 * nx ν + 1 ∨ kp = 1 ∧ 8 * nx ν + 8 < 585) (hν : ν < K) (hN : NdI (mixA (vA S v) (vA S o) ls) M K nx (8 * nx ν + 1)) (hC : Cov (mixA (vA S v) (vA S o) ls) lim K nx (8 * nx ν + 1)) {Q : Int32 → Mem → Prop} (hno : ∀ M1 K1 nx1, GoI S v o ls lim M K nx (8 * nx ν + 1) (8 * (nx ν + 1) + 1) M1 K1 nx1 → Q (-1) M1) (hyes : ∀ M1 K1 nx1 e, e < 8 → GoI S v o ls lim M K nx (8 * nx ν + 1) (8 * nx ν + e + 1) M1 K1 nx1 → tP (mixA (vA S v) (vA S o) ls) (8 * nx ν + e + 1) → Q (nI e) M1) : wp_X6_goOnFrom (nI ν) (nI kp) M Q := by
  have hνx := (hN.2.2.2.1 ν hν)
  have hK5 := hN.1.2.1
  unfold wp_X6_goOnFrom
  refine pk_loop (fun f e (z : Mem × Nat × (Nat → Nat)) => w_X6_goOnFrom_3 Q f (nI ν) (nI kp) (nI e) z.1) (fun e z => GoI S v o ls lim M K nx (8 * nx ν + 1) (8 * nx ν + e + 1) z.1 z.2.1 z.2.2) 8 0 (M, K, nx) (by decide) ⟨fun _ _ => rfl, Nat.le_refl _, fun _ _ => rfl, fun i h1 h2 => absurd h1 (by dsimp only at h2; omega), hN, hC⟩ ?_ ?_
  · rintro f ⟨M1, K1, nx1⟩ h
    dsimp only at h ⊢
    unfold w_X6_goOnFrom_3
    refine ⟨fun _ => hno M1 K1 nx1 (by rw [show 8 * (nx ν + 1) + 1 = 8 * nx ν + 8 + 1 by omega]; exact h), fun z => absurd ((ni_le (a := 8) (by omega) (by omega)).mpr (Nat.le_refl _)) z⟩
  · rintro f e ⟨M1, K1, nx1⟩ he h ih
    dsimp only at h ⊢
    obtain ⟨hF, hKK, hnx, hb, hN1, hC1⟩ := id h
    have hν1 := hN1.2.2.2.1 ν (by omega)
    rw [hnx ν hν] at hν1
    have hMx1 := hMx.fn hF
    have hdν := tD_r (x := nx ν) (by omega)
    have hdc := tD_r (x := 8 * nx ν + e + 1) (by omega)
    have hce : -1 ≤ coin e ∧ coin e ≤ 1 := coin_r e
    have inν : vp_in (nI ν) 585 := (ni_in (by omega)).mpr (by omega)
    unfold w_X6_goOnFrom_3
    refine ⟨fun z => absurd ((ni_le (a := 8) (by omega) (by omega)).mp z) (by omega), fun _ => ⟨inν, ?_⟩⟩
    unfold wp_X6_stateOf
    rw [ni_cl (by omega), hν1.2.2.2, ky_st tS_ok]
    refine p_X4_after hS hMx1 tS_ok he (fun M2 hF2 => ⟨inν, ?_⟩)
    rw [hF2 37 (by decide), hν1.2.2.2]
    unfold wp_X6_drawerOf
    rw [ky_dr tS_ok (by omega)]
    refine p_coinsOf he ?_
    rintro _ rfl
    rw [iI_add (by omega) (by omega), ← tS_c he, ← tD_c he]
    unfold wp_X6_keyOf
    rw [ky_mk tS_ok (by omega)]
    have hT2 : HT M2 K1 := hN1.1.congr (fun k q => hF2 k (by revert q; revert k; decide))
    have hF2' : ∀ k, k ∉ fnk → M2 k = M k := fun k q => (hF2 k (fun z => q (by rw [z]; decide))).trans (hF k q)
    have hN2 : NdI (mixA (vA S v) (vA S o) ls) M2 K1 nx1 (8 * nx ν + e + 1) := hN1.congr (Nat.le_refl _) (fun k q => hF2 k (by revert q; revert k; decide))
    refine p_X6_slotOf hT2 _ (fun q i hq hi h40 h37 => ?_) (fun e' he' h0 hj hnew => ?_)
    · refine ⟨(ni_in (by omega)).mpr hq, fun z => ?_, fun _ => ?_⟩
      · rw [ni_cl (by omega), h40] at z
        have hK1 := hT2.2.1
        exact absurd ((ni_eq (b := 0) (by omega) (by omega)).mp z) (by omega)
      · obtain ⟨_, i5, ic, ik⟩ := hN2.2.2.2.1 i hi
        have hdi := tD_r (x := nx1 i) (by omega)
        rw [ik] at h37
        obtain ⟨q1, q2⟩ := ky_inj tS_ok tS_ok (by omega) (by omega) h37
        unfold w_X6_goOnFrom_103
        dsimp only
        rw [nI_1]
        exact ih (M2, K1, nx1) ⟨hF2', hKK, hnx, hb, hN2.congr (by omega) (fun _ _ => rfl), hC1.tw hi ic q1 q2⟩
    · have hq' : (hsh (kyI (tS (mixA (vA S v) (vA S o) ls) (8 * nx ν + e + 1)) (tD (8 * nx ν + e + 1))) + e') % 1024 < 1024 := Nat.mod_lt _ (by decide)
      refine ⟨(ni_in (by omega)).mpr hq', fun _ => ?_, fun z => absurd (by rw [ni_cl (by omega)]; exact h0) z⟩
      have hMx2 := hMx.fn hF2'
      refine p_X6_partsByBalance hS hMx2 tS_ok (by omega) (fun M3 hF3 hp => ?_) (fun M3 hF3 hp => ?_)
      · have hF3' : ∀ k, k ∉ fnk → M3 k = M k := fun k q => (hF3 k (fun z => q (by rw [z]; decide))).trans (hF2' k q)
        have hN3 : NdI (mixA (vA S v) (vA S o) ls) M3 K1 nx1 (8 * nx ν + e + 1) := hN2.congr (Nat.le_refl _) (fun k q => hF3 k (by revert q; revert k; decide))
        refine ⟨fun _ => ⟨fun z => ?_, fun z => ?_⟩, fun z => absurd rfl z⟩
        · have : kp = 0 := (ni_eq (b := 0) (by omega) (by omega)).mp z
          unfold w_X6_goOnFrom_103
          dsimp only
          rw [nI_1]
          exact ih (M3, K1, nx1) ⟨hF3', hKK, hnx, hb, hN3.congr (by omega) (fun _ _ => rfl), hC1.far (by omega) hp⟩
        · have : kp = 1 := by
            rcases hkp with c | c
            · exact absurd (by rw [c.1]; rfl) z
            · exact c.1
          rw [← hF3 40 (by decide)] at h0 hj
          obtain ⟨hK1, hN4⟩ := hN3.keep (ν := ν) (ev := e) (by omega) (by omega) he (by rw [hnx ν hν]) he' h0 hj
          refine p_X6_keep hN3.1.1 hK1 hq' ?_
          unfold w_X6_goOnFrom_103
          dsimp only
          rw [nI_1]
          refine ih (_, K1 + 1, upN nx1 K1 (8 * nx ν + e + 1)) ⟨fun k q => (kpM_ne (fun z => q (by clear q; revert z; revert k; decide))).trans (hF3' k q), by dsimp only; omega, fun i hi => ?_, fun i hi hi2 => ?_, hN4, hC1.new hp⟩
          · dsimp only; rw [show upN nx1 K1 (8 * nx ν + e + 1) i = nx1 i from if_neg (by omega)]; exact hnx i hi
          · dsimp only at hi2 ⊢
            by_cases ei : i = K1
            · rw [show upN nx1 K1 (8 * nx ν + e + 1) i = _ from if_pos ei]; omega
            · rw [show upN nx1 K1 (8 * nx ν + e + 1) i = nx1 i from if_neg ei]; exact hb i hi (by omega)
      · refine ⟨fun z => absurd z (by decide), fun _ => hyes M3 K1 nx1 e he ⟨fun k q => (hF3 k (fun z => q (by rw [z]; decide))).trans (hF2' k q), hKK, hnx, hb, hN2.congr (Nat.le_refl _) (fun k q => hF3 k (by revert q; revert k; decide)), hC1⟩ hp⟩
theorem gd_l {l r : List Nat} {j : Nat} (h : j < l.length) : (l ++ r).getD j 0 = l.getD j 0 := by
  rw [List.getD_eq_getElem?_getD, List.getD_eq_getElem?_getD, List.getElem?_append_left h]
theorem gd_r {l r : List Nat} {j : Nat} (h : l.length ≤ j) : (l ++ r).getD j 0 = r.getD (j - l.length) 0 := by
  rw [List.getD_eq_getElem?_getD, List.getD_eq_getElem?_getD, List.getElem?_append_right h]
theorem p_tell27 {A : Nat → List Nat} {K : Nat} {nx : Nat → Nat} {c : Nat} {Q : Mem → Prop} : ∀ (m i : Nat) (M : Mem), m ≤ 4 → NdI A M K nx c → i < K → (rwx (nx i)).length = m → (∀ M1, (∀ k, k ≠ 41 → M1 k = M k) → (∀ j, j < m → M1 41 0 j = nI ((rwx (nx i)).getD j 0)) → (∀ j, m ≤ j → M1 41 0 j = M 41 0 j) → Q M1) → w_X6_tellRow_27 Q (m + 1) (nI i) (nI m - 1) M
  | 0, i, M, _, hN, hi, hl, hQ => by
    unfold w_X6_tellRow_27
    exact ⟨fun _ => hQ M (fun _ _ => rfl) (fun j hj => absurd hj (Nat.not_lt_zero _)) (fun _ _ => rfl), fun z => absurd (by decide) z⟩
  | m + 1, i, M, hm, hN, hi, hl, hQ => by
    have hi0 : 0 < i := by
      apply Nat.pos_of_ne_zero
      intro z
      subst z
      rw [hN.2.2.1] at hl
      cases hl
    obtain ⟨p, e, hp, he, m38, m39, ex⟩ := hN.2.2.2.2.2 i hi0 hi
    have hK5 := hN.1.2.1
    have ini : vp_in (nI i) 585 := (ni_in (by omega)).mpr (by omega)
    rw [ex, rwx_c he] at hl hQ
    have hlp : (rwx (nx p)).length = m := by simpa using hl
    rw [nI_pred]
    unfold w_X6_tellRow_27
    refine ⟨fun z => absurd z (ni_nneg (by omega)), fun _ => ⟨ini, (ni_in (by omega)).mpr (by omega), ?_⟩⟩
    rintro _ rfl
    refine ⟨ini, ?_⟩
    rintro _ rfl
    have em : nI m + (-1) = nI m - 1 := by grind
    rw [ni_cl (by omega), ni_cl (by omega), mst_ne (by decide), m38, m39, em]
    refine p_tell27 m p _ (by omega) (hN.congr (M' := mst M 41 0 m (nI e)) (Nat.le_refl _) (fun k q => mst_ne (fun z => absurd (z ▸ q) (by decide)))) (by omega) hlp (fun M1 h1 h2 h3 => hQ M1 (fun k q => (h1 k q).trans (mst_ne q)) (fun j hj => ?_) (fun j hj => ?_))
    · by_cases ej : j = m
      · subst ej
        rw [h3 j (Nat.le_refl _), mst_eq]
        rw [gd_r (by omega), hlp, Nat.sub_self]; rfl
      · rw [h2 j (by omega), gd_l (by omega)]
    · rw [h3 j (by omega), mst_k, if_neg (by omega)]
theorem p_X6_tellRow {A : Nat → List Nat} {M : Mem} {K : Nat} {nx : Nat → Nat} {c ν e L : Nat} (hN : NdI A M K nx c) (hν : ν < K) (he : e < 8) (hl : (rwx (nx ν)).length = L) (hL : L ≤ 3) {Q : Mem → Prop} (hQ : ∀ M1, (∀ k, k ≠ 41 → M1 k = M k) → (∀ j, j < L + 2 → M1 41 0 j = nI ((rwx (8 * nx ν + e + 1) ++ [7]).getD j 0)) → Q M1) : wp_X6_tellRow (nI ν) (nI e) (nI (L + 2)) M Q := by
  unfold wp_X6_tellRow
  have a1 : nI (L + 2) - 1 = nI (L + 1) := nI_pred _
  have a2 : nI (L + 2) - 2 = nI L := by
    have := ni_sub (a := L + 2) (b := 2) (by omega)
    rw [show L + 2 - 2 = L by omega] at this; exact this
  have a3 : nI (L + 2) - 3 = nI L - 1 := by rw [← a2]; grind
  rw [a1, a2, a3]
  refine ⟨(ni_in (by omega)).mpr (by omega), ?_⟩
  rintro _ rfl
  refine ⟨(ni_in (by omega)).mpr (by omega), ?_⟩
  rintro _ rfl _ rfl
  rw [ni_cl (by omega), ni_cl (by omega)]
  refine ⟨L + 1, p_tell27 L ν _ (by omega) (hN.congr (M' := mst (mst M 41 0 (L + 1) 7) 41 0 L (nI e)) (Nat.le_refl _) (fun k q => ?_)) hν hl (fun M1 h1 h2 h3 => hQ M1 (fun k q => ?_) (fun j hj => ?_))⟩
  · have : k ≠ 41 := fun z => by subst z; revert q; decide
    rw [mst_ne this, mst_ne this]
  · rw [h1 k q, mst_ne q, mst_ne q]
  · rw [rwx_c he]
    by_cases j1 : j = L + 1
    · subst j1
      rw [h3 _ (by omega), mst_k, if_neg (by omega), mst_eq, gd_r (by simp; omega)]
      rw [show L + 1 - (rwx (nx ν) ++ [e]).length = 0 by simp; omega]; rfl
    · rw [gd_l (by simp; omega)]
      by_cases j2 : j = L
      · subst j2
        rw [h3 _ (by omega), mst_eq, gd_r (by omega), hl, Nat.sub_self]; rfl
      · rw [h2 j (by omega), gd_l (by omega)]
