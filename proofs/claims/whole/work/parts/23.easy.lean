/-! TYPE, WIPE -/
def okV (v : Int32) : Prop := 0 ≤ v ∧ v ≤ 3
def a_type (S : Mem) (v b : Int32) : Int32 := if (0 ≤ v ∧ v ≤ 3) ∧ (0 ≤ b ∧ b ≤ 255) then (if vln S v.toNatClampNeg = 120 then -4 else nI (vln S v.toNatClampNeg + 1)) else -2
def n_type (S : Mem) (v b : Int32) : Mem := if ((0 ≤ v ∧ v ≤ 3) ∧ (0 ≤ b ∧ b ≤ 255)) ∧ ¬ vln S v.toNatClampNeg = 120 then mst (mst S 43 v.toNatClampNeg (vln S v.toNatClampNeg) b) 606 v.toNatClampNeg 0 (nI (vln S v.toNatClampNeg + 1)) else S
theorem SOK.len {S : Mem} (h : SOK S) {v : Nat} (hv : v < 4) : vln S v ≤ 120 ∧ S 606 v 0 = nI (vln S v) := by
  obtain ⟨n, hn, e⟩ := (h.1 v hv).1
  have : vln S v = n := by unfold vln; rw [e, ni_cl (by omega)]
  rw [this]; exact ⟨hn, e⟩
theorem SOK.ncs {S : Mem} (h : SOK S) : nc S ≤ 12 ∧ S 660 0 0 = nI (nc S) := by
  obtain ⟨n, hn, e⟩ := h.2.1
  have : nc S = n := by unfold nc; rw [e, ni_cl (by omega)]
  rw [this]; exact ⟨hn, e⟩
theorem EsC.st {S M : Mem} (h : EsC S M) {k j i : Nat} {v : Int32} : EsC (mst S k j i v) (mst M k j i v) := fun q hq => by
  by_cases e : q = k
  · subst e; funext a b; rw [mst_k, mst_k, h q hq]
  · rw [mst_ne e, mst_ne e]; exact h q hq
theorem EsC.skip {S M : Mem} (h : EsC S M) {k j i : Nat} {v : Int32} (hk : k ∉ esk) : EsC S (mst M k j i v) := fun q hq => by
  rw [mst_ne (fun e : q = k => hk (e ▸ hq))]; exact h q hq
/-- a VERSION's text changes: what was found by it is forgotten -/
theorem InvC.text {t : Nat} {S S' M M' : Mem} {v k : Nat} (h : InvC t S M) (ht : t < 512) (hv : v < 4) (hk : k ≤ t) (hrev : M 608 v 0 = nI k) (hE : EsC S' M')
    (hS : ∀ q, q ≠ 43 → q ≠ 606 → S' q = S q) (hSv : ∀ w, w ≠ v → S' 43 w = S 43 w ∧ S' 606 w = S 606 w)
    (hM : ∀ q, q ∈ [607, 46, 47, 48, 45, 44, 203, 212, 21, 210, 211] → M' q = M q) (h609 : M' 609 v 0 = 0 ∧ ∀ w, w ≠ v → M' 609 w = M 609 w) (h608 : M' 608 v 0 = nI (k + 1) ∧ ∀ w, w ≠ v → M' 608 w = M 608 w) (h662 : M' 662 0 0 = -1) : InvC (t + 1) S' M' := by
  obtain ⟨h1, h2, h3, h4⟩ := h
  have hnc : nc S' = nc S := by unfold nc; rw [hS 660 (by decide) (by decide)]
  refine ⟨hE, fun w hw => ?_, fun c hc => ?_, Or.inl h662⟩
  · by_cases e : w = v
    · subst e
      exact ⟨⟨Or.inl h609.1, k + 1, by omega, h608.1⟩, k + 1, by omega, h608.1⟩
    · obtain ⟨q1, q2⟩ := h2 w hw
      obtain ⟨k', hk', e'⟩ := q2
      refine ⟨?_, k', by omega, by rw [h608.2 w e]; exact e'⟩
      have e3 := hM 607 (by decide)
      have e4 := hM 46 (by decide)
      have e5 := hM 47 (by decide)
      have e6 := hM 48 (by decide)
      have e7 := hM 45 (by decide)
      have e8 := hM 44 (by decide)
      simp only [VC, VCok, vln, h609.2 w e, h608.2 w e, e3, e4, e5, e6, e7, e8, (hSv w e).1, (hSv w e).2] at q1 ⊢
      exact q1
  · rw [hnc] at hc
    have hj := h3 c hc
    have e200 : S' 200 = S 200 := hS 200 (by decide) (by decide)
    have hcv : cvr S' c = cvr S c := by unfold cvr; rw [e200]
    have hsc : SCeq S S' c := ⟨by rw [e200], by rw [hS 202 (by decide) (by decide)], by rw [hS 20 (by decide) (by decide)], by rw [hS 204 (by decide) (by decide)], by rw [hS 205 (by decide) (by decide)]⟩
    by_cases e : cvr S c = v
    · refine ⟨by rw [hM 203 (by decide), clost_congr hsc]; exact hj.1, ?_⟩
      rw [hM 212 (by decide)]
      rcases hj.2 with q | ⟨⟨a, b, hab, hb5, ea, eb⟩, -⟩
      · exact Or.inl q
      · rw [e, hrev] at eb
        have hbk : b = k := ((ni_eq (by omega) (by omega)).mp eb).symm
        refine Or.inr ⟨⟨a, k + 1, by omega, by omega, ea, by rw [hcv, e]; exact h608.1⟩, fun q => ?_⟩
        rw [hcv, e, ea, h608.1] at q
        have := (ni_eq (by omega) (by omega)).mp q
        omega
    · have e608 : M' 608 (cvr S c) = M 608 (cvr S c) := h608.2 _ e
      have hv43 : vA S' (cvr S c) = vA S (cvr S c) := by unfold vA vln; rw [(hSv _ e).1, (hSv _ e).2]
      have hcF : causeF S' c = causeF S c := by
        funext f
        unfold causeF cln
        rw [hcv, hv43, hsc.2.1, hsc.2.2.1, hsc.2.2.2.1, hsc.2.2.2.2]
      have hs : settl S' c = settl S c := by funext rd; unfold settl; rw [clost_congr hsc, hcF]
      have e1 := hM 21 (by decide)
      have e2 := hM 210 (by decide)
      have e3 := hM 211 (by decide)
      have e4 := hM 203 (by decide)
      have e5 := hM 212 (by decide)
      simp only [JC, JCok, talCa, allCa, pagCa, clost_congr hsc, hcv, hcF, hs, e608, e1, e2, e3, e4, e5] at hj ⊢
      exact hj
theorem C_type {t : Nat} {S M : Mem} (hS : SOK S) (hI : InvC t S M) (ht : t < 512) (v b : Int32) {Q : Int32 → Mem → Prop} (hQ : ∀ M1, InvC (t + 1) (n_type S v b) M1 → FrC M M1 → Q (a_type S v b) M1) : wp_X9_type v b M Q := by
  unfold wp_X9_type
  rw [e_X9_versionAt]
  unfold a_type n_type at hQ
  rcases at4_cases v with ⟨h1, h2⟩ | ⟨k, hk, rfl, h1, h2⟩
  · rw [h1]
    simp only [h2, false_and, if_false] at hQ
    exact ⟨fun _ => hQ M hI.more FrC.rf, fun j e => by cases e⟩
  · rw [h1]
    refine ⟨fun e => by (cases e), fun j e => ?_⟩
    cases e
    rw [ni_cl (by omega)] at hQ
    by_cases hb : 0 ≤ b ∧ b ≤ 255
    · simp only [h2, hb, true_and, and_true, if_true] at hQ
      refine ⟨fun c => absurd c (by grind), fun _ => ⟨fun _ => ?_, fun c => absurd hb.2 c⟩⟩
      intro M6 e6
      obtain ⟨hn, he⟩ := hS.len hk
      have e606 : M6 606 k 0 = nI (vln S k) := by rw [e6, mst_ne (by decide), hI.1.k 606]; exact he
      obtain ⟨kr, hkr, erev⟩ := (hI.2.1 k hk).2
      unfold wp_X8_append
      rw [e606]
      by_cases hf : vln S k = 120
      · simp only [hf, not_true, and_false, if_false, if_true] at hQ ⊢
        refine ⟨fun c => absurd c (by decide), fun _ => hQ M6 ?_ (by rw [e6]; exact FrC.st (nrefk (by decide)))⟩
        have := hI.more
        refine ⟨fun q hq => ?_, fun w hw => ⟨(this.2.1 w hw).1.congr rfl rfl (fun q hq => ?_), ?_⟩, fun c hc => (this.2.2.1 c hc).congr ⟨rfl, rfl⟩ ⟨rfl, rfl, rfl, rfl, rfl⟩ (fun q hq => ?_) ?_, Or.inl (by rw [e6, mst_eq])⟩
        · rw [e6, mst_ne (by revert hq; revert q; decide)]; exact this.1 q hq
        · rw [e6, mst_ne (by revert hq; revert q; decide)]
        · rw [e6, mst_ne (by decide)]; exact (this.2.1 w hw).2
        · rw [e6, mst_ne (by revert hq; revert q; decide)]
        · rw [e6, mst_ne (by decide)]
      · have hlt : vln S k < 120 := by omega
        simp only [hf, not_false_eq_true, and_true, if_false, if_true, forall_eq] at hQ ⊢
        refine ⟨fun _ => ⟨(ni_in (by omega)).mpr hlt, ?_⟩, fun c => absurd ((ni_lt (b := 120) (by omega) (by decide)).mpr hlt) c⟩
        rw [ni_cl (by omega)]
        have x2 : M6 608 k 0 + 1 = nI (kr + 1) := by rw [e6, mst_ne (by decide), erev]; exact nI_1 _
        simp only [mst_ne, mst_k, ne_eq, Nat.reduceEqDiff, not_false_eq_true, and_self, if_true, e606, x2, nI_1]
        subst e6
        refine hQ _ (hI.text (v := k) ht hk hkr erev (((((hI.1.skip (k := 662) (by decide)).st).st).skip (k := 609) (by decide)).skip (k := 608) (by decide)) (fun q h1 h2 => by rw [mst_ne h2, mst_ne h1]) (fun w hw => ?_) (fun q hq => ?_) ⟨?_, fun w hw => ?_⟩ ⟨?_, fun w hw => ?_⟩ ?_) ?_
        · constructor
          · funext i; simp [mst_ne, mst_k, hw]
          · funext i; simp [mst_ne, mst_k, hw]
        · revert hq; revert q; simp [mst_ne]
        · simp [mst_ne, mst_k]
        · funext i; simp [mst_ne, mst_k, hw]
        · simp [mst_ne, mst_k]
        · funext i; simp [mst_ne, mst_k, hw]
        · simp [mst_ne, mst_k]
        · exact (((((FrC.st (nrefk (by decide)))).tr (FrC.st (nrefk (by decide)))).tr (FrC.st (nrefk (by decide)))).tr (FrC.st (nrefk (by decide)))).tr (FrC.st (nrefk (by decide)))
    · simp only [hb, and_false, false_and, if_false] at hQ
      refine ⟨fun c => hQ M hI.more FrC.rf, fun c => ⟨fun d => absurd ⟨by grind, d⟩ hb, fun _ => hQ M hI.more FrC.rf⟩⟩
