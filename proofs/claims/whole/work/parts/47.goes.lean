/-! THE REFERENCE: A STATE BEHIND AN EVENT -/
def MxR (S M : Mem) (v o ls : Nat) : Prop := (v < 4 ∧ o < 4 ∧ ls < 65536) ∧ (M 716 0 0 = nI v ∧ M 717 0 0 = nI o ∧ M 718 0 0 = nI ls) ∧ VRok (S 43 v) (vln S v) M v ∧ VRok (S 43 o) (vln S o) M o
theorem MxR.keep {S M M' : Mem} {v o ls : Nat} (h : MxR S M v o ls) (hk : ∀ k, k ∈ [716, 717, 718, 56, 57, 58, 59, 60, 61] → M' k = M k) : MxR S M' v o ls := by
  have e1 := hk 716 (by decide)
  have e2 := hk 717 (by decide)
  have e3 := hk 718 (by decide)
  have e4 := hk 56 (by decide)
  have e5 := hk 57 (by decide)
  have e6 := hk 58 (by decide)
  have e7 := hk 59 (by decide)
  have e8 := hk 60 (by decide)
  have e9 := hk 61 (by decide)
  simp only [MxR, VRok, e1, e2, e3, e4, e5, e6, e7, e8, e9] at h ⊢
  exact h
def StR (M : Mem) (s : STt) (d : Int) : Prop := RgM 62 M s ∧ M 714 0 0 = nI s.2.2.2 ∧ M 715 0 0 = iI d
theorem p_sets {M : Mem} {r : Nat} {z : Int} (hr : r < 3) (hz : -1000 ≤ z ∧ z ≤ 1000) {Q : Mem → Prop} (hQ : Q (mst M 62 0 r (iI (clI z)))) : wp_X10_sets (nI r) (iI z) M Q := by
  unfold wp_X10_sets w_X10_sets_28
  simp only [forall_eq]
  rw [ni_cl (by omega), i_m99, i_99, iI_le (by omega) (by omega), iI_le (by omega) (by omega)]
  have hin : vp_in (nI r) 3 := (ni_in (by omega)).mpr (by omega)
  unfold clI at hQ
  refine ⟨fun h => ⟨fun g => ⟨hin, ?_⟩, fun g => ⟨hin, ?_⟩⟩, fun h => ⟨hin, ?_⟩⟩
  · rw [if_neg (by omega), if_neg (by omega)] at hQ; exact hQ
  · rw [if_neg (by omega), if_pos (by omega)] at hQ; exact hQ
  · rw [if_pos (by omega)] at hQ; exact hQ
def gsk : List Nat := [62, 714, 715]
theorem bt_10r : ∀ w, w < 3 → nI (10 + w) - 10 = nI w := by decide +kernel
/-- one ACT of the reference -/
theorem p_goes1 {M : Mem} {s : STt} {d : Int} {c i : Nat} (hs : stOk s) (hR : StR M s d) (hc : cdok c) (hi : i < 240) (m1 : M 59 0 i = onC c) (m2 : M 60 0 i = sgC c) (m3 : M 61 0 i = byC c) {Q : Mem → Prop} {K : Int32 → Int32 → Mem → Prop} {x5 : Int32} (hK : ∀ M1, StR M1 (act1 s c) d → (∀ k, k ∉ gsk → M1 k = M k) → K x5 (nI (i + 1)) M1) : (vp_in (nI i) 240 ∧ (((3 ≤ (M 59 0 (nI i).toNatClampNeg)) → (w_X10_goes_146 Q K x5 (nI i) M)) ∧ ((¬ 3 ≤ (M 59 0 (nI i).toNatClampNeg)) → (vp_in (nI i) 240 ∧ ((((M 61 0 (nI i).toNatClampNeg) ≤ 9) → (w_X10_goes_146 Q K x5 (nI i) M)) ∧ ((¬ (M 61 0 (nI i).toNatClampNeg) ≤ 9) → (vp_in (nI i) 240 ∧ (vp_in ((M 61 0 (nI i).toNatClampNeg) - 10) 3 ∧ (w_X10_goes_153 Q K x5 (nI i) (M 62 0 ((M 61 0 (nI i).toNatClampNeg) - 10).toNatClampNeg) M))))))))) := by
  have hin : vp_in (nI i) 240 := (ni_in (by omega)).mpr hi
  obtain ⟨r1, r2, r3⟩ := hR
  rcases cdok_e hc with ⟨r, g, w, hr, hg, hw, rfl⟩ | ⟨m, hm, rfl⟩
  · obtain ⟨o1, o2, o3⟩ := onC_rs r hr g hg w hw
    rw [o1] at m1
    rw [o2] at m3
    rw [o3] at m2
    rw [act1_r hr hg hw] at hK
    have ho := hs.1 r hr
    have hv := avl_r hs hw
    have fin : ∀ z, z = clI (if g = 0 then rgI s r + avl s w else if g = 1 then rgI s r - avl s w else avl s w) → K x5 (nI i + 1) (mst M 62 0 r (iI z)) := by
      rintro _ rfl
      rw [nI_1]
      exact hK _ ⟨r1.st hr, by rw [mst_ne (by decide), rgS_m hr]; exact r2, by rw [mst_ne (by decide)]; exact r3⟩ (fun k hk => mst_ne (fun e => hk (by subst e; decide)))
    have main : ∀ y, y = iI (avl s w) → w_X10_goes_153 Q K x5 (nI i) y M := by
      rintro _ rfl
      unfold w_X10_goes_153 w_X10_goes_236 w_X10_goes_239
      simp only [forall_eq]
      rw [ni_cl (by omega), m1, m2, ni_cl (by omega), r1 r hr, iI_add (by omega) (by omega), iI_sub (by omega) (by omega)]
      refine ⟨hin, fun z => absurd ((ni_eq (b := 3) (by omega) (by omega)).mp z) (by omega), fun _ => ⟨hin, (ni_in (by omega)).mpr hr, hin, hin, fun z => ?_, fun z => ⟨hin, fun z2 => ?_, fun z2 => ?_⟩⟩⟩
      · have e0 : g ≠ 0 := fun q => by rw [if_pos q] at z; exact absurd z (by decide)
        have e1 : g ≠ 1 := fun q => by rw [if_neg e0, if_pos q] at z; exact absurd z (by decide)
        exact p_sets hr (by omega) (fin _ (by rw [if_neg e0, if_neg e1]))
      · have e0 : g = 0 := by
          apply Classical.byContradiction
          intro q
          rw [if_neg q] at z2
          by_cases q2 : g = 1
          · rw [if_pos q2] at z2; exact absurd z2 (by decide)
          · rw [if_neg q2] at z2; exact absurd z2 (by decide)
        exact p_sets hr (by omega) (fin _ (by rw [if_pos e0]))
      · have e0 : g ≠ 0 := fun q => by rw [if_pos q] at z2; exact z2 rfl
        have e1 : g = 1 := by
          apply Classical.byContradiction
          intro q
          rw [if_neg e0, if_neg q] at z; exact z rfl
        exact p_sets hr (by omega) (fin _ (by rw [if_neg e0, if_pos e1]))
    rw [ni_cl (by omega), m1, m3]
    refine ⟨hin, fun z => absurd ((ni_le (a := 3) (by omega) (by omega)).mp z) (by omega), fun _ => ⟨hin, fun z => ?_, fun z => ?_⟩⟩
    · have h9 := (ni_le (b := 9) (by omega) (by omega)).mp z
      unfold w_X10_goes_146
      rw [ni_cl (by omega), m3]
      refine ⟨hin, main _ ?_⟩
      unfold avl; rw [if_neg (by omega)]; exact iI_n (by omega)
    · have h10 : 10 ≤ w := by
        apply Classical.byContradiction
        intro q
        exact z ((ni_le (b := 9) (by omega) (by omega)).mpr (by omega))
      have := bt_10r (w - 10) (by omega)
      rw [show 10 + (w - 10) = w by omega] at this
      rw [this, ni_cl (by omega), r1 (w - 10) (by omega)]
      refine ⟨hin, (ni_in (by omega)).mpr (by omega), main _ ?_⟩
      unfold avl; rw [if_pos h10]
  · have o1 : ∀ m, m < 2 → onC (192 + m) = 3 ∧ byC (192 + m) = nI m := by decide +kernel
    rw [(o1 m hm).1] at m1
    rw [(o1 m hm).2] at m3
    rw [act1_m hm] at hK
    rw [ni_cl (by omega), m1]
    refine ⟨hin, fun _ => ?_, fun z => absurd (Int32.le_refl _) z⟩
    unfold w_X10_goes_146 w_X10_goes_153 w_X10_goes_239
    simp only [forall_eq]
    rw [ni_cl (by omega), m1, m3]
    refine ⟨hin, hin, fun _ => ?_, fun z => absurd rfl z⟩
    rw [nI_1]
    refine hK _ ⟨fun k hk => ?_, by rw [mst_eq], by rw [mst_ne (by decide)]; exact r3⟩ (fun k hk => mst_ne (fun e => hk (by subst e; decide)))
    rw [mst_ne (by decide)]
    have : k = 0 ∨ k = 1 ∨ k = 2 := by omega
    rcases this with rfl | rfl | rfl
    · exact r1 0 hk
    · exact r1 1 hk
    · exact r1 2 hk
theorem p_goes98 {M : Mem} {t : Nat → Int32} {n w l : Nat} {s : STt} {d : Int} (hn : n ≤ 120) (hw : w < 4) (hV : VRok t n M w) (hs : stOk s) {M0 : Mem} (hR : StR M0 s d) (h0 : ∀ k, k ∉ gsk → M0 k = M k) {Q : Mem → Prop} (hQ : ∀ M1, StR M1 (actsS s (lact t n l)) d → (∀ k, k ∉ gsk → M1 k = M k) → Q M1) : ∃ f, w_X10_goes_98 Q f (nI (60 * w + pFi (prs t n) l + pCn (prs t n) l)) (nI (60 * w + pFi (prs t n) l)) M0 := by
  obtain ⟨pv, cv⟩ := prs_ok (t := t) (n := n)
  have pvl := pv l
  have uv := prs_u (t := t) hn
  have hla : lact t n l = cdl (fun k => pCd (prs t n) (pFi (prs t n) l + k)) (pCn (prs t n) l) := rfl
  rw [hla] at hQ
  refine pk_loop (fun f j (z : STt × Mem) => w_X10_goes_98 Q f (nI (60 * w + pFi (prs t n) l + pCn (prs t n) l)) (nI (60 * w + pFi (prs t n) l + j)) z.2) (fun j z => z.1 = actsS s (cdl (fun k => pCd (prs t n) (pFi (prs t n) l + k)) j) ∧ StR z.2 z.1 d ∧ stOk z.1 ∧ ∀ k, k ∉ gsk → z.2 k = M k) (pCn (prs t n) l) 0 (s, M0) (Nat.zero_le _) ⟨rfl, hR, hs, h0⟩ ?_ ?_
  · rintro f ⟨s1, M1⟩ ⟨e, hR1, hs1, hF⟩
    dsimp only at e hR1 hs1 hF ⊢
    unfold w_X10_goes_98
    refine ⟨fun _ => ?_, fun z => absurd ((ni_le (by omega) (by omega)).mpr (Nat.le_refl _)) z⟩
    rw [e] at hR1
    exact hQ M1 hR1 hF
  · rintro f j ⟨s1, M1⟩ hj ⟨e, hR1, hs1, hF⟩ ih
    dsimp only at e hR1 hs1 hF ⊢
    have hc := cv (pFi (prs t n) l + j) (by omega)
    obtain ⟨c1, c2, c3⟩ := hV.2.2 (pFi (prs t n) l + j) (by omega)
    unfold w_X10_goes_98
    refine ⟨fun z => absurd ((ni_le (by omega) (by omega)).mp z) (by omega), fun _ => ?_⟩
    refine p_goes1 (Q := Q) (c := pCd (prs t n) (pFi (prs t n) l + j)) hs1 hR1 hc (by omega) ?_ ?_ ?_ ?_
    · rw [hF 59 (by decide), Nat.add_assoc]; exact c1
    · rw [hF 60 (by decide), Nat.add_assoc]; exact c2
    · rw [hF 61 (by decide), Nat.add_assoc]; exact c3
    · intro M2 hR2 hF2
      exact ih (act1 s1 (pCd (prs t n) (pFi (prs t n) l + j)), M2) ⟨by dsimp only; rw [cdl_s, actsS_a, ← e], hR2, stOk_a hs1 hc, fun k hk => (hF2 k hk).trans (hF k hk)⟩
theorem coin_r (e : Nat) : -1 ≤ coin e ∧ coin e ≤ 1 := by unfold coin; split <;> (try split) <;> omega
theorem p_goes32 {M : Mem} {t : Nat → Int32} {n w l e : Nat} {s : STt} {d : Int} (hn : n ≤ 120) (hw : w < 4) (hl : l < 16) (he : e < 8) (hV : VRok t n M w) (hs : stOk s) (hR : StR M s d) (hd : -1000 ≤ d ∧ d ≤ 1000) {Q : Mem → Prop} (hQ : ∀ M1, StR M1 (actsS s (lact t n l)) (d + coin e) → (∀ k, k ∉ gsk → M1 k = M k) → Q M1) : w_X10_goes_32 Q (nI e) (nI l) (nI w) M := by
  obtain ⟨pv, cv⟩ := prs_ok (t := t) (n := n)
  have pvl := pv l
  have uv := prs_u (t := t) hn
  have hx : 16 * nI w + nI l = nI (16 * w + l) := by rw [ni_lit 16, pk_mul, nI_add]
  have inl : vp_in (nI (16 * w + l)) 64 := (ni_in (by omega)).mpr (by omega)
  obtain ⟨m58, m57⟩ := hV.2.1 l hl
  have key : ∀ y, y = iI (coin e) → ∀ a4, a4 = 60 * nI w + M 57 0 (16 * w + l) → w_X10_goes_90 Q a4 (a4 + nI (pCn (prs t n) l)) y (M 715 0 0) M := by
    rintro _ rfl _ rfl
    have hc := coin_r e
    unfold w_X10_goes_90
    rintro _ rfl
    rw [hR.2.2, iI_add (by omega) (by omega)]
    have hR1 : StR (mst M 715 0 0 (iI (d + coin e))) s (d + coin e) := ⟨fun k hk => by rw [mst_ne (by decide)]; exact hR.1 k hk, by rw [mst_ne (by decide)]; exact hR.2.1, by rw [mst_eq]⟩
    have hF1 : ∀ k, k ∉ gsk → mst M 715 0 0 (iI (d + coin e)) k = M k := fun k hk => mst_ne (fun e => hk (by subst e; decide))
    rcases Nat.eq_zero_or_pos (pCn (prs t n) l) with z | z
    · refine ⟨1, ?_⟩
      unfold w_X10_goes_98
      rw [z, show nI 0 = (0 : Int32) from rfl, Int32.add_zero]
      refine ⟨fun _ => ?_, fun q => absurd (Int32.le_refl _) q⟩
      have : lact t n l = [] := by unfold lact; rw [z]; rfl
      rw [this] at hQ
      exact hQ _ hR1 hF1
    · rw [m57 z, ni_lit 60, pk_mul, nI_add, nI_add]
      exact p_goes98 hn hw hV hs hR1 hF1 hQ
  unfold w_X10_goes_32
  rw [hx, ni_cl (by omega), m58]
  refine ⟨inl, ?_⟩
  rintro _ rfl
  refine ⟨inl, ?_⟩
  rintro _ rfl
  refine ⟨fun z => key _ ?_ _ rfl, fun z => ⟨fun z2 => key _ ?_ _ rfl, fun z2 => key _ ?_ _ rfl⟩⟩
  · have := (ni_eq (b := 0) (by omega) (by omega)).mp z
    subst this; decide
  · have := (ni_eq (b := 1) (by omega) (by omega)).mp z2
    subst this; decide
  · have e0 : e ≠ 0 := fun q => z (by rw [q]; rfl)
    have e1 : e ≠ 1 := fun q => z2 (by rw [q]; rfl)
    unfold coin; rw [if_neg e0, if_neg e1]; decide
theorem p_X10_goes {S M : Mem} (hS : SOK S) {v o ls e : Nat} {s : STt} {d : Int} (hm : MxR S M v o ls) (hs : stOk s) (he : e < 8) (hR : StR M s d) (hd : -1000 ≤ d ∧ d ≤ 1000) {Q : Mem → Prop} (hQ : ∀ M1, StR M1 (stp (mixA (vA S v) (vA S o) ls) s e) (d + coin e) → (∀ k, k ∉ gsk → M1 k = M k) → Q M1) : wp_X10_goes (nI e) M Q := by
  obtain ⟨⟨hv, ho, hls⟩, ⟨m1, m2, m3⟩, hV, hO⟩ := hm
  have h2 := hs.2
  unfold wp_X10_goes
  rintro _ rfl
  have hx : 2 * nI e + nI s.2.2.2 = nI (2 * e + s.2.2.2) := by rw [ni_lit 2, pk_mul, nI_add]
  rw [hR.2.1, hx, m1, m2, m3, sh_r (by omega) (by omega), an_1, tb1]
  rw [stp_eq] at hQ
  refine ⟨fun z => ?_, fun z => ?_⟩
  · rw [if_pos z] at hQ
    exact p_goes32 (hS.len ho).1 ho (by omega) he hO hs hR hd hQ
  · rw [if_neg z] at hQ
    exact p_goes32 (hS.len hv).1 hv (by omega) he hV hs hR hd hQ
