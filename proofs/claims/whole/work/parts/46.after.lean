/-! THE CLASS: A STATE BEHIND AN EVENT -/
def MxC (S M : Mem) (v o ls : Nat) : Prop := (v < 4 ∧ o < 4 ∧ ls < 65536) ∧ (M 401 0 0 = nI v ∧ M 402 0 0 = nI o ∧ M 403 0 0 = nI ls) ∧ VCok (S 43 v) (vln S v) M v ∧ VCok (S 43 o) (vln S o) M o
theorem MxC.keep {S M M' : Mem} {v o ls : Nat} (h : MxC S M v o ls) (hk : ∀ k, k ∈ [401, 402, 403, 607, 44, 45, 46, 47, 48] → M' k = M k) : MxC S M' v o ls := by
  have e1 := hk 401 (by decide)
  have e2 := hk 402 (by decide)
  have e3 := hk 403 (by decide)
  have e4 := hk 607 (by decide)
  have e5 := hk 44 (by decide)
  have e6 := hk 45 (by decide)
  have e7 := hk 46 (by decide)
  have e8 := hk 47 (by decide)
  have e9 := hk 48 (by decide)
  simp only [MxC, VCok, e1, e2, e3, e4, e5, e6, e7, e8, e9] at h ⊢
  exact h
theorem actsS_a {s : STt} {l : List Nat} {c : Nat} : actsS s (l ++ [c]) = act1 (actsS s l) c := by unfold actsS; rw [List.foldl_append]; rfl
def cdl (f : Nat → Nat) (j : Nat) : List Nat := (List.range j).map f
theorem cdl_s {f : Nat → Nat} {j : Nat} : cdl f (j + 1) = cdl f j ++ [f j] := by unfold cdl; rw [List.range_succ, List.map_append]; rfl
theorem stOk_l {s : STt} (hs : stOk s) : ∀ {l : List Nat}, (∀ c, c ∈ l → cdok c) → stOk (actsS s l) := by
  intro l
  induction l generalizing s with
  | nil => intro _; exact hs
  | cons c l ih => intro h; exact ih (stOk_a hs (h c (List.mem_cons_self ..))) (fun d hd => h d (List.mem_cons_of_mem _ hd))
theorem lact_ok {t : Nat → Int32} {n l : Nat} : ∀ c, c ∈ lact t n l → cdok c := cod_ok
theorem bt_6m : ∀ m, m < 2 → nI (192 + m) >>> ((6 : Int32) &&& 31) = 3 ∧ nI (192 + m) &&& 1 = nI m := by decide +kernel
theorem p_after129 {S M : Mem} {t : Nat → Int32} {n w l : Nat} {s : STt} (hn : n ≤ 120) (hV : VCok t n M w) (hl : l < 16) (hs : stOk s) {M0 : Mem} (hR : RgM 33 M0 s) (h0 : ∀ k, k ≠ 33 → M0 k = M k) {Q : Int32 → Mem → Prop} (hQ : ∀ M1, (∀ k, k ≠ 33 → M1 k = M k) → Q (stI (actsS s (lact t n l))) M1) : ∃ f, w_X4_after_129 Q f w (nI s.2.2.2) (nI (pFi (prs t n) l + pCn (prs t n) l)) (nI (pFi (prs t n) l)) M0 := by
  obtain ⟨pv, cv⟩ := prs_ok (t := t) (n := n)
  have pvl := pv l
  have uv := prs_u (t := t) hn
  have hla : lact t n l = cdl (fun k => pCd (prs t n) (pFi (prs t n) l + k)) (pCn (prs t n) l) := rfl
  rw [hla] at hQ
  refine pk_loop (fun f j (z : STt × Mem) => w_X4_after_129 Q f w (nI z.1.2.2.2) (nI (pFi (prs t n) l + pCn (prs t n) l)) (nI (pFi (prs t n) l + j)) z.2) (fun j z => z.1 = actsS s (cdl (fun k => pCd (prs t n) (pFi (prs t n) l + k)) j) ∧ RgM 33 z.2 z.1 ∧ stOk z.1 ∧ ∀ k, k ≠ 33 → z.2 k = M k) (pCn (prs t n) l) 0 (s, M0) (Nat.zero_le _) ⟨rfl, hR, hs, h0⟩ ?_ ?_
  · rintro f ⟨s1, M1⟩ ⟨e, hR1, hs1, hF⟩
    dsimp only at e hR1 hs1 hF ⊢
    unfold w_X4_after_129
    refine ⟨fun _ => ⟨(ni_in (a := 0) (by decide)).mpr (by decide), (ni_in (a := 1) (by decide)).mpr (by decide), (ni_in (a := 2) (by decide)).mpr (by decide), ?_⟩, fun z => absurd ((ni_le (by omega) (by omega)).mpr (Nat.le_refl _)) z⟩
    have c0 : (0 : Int32).toNatClampNeg = 0 := rfl
    have c1 : (1 : Int32).toNatClampNeg = 1 := rfl
    have c2 : (2 : Int32).toNatClampNeg = 2 := rfl
    rw [c0, c1, c2, hR1 0 (by decide), hR1 1 (by decide), hR1 2 (by decide), st_pk hs1, e]
    exact hQ M1 hF
  · rintro f j ⟨s1, M1⟩ hj ⟨e, hR1, hs1, hF⟩ ih
    dsimp only at e hR1 hs1 hF ⊢
    have hc := cv (pFi (prs t n) l + j) (by omega)
    have nx : ∀ M2, RgM 33 M2 (act1 s1 (pCd (prs t n) (pFi (prs t n) l + j))) → (∀ k, k ≠ 33 → M2 k = M1 k) → w_X4_after_129 Q f w (nI (act1 s1 (pCd (prs t n) (pFi (prs t n) l + j))).2.2.2) (nI (pFi (prs t n) l + pCn (prs t n) l)) (nI (pFi (prs t n) l + (j + 1))) M2 := fun M2 hR2 hF2 =>
      ih (act1 s1 (pCd (prs t n) (pFi (prs t n) l + j)), M2) ⟨by dsimp only; rw [cdl_s, actsS_a, ← e], hR2, stOk_a hs1 hc, fun k hk => (hF2 k hk).trans (hF k hk)⟩
    unfold w_X4_after_129
    refine ⟨fun z => absurd ((ni_le (by omega) (by omega)).mp z) (by omega), fun _ => ⟨(ni_in (by omega)).mpr (by omega), ?_⟩⟩
    rintro _ rfl
    rw [ni_cl (by omega), hF 44 (by decide), hV.2.2 _ (by omega)]
    generalize pCd (prs t n) (pFi (prs t n) l + j) = c at hc nx ⊢
    rcases cdok_e hc with ⟨r, g, x, hr, hg, hx, rfl⟩ | ⟨m, hm, rfl⟩
    · obtain ⟨b1, b2, b3⟩ := bt_a r hr g hg x hx
      rw [b3]
      refine ⟨fun z => absurd ((ni_eq (b := 3) (by omega) (by omega)).mp z) (by omega), fun _ => ?_⟩
      refine p_X4_act hs1 hR1 hc (by omega) (fun M2 hR2 hF2 => ?_)
      have := nx M2 hR2 hF2
      unfold w_X4_after_170
      rw [act1_r hr hg hx, rgS_m hr] at this
      rw [nI_1]; exact this
    · obtain ⟨b1, b2⟩ := bt_6m m hm
      rw [b1, b2]
      refine ⟨fun _ => ?_, fun z => absurd rfl z⟩
      rintro _ rfl
      rw [act1_m hm] at nx
      unfold w_X4_after_170
      rw [nI_1]
      refine nx M1 (fun k hk => ?_) (fun _ _ => rfl)
      have : k = 0 ∨ k = 1 ∨ k = 2 := by omega
      rcases this with rfl | rfl | rfl
      · exact hR1 0 hk
      · exact hR1 1 hk
      · exact hR1 2 hk
theorem p_after30 {M : Mem} {t : Nat → Int32} {n w l : Nat} {s : STt} (hn : n ≤ 120) (hV : VCok t n M w) (hl : l < 16) (hs : stOk s) {Q : Int32 → Mem → Prop} (hQ : ∀ M1, (∀ k, k ≠ 33 → M1 k = M k) → Q (stI (actsS s (lact t n l))) M1) : w_X4_after_30 Q (stI s) (nI l) w M := by
  obtain ⟨pv, cv⟩ := prs_ok (t := t) (n := n)
  have pvl := pv l
  have uv := prs_u (t := t) hn
  have inl : vp_in (nI l) 16 := (ni_in (by omega)).mpr hl
  obtain ⟨m46, _, _, m45⟩ := hV.2.1 l hl
  unfold w_X4_after_30
  rw [ni_cl (by omega), m46]
  refine ⟨inl, fun z => ?_, fun z => ?_⟩
  · have e := (ni_eq (b := 0) (by omega) (by omega)).mp z
    have : lact t n l = [] := by unfold lact; rw [e]; rfl
    rw [this] at hQ
    exact hQ M (fun _ _ => rfl)
  · have e : 0 < pCn (prs t n) l := by
      apply Classical.byContradiction
      intro q
      exact z (by rw [show pCn (prs t n) l = 0 by omega]; rfl)
    have c0 : (0 : Int32).toNatClampNeg = 0 := rfl
    have c1 : (1 : Int32).toNatClampNeg = 1 := rfl
    have c2 : (2 : Int32).toNatClampNeg = 2 := rfl
    refine ⟨(ni_in (a := 0) (by decide)).mpr (by decide), ?_⟩
    rintro _ rfl
    refine ⟨(ni_in (a := 1) (by decide)).mpr (by decide), ?_⟩
    rintro _ rfl
    refine ⟨(ni_in (a := 2) (by decide)).mpr (by decide), ?_⟩
    rintro _ rfl
    unfold wp_X9_modeOf
    rw [c0, c1, c2, st_l hs, st_p hs, st_c hs, st_m hs]
    dsimp only
    rw [mst_ne (show 45 ≠ 33 by decide), mst_ne (show 45 ≠ 33 by decide), mst_ne (show 45 ≠ 33 by decide), mst_ne (show 46 ≠ 33 by decide), mst_ne (show 46 ≠ 33 by decide), mst_ne (show 46 ≠ 33 by decide), m45 e, m46, nI_add, e_J9_min]
    have h12 : ¬ (120 : Int32) < nI (pFi (prs t n) l + pCn (prs t n) l) := fun q => absurd ((ni_lt (a := 120) (by omega) (by omega)).mp q) (by omega)
    rw [if_neg h12]
    refine ⟨inl, inl, inl, ?_⟩
    rintro _ rfl
    rw [mst_ne (show 45 ≠ 33 by decide), mst_ne (show 45 ≠ 33 by decide), mst_ne (show 45 ≠ 33 by decide), m45 e]
    refine p_after129 (S := M) hn hV hl hs (fun k hk => ?_) (fun k hk => by rw [mst_ne hk, mst_ne hk, mst_ne hk]) hQ
    have : k = 0 ∨ k = 1 ∨ k = 2 := by omega
    rcases this with rfl | rfl | rfl <;> simp [mst_k]
theorem tb1 {ls L : Nat} : nI (ls / 2 ^ L % 2) = 1 ↔ ls.testBit L = true := by
  rw [Nat.testBit_eq_decide_div_mod_eq, decide_eq_true_iff]
  exact ni_eq (b := 1) (by omega) (by omega)
theorem stp_eq {S : Mem} {v o ls e : Nat} {s : STt} : stp (mixA (vA S v) (vA S o) ls) s e = actsS s (if ls.testBit (2 * e + s.2.2.2) then vA S o (2 * e + s.2.2.2) else vA S v (2 * e + s.2.2.2)) := rfl
theorem stOk_s {S : Mem} {v o ls e : Nat} {s : STt} (hs : stOk s) : stOk (stp (mixA (vA S v) (vA S o) ls) s e) := by
  rw [stp_eq]
  split
  · exact stOk_l hs lact_ok
  · exact stOk_l hs lact_ok
theorem p_X4_after {S M : Mem} (hS : SOK S) {v o ls e : Nat} {s : STt} (hm : MxC S M v o ls) (hs : stOk s) (he : e < 8) {Q : Int32 → Mem → Prop} (hQ : ∀ M1, (∀ k, k ≠ 33 → M1 k = M k) → Q (stI (stp (mixA (vA S v) (vA S o) ls) s e)) M1) : wp_X4_after (stI s) (nI e) M Q := by
  obtain ⟨⟨hv, ho, hls⟩, ⟨m1, m2, m3⟩, hV, hO⟩ := hm
  have h2 := hs.2
  unfold wp_X4_after wp_X4_lineOf
  rw [st_m hs, st_line e he _ h2]
  dsimp only
  rw [m1, m2, m3, sh_r (by omega) (by omega), an_1, tb1, ni_cl (by omega), ni_cl (by omega)]
  rw [stp_eq] at hQ
  refine ⟨fun z => ?_, fun z => ?_⟩
  · rw [if_pos z] at hQ
    exact p_after30 (hS.len ho).1 hO (by omega) hs hQ
  · rw [if_neg z] at hQ
    exact p_after30 (hS.len hv).1 hV (by omega) hs hQ
