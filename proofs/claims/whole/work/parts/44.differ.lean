/-! DIFFER -/
theorem pto_s {b : Int32} {i l : Nat} {p : PSt} (h : pTo p l ≤ i) : ∀ q, pTo (pstep q b i p) l ≤ i + 1 := by
  obtain ⟨l0, g, u, cd, fi, cn, fr, to⟩ := p
  have h' : to l ≤ i := h
  have hu : upN to l0 (i + 1) l ≤ i + 1 := by unfold upN; split <;> omega
  intro q
  match q with
  | 0 => exact Nat.le_succ_of_le h'
  | 1 => exact Nat.le_succ_of_le h'
  | 2 => exact Nat.le_succ_of_le h'
  | 3 => exact Nat.le_succ_of_le h'
  | 4 => exact Nat.le_succ_of_le h'
  | 5 => exact hu
  | 6 => exact hu
  | n + 7 => exact Nat.le_succ_of_le h'
theorem pto_le {t : Nat → Int32} {l : Nat} : ∀ i, pTo (pst t i) l ≤ i
  | 0 => Nat.le_refl _
  | i + 1 => by rw [pst]; exact pto_s (pto_le i) _
theorem pto_prs {t : Nat → Int32} {n l : Nat} : pTo (prs t n) l ≤ n := by
  unfold prs
  split
  · exact pto_le n
  · exact Nat.zero_le _
theorem prs_ok {t : Nat → Int32} {n : Nat} : (∀ l, pFi (prs t n) l + pCn (prs t n) l ≤ pU (prs t n)) ∧ ∀ k, k < pU (prs t n) → cdok (pCd (prs t n) k) := by
  unfold prs
  split
  · rename_i hw
    unfold well at hw
    simp only [Bool.or_eq_true, beq_iff_eq] at hw
    rcases hw with hw | hw
    · subst hw; exact ⟨fun _ => Nat.le_refl _, fun k z => absurd z (Nat.not_lt_zero _)⟩
    · obtain ⟨_, _, r3, r4, _⟩ := rgn_all hw
      exact ⟨r4, r3⟩
  · exact ⟨fun _ => Nat.le_refl _, fun k z => absurd z (Nat.not_lt_zero _)⟩
theorem pfr_le {t : Nat → Int32} {n l : Nat} : pFr (prs t n) l ≤ pTo (prs t n) l := by
  have a := TA_prs (t := t) (n := n) l
  rcases Nat.eq_zero_or_pos (pCn (prs t n) l) with c | c
  · rw [a.1 c]; exact Nat.le_refl _
  · exact (a.2 c).1
theorem sgt_eq {t t' : Nat → Int32} {a a' n : Nat} : sgt t a n = sgt t' a' n ↔ ∀ k, k < n → t (a + k) = t' (a' + k) := by
  unfold sgt
  rw [List.map_inj_left]
  exact ⟨fun h k hk => h k (List.mem_range.mpr hk), fun h k hk => h k (List.mem_range.mp hk)⟩
theorem sgt_l {t : Nat → Int32} {a n : Nat} : (sgt t a n).length = n := by unfold sgt; rw [List.length_map, List.length_range]
theorem InvC.ok {t : Nat} {S M : Mem} (h : InvC t S M) {v : Nat} (hv : v < 4) (h1 : M 609 v 0 = 1) : VCok (S 43 v) (vln S v) M v := by
  rcases (h.2.1 v hv).1.1 with e | ⟨_, e⟩
  · rw [h1] at e; exact absurd e (by decide)
  · exact e
theorem InvR.ok {S M : Mem} (h : InvR S M) {v : Nat} (hv : v < 4) (h1 : M 55 0 v = 1) : VRok (S 43 v) (vln S v) M v := by
  rcases (h.v hv).2.2 with e | ⟨_, e⟩
  · rw [h1] at e; exact absurd e (by decide)
  · exact e
theorem p_X8_tellsAlike {t : Nat} {S M : Mem} (hS : SOK S) (hI : InvC t S M) {v w l l' : Nat} (hv : v < 4) (hw : w < 4) (hl : l < 16) (hl' : l' < 16) (h1 : M 609 v 0 = 1) (h2 : M 609 w 0 = 1) {Q : Int32 → Mem → Prop} (hQ : Q (bi (vA S v l = vA S w l')) M) : wp_X8_tellsAlike v (nI l) w (nI l') M Q := by
  obtain ⟨_, a1, _⟩ := hI.ok hv h1
  obtain ⟨_, b1, _⟩ := hI.ok hw h2
  obtain ⟨_, a47, a48, _⟩ := a1 l hl
  obtain ⟨_, b47, b48, _⟩ := b1 l' hl'
  have nv := (hS.len hv).1
  have nw := (hS.len hw).1
  have tv := pto_prs (t := S 43 v) (n := vln S v) (l := l)
  have tw := pto_prs (t := S 43 w) (n := vln S w) (l := l')
  have fv := pfr_le (t := S 43 v) (n := vln S v) (l := l)
  have fw := pfr_le (t := S 43 w) (n := vln S w) (l := l')
  have hli := like_iff (t := S 43 v) (t' := S 43 w) (n := vln S v) (n' := vln S w) (l := l) (l' := l')
  have hQ' : Q (bi (lact (S 43 v) (vln S v) l = lact (S 43 w) (vln S w) l')) M := hQ
  generalize pFr (prs (S 43 v) (vln S v)) l = f1 at a47 fv hli
  generalize pTo (prs (S 43 v) (vln S v)) l = t1 at a48 fv tv hli
  generalize pFr (prs (S 43 w) (vln S w)) l' = f2 at b47 fw hli
  generalize pTo (prs (S 43 w) (vln S w)) l' = t2 at b48 fw tw hli
  have inl : vp_in (nI l) 16 := (ni_in (by omega)).mpr hl
  have inl' : vp_in (nI l') 16 := (ni_in (by omega)).mpr hl'
  unfold wp_X8_tellsAlike
  rw [ni_cl (show l < 2147483648 by omega), ni_cl (show l' < 2147483648 by omega)]
  refine ⟨inl, ?_⟩
  rintro _ rfl
  refine ⟨inl', ?_⟩
  rintro _ rfl
  refine ⟨inl, ?_⟩
  rintro _ rfl
  rw [a47, a48, b47, b48, ni_sub fv, ni_sub fw, ni_eq (by omega) (by omega)]
  refine ⟨inl', fun e => ?_, fun e => ?_⟩
  · rw [← e] at hli ⊢
    rw [sgt_eq] at hli
    refine pk_loop (fun f i (z : Unit) => w_X8_tellsAlike_46 Q f v w (nI f1) (nI f2) (nI (t2 - f2)) (nI i) M) (fun i _ => ∀ k, k < i → S 43 v (f1 + k) = S 43 w (f2 + k)) (t2 - f2) 0 () (Nat.zero_le _) (fun k z => absurd z (Nat.not_lt_zero _)) ?_ ?_
    · intro f _ h
      refine ⟨fun _ => ?_, fun z => absurd ((ni_le (by omega) (by omega)).mpr (Nat.le_refl _)) z⟩
      rw [bi_t (hli.mp h)] at hQ'; exact hQ'
    · intro f i _ hi h ih
      unfold w_X8_tellsAlike_46
      rw [nI_add, nI_add, ni_cl (by omega), ni_cl (by omega), hI.1.k 43]
      refine ⟨fun z => absurd ((ni_le (by omega) (by omega)).mp z) (by omega), fun _ => ⟨(ni_in (by omega)).mpr (by omega), (ni_in (by omega)).mpr (by omega), fun z => ?_, fun z => ?_⟩⟩
      · rw [nI_1]
        refine ih () (fun k hk => ?_)
        by_cases ek : k = i
        · subst ek; exact z
        · exact h k (by omega)
      · rw [bi_f (fun q => z (hli.mpr q i hi))] at hQ'; exact hQ'
  · rw [bi_f (fun q => e ?_)] at hQ'
    · exact hQ'
    · have := congrArg List.length (hli.mpr q)
      rw [sgt_l, sgt_l] at this; exact this.symm
def dfN (A B : Nat → List Nat) : Nat → Nat
  | 0 => 0
  | l + 1 => if A l = B l then dfN A B l else dfN A B l ||| 2 ^ l
def a_differ (S : Mem) (v w : Int32) : Int32 := if (0 ≤ v ∧ v ≤ 3) ∧ (0 ≤ w ∧ w ≤ 3) then nI (dfN (vA S v.toNatClampNeg) (vA S w.toNatClampNeg) 16) else -2
theorem p_X9_linesUnlike {t : Nat} {S M : Mem} (hS : SOK S) (hI : InvC t S M) {v w : Nat} (hv : v < 4) (hw : w < 4) {Q : Int32 → Mem → Prop} (hQ : ∀ M1, InvC t S M1 → M1 609 v 0 = 1 → M1 609 w 0 = 1 → (∀ k, k ∉ rdk → M1 k = M k) → Q (nI (dfN (vA S v) (vA S w) 16)) M1) : wp_X9_linesUnlike v w M Q := by
  unfold wp_X9_linesUnlike
  refine p_X8_read hS hI hv (fun M1 hI1 h1 _ hF1 => p_X8_read hS hI1 hw (fun M2 hI2 h2 _ hF2 => ?_))
  have h1' : M2 609 v 0 = 1 := by
    by_cases e : v = w
    · rw [e]; exact h2
    · rw [hF2.2 609 v e]; exact h1
  have hQ' := hQ M2 hI2 h1' h2 (fun k q => (hF2.1 k q).trans (hF1.1 k q))
  refine pk_loop (fun f i (z : Unit) => w_X9_linesUnlike_12 Q f v w (nI (dfN (vA S v) (vA S w) i)) (nI i) M2) (fun i _ => True) 16 0 () (Nat.zero_le _) trivial ?_ ?_
  · intro f _ _
    exact ⟨fun _ => hQ', fun z => absurd ((ni_le (a := 16) (b := 16) (by omega) (by omega)).mpr (Nat.le_refl _)) z⟩
  · intro f i _ hi _ ih
    unfold w_X9_linesUnlike_12
    refine ⟨fun z => absurd ((ni_le (a := 16) (by omega) (by omega)).mp z) (by omega), fun _ => p_X8_tellsAlike hS hI2 hv hw hi hi h1' h2 ?_⟩
    have nx := ih () trivial
    simp only [bi_z, Classical.not_not]
    rw [sh_1 (by omega), fa_or]
    refine ⟨fun z => ?_, fun z => ?_⟩
    · rintro _ rfl
      unfold w_X9_linesUnlike_34
      rw [nI_1]
      simp only [dfN, z, if_false] at nx; exact nx
    · unfold w_X9_linesUnlike_34
      rw [nI_1]
      simp only [dfN, z, if_true] at nx; exact nx
theorem C_differ {t : Nat} {S M : Mem} (hS : SOK S) (hI : InvC t S M) (v w : Int32) {Q : Int32 → Mem → Prop} (hQ : ∀ M1, InvC (t + 1) S M1 → FrC M M1 → Q (a_differ S v w) M1) : wp_X9_differ v w M Q := by
  unfold wp_X9_differ w_X9_differ_22
  simp only [e_X9_versionAt]
  unfold a_differ at hQ
  rcases at4_cases v with ⟨h1, h2⟩ | ⟨k, hk, rfl, h1, h2⟩
  · rw [h1]; simp only [h2, false_and, if_false] at hQ
    exact ⟨fun _ => ⟨fun _ => hQ M hI.more FrC.rf, fun _ _ => hQ M hI.more FrC.rf⟩, fun j e => by cases e⟩
  · rw [h1]
    refine ⟨fun e => by (cases e), fun j e => ?_⟩
    cases e
    rcases at4_cases w with ⟨g1, g2⟩ | ⟨l, hl, rfl, g1, g2⟩
    · rw [g1]; simp only [g2, and_false, if_false] at hQ
      exact ⟨fun _ => hQ M hI.more FrC.rf, fun j e => by cases e⟩
    · rw [g1]
      refine ⟨fun e => by (cases e), fun j e => ?_⟩
      cases e
      rw [ni_cl (show k < 2147483648 by omega), ni_cl (show l < 2147483648 by omega)] at hQ
      simp only [h2, g2, and_self, if_true] at hQ
      have nn : ∀ k, k ∈ rdk → k < 53 ∨ (85 < k ∧ k < 700) := by decide
      exact p_X9_linesUnlike hS hI hk hl (fun M1 hI1 _ _ hF => hQ M1 hI1.more (fun k q => hF k (fun z => nrefk (nn k z) q)))
theorem tri_inj {c d : Nat} (hc : cdok c) (hd : cdok d) (h1 : onC c = onC d) (h2 : sgC c = sgC d) (h3 : byC c = byC d) : c = d := by
  have o3 : ∀ m, m < 2 → onC (192 + m) = nI 3 ∧ byC (192 + m) = nI m := by decide +kernel
  rcases cdok_e hc with ⟨r, s, w, hr, hs, hw, rfl⟩ | ⟨m, hm, rfl⟩
  · obtain ⟨x1, x2, x3⟩ := onC_rs r hr s hs w hw
    rcases cdok_e hd with ⟨r', s', w', hr', hs', hw', rfl⟩ | ⟨m', hm', rfl⟩
    · obtain ⟨y1, y2, y3⟩ := onC_rs r' hr' s' hs' w' hw'
      rw [x1, y1] at h1
      rw [x2, y2] at h3
      rw [x3, y3] at h2
      have e1 := (ni_eq (by omega) (by omega)).mp h1
      have e3 := (ni_eq (by omega) (by omega)).mp h3
      have e2 : s = s' := by
        have : ∀ s, s < 3 → ∀ s', s' < 3 → (if s = 0 then (1 : Int32) else if s = 1 then 2 else 0) = (if s' = 0 then (1 : Int32) else if s' = 1 then 2 else 0) → s = s' := by decide +kernel
        exact this s hs s' hs' h2
      rw [e1, e2, e3]
    · rw [x1, (o3 m' hm').1] at h1
      exact absurd ((ni_eq (by omega) (by omega)).mp h1) (by omega)
  · rcases cdok_e hd with ⟨r', s', w', hr', hs', hw', rfl⟩ | ⟨m', hm', rfl⟩
    · rw [(onC_rs r' hr' s' hs' w' hw').1, (o3 m hm).1] at h1
      exact absurd ((ni_eq (by omega) (by omega)).mp h1) (by omega)
    · rw [(o3 m hm).2, (o3 m' hm').2] at h3
      rw [(ni_eq (by omega) (by omega)).mp h3]
theorem lact_eq {t t' : Nat → Int32} {n n' l l' : Nat} (hc : pCn (prs t n) l = pCn (prs t' n') l') : lact t n l = lact t' n' l' ↔ ∀ k, k < pCn (prs t n) l → pCd (prs t n) (pFi (prs t n) l + k) = pCd (prs t' n') (pFi (prs t' n') l' + k) := by
  unfold lact
  rw [← hc, List.map_inj_left]
  exact ⟨fun h k hk => h k (List.mem_range.mpr hk), fun h k hk => h k (List.mem_range.mp hk)⟩
theorem lact_l {t : Nat → Int32} {n l : Nat} : (lact t n l).length = pCn (prs t n) l := by unfold lact; rw [List.length_map, List.length_range]
theorem p_X10_areLike {S M : Mem} (hS : SOK S) (hI : InvR S M) {v w l : Nat} (hv : v < 4) (hw : w < 4) (hl : l < 16) {Q : Int32 → Mem → Prop} (hQ : ∀ M1, InvR S M1 → (∀ k, k ∉ rvk → M1 k = M k) → Q (bi (vA S v l = vA S w l)) M1) : wp_X10_areLike (nI v) (nI w) (nI l) M Q := by
  unfold wp_X10_areLike
  refine p_X10_actsOf hS hI hv hl (fun M1 hI1 h1 _ hF1 => p_X10_actsOf hS hI1 hw hl (fun M2 hI2 h2 _ hF2 => ?_))
  have h1' : M2 55 0 v = 1 := by
    by_cases e : v = w
    · rw [e]; exact h2
    · rw [((hF2.2 v hv e).1).1]; exact h1
  have hQ' := hQ M2 hI2 (fun k q => (hF2.1 k q).trans (hF1.1 k q))
  obtain ⟨_, a1, a2⟩ := hI2.ok hv h1'
  obtain ⟨_, b1, b2⟩ := hI2.ok hw h2
  have uv := prs_u (t := S 43 v) (hS.len hv).1
  have uw := prs_u (t := S 43 w) (hS.len hw).1
  obtain ⟨pv, cv⟩ := prs_ok (t := S 43 v) (n := vln S v)
  obtain ⟨pw, cw⟩ := prs_ok (t := S 43 w) (n := vln S w)
  have pvl := pv l
  have pwl := pw l
  rw [ni_eq (by omega) (by omega)]
  refine ⟨fun e => ?_, fun e => ?_⟩
  · have hli := lact_eq (t := S 43 v) (t' := S 43 w) (n := vln S v) (n' := vln S w) (l := l) (l' := l) e.symm
    refine pk_loop (fun f i (z : Unit) => w_X10_areLike_24 Q f (nI v) (nI w) (nI l) (nI (pCn (prs (S 43 v) (vln S v)) l)) (nI i) M2) (fun i _ => ∀ k, k < i → pCd (prs (S 43 v) (vln S v)) (pFi (prs (S 43 v) (vln S v)) l + k) = pCd (prs (S 43 w) (vln S w)) (pFi (prs (S 43 w) (vln S w)) l + k)) (pCn (prs (S 43 v) (vln S v)) l) 0 () (Nat.zero_le _) (fun k z => absurd z (Nat.not_lt_zero _)) ?_ ?_
    · intro f _ h
      refine ⟨fun _ => ?_, fun z => absurd ((ni_le (by omega) (by omega)).mpr (Nat.le_refl _)) z⟩
      rw [bi_t (p := vA S v l = vA S w l) (hli.mpr h)] at hQ'; exact hQ'
    · intro f i _ hi h ih
      have hx : 16 * nI v + nI l = nI (16 * v + l) := by rw [ni_lit 16, pk_mul, nI_add]
      have hy : 16 * nI w + nI l = nI (16 * w + l) := by rw [ni_lit 16, pk_mul, nI_add]
      have no (z : ¬ pCd (prs (S 43 v) (vln S v)) (pFi (prs (S 43 v) (vln S v)) l + i) = pCd (prs (S 43 w) (vln S w)) (pFi (prs (S 43 w) (vln S w)) l + i)) : Q 0 M2 := by
        rw [bi_f (p := vA S v l = vA S w l) (fun q => z (hli.mp q i hi))] at hQ'; exact hQ'
      obtain ⟨c1, c2, c3⟩ := a2 (pFi (prs (S 43 v) (vln S v)) l + i) (by omega)
      obtain ⟨d1, d2, d3⟩ := b2 (pFi (prs (S 43 w) (vln S w)) l + i) (by omega)
      unfold w_X10_areLike_24
      refine ⟨fun z => absurd ((ni_le (by omega) (by omega)).mp z) (by omega), fun _ => ?_⟩
      rw [hx, hy, ni_cl (by omega), ni_cl (by omega), (a1 l hl).2 (by omega), (b1 l hl).2 (by omega)]
      refine ⟨(ni_in (by omega)).mpr (by omega), ?_⟩
      rintro _ rfl
      refine ⟨(ni_in (by omega)).mpr (by omega), ?_⟩
      rintro _ rfl
      have ex : 60 * nI v + nI (pFi (prs (S 43 v) (vln S v)) l) + nI i = nI (60 * v + (pFi (prs (S 43 v) (vln S v)) l + i)) := by rw [ni_lit 60, pk_mul, nI_add, nI_add, Nat.add_assoc]
      have ey : 60 * nI w + nI (pFi (prs (S 43 w) (vln S w)) l) + nI i = nI (60 * w + (pFi (prs (S 43 w) (vln S w)) l + i)) := by rw [ni_lit 60, pk_mul, nI_add, nI_add, Nat.add_assoc]
      rw [ex, ey, ni_cl (by omega), ni_cl (by omega), c1, c2, c3, d1, d2, d3]
      have i1 : vp_in (nI (60 * v + (pFi (prs (S 43 v) (vln S v)) l + i))) 240 := (ni_in (by omega)).mpr (by omega)
      have i2 : vp_in (nI (60 * w + (pFi (prs (S 43 w) (vln S w)) l + i))) 240 := (ni_in (by omega)).mpr (by omega)
      refine ⟨i1, i2, fun z1 => ⟨i1, i2, fun z2 => ⟨i1, i2, fun z3 => ?_, fun z3 => no (fun q => z3 (by rw [q]))⟩, fun z2 => no (fun q => z2 (by rw [q]))⟩, fun z1 => no (fun q => z1 (by rw [q]))⟩
      have := tri_inj (cv _ (by omega)) (cw _ (by omega)) z1 z2 z3
      rw [nI_1]
      refine ih () (fun k hk => ?_)
      by_cases ek : k = i
      · subst ek; exact this
      · exact h k (by omega)
  · rw [bi_f (p := vA S v l = vA S w l) (fun q => e ?_)] at hQ'
    · exact hQ'
    · have := congrArg List.length q
      unfold vA at this
      rw [lact_l, lact_l] at this; exact this.symm
theorem p_X10_differOf {S M : Mem} (hS : SOK S) (hI : InvR S M) {v w : Nat} (hv : v < 4) (hw : w < 4) {Q : Int32 → Mem → Prop} (hQ : ∀ M1, InvR S M1 → (∀ k, k ∉ rvk → M1 k = M k) → Q (nI (dfN (vA S v) (vA S w) 16)) M1) : wp_X10_differOf (nI v) (nI w) M Q := by
  unfold wp_X10_differOf
  refine pk_loop (fun f i (z : Mem) => w_X10_differOf_5 Q f (nI v) (nI w) (nI (dfN (vA S v) (vA S w) i)) (nI i) z) (fun i z => InvR S z ∧ ∀ k, k ∉ rvk → z k = M k) 16 0 M (Nat.zero_le _) ⟨hI, fun _ _ => rfl⟩ ?_ ?_
  · rintro f z ⟨h1, h2⟩
    exact ⟨fun _ => hQ z h1 h2, fun z => absurd ((ni_le (a := 16) (b := 16) (by omega) (by omega)).mpr (Nat.le_refl _)) z⟩
  · rintro f i z hi ⟨h1, h2⟩ ih
    unfold w_X10_differOf_5
    refine ⟨fun z => absurd ((ni_le (a := 16) (by omega) (by omega)).mp z) (by omega), fun _ => p_X10_areLike hS h1 hv hw hi (fun M1 hI1 hF1 => ?_)⟩
    have nx := ih M1 ⟨hI1, fun k q => (hF1 k q).trans (h2 k q)⟩
    simp only [bi_z, Classical.not_not]
    refine ⟨fun z => ?_, fun z => ?_⟩
    · rintro _ rfl
      rw [nI_1, sh_1 (by omega), fa_or]
      simp only [dfN, z, if_false] at nx; exact nx
    · rintro _ rfl
      rw [nI_1, ni_0, fa_or, Nat.or_zero]
      simp only [dfN, z, if_true] at nx; exact nx
theorem R_differ {S M : Mem} (hS : SOK S) (hI : InvR S M) (v w : Int32) {Q : Int32 → Mem → Prop} (hQ : ∀ M1, InvR S M1 → FrR M M1 → Q (a_differ S v w) M1) : wp_X10_differ v w M Q := by
  unfold wp_X10_differ
  simp only [e_X10_isVersion, bi_z, Classical.not_not]
  unfold a_differ at hQ
  refine ⟨fun h => ?_, fun h => ⟨fun g => ?_, fun g => ?_⟩⟩
  · simp only [h, false_and, if_false] at hQ; exact hQ M hI FrR.rf
  · simp only [g, and_false, if_false] at hQ; exact hQ M hI FrR.rf
  · obtain ⟨k, hk, rfl⟩ := ni_ofle (n := 3) (by decide) h.1 h.2
    obtain ⟨j, hj, rfl⟩ := ni_ofle (n := 3) (by decide) g.1 g.2
    rw [ni_cl (show k < 2147483648 by omega), ni_cl (show j < 2147483648 by omega)] at hQ
    simp only [h, g, and_self, if_true] at hQ
    have nn : ∀ k, k ∈ rvk → (53 ≤ k ∧ k ≤ 85) ∨ 700 ≤ k := by decide
    exact p_X10_differOf hS hI (by omega) (by omega) (fun M1 hI1 hF => hQ M1 hI1 (fun k q => hF k (fun z => q (yrefk (nn k z)))))
