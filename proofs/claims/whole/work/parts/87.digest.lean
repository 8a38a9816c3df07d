/-! DIGEST -/
def hs6 (h : Int64) (x : Int32) : Int64 := 31 * h + x.toInt64
def dg1 (S : Mem) : Nat → Int64
  | 0 => 17
  | w + 1 => hs6 (dg1 S w) (a_count S (nI w))
def dgA (S : Mem) (v : Nat) (h : Int64) : Nat → Int64
  | 0 => h
  | l + 1 => hs6 (dgA S v h l) (nI (pCn (prs (S 43 v) (vln S v)) l))
def dg2 (S : Mem) : Nat → Int64
  | 0 => dg1 S 8
  | v + 1 => dgA S v (hs6 (dg2 S v) (flt (S 43 v) (vln S v))) 16
def dgB (S : Mem) (c : Nat) (h : Int64) : Nat → Int64
  | 0 => h
  | w + 1 => hs6 (dgB S c h w) (abt S c (nI w))
def dg3 (S : Mem) : Nat → Int64
  | 0 => dg2 S 4
  | c + 1 => dgB S c (dg3 S c) 9
def a_digest (S : Mem) : Int64 := hs6 (hs6 (dg3 S (nc S)) (a_standing S)) (owA S 399 (nc S))
theorem rd_fr {M M1 : Mem} {v : Nat} (h : rdF v M M1) : FrC M M1 := fun k q => h.1 k (fun z => (nrefk (by clear q; revert z; revert k; decide)) q)
theorem rv_fr {M M1 : Mem} {v : Nat} (h : rvF v M M1) : FrR M M1 := fun k q => h.1 k (fun z => q (yrefk (by clear q; revert z; revert k; unfold rvk; decide)))
theorem okC_i {S : Mem} (hS : SOK S) {c : Nat} (hc : c < nc S) : 0 ≤ nI c ∧ nI c ≤ S 660 0 0 - 1 := by
  obtain ⟨n1, n2⟩ := hS.ncs
  have e : S 660 0 0 - 1 = nI (nc S - 1) := by rw [n2]; exact ni_sub (b := 1) (by omega)
  rw [e]
  exact ⟨ni_ge0 (by omega), (ni_le (by omega) (by omega)).mpr (by omega)⟩
theorem C_digest {t : Nat} {S M : Mem} (hS : SOK S) (hI : InvC t S M) {Q : Int64 → Mem → Prop} (hQ : ∀ M1, InvC (t + 1) S M1 → FrC M M1 → Q (a_digest S) M1) : wp_X9_digest M Q := by
  obtain ⟨n1, n2⟩ := hS.ncs
  unfold wp_X9_digest
  suffices hh : ∃ g, w_X9_digest_6 Q g (dg1 S 0) (nI 0) M from hh
  refine pk_loop (fun g w (z : Unit) => w_X9_digest_6 Q g (dg1 S w) (nI w) M) (fun _ _ => True) 8 0 () (Nat.zero_le _) trivial ?_ ?_
  · intro g _ _
    unfold w_X9_digest_6
    refine ⟨fun _ => ?_, fun q => absurd ((ni_lt (a := 7) (by omega) (by omega)).mpr (by omega)) q⟩
    suffices hh : ∃ g, w_X9_digest_33 Q g (dg2 S 0) (nI 0) M from hh
    refine pk_loop (fun g v (m : Mem) => w_X9_digest_33 Q g (dg2 S v) (nI v) m) (fun v m => InvC t S m ∧ FrC M m) 4 0 M (Nat.zero_le _) ⟨hI, FrC.rf⟩ ?_ ?_
    · rintro g m ⟨h1, h2⟩
      unfold w_X9_digest_33
      refine ⟨fun _ => ?_, fun q => absurd ((ni_le (a := 4) (by omega) (by omega)).mpr (Nat.le_refl _)) q⟩
      suffices hh : ∃ g, w_X9_digest_90 Q g (dg3 S 0) (nI 0) m from hh
      refine pk_loop (fun g c (z : Unit) => w_X9_digest_90 Q g (dg3 S c) (nI c) m) (fun _ _ => True) (nc S) 0 () (Nat.zero_le _) trivial ?_ ?_
      · intro g _ _
        unfold w_X9_digest_90
        rw [h1.1.k 660, n2]
        refine ⟨fun _ => C_standing hS h1 ?_, fun q => absurd ((ni_le (by omega) (by omega)).mpr (Nat.le_refl _)) q⟩
        rintro _ rfl
        refine p_X9_owedOn hS h1 (-1) 399 (fun m2 k1 k2 => ?_)
        rw [os_a]
        exact hQ m2 k1.more (h2.tr k2)
      · intro g c _ hc _ ih
        have nx := ih () trivial
        rw [dg3] at nx
        unfold w_X9_digest_90
        rw [h1.1.k 660, n2]
        refine ⟨fun q => absurd ((ni_le (by omega) (by omega)).mp q) (by omega), fun _ => ?_⟩
        suffices hh : ∃ g', w_X9_digest_101 Q (fun x1 x3 M => w_X9_digest_90 Q g x1 x3 M) g' (dgB S c (dg3 S c) 0) (nI c) (nI 0) m from hh
        refine pk_loop (fun g' w (z : Unit) => w_X9_digest_101 Q (fun x1 x3 M => w_X9_digest_90 Q g x1 x3 M) g' (dgB S c (dg3 S c) w) (nI c) (nI w) m) (fun _ _ => True) 9 0 () (Nat.zero_le _) trivial ?_ ?_
        · intro g' _ _
          unfold w_X9_digest_101
          rw [nI_1]
          exact ⟨fun _ => nx, fun q => absurd ((ni_lt (a := 8) (by omega) (by omega)).mpr (by omega)) q⟩
        · intro g' w _ hw _ ih'
          unfold w_X9_digest_101
          refine ⟨fun q => absurd ((ni_lt (a := 8) (by omega) (by omega)).mp q) (by omega), fun _ => C_about hS h1 _ _ ?_⟩
          rintro _ rfl
          have ew : nI w + 1 = nI (w + 1) := by rw [nI_1]
          rw [ew]
          have := ih' () trivial
          rw [dgB] at this
          unfold a_about
          rw [if_pos (okC_i hS hc), cn_cl hS hc]
          exact this
    · rintro g v m hv ⟨h1, h2⟩ ih
      unfold w_X9_digest_33 wp_X9_fault
      refine ⟨fun q => absurd ((ni_le (a := 4) (by omega) (by omega)).mp q) (by omega), fun _ => ?_⟩
      rw [e_X9_versionAt, at4_some hv rfl]
      refine ⟨fun z => by (cases z), fun j z => ?_⟩
      cases z
      refine p_X8_read hS h1 hv (fun m2 k1 k2 k3 k4 => ?_)
      rw [k3.1]
      rintro _ rfl
      suffices hh : ∃ g', w_X9_digest_54 Q (fun x1 x3 M => w_X9_digest_33 Q g x1 x3 M) g' (dgA S v (hs6 (dg2 S v) (flt (S 43 v) (vln S v))) 0) (nI v) (nI 0) m2 from hh
      refine pk_loop (fun g' l (z : Mem) => w_X9_digest_54 Q (fun x1 x3 M => w_X9_digest_33 Q g x1 x3 M) g' (dgA S v (hs6 (dg2 S v) (flt (S 43 v) (vln S v))) l) (nI v) (nI l) z) (fun _ z => InvC t S z ∧ FrC M z) 16 0 m2 (Nat.zero_le _) ⟨k1, h2.tr (rd_fr k4)⟩ ?_ ?_
      · rintro g' z ⟨z1, z2⟩
        unfold w_X9_digest_54
        rw [nI_1]
        exact ⟨fun _ => ih z ⟨z1, z2⟩, fun q => absurd ((ni_le (a := 16) (by omega) (by omega)).mpr (Nat.le_refl _)) q⟩
      · rintro g' l z hl ⟨z1, z2⟩ ih'
        unfold w_X9_digest_54 wp_X9_acts
        refine ⟨fun q => absurd ((ni_le (a := 16) (by omega) (by omega)).mp q) (by omega), fun _ => ?_⟩
        rw [e_X9_versionAt, at4_some hv rfl]
        refine ⟨fun z => by (cases z), fun j z => ?_⟩
        cases z
        refine ⟨fun q => absurd q (ni_nneg (by omega)), fun _ => ⟨fun _ => ?_, fun q => absurd ((ni_lt (b := 16) (by omega) (by omega)).mpr hl) q⟩⟩
        refine p_X8_read hS z1 hv (fun m3 j1 j2 j3 j4 => ⟨(ni_in (by omega)).mpr hl, ?_⟩)
        rw [ni_cl (by omega), (j3.2.1 l hl).1]
        rintro _ rfl
        have el : nI l + 1 = nI (l + 1) := by rw [nI_1]
        rw [el]
        exact ih' m3 ⟨j1, z2.tr (rd_fr j4)⟩
  · intro g w _ hw _ ih
    unfold w_X9_digest_6
    refine ⟨fun q => absurd ((ni_lt (a := 7) (by omega) (by omega)).mp q) (by omega), fun _ => C_count hS hI _ ?_⟩
    rintro _ rfl
    have ew : nI w + 1 = nI (w + 1) := by rw [nI_1]
    rw [ew]
    exact ih () trivial
theorem R_digest {S M : Mem} (hS : SOK S) (hI : InvR S M) {Q : Int64 → Mem → Prop} (hQ : ∀ M1, InvR S M1 → FrR M M1 → Q (a_digest S) M1) : wp_X10_digest M Q := by
  obtain ⟨n1, n2⟩ := hS.ncs
  obtain ⟨g1, g2⟩ := hS.gr
  unfold wp_X10_digest
  suffices hh : ∃ g, w_X10_digest_6 Q g (dg1 S 0) (nI 0) M from hh
  refine pk_loop (fun g w (z : Unit) => w_X10_digest_6 Q g (dg1 S w) (nI w) M) (fun _ _ => True) 8 0 () (Nat.zero_le _) trivial ?_ ?_
  · intro g _ _
    unfold w_X10_digest_6
    refine ⟨fun _ => ?_, fun q => absurd ((ni_le (a := 8) (by omega) (by omega)).mpr (Nat.le_refl _)) q⟩
    suffices hh : ∃ g, w_X10_digest_33 Q g (dg2 S 0) (nI 0) M from hh
    refine pk_loop (fun g v (m : Mem) => w_X10_digest_33 Q g (dg2 S v) (nI v) m) (fun v m => InvR S m ∧ FrR M m) 4 0 M (Nat.zero_le _) ⟨hI, FrR.rf⟩ ?_ ?_
    · rintro g m ⟨h1, h2⟩
      unfold w_X10_digest_33
      refine ⟨fun _ => ?_, fun q => absurd ((ni_le (a := 4) (by omega) (by omega)).mpr (Nat.le_refl _)) q⟩
      suffices hh : ∃ g, w_X10_digest_90 Q g (dg3 S 0) (nI 0) m from hh
      refine pk_loop (fun g c (z : Unit) => w_X10_digest_90 Q g (dg3 S c) (nI c) m) (fun _ _ => True) (nc S) 0 () (Nat.zero_le _) trivial ?_ ?_
      · intro g _ _
        unfold w_X10_digest_90
        rw [h1.n, n2, h1.j.2.1, g2]
        refine ⟨fun _ => p_X10_standsOn hS h1 (by omega) ?_, fun q => absurd ((ni_le (by omega) (by omega)).mpr (Nat.le_refl _)) q⟩
        rintro _ rfl
        refine p_X10_owedAll hS h1 399 (fun m2 k1 k2 => ?_)
        exact hQ m2 k1 (h2.tr k2)
      · intro g c _ hc _ ih
        have nx := ih () trivial
        rw [dg3] at nx
        unfold w_X10_digest_90
        rw [h1.n, n2]
        refine ⟨fun q => absurd ((ni_le (by omega) (by omega)).mp q) (by omega), fun _ => ?_⟩
        suffices hh : ∃ g', w_X10_digest_101 Q (fun x1 x3 M => w_X10_digest_90 Q g x1 x3 M) g' (dgB S c (dg3 S c) 0) (nI c) (nI 0) m from hh
        refine pk_loop (fun g' w (z : Unit) => w_X10_digest_101 Q (fun x1 x3 M => w_X10_digest_90 Q g x1 x3 M) g' (dgB S c (dg3 S c) w) (nI c) (nI w) m) (fun _ _ => True) 9 0 () (Nat.zero_le _) trivial ?_ ?_
        · intro g' _ _
          unfold w_X10_digest_101
          rw [nI_1]
          exact ⟨fun _ => nx, fun q => absurd ((ni_le (a := 9) (by omega) (by omega)).mpr (Nat.le_refl _)) q⟩
        · intro g' w _ hw _ ih'
          unfold w_X10_digest_101
          refine ⟨fun q => absurd ((ni_le (a := 9) (by omega) (by omega)).mp q) (by omega), fun _ => p_X10_aboutOf hS h1 hc _ ?_⟩
          rintro _ rfl
          have ew : nI w + 1 = nI (w + 1) := by rw [nI_1]
          rw [ew]
          exact ih' () trivial
    · rintro g v m hv ⟨h1, h2⟩ ih
      unfold w_X10_digest_33 wp_X10_faultOf
      refine ⟨fun q => absurd ((ni_le (a := 4) (by omega) (by omega)).mp q) (by omega), fun _ => ?_⟩
      refine p_X10_reads hS h1 hv (fun m2 k1 k2 k3 k4 => ⟨(ni_in (by omega)).mpr hv, ?_⟩)
      rw [ni_cl (by omega), k3.1]
      rintro _ rfl
      suffices hh : ∃ g', w_X10_digest_54 Q (fun x1 x3 M => w_X10_digest_33 Q g x1 x3 M) g' (dgA S v (hs6 (dg2 S v) (flt (S 43 v) (vln S v))) 0) (nI v) (nI 0) m2 from hh
      refine pk_loop (fun g' l (z : Mem) => w_X10_digest_54 Q (fun x1 x3 M => w_X10_digest_33 Q g x1 x3 M) g' (dgA S v (hs6 (dg2 S v) (flt (S 43 v) (vln S v))) l) (nI v) (nI l) z) (fun _ z => InvR S z ∧ FrR M z) 16 0 m2 (Nat.zero_le _) ⟨k1, h2.tr (rv_fr k4)⟩ ?_ ?_
      · rintro g' z ⟨z1, z2⟩
        unfold w_X10_digest_54
        rw [nI_1]
        exact ⟨fun _ => ih z ⟨z1, z2⟩, fun q => absurd ((ni_le (a := 16) (by omega) (by omega)).mpr (Nat.le_refl _)) q⟩
      · rintro g' l z hl ⟨z1, z2⟩ ih'
        unfold w_X10_digest_54
        refine ⟨fun q => absurd ((ni_le (a := 16) (by omega) (by omega)).mp q) (by omega), fun _ => p_X10_actsOf hS z1 hv hl (fun m3 j1 _ _ j4 => ?_)⟩
        rintro _ rfl
        have el : nI l + 1 = nI (l + 1) := by rw [nI_1]
        rw [el]
        exact ih' m3 ⟨j1, z2.tr (rv_fr j4)⟩
  · intro g w _ hw _ ih
    unfold w_X10_digest_6
    refine ⟨fun q => absurd ((ni_le (a := 8) (by omega) (by omega)).mp q) (by omega), fun _ => R_count hS hI _ ?_⟩
    rintro _ rfl
    have ew : nI w + 1 = nI (w + 1) := by rw [nI_1]
    rw [ew]
    exact ih () trivial
