/-! MENDED: both -/
def mndk : List Nat := [32, 403] ++ fnk
theorem MxC.sw {S M M' : Mem} {v o ls ls' : Nat} (h : MxC S M v o ls) (hl : ls' < 65536) (h3 : M' 403 0 0 = nI ls') (hk : ∀ k, k ∈ [401, 402, 607, 44, 45, 46, 47, 48] → M' k = M k) : MxC S M' v o ls' := by
  have e1 := hk 401 (by decide)
  have e2 := hk 402 (by decide)
  have e4 := hk 607 (by decide)
  have e5 := hk 44 (by decide)
  have e6 := hk 45 (by decide)
  have e7 := hk 46 (by decide)
  have e8 := hk 47 (by decide)
  have e9 := hk 48 (by decide)
  simp only [MxC, VCok, e1, e2, e4, e5, e6, e7, e8, e9] at h ⊢
  exact ⟨⟨h.1.1, h.1.2.1, hl⟩, ⟨h.2.1.1, h.2.1.2.1, h3⟩, h.2.2⟩
theorem rowF_8 {n f : Nat} (hn : 1 ≤ n) (i : Nat) : (rowF n f).getD i 0 < 8 := by
  by_cases c : i < n - 1
  · rw [rowF_d c]; omega
  · by_cases c2 : i = n - 1
    · rw [c2, rowF_7]; omega
    · have hl : (rowF n f).length = n := by rw [rowF_e, List.length_append, pfR_l]; show n - 1 + 1 = n; omega
      rw [List.getD_eq_getElem?_getD, List.getElem?_eq_none (by omega)]
      decide
theorem p_fw26 {S M : Mem} (hS : SOK S) {v o d most : Nat} (hMx : MxC S M v o 0) (hd : d < 65536) (h8 : pcn d 16 ≤ 8) (hmo : most ≤ 16) {M0 : Mem} (hF0 : ∀ k, k ∉ mndk → M0 k = M k) (hC0 : ChI (vA S v) (vA S o) d M0) (hlo : ∀ y, y < al d 16 → okS (vA S v) (vA S o) d y = true → most ≤ pcn y 16) {Q : Int32 → Mem → Prop} {K16 : Int32 → Int32 → Int32 → Mem → Prop} (hQ : ∀ x M1, (∀ k, k ∉ mndk → M1 k = M k) → mdB (vA S v) (vA S o) d (al d 16) = some x → Q (nI (ch d 16 x)) M1) (hK : ∀ M1, (∀ k, k ∉ mndk → M1 k = M k) → ChI (vA S v) (vA S o) d M1 → (∀ y, y < al d 16 → okS (vA S v) (vA S o) d y = true → most + 1 ≤ pcn y 16) → K16 (nI (pcn d 16)) (nI (al d 16)) (nI most + 1) M1) : ∃ f, w_X3_fewestLines_26 Q K16 f (nI (pcn d 16)) (nI (al d 16)) (nI most) 0 M0 := by
  have h256 : al d 16 ≤ 256 := by
    rw [al_p]
    have := Nat.pow_le_pow_right (n := 2) (by decide) h8
    exact this
  refine pk_loop (fun f x (z : Mem) => w_X3_fewestLines_26 Q K16 f (nI (pcn d 16)) (nI (al d 16)) (nI most) (nI x) z) (fun x z => (∀ k, k ∉ mndk → z k = M k) ∧ ChI (vA S v) (vA S o) d z ∧ ∀ y, y < al d 16 → okS (vA S v) (vA S o) d y = true → most < pcn y 16 ∨ (pcn y 16 = most ∧ x ≤ y)) (al d 16) 0 M0 (Nat.zero_le _) ⟨hF0, hC0, fun y hy hok => by have := hlo y hy hok; omega⟩ ?_ ?_
  · rintro f z ⟨h1, h2, h3⟩
    unfold w_X3_fewestLines_26
    exact ⟨fun _ => hK z h1 h2 (fun y hy hok => by have := h3 y hy hok; omega), fun q => absurd ((ni_le (by omega) (by omega)).mpr (Nat.le_refl _)) q⟩
  · rintro f x z hx ⟨h1, h2, h3⟩ ih
    have go : ∀ M1, (∀ k, k ∉ mndk → M1 k = M k) → ChI (vA S v) (vA S o) d M1 → (pcn x 16 = most → ¬ okS (vA S v) (vA S o) d x = true) → w_X3_fewestLines_26 Q K16 f (nI (pcn d 16)) (nI (al d 16)) (nI most) (nI (x + 1)) M1 := fun M1 g1 g2 g3 => ih M1 ⟨g1, g2, fun y hy hok => by
      rcases h3 y hy hok with c | c
      · exact Or.inl c
      · refine Or.inr ⟨c.1, ?_⟩
        have : y ≠ x := fun e => g3 (by rw [← e]; exact c.1) (by rw [← e]; exact hok)
        omega⟩
    have hpx : pcn x 16 ≤ 16 := pcn_le
    unfold w_X3_fewestLines_26
    refine ⟨fun q => absurd ((ni_le (by omega) (by omega)).mp q) (by omega), fun _ => ⟨(ni_in (by omega)).mpr (by omega), ?_⟩⟩
    rintro _ rfl
    rw [ni_cl (by omega)]
    refine p_bitC (by omega) ⟨fun q => ?_, fun q => ?_⟩
    · have hpm := (ni_eq (by omega) (by omega)).mp q
      refine ⟨fun q2 => ?_, fun q2 => ?_⟩
      · unfold w_X3_fewestLines_99
        rw [nI_1]
        refine go z h1 h2 (fun _ => ?_)
        rcases h2 x hx with c | c
        · have hch := ch_lt (d := d) (l := 16) (x := x)
          rw [q2] at c
          exact absurd c.symm (ni_nem1 (by omega))
        · exact c.2
      · have e32 : z 32 0 x = nI (ch d 16 x) := by
          rcases h2 x hx with c | c
          · exact c
          · exact absurd c.1 q2
        rw [e32]
        rintro _ rfl
        have hch := ch_lt (d := d) (l := 16) (x := x)
        have hMx2 : MxC S (mst z 403 0 0 (nI (ch d 16 x))) v o (ch d 16 x) := hMx.sw (by omega) mst_eq (fun k q => by
          rw [mst_ne (fun e => absurd (e ▸ q) (by decide)), h1 k (by revert q; revert k; decide)])
        refine p_X6_find (m := 4) hS (by decide) hMx2 (fun r M1 hF1 hO => ?_)
        have hf1 : ∀ k, k ∉ mndk → M1 k = M k := fun k q => by
          rw [hF1 k (fun e => q (List.mem_append_right _ e)), mst_ne (fun e => q (by rw [e]; decide)), h1 k q]
        have hC1 : ChI (vA S v) (vA S o) d M1 := fun y hy => by
          rw [hF1 32 (by decide), mst_ne (by decide)]; exact h2 y hy
        unfold fnO at hO
        cases e : lpS (mixA (vA S v) (vA S o) (ch d 16 x)) 4 with
        | none =>
          rw [e] at hO
          dsimp only at hO
          have hok : okS (vA S v) (vA S o) d x = true := by unfold okS; rw [e]; rfl
          refine ⟨fun _ => hQ x M1 hf1 (mdB_s hx hok (fun y hy hoy => ?_)), fun z => absurd hO z⟩
          have := h3 y hy hoy
          exact ⟨by omega, fun q => by omega⟩
        | some p =>
          obtain ⟨n, g⟩ := p
          rw [e] at hO
          dsimp only at hO
          obtain ⟨n1, n2, n3⟩ := lpS_n e
          rw [hO.1]
          refine ⟨fun q => absurd q (ni_nem1 (by omega)), fun _ => ?_⟩
          have hMx3 : MxC S M1 v o (ch d 16 x) := hMx2.fn hF1
          have hl : (rowF n g).length = n := by rw [rowF_e, List.length_append, pfR_l]; show n - 1 + 1 = n; omega
          refine p_X6_linesOfRow hS hMx3 (rowF_8 n1) hl (by omega) hO.2 (fun M2 hF2 => ?_)
          have hW := lwN_lt (S := S) (v := v) (o := o) (ls := ch d 16 x) (rowF_8 (f := g) n1) (i := n)
          refine p_X3_ruleOut (A := vA S v) (B := vA S o) h256 (fun y hy => by rw [hF2 32 (by decide)]; exact hC1 y hy) (fun ls' hx0 => lw_ok e hx0) (by omega) (by omega) (fun M3 hF3 hC3 => ?_)
          unfold w_X3_fewestLines_99
          rw [nI_1]
          refine go M3 (fun k q => ?_) hC3 (fun _ hok => ?_)
          · rw [hF3 k (fun e => q (by rw [e]; decide)), hF2 k (fun e => q (by rw [e]; decide))]; exact hf1 k q
          · unfold okS at hok; rw [e] at hok; cases hok
    · unfold w_X3_fewestLines_99
      rw [nI_1]
      exact go z h1 h2 (fun e => absurd (by rw [e]) q)
theorem p_X3_fewestLines {S M : Mem} (hS : SOK S) {v o d : Nat} (hMx : MxC S M v o 0) (hd : d < 65536) (h8 : pcn d 16 ≤ 8) {Q : Int32 → Mem → Prop} (hQ : ∀ M1, (∀ k, k ∉ mndk → M1 k = M k) → Q (mdO d (mdB (vA S v) (vA S o) d (al d 16))) M1) : wp_X3_fewestLines (nI d) M Q := by
  unfold wp_X3_fewestLines
  refine p_bitC (by omega) (p_X3_tellChoices hd h8 (fun M1 hF1 h32 => ?_))
  have hp16 : pcn d 16 ≤ 16 := pcn_le
  refine pk_loop (fun f m (z : Mem) => w_X3_fewestLines_16 Q f (nI (pcn d 16)) (nI (al d 16)) (nI m) z) (fun m z => (∀ k, k ∉ mndk → z k = M k) ∧ ChI (vA S v) (vA S o) d z ∧ ∀ y, y < al d 16 → okS (vA S v) (vA S o) d y = true → m ≤ pcn y 16) (pcn d 16 + 1) 0 M1 (Nat.zero_le _) ⟨fun k q => hF1 k (fun e => q (by rw [e]; decide)), fun x hx => Or.inl (h32 x hx), fun _ _ _ => Nat.zero_le _⟩ ?_ ?_
  · rintro f z ⟨h1, h2, h3⟩
    unfold w_X3_fewestLines_16
    have hn : mdB (vA S v) (vA S o) d (al d 16) = none := mdB_n (fun y hy hok => by
      have h4 := h3 y hy hok
      rw [al_p] at hy
      have h5 : pcn y 16 = pcn y (pcn d 16) := pcn_z hy hp16
      have h6 : pcn y (pcn d 16) ≤ pcn d 16 := pcn_le
      omega)
    have := hQ z h1
    rw [hn] at this
    exact ⟨fun _ => this, fun q => absurd ((ni_lt (by omega) (by omega)).mpr (by omega)) q⟩
  · rintro f m z hm ⟨h1, h2, h3⟩ ih
    unfold w_X3_fewestLines_16
    refine ⟨fun q => absurd ((ni_lt (by omega) (by omega)).mp q) (by omega), fun _ => p_fw26 hS hMx hd h8 (by omega) h1 h2 h3 (fun x M2 g1 g2 => ?_) (fun M2 g1 g2 g3 => ?_)⟩
    · have := hQ M2 g1
      rw [g2] at this; exact this
    · rw [nI_1]; exact ih M2 ⟨g1, g2, g3⟩
theorem C_mended {t : Nat} {S M : Mem} (hS : SOK S) (hI : InvC t S M) (v w : Int32) {Q : Int32 → Mem → Prop} (hQ : ∀ M1, InvC (t + 1) S M1 → FrC M M1 → Q (a_mended S v w) M1) : wp_X9_mended v w M Q := by
  unfold wp_X9_mended
  simp only [e_X9_versionAt]
  unfold a_mended at hQ
  rcases at4_cases v with ⟨e1, h1⟩ | ⟨j, hj, rfl, e1, h1⟩
  · rw [if_neg (fun z => h1 z.1)] at hQ
    rw [e1]
    refine ⟨fun _ => ?_, fun _ z => by (cases z)⟩
    rcases at4_cases w with ⟨e2, h2⟩ | ⟨j2, hj2, rfl, e2, h2⟩
    · rw [e2]; exact ⟨fun _ => hQ M hI.more FrC.rf, fun _ z => by (cases z)⟩
    · rw [e2]; exact ⟨fun z => by (cases z), fun _ _ => hQ M hI.more FrC.rf⟩
  · rw [e1]
    refine ⟨fun z => by (cases z), fun j' z => ?_⟩
    cases z
    rcases at4_cases w with ⟨e2, h2⟩ | ⟨j2, hj2, rfl, e2, h2⟩
    · rw [if_neg (fun z => h2 z.2)] at hQ
      rw [e2]; exact ⟨fun _ => hQ M hI.more FrC.rf, fun _ z => by (cases z)⟩
    · rw [if_pos ⟨h1, h2⟩, ni_cl (show j < 2147483648 by omega), ni_cl (show j2 < 2147483648 by omega)] at hQ
      rw [e2]
      refine ⟨fun z => by (cases z), fun j' z => ?_⟩
      cases z
      refine p_X9_linesUnlike hS hI hj hj2 (fun M1 hI1 _ _ hF1 => ?_)
      have hd : dfN (vA S j) (vA S j2) 16 < 65536 := dfN_lt
      generalize hdd : dfN (vA S j) (vA S j2) 16 = d at hd hQ ⊢
      have hp16 : pcn d 16 ≤ 16 := pcn_le
      refine p_bitC hd ⟨fun q => ?_, fun q => ?_⟩
      · have h8 := (ni_le (b := 8) (by omega) (by omega)).mp q
        rw [if_pos h8] at hQ
        refine p_X4_set (ls := 0) hS hI1 hj hj2 (by decide) (fun M2 hI2 hMx hF2 => ?_)
        rintro _ rfl
        have hMx' : MxC S (mst M2 662 0 0 (-1)) j j2 0 := hMx.keep (fun k q => mst_ne (fun e => absurd (e ▸ q) (by decide)))
        refine p_X3_fewestLines hS hMx' hd h8 (fun M3 hF3 => hQ M3 (InvC.more (hI2.soc (fun k q => ?_) (Or.inl ?_))) (fun k q => ?_))
        · rw [hF3 k (by revert q; revert k; decide), mst_ne (fun e => absurd (e ▸ q) (by decide))]
        · rw [hF3 662 (by decide), mst_eq]
        · rw [hF3 k (fun z => (nrefk (by clear q; revert z; revert k; decide)) q), mst_ne (fun z => (nrefk (by subst z; decide)) q), hF2 k (fun z => (nrefk (by clear q; revert z; revert k; decide)) q), hF1 k (fun z => (nrefk (by clear q; revert z; revert k; decide)) q)]
      · have h8 : ¬ pcn d 16 ≤ 8 := fun z => q ((ni_le (b := 8) (by omega) (by omega)).mpr z)
        rw [if_neg h8] at hQ
        exact hQ M1 hI1.more (fun k q => hF1 k (fun z => (nrefk (by clear q; revert z; revert k; decide)) q))
theorem nx_I {d x : Nat} (hd : d < 65536) (hx : x < al d 16) : (nI (ch d 16 x) - nI d) &&& nI d = if x + 1 = al d 16 then 0 else nI (ch d 16 (x + 1)) := by
  obtain ⟨i1, i2, i3⟩ := ch_nx hx
  have hm : d % 2 ^ 16 = d := Nat.mod_eq_of_lt hd
  rw [hm] at i1 i3
  have hc := ch_lt (d := d) (l := 16) (x := x)
  have e1 : nI (ch d 16 x) - nI d = nI (4294967296 + ch d 16 x - d) := by
    have : nI (4294967296 + ch d 16 x - d) + nI d = nI (ch d 16 x) := by
      rw [nI_add, show 4294967296 + ch d 16 x - d + d = ch d 16 x + 4294967296 by omega]
      unfold nI
      apply Int32.toBitVec_inj.mp
      show BitVec.ofNat 32 (ch d 16 x + 4294967296) = BitVec.ofNat 32 (ch d 16 x)
      apply BitVec.eq_of_toNat_eq
      rw [BitVec.toNat_ofNat, BitVec.toNat_ofNat]; omega
    rw [← this]; grind
  rw [e1, fa_and]
  have e2 : (4294967296 + ch d 16 x - d) &&& d = (2 ^ 16 + ch d 16 x - d) % 2 ^ 16 &&& d := by
    by_cases e : ch d 16 x = d
    · rw [e, show 4294967296 + d - d = 2 ^ 16 * 65536 + 0 by omega, show 2 ^ 16 + d - d = 2 ^ 16 by omega, Nat.mod_self, Nat.zero_and]
      have := an_s (l := 16) (a := 0) (b := 65536) (c := d) (e := 0) (by decide) (by omega)
      rw [Nat.mul_zero, Nat.zero_add, Nat.and_zero, Nat.zero_and, Nat.mul_zero] at this
      exact this
    · rw [Nat.mod_eq_of_lt (show 2 ^ 16 + ch d 16 x - d < 2 ^ 16 by omega), show 4294967296 + ch d 16 x - d = 2 ^ 16 * 65535 + (2 ^ 16 + ch d 16 x - d) by omega]
      have := an_s (l := 16) (a := 2 ^ 16 + ch d 16 x - d) (b := 65535) (c := d) (e := 0) (by omega) (by omega)
      rw [Nat.mul_zero, Nat.zero_add, Nat.and_zero, Nat.mul_zero, Nat.zero_add] at this
      exact this
  rw [e2, i3]
  split <;> rfl
theorem R_mended {S M : Mem} (hS : SOK S) (hI : InvR S M) (v w : Int32) {Q : Int32 → Mem → Prop} (hQ : ∀ M1, InvR S M1 → FrR M M1 → Q (a_mended S v w) M1) : wp_X10_mended v w M Q := by
  unfold wp_X10_mended
  simp only [e_X10_isVersion, bi_z, Classical.not_not]
  unfold a_mended at hQ
  refine ⟨fun h => ?_, fun h1 => ⟨fun h => ?_, fun h2 => ?_⟩⟩
  · rw [if_neg (fun z => h z.1)] at hQ; exact hQ M hI FrR.rf
  · rw [if_neg (fun z => h z.2)] at hQ; exact hQ M hI FrR.rf
  · rw [if_pos ⟨h1, h2⟩] at hQ
    obtain ⟨j, hj, rfl⟩ := ni_ofle (n := 3) (by decide) h1.1 h1.2
    obtain ⟨j2, hj2, rfl⟩ := ni_ofle (n := 3) (by decide) h2.1 h2.2
    rw [ni_cl (show j < 2147483648 by omega), ni_cl (show j2 < 2147483648 by omega)] at hQ
    refine p_X10_differOf hS hI (by omega) (by omega) (fun M1 hI1 hF1 => ?_)
    have hd : dfN (vA S j) (vA S j2) 16 < 65536 := dfN_lt
    generalize hdd : dfN (vA S j) (vA S j2) 16 = d at hd hQ ⊢
    have hp16 : pcn d 16 ≤ 16 := pcn_le
    refine p_X10_ones _ ?_
    rw [bts_p (by omega)]
    have nr : ∀ k, k ∈ rvk → (53 ≤ k ∧ k ≤ 85) ∨ 700 ≤ k := by decide
    have fr1 : FrR M M1 := fun k q => hF1 k (fun z => q (yrefk (nr k z)))
    refine ⟨fun q => ?_, fun q => ?_⟩
    · have h8 := (ni_le (b := 8) (by omega) (by omega)).mp q
      rw [if_pos h8] at hQ
      have h256 : al d 16 ≤ 256 := by
        rw [al_p]
        have := Nat.pow_le_pow_right (n := 2) (by decide) h8
        exact this
      have hal0 : 0 < al d 16 := al_0
      suffices hh : ∃ f, w_X10_mended_45 Q f (nI j) (nI j2) (nI d) (mdO d (mdB (vA S j) (vA S j2) d 0)) (if 0 = al d 16 then 0 else nI (ch d 16 0)) (if 0 = al d 16 then 0 else 1) M1 by
        rw [if_neg (by omega), if_neg (by omega), ch_0] at hh
        exact hh
      refine pk_loop (fun f i (z : Mem) => w_X10_mended_45 Q f (nI j) (nI j2) (nI d) (mdO d (mdB (vA S j) (vA S j2) d i)) (if i = al d 16 then 0 else nI (ch d 16 i)) (if i = al d 16 then 0 else 1) z) (fun i z => InvR S z ∧ FrR M z) (al d 16) 0 M1 (Nat.zero_le _) ⟨hI1, fr1⟩ ?_ ?_
      · rintro f z ⟨g1, g2⟩
        unfold w_X10_mended_45
        rw [if_pos rfl]
        exact ⟨fun _ => hQ z g1 g2, fun q => absurd rfl q⟩
      · rintro f i z hi ⟨g1, g2⟩ ih
        have hch := ch_lt (d := d) (l := 16) (x := i)
        rw [if_neg (by omega), if_neg (by omega)]
        have nx95 : ∀ z b, InvR S z → FrR M z → b = mdO d (mdB (vA S j) (vA S j2) d (i + 1)) → w_X10_mended_95 Q (fun x1 x2 x3 x4 x5 x6 M => w_X10_mended_45 Q f x1 x2 x3 x4 x5 x6 M) (nI j) (nI j2) (nI d) b (nI (ch d 16 i)) z := by
          rintro z _ q1 q2 rfl
          have := ih z ⟨q1, q2⟩
          unfold w_X10_mended_95 w_X10_mended_113
          rintro _ rfl
          rw [nx_I hd hi]
          by_cases e : i + 1 = al d 16
          · rw [if_pos e, if_pos e] at this
            rw [if_pos e]
            exact ⟨fun _ => this, fun q => absurd rfl q⟩
          · rw [if_neg e, if_neg e] at this
            rw [if_neg e]
            have hpos := ch_pos (d := d) (l := 16) (x := i + 1) (by omega) (by omega)
            have hch1 := ch_lt (d := d) (l := 16) (x := i + 1)
            exact ⟨fun q => absurd ((ni_eq (b := 0) (by omega) (by omega)).mp q) (by omega), fun _ => this⟩
        have nx69 : (∀ y, mdB (vA S j) (vA S j2) d i = some y → pcn i 16 < pcn y 16) → w_X10_mended_69 Q (fun x1 x2 x3 x4 x5 x6 M => w_X10_mended_45 Q f x1 x2 x3 x4 x5 x6 M) (nI j) (nI j2) (nI d) (mdO d (mdB (vA S j) (vA S j2) d i)) (nI (ch d 16 i)) z := by
          intro hb
          unfold w_X10_mended_69 w_X10_mended_93
          refine p_X10_mixes hS g1 (by omega) (by omega) (by omega) (fun M2 hI2 hMx hF2 => p_X10_partsBy (m := 4) hS hMx (by decide) (fun M3 hF3 => ?_))
          have nn : ∀ k, k ∈ rvk ++ [716, 717, 718] → (53 ≤ k ∧ k ≤ 85) ∨ 700 ≤ k := by decide
          have ng : ∀ k, k ∈ prk → (53 ≤ k ∧ k ≤ 85) ∨ 700 ≤ k := by decide
          have hI3 : InvR S M3 := hI2.keep (fun q hq => hF3 q (by revert hq; revert q; unfold irk prk; decide))
          have hf3 : FrR M M3 := fun q hq => (hF3 q (fun z => hq (yrefk (ng q z)))).trans ((hF2 q (fun z => hq (yrefk (nn q z)))).trans (g2 q hq))
          unfold lpOut
          cases e : lpS (mixA (vA S j) (vA S j2) (ch d 16 i)) 4 with
          | none =>
            have hok : okS (vA S j) (vA S j2) d i = true := by unfold okS; rw [e]; rfl
            refine ⟨fun _ => nx95 M3 _ hI3 hf3 ?_, fun q => absurd rfl q⟩
            rw [mdB]
            cases e2 : mdB (vA S j) (vA S j2) d i with
            | none => dsimp only; rw [if_pos hok]; rfl
            | some y => dsimp only; rw [if_pos ⟨hb y e2, hok⟩]; rfl
          | some p =>
            obtain ⟨n, g⟩ := p
            have hok : ¬ okS (vA S j) (vA S j2) d i = true := by unfold okS; rw [e]; exact fun q => by (cases q)
            have hn := lpS_n e
            intro _
            refine ⟨fun q => absurd q (ni_nem1 (by omega)), fun _ => nx95 M3 _ hI3 hf3 ?_⟩
            rw [mdB]
            cases e2 : mdB (vA S j) (vA S j2) d i with
            | none => dsimp only; rw [if_neg hok]
            | some y => dsimp only; rw [if_neg (fun q => hok q.2)]
        unfold w_X10_mended_45
        refine ⟨fun q => absurd q (by decide), fun _ => ⟨fun q => ?_, fun q => ?_⟩⟩
        · refine nx69 (fun y hy => ?_)
          rw [hy] at q
          have := ch_lt (d := d) (l := 16) (x := y)
          exact absurd q (ni_nem1 (by omega))
        · refine p_X10_ones _ (p_X10_ones _ ?_)
          cases e2 : mdB (vA S j) (vA S j2) d i with
          | none => rw [e2] at q; exact absurd rfl q
          | some y =>
            have hy := (mdB_i (A := vA S j) (B := vA S j2) (d := d) i).2 y e2
            have hcy := ch_lt (d := d) (l := 16) (x := y)
            have h16 : pcn i 16 ≤ 16 := pcn_le
            have h16y : pcn y 16 ≤ 16 := pcn_le
            rw [e2] at nx69
            have eb : bts (mdO d (some y)) = nI (pcn y 16) := by
              show bts (nI (ch d 16 y)) = _
              rw [bts_p (by omega), ch_pc (Nat.le_refl _) (by omega)]
            rw [eb, bts_p (by omega), ch_pc (Nat.le_refl _) hi]
            refine ⟨fun q2 => nx95 z _ g1 g2 ?_, fun q2 => nx69 (fun y' hy' => ?_)⟩
            · have := (ni_le (by omega) (by omega)).mp q2
              rw [mdB, e2]
              dsimp only
              rw [if_neg (fun z => by omega)]
            · cases hy'
              have : ¬ pcn y 16 ≤ pcn i 16 := fun z => q2 ((ni_le (by omega) (by omega)).mpr z)
              omega
    · have h8 : ¬ pcn d 16 ≤ 8 := fun z => q ((ni_le (b := 8) (by omega) (by omega)).mpr z)
      rw [if_neg h8] at hQ
      exact hQ M1 hI1 fr1
