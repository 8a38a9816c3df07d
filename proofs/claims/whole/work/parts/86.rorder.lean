/-! ORDER: the reference -/
theorem p_X10_daysOfSet {S M : Mem} (hS : SOK S) (hI : InvR S M) {T : Nat} (hT : T < 2147483648) {Q : Int32 → Mem → Prop} (hQ : Q (nI (dS S T (nc S))) M) : wp_X10_daysOfSet (nI T) M Q := by
  obtain ⟨n1, n2⟩ := hS.ncs
  unfold wp_X10_daysOfSet
  refine pk_loop (fun g c (z : Unit) => w_X10_daysOfSet_4 Q g (nI T) (nI (dS S T c)) (nI c) M) (fun _ _ => True) (nc S) 0 () (Nat.zero_le _) trivial ?_ ?_
  · intro g _ _
    unfold w_X10_daysOfSet_4
    rw [hI.n, n2]
    exact ⟨fun _ => hQ, fun q => absurd ((ni_le (by omega) (by omega)).mpr (Nat.le_refl _)) q⟩
  · intro g c _ hc _ ih
    have nx := ih () trivial
    rw [dS] at nx
    obtain ⟨r1, r2, r3, r4, r5, r6, r7, r8⟩ := hI.c hc
    unfold w_X10_daysOfSet_4 w_X10_daysOfSet_32
    rw [hI.n, n2, sh_m hT (by omega), cn_cl hS hc, r7, (hS.dw hc).1.1]
    have e2 : nI c + 1 = nI (c + 1) := by rw [nI_1]
    rw [e2]
    refine ⟨fun q => absurd ((ni_le (by omega) (by omega)).mp q) (by omega), fun _ => ⟨fun q => ⟨cn_in hS hc, ?_⟩, fun q => ?_⟩⟩
    · have hb := tb_d.mpr ((ni_eq (b := 1) (by omega) (by omega)).mp q)
      rintro _ rfl
      rw [if_pos hb] at nx
      rw [nI_add]; exact nx
    · have hb : ¬ T.testBit c = true := fun e => q (by rw [tb_d.mp e]; rfl)
      rintro _ rfl
      rw [if_neg hb] at nx
      rw [show (0 : Int32) = nI 0 from rfl, nI_add]; exact nx
theorem p_X10_costBy {S M : Mem} (hS : SOK S) (hI : InvR S M) {X T c : Nat} (hX : X < 4096) (hT : T ≤ X) (hs : sbS T X) (hc : c < nc S) (h80 : M 80 0 (rm T c) = nI (VT S X (rm T c))) {Q : Int32 → Mem → Prop} (hQ : Q (nI (cT S X T c)) M) : wp_X10_costBy (nI T) (nI c) (nI (dS S X (nc S))) M Q := by
  obtain ⟨n1, n2⟩ := hS.ncs
  obtain ⟨r1, r2, r3, r4, r5, r6, r7, r8⟩ := hI.c hc
  obtain ⟨⟨a1, a2⟩, a3, a4⟩ := hS.dw hc
  have hrm := rm_le (T := T) (c := c)
  unfold wp_X10_costBy
  refine ⟨cn_in hS hc, p_X10_daysOfSet hS hI (by omega) ⟨cn_in hS hc, ?_⟩⟩
  have e : nI T &&& ((1 <<< (nI c &&& 31)) ^^^ (-1)) = nI (rm T c) := by
    rw [sh_1 (by omega), cp_1 c (by omega), fa_and]; rfl
  rw [e, cn_cl hS hc, ni_cl (show rm T c < 2147483648 by omega), r8, a3, r7, a1, h80, ni_sub (dS_le hs), nI_add, pk_mul, nI_add]
  exact ⟨(ni_in (by omega)).mpr (by omega), hQ⟩
theorem R_order {S M : Mem} (hS : SOK S) (hI : InvR S M) (x i : Int32) {Q : Int32 → Mem → Prop} (hQ : ∀ M1, InvR S M1 → FrR M M1 → Q (a_order S x i) M1) : wp_X10_order x i M Q := by
  obtain ⟨n1, n2⟩ := hS.ncs
  have hp2 : 2 ^ nc S ≤ 2 ^ 12 := Nat.pow_le_pow_right (by decide) n1
  have hp0 : 0 < 2 ^ nc S := Nat.pow_pos (by decide)
  unfold a_order at hQ
  unfold wp_X10_order
  rw [e_X10_in, bi_z, Classical.not_not, hI.n, n2, sh_1 (by omega)]
  have e1 : nI (2 ^ nc S) - 1 = nI (2 ^ nc S - 1) := ni_sub (b := 1) (by omega)
  rw [e1]
  refine ⟨fun q => ?_, fun hx => ?_⟩
  · rw [if_neg (fun z => q ⟨z.1.1, by
      obtain ⟨X, hX, e⟩ := ni_of (n := 2 ^ nc S) (by omega) z.1.1 z.1.2
      rw [e]; exact (ni_le (by omega) (by omega)).mpr (by omega)⟩)] at hQ
    exact hQ M hI FrR.rf
  · obtain ⟨X, hX', rfl⟩ := ni_ofle (n := 2 ^ nc S - 1) (by omega) hx.1 hx.2
    have hX : X < 2 ^ nc S := by omega
    have hxx : 0 ≤ nI X ∧ nI X < nI (2 ^ nc S) := ⟨hx.1, (ni_lt (by omega) (by omega)).mpr hX⟩
    rw [ni_cl (show X < 2147483648 by omega)] at hQ
    have hp16 : pcn X 16 ≤ 16 := pcn_le
    have hpz : pcn X 16 = pcn X (nc S) := pcn_z hX (by omega)
    have hlen : (osrt S X (nc S)).length = pcn X 16 := by rw [osrt_l, hpz]
    refine p_X10_ones _ ?_
    rw [bts_p (by omega)]
    refine ⟨fun q => ?_, fun q => ?_⟩
    · have := (ni_lt (a := 8) (by omega) (by omega)).mp q
      rw [if_neg (fun z => by omega)] at hQ
      exact hQ M hI FrR.rf
    · have h8 : pcn X 16 ≤ 8 := by
        have : ¬ 8 < pcn X 16 := fun z => q ((ni_lt (a := 8) (by omega) (by omega)).mpr z)
        omega
      have main : (i = -1 ∨ (0 ≤ i ∧ i < nI (pcn X 16))) → w_X10_order_47 Q (nI X) i M := by
        intro hi
        rw [if_pos ⟨hxx, h8, hi⟩] at hQ
        unfold w_X10_order_47
        refine p_X10_daysOfSet hS hI (by omega) ⟨(ni_in (a := 0) (by decide)).mpr (by decide), ?_⟩
        rintro _ rfl
        have c0 : (0 : Int32).toNatClampNeg = 0 := rfl
        rw [c0]
        have sX : sbS X X := fun j h => h
        suffices hh : ∃ g, w_X10_order_63 Q g (nI X) i (nI (dS S X (nc S))) (nI (0 + 1)) (mst M 80 0 0 0) from hh
        refine pk_loop (fun g T (m : Mem) => w_X10_order_63 Q g (nI X) i (nI (dS S X (nc S))) (nI (T + 1)) m) (fun T m => (∀ k, k ≠ 80 → m k = M k) ∧ ∀ T', T' < T + 1 → sbS T' X → m 80 0 T' = nI (VT S X T')) X 0 (mst M 80 0 0 0) (Nat.zero_le _) ⟨fun k z => mst_ne z, fun T' hT' _ => ?_⟩ ?_ ?_
        · have : T' = 0 := by omega
          subst this
          rw [mst_eq]
          unfold VT LT
          have : (osrt S X (nc S)).filter (fun c => (0 : Nat).testBit c) = [] := by
            rw [List.filter_eq_nil_iff]
            intro a _
            rw [Nat.zero_testBit]; decide
          rw [this]; rfl
        · rintro g m ⟨h1, h2⟩
          have hIm : InvR S m := hI.keep (fun k q => h1 k (fun e => absurd (e ▸ q) (by unfold irk; decide)))
          have hfm : FrR M m := fun k q => h1 k (fun e => q (yrefk (by rw [e]; decide)))
          have hQ' := hQ m hIm hfm
          unfold w_X10_order_63
          refine ⟨fun _ => ⟨fun e => ?_, fun e => ?_⟩, fun z => absurd ((ni_lt (by omega) (by omega)).mpr (by omega)) z⟩
          · rw [if_pos e] at hQ'
            rw [ni_cl (by omega), h2 X (by omega) sX]
            have : VT S X X = KK S 0 (osrt S X (nc S)) := by
              unfold VT LT
              rw [Nat.sub_self]
              congr 1
              rw [List.filter_eq_self]
              intro c hc
              exact (osrt_m.mp hc).2
            rw [this]
            exact ⟨(ni_in (by omega)).mpr (by omega), hQ'⟩
          · rw [if_neg e] at hQ'
            have hi2 := hi.resolve_left e
            obtain ⟨y, hy, rfl⟩ := ni_of (n := pcn X 16) (by omega) hi2.1 hi2.2
            rw [ni_cl (by omega)] at hQ'
            have hLX : LT (osrt S X (nc S)) X = (osrt S X (nc S)).drop 0 := by
              unfold LT
              rw [List.drop_zero, List.filter_eq_self]
              intro c hc
              exact (osrt_m.mp hc).2
            refine pk_loop (fun g k (z : Nat × Int32) => w_X10_order_189 Q g (nI y) (nI (dS S X (nc S))) (nI z.1) z.2 (nI k) m) (fun k z => (sbS z.1 X ∧ z.1 ≤ X) ∧ LT (osrt S X (nc S)) z.1 = (osrt S X (nc S)).drop k ∧ (0 < k → z.2 = nI ((osrt S X (nc S)).getD (k - 1) 0))) (y + 1) 0 (X, 0) (Nat.zero_le _) ⟨⟨sX, Nat.le_refl _⟩, hLX, fun z => absurd z (Nat.not_lt_zero _)⟩ ?_ ?_
            · rintro g2 ⟨T, x5⟩ ⟨_, _, z3⟩
              have z3' := z3 (by omega)
              dsimp only at z3' ⊢
              unfold w_X10_order_189
              rw [z3', show y + 1 - 1 = y by omega]
              exact ⟨fun _ => hQ', fun z => absurd ((ni_lt (by omega) (by omega)).mpr (by omega)) z⟩
            · rintro g2 k ⟨T, x5⟩ hk ⟨⟨sT, hTX⟩, hL, _⟩ ih
              dsimp only at sT hTX hL ⊢
              have hkl : k < (osrt S X (nc S)).length := by omega
              have hdr : (osrt S X (nc S)).drop k = (osrt S X (nc S))[k] :: (osrt S X (nc S)).drop (k + 1) := List.drop_eq_getElem_cons hkl
              have hgd : (osrt S X (nc S)).getD k 0 = (osrt S X (nc S))[k] := by rw [List.getD_eq_getElem?_getD, List.getElem?_eq_getElem hkl]; rfl
              generalize hh : (osrt S X (nc S))[k] = hd at hdr hgd
              have hp := LT_p (S := S) (X := X) (T := T) (n := nc S)
              rw [hL, hdr] at hp
              have hdm := LT_m.mp (show hd ∈ LT (osrt S X (nc S)) T by rw [hL, hdr]; exact List.mem_cons_self ..)
              have hdn := hdm.1.1
              have eV : VT S X T = KK S (dS S X (nc S) - dS S T (nc S)) (hd :: (osrt S X (nc S)).drop (k + 1)) := by unfold VT; rw [hL, hdr]
              have hVb := VT_b hS sT
              have ceq : cT S X T hd = VT S X T := by rw [cT_e hS sT hdn hdm.2, hL, hdr, eV, ← KK_h hp]
              have cne : ∀ c, c < hd → T.testBit c = true → cT S X T c ≠ VT S X T := fun c hlt hb z => by
                have hcn : c < nc S := by omega
                have hmem : c ∈ hd :: (osrt S X (nc S)).drop (k + 1) := by
                  rw [← hdr, ← hL]; exact LT_m.mpr ⟨⟨hcn, sT c hb⟩, hb⟩
                rw [cT_e hS sT hcn hb, hL, hdr, eV] at z
                exact KK_s hp hmem hlt z.symm
              unfold w_X10_order_189
              refine ⟨fun z => absurd ((ni_lt (by omega) (by omega)).mp z) (by omega), fun _ => ?_⟩
              have hIm' := hIm
              refine pk_loop (fun g' c (z : Unit) => w_X10_order_198 Q (fun x2 x3 x4 x5 x6 M => w_X10_order_189 Q g2 x2 x3 x4 x5 x6 M) g' (nI y) (nI (dS S X (nc S))) (nI T) (nI c) (nI k) m) (fun _ _ => True) hd 0 () (Nat.zero_le _) trivial ?_ ?_
              · intro g' _ _
                have hcb := cT_b hS sT hdn
                have hrl := rm_lt (T := T) (c := hd) (by omega) hdm.2
                unfold w_X10_order_198
                rw [sh_m (by omega) (by omega), tb_d.mp hdm.2]
                refine ⟨fun z => absurd z (by decide), fun _ => p_X10_costBy (X := X) hS hIm (by omega) hTX sT hdn (h2 _ (by omega) (sbS_rm sT)) ⟨(ni_in (by omega)).mpr (by omega), fun _ => ?_, fun z => absurd ?_ z⟩⟩
                · rintro _ rfl
                  have er : nI T &&& ((1 <<< (nI hd &&& 31)) ^^^ (-1)) = nI (rm T hd) := by
                    rw [sh_1 (by omega), cp_1 hd (by omega), fa_and]; rfl
                  have ek : nI k + 1 = nI (k + 1) := by rw [nI_1]
                  rw [er, ek]
                  refine ih (rm T hd, nI hd) ⟨⟨sbS_rm sT, by dsimp only; omega⟩, ?_, fun _ => ?_⟩
                  · dsimp only
                    rw [LT_rm (by omega) (by omega), hL, hdr, List.filter_cons, if_neg (by simp)]
                    rw [List.filter_eq_self]
                    intro a ha
                    have := (List.pairwise_cons.mp hp).1 a ha
                    exact decide_eq_true (fun z => rO_i (z ▸ this))
                  · dsimp only
                    rw [show k + 1 - 1 = k by omega, hgd]
                · rw [ceq, ni_cl (by omega), h2 T (by omega) sT]
              · intro g' c _ hc _ ih'
                have nx := ih' () trivial
                have ec : nI c + 1 = nI (c + 1) := by rw [nI_1]
                unfold w_X10_order_198 w_X10_order_227
                rw [sh_m (by omega) (by omega), ec]
                refine ⟨fun _ => nx, fun z => ?_⟩
                have hb : T.testBit c = true := tb_d.mpr (by
                  have : ¬ T / 2 ^ c % 2 = 0 := fun e => z (by rw [e]; rfl)
                  omega)
                have hcn : c < nc S := by omega
                have hcb := cT_b hS sT hcn
                have hrl := rm_lt (T := T) (c := c) (by omega) hb
                refine p_X10_costBy (X := X) hS hIm (by omega) hTX sT hcn (h2 _ (by omega) (sbS_rm sT)) ⟨(ni_in (by omega)).mpr (by omega), fun z2 => ?_, fun _ => nx⟩
                rw [ni_cl (by omega), h2 T (by omega) sT] at z2
                exact absurd ((ni_eq (by omega) (by omega)).mp z2) (cne c hc hb)
        · rintro g T0 m hT0 ⟨h1, h2⟩ ih
          have hIm : InvR S m := hI.keep (fun k q => h1 k (fun e => absurd (e ▸ q) (by unfold irk; decide)))
          generalize hTT : T0 + 1 = T at h2
          have eT : nI T + 1 = nI (T0 + 1 + 1) := by rw [← hTT, nI_1]
          unfold w_X10_order_63 w_X10_order_162
          rw [sbS_iff (by omega) (by omega), eT]
          refine ⟨fun z => absurd ((ni_lt (by omega) (by omega)).mp z) (by omega), fun _ => ⟨fun sT => ?_, fun sT => ih m ⟨h1, fun T' hT' sT' => ?_⟩⟩⟩
          · suffices hh : ∃ g', w_X10_order_84 Q (fun x1 x2 x3 x4 M => w_X10_order_63 Q g x1 x2 x3 x4 M) g' (nI X) i (nI (dS S X (nc S))) (nI T) (bO (bsT S X T 0)) (nI 0) m from hh
            refine pk_loop (fun g' c (z : Unit) => w_X10_order_84 Q (fun x1 x2 x3 x4 M => w_X10_order_63 Q g x1 x2 x3 x4 M) g' (nI X) i (nI (dS S X (nc S))) (nI T) (bO (bsT S X T c)) (nI c) m) (fun _ _ => True) (nc S) 0 () (Nat.zero_le _) trivial ?_ ?_
            · intro g' _ _
              unfold w_X10_order_84 w_X10_order_162
              rw [hIm.n, n2, eT]
              refine ⟨fun _ => ⟨(ni_in (by omega)).mpr (by omega), ?_⟩, fun z => absurd ((ni_le (by omega) (by omega)).mpr (Nat.le_refl _)) z⟩
              rintro _ rfl
              rw [ni_cl (by omega), bsT_v hS sT (by omega) (by omega)]
              refine ih _ ⟨fun k z => (mst_ne z).trans (h1 k z), fun T' hT' sT' => ?_⟩
              rw [mst_k]
              by_cases e : T' = T
              · rw [if_pos ⟨rfl, e⟩, e]; rfl
              · rw [if_neg (fun z => e z.2)]; exact h2 T' (by omega) sT'
            · intro g' c _ hc _ ih'
              have nx := ih' () trivial
              rw [bsT] at nx
              have ec : nI c + 1 = nI (c + 1) := by rw [nI_1]
              unfold w_X10_order_84
              rw [hIm.n, n2, sh_m (by omega) (by omega)]
              refine ⟨fun z => absurd ((ni_le (by omega) (by omega)).mp z) (by omega), fun _ => ⟨fun z => ?_, fun z => ?_⟩⟩
              · have hb : T.testBit c = true := tb_d.mpr ((ni_eq (b := 1) (by omega) (by omega)).mp z)
                have hcb := cT_b hS sT hc
                have hrl := rm_lt (T := T) (c := c) (by omega) hb
                rw [if_pos hb] at nx
                refine p_X10_costBy (X := X) hS hIm (by omega) (by omega) sT hc (h2 _ (by omega) (sbS_rm sT)) ?_
                unfold w_X10_order_117 w_X10_order_143 w_X10_order_138 w_X10_order_145
                rw [ec]
                refine ⟨fun y => absurd y (ni_nem1 (by omega)), fun _ => ?_⟩
                cases e : bsT S X T c with
                | none =>
                  rw [e] at nx
                  exact ⟨fun _ => nx, fun y => absurd rfl y⟩
                | some b =>
                  rw [e] at nx
                  dsimp only at nx
                  obtain ⟨_, c1, _, hb1, ebb⟩ := (bsT_i (S := S) (X := X) (T := T) c).2 b e
                  have hbb : b ≤ 500000 := by rw [ebb]; exact cT_b hS sT (by omega)
                  refine ⟨fun y => absurd y (ni_nem1 (by omega)), fun _ => ⟨fun y => ?_, fun y => ?_⟩⟩
                  · rw [if_pos ((ni_le (by omega) (by omega)).mp y)] at nx; exact nx
                  · rw [if_neg (fun w => y ((ni_le (by omega) (by omega)).mpr w))] at nx; exact nx
              · have hb : ¬ T.testBit c = true := fun e => z (by rw [tb_d.mp e]; rfl)
                rw [if_neg hb] at nx
                unfold w_X10_order_117 w_X10_order_143 w_X10_order_145
                rw [ec]
                exact ⟨fun _ => nx, fun y => absurd rfl y⟩
          · by_cases e : T' = T
            · rw [e] at sT'; exact absurd sT' sT
            · exact h2 T' (by omega) sT'
      refine ⟨fun e => main (Or.inl e), fun e => p_X10_ones _ ?_⟩
      rw [bts_p (by omega), e_X10_in, bi_z, Classical.not_not]
      by_cases p0 : pcn X 16 = 0
      · have e0 : ¬ (0 ≤ i ∧ i ≤ nI (pcn X 16) - 1) := by
          rw [p0]
          have : nI 0 - 1 = -1 := by decide
          rw [this]
          rintro ⟨a, b⟩; grind
        refine ⟨fun _ => ?_, fun z => absurd z e0⟩
        rw [if_neg (fun z => by
          rcases z.2.2 with y | y
          · exact e y
          · rw [p0] at y
            have : nI 0 = 0 := rfl
            rw [this] at y
            grind)] at hQ
        exact hQ M hI FrR.rf
      · have e2 : nI (pcn X 16) - 1 = nI (pcn X 16 - 1) := ni_sub (b := 1) (by omega)
        rw [e2]
        refine ⟨fun z => ?_, fun z => main (Or.inr ⟨z.1, ?_⟩)⟩
        · rw [if_neg (fun y => by
            rcases y.2.2 with w | w
            · exact e w
            · obtain ⟨y', hy', ey⟩ := ni_of (n := pcn X 16) (by omega) w.1 w.2
              exact z ⟨w.1, by rw [ey]; exact (ni_le (by omega) (by omega)).mpr (by omega)⟩)] at hQ
          exact hQ M hI FrR.rf
        · obtain ⟨y', hy', ey⟩ := ni_ofle (n := pcn X 16 - 1) (by omega) z.1 z.2
          rw [ey]; exact (ni_lt (by omega) (by omega)).mpr (by omega)
