set_option maxRecDepth 100000 in
set_option maxHeartbeats 4000000 in
theorem c_X2_judge {G : GG} {n : Nat} {l : Launch} (j1 : Nat) (hj1 : j1 < cnt n 0) (M : Mem) (Q : Mem → Prop) (hw : wp_X2_judge j1 M Q) : Ct G n l yX2_judge cX2_judge 7 none 4 99 [.ref (gad G 2 0), .ref (gad G 0 j1), .ref (gad G 4 0)] M (Qv G n Q) := by
  refine ct_of (by decide) (Nat.le_of_ble_eq_true rfl) (lv := [(0, .ref (gad G 2 0)), (1, .ref (gad G 0 j1)), (2, .ref (gad G 4 0))]) rfl (fun E C HR HT hE => ?_)
  replace C : Cx G n E RX2 cX2_judge 7 := C
  refine w_aload_n C 0 dX2_judge_0 rfl rfl ?_
  refine w_aload_n C 1 dX2_judge_1 rfl rfl ?_
  refine back_V (run_V C HR mt_X2_begin (ci := 2) rfl (by decide) (Nat.le_of_ble_eq_true rfl) gw782 gw17 gw780 (by decide) rfl (Nat.le_of_ble_eq_true rfl) dX2_judge_2 (As := [.ref (gad G 0 j1)]) rfl (c_X2_begin j1 hj1 _ _ hw)) (fun M1 hw => ?_)
  refine w_aload_n C 0 dX2_judge_5 rfl rfl ?_
  refine w_aload_n C 2 dX2_judge_6 rfl rfl ?_
  refine gf_X2_56 C (Nat.le_of_ble_eq_true rfl) dX2_judge_7 ?_
  refine v_getD C (s1 := 401) (by decide) (fun b2 => ?_)
  refine back_V (run_V C HR mt_X2_findLikeEvents (ci := 2) rfl (by decide) (Nat.le_of_ble_eq_true rfl) gw798 gw20 gw796 (by decide) rfl (Nat.le_of_ble_eq_true rfl) dX2_judge_10 (As := [.ref (gad G 8 ((M1 401 0 0).toNatClampNeg))]) rfl (c_X2_findLikeEvents ((M1 401 0 0).toNatClampNeg) b2 _ _ hw)) (fun M3 hw => ?_)
  refine w_iconst C dX2_judge_13 kc_i_1 ?_
  refine w_iconst C dX2_judge_14 kc_i_3 ?_
  refine w_aload_n C 0 dX2_judge_15 rfl rfl ?_
  refine gf_X2_43 C (Nat.le_of_ble_eq_true rfl) dX2_judge_16 ?_
  refine w_imul C dX2_judge_19 ?_
  refine w_ishl C dX2_judge_20 ?_
  refine w_istore_nV C dX2_judge_21 rfl (by decide) (fun a4 ea4 => w_lv (lv' := [(3, .int a4), (0, .ref (gad G 2 0)), (1, .ref (gad G 0 j1)), (2, .ref (gad G 4 0))]) rfl ?_)
  replace hw := hw a4 ea4
  refine w_aload_n C 2 dX2_judge_22 rfl rfl ?_
  refine gf_X2_66 C hj1 dX2_judge_23 ?_
  refine w_iconst C dX2_judge_26 kc_i_0 ?_
  refine back_V (run_S C HR mt_J7_fill_53178 gw397 gw802 (by decide) rfl (Nat.le_of_ble_eq_true rfl) dX2_judge_27 (As := [.ref (gad G 21 j1), .int 0]) rfl (c_J7_fill_53178 21 j1 0 ak_21 hj1 _ _ hw)) (fun M5 hw => ?_)
  refine w_aload_n C 2 dX2_judge_30 rfl rfl ?_
  refine gf_X2_66 C hj1 dX2_judge_31 ?_
  refine w_iconst C dX2_judge_34 kc_i_0 ?_
  refine w_iload_n C 0 dX2_judge_35 rfl rfl ?_
  obtain ⟨b6, hw⟩ := hw
  refine v_iast C ak_21 rfl hj1 b6 dX2_judge_36 (w_mem fun M7 eM7 => ?_)
  replace hw := hw M7 eM7
  refine w_aload_n C 2 dX2_judge_37 rfl rfl ?_
  refine w_iconst C dX2_judge_38 kc_i_0 ?_
  refine pf_X2_77 C hj1 dX2_judge_39 (w_mem fun M8 eM8 => ?_)
  replace hw := hw M8 eM8
  refine w_iconst C dX2_judge_42 kc_i_0 ?_
  refine w_istore C (lv' := [(4, .int 0), (3, .int a4), (0, .ref (gad G 2 0)), (1, .ref (gad G 0 j1)), (2, .ref (gad G 4 0))]) dX2_judge_43 (by decide) rfl ?_
  obtain ⟨f9, hw⟩ := hw
  exact w_sub [2, 3, 4, 1, 0] rfl (s_X2_judge_45 C HR HT  f9 j1 a4 0 hj1 _ hw)
set_option maxRecDepth 100000 in
set_option maxHeartbeats 4000000 in
theorem c_J6_bitCount_0f7a4 {G : GG} {n : Nat} {l : Launch} (x0 : Int32)  (M : Mem) (Q : Int32 → Mem → Prop) (hw : wp_J6_bitCount_0f7a4 x0 M Q) : Ct G n l yJ6_bitCount_0f7a4 cJ6_bitCount_0f7a4 1 (some .int) 0 0 [.int x0] M (Qi G n Q) := by
  refine ct_ofF (by decide +kernel) (Nat.le_of_ble_eq_true rfl) (lv := [(0, .int x0)]) rfl (fun E C HR HT hE => ?_)
  replace C : Cx G n E RJ6 cJ6_bitCount_0f7a4 1 := C
  refine w_iload_n C 0 dJ6_bitCount_0f7a4_0 rfl rfl ?_
  refine w_iload_n C 0 dJ6_bitCount_0f7a4_1 rfl rfl ?_
  refine w_iconst C dJ6_bitCount_0f7a4_2 kc_i_1 ?_
  refine w_iushr C dJ6_bitCount_0f7a4_3 ?_
  refine w_ldcw C dJ6_bitCount_0f7a4_4 gw629 ?_
  refine w_iand C dJ6_bitCount_0f7a4_7 ?_
  refine w_isub C dJ6_bitCount_0f7a4_8 ?_
  refine w_istore_nV C dJ6_bitCount_0f7a4_9 rfl (by decide) (fun a1 ea1 => w_lv (lv' := [(0, .int a1)]) rfl ?_)
  replace hw := hw a1 ea1
  refine w_iload_n C 0 dJ6_bitCount_0f7a4_10 rfl rfl ?_
  refine w_ldcw C dJ6_bitCount_0f7a4_11 gw630 ?_
  refine w_iand C dJ6_bitCount_0f7a4_14 ?_
  refine w_iload_n C 0 dJ6_bitCount_0f7a4_15 rfl rfl ?_
  refine w_iconst C dJ6_bitCount_0f7a4_16 kc_i_2 ?_
  refine w_iushr C dJ6_bitCount_0f7a4_17 ?_
  refine w_ldcw C dJ6_bitCount_0f7a4_18 gw630 ?_
  refine w_iand C dJ6_bitCount_0f7a4_21 ?_
  refine w_iadd C dJ6_bitCount_0f7a4_22 ?_
  refine w_istore_nV C dJ6_bitCount_0f7a4_23 rfl (by decide) (fun a2 ea2 => w_lv (lv' := [(0, .int a2)]) rfl ?_)
  replace hw := hw a2 ea2
  refine w_iload_n C 0 dJ6_bitCount_0f7a4_24 rfl rfl ?_
  refine w_iload_n C 0 dJ6_bitCount_0f7a4_25 rfl rfl ?_
  refine w_iconst C dJ6_bitCount_0f7a4_26 kc_i_4 ?_
  refine w_iushr C dJ6_bitCount_0f7a4_27 ?_
  refine w_iadd C dJ6_bitCount_0f7a4_28 ?_
  refine w_ldcw C dJ6_bitCount_0f7a4_29 gw631 ?_
  refine w_iand C dJ6_bitCount_0f7a4_32 ?_
  refine w_istore_nV C dJ6_bitCount_0f7a4_33 rfl (by decide) (fun a3 ea3 => w_lv (lv' := [(0, .int a3)]) rfl ?_)
  replace hw := hw a3 ea3
  refine w_iload_n C 0 dJ6_bitCount_0f7a4_34 rfl rfl ?_
  refine w_iload_n C 0 dJ6_bitCount_0f7a4_35 rfl rfl ?_
  refine w_bipush C dJ6_bitCount_0f7a4_36 kc_b_8 ?_
  refine w_iushr C dJ6_bitCount_0f7a4_38 ?_
  refine w_iadd C dJ6_bitCount_0f7a4_39 ?_
  refine w_istore_nV C dJ6_bitCount_0f7a4_40 rfl (by decide) (fun a4 ea4 => w_lv (lv' := [(0, .int a4)]) rfl ?_)
  replace hw := hw a4 ea4
  refine w_iload_n C 0 dJ6_bitCount_0f7a4_41 rfl rfl ?_
  refine w_iload_n C 0 dJ6_bitCount_0f7a4_42 rfl rfl ?_
  refine w_bipush C dJ6_bitCount_0f7a4_43 kc_b_16 ?_
  refine w_iushr C dJ6_bitCount_0f7a4_45 ?_
  refine w_iadd C dJ6_bitCount_0f7a4_46 ?_
  refine w_istore_nV C dJ6_bitCount_0f7a4_47 rfl (by decide) (fun a5 ea5 => w_lv (lv' := [(0, .int a5)]) rfl ?_)
  replace hw := hw a5 ea5
  refine w_iload_n C 0 dJ6_bitCount_0f7a4_48 rfl rfl ?_
  refine w_bipush C dJ6_bitCount_0f7a4_49 kc_b_63 ?_
  refine w_iand C dJ6_bitCount_0f7a4_51 ?_
  exact ret_I C HT hw dJ6_bitCount_0f7a4_52
set_option maxRecDepth 100000 in
set_option maxHeartbeats 4000000 in
theorem s_X3_ruleOut_42 {G : GG} {n : Nat} {E : EE} (C : Cx G n E RX3 cX3_ruleOut 5) (HR : RM E 0 0) (HT : RT E none) {Q : Mem → Prop} {K3 : Int32 → Int32 → Int32 → Int32 → Mem → Prop} (g3 : ∀ (x1 : Int32) (x2 : Int32) (x3 : Int32) (x4 : Int32)  (M : Mem), K3 x1 x2 x3 x4 M → WW G n E 5 (QE G E (Qv G n Q)) 3 [(0, .ref (gad G 3 0)), (1, .int x1), (2, .int x2), (3, .int x3), (4, .int x4)] [] M) : ∀ (x1 : Int32) (x2 : Int32) (x3 : Int32) (x4 : Int32)  (M : Mem), w_X3_ruleOut_42 Q K3 x1 x2 x3 x4 M → WW G n E 5 (QE G E (Qv G n Q)) 42 [(0, .ref (gad G 3 0)), (1, .int x1), (2, .int x2), (3, .int x3), (4, .int x4)] [] M := by
  intro x1 x2 x3 x4 M hw
  refine w_iincV C (lv' := [(4, .int (x4 + 1)), (0, .ref (gad G 3 0)), (1, .int x1), (2, .int x2), (3, .int x3)]) 4 dX3_ruleOut_42 kc_i_1 rfl (by decide) rfl ?_
  refine w_goto C dX3_ruleOut_45 (tgt := 3) rfl ?_
  exact w_sub [1, 2, 3, 4, 0] rfl (g3 x1 x2 x3 (x4 + 1)  _ hw)
set_option maxRecDepth 100000 in
set_option maxHeartbeats 4000000 in
theorem s_X3_ruleOut_3 {G : GG} {n : Nat} {E : EE} (C : Cx G n E RX3 cX3_ruleOut 5) (HR : RM E 0 0) (HT : RT E none) {Q : Mem → Prop}  : ∀ (f : Nat) (x1 : Int32) (x2 : Int32) (x3 : Int32) (x4 : Int32)  (M : Mem), w_X3_ruleOut_3 Q  f x1 x2 x3 x4 M → WW G n E 5 (QE G E (Qv G n Q)) 3 [(0, .ref (gad G 3 0)), (1, .int x1), (2, .int x2), (3, .int x3), (4, .int x4)] [] M := by
  intro f
  induction f with
  | zero => intro x1 x2 x3 x4 M hw; exact hw.elim
  | succ f ih =>
    intro x1 x2 x3 x4 M hw
    refine w_iload C 4 dX3_ruleOut_3 rfl ?_
    refine w_iload_n C 3 dX3_ruleOut_5 rfl rfl ?_
    refine w_icmp_ge C dX3_ruleOut_6 (tgt := 48) rfl (fun c2 => ?_) (fun c2 => ?_)
    · replace hw := hw.1 c2
      exact ret_V C HT hw dX3_ruleOut_48
    · replace hw := hw.2 c2
      refine w_aload_n C 0 dX3_ruleOut_9 rfl rfl ?_
      refine gf_X3_9 C (Nat.le_of_ble_eq_true rfl) dX3_ruleOut_10 ?_
      refine w_iload C 4 dX3_ruleOut_13 rfl ?_
      obtain ⟨b3, hw⟩ := hw
      refine v_iald C ak_32 rfl (Nat.le_of_ble_eq_true rfl) b3 dX3_ruleOut_15 ?_
      refine w_iconst C dX3_ruleOut_16 kc_i_m1 ?_
      refine w_icmp_eq C dX3_ruleOut_17 (tgt := 42) rfl (fun c4 => ?_) (fun c4 => ?_)
      · replace hw := hw.1 c4
        exact w_sub [0, 1, 2, 3, 4] rfl (s_X3_ruleOut_42 C HR HT ih x1 x2 x3 x4  _ hw)
      · replace hw := hw.2 c4
        refine w_aload_n C 0 dX3_ruleOut_20 rfl rfl ?_
        refine gf_X3_9 C (Nat.le_of_ble_eq_true rfl) dX3_ruleOut_21 ?_
        refine w_iload C 4 dX3_ruleOut_24 rfl ?_
        obtain ⟨b5, hw⟩ := hw
        refine v_iald C ak_32 rfl (Nat.le_of_ble_eq_true rfl) b5 dX3_ruleOut_26 ?_
        refine w_iload_n C 1 dX3_ruleOut_27 rfl rfl ?_
        refine w_ixor C dX3_ruleOut_28 ?_
        refine w_iload_n C 2 dX3_ruleOut_29 rfl rfl ?_
        refine w_iand C dX3_ruleOut_30 ?_
        refine w_if_ne C dX3_ruleOut_31 (tgt := 42) rfl (fun c6 => ?_) (fun c6 => ?_)
        · replace hw := hw.2 c6
          exact w_sub [0, 1, 2, 3, 4] rfl (s_X3_ruleOut_42 C HR HT ih x1 x2 x3 x4  _ hw)
        · replace hw := hw.1 c6
          refine w_aload_n C 0 dX3_ruleOut_34 rfl rfl ?_
          refine gf_X3_9 C (Nat.le_of_ble_eq_true rfl) dX3_ruleOut_35 ?_
          refine w_iload C 4 dX3_ruleOut_38 rfl ?_
          refine w_iconst C dX3_ruleOut_40 kc_i_m1 ?_
          obtain ⟨b7, hw⟩ := hw
          refine v_iast C ak_32 rfl (Nat.le_of_ble_eq_true rfl) b7 dX3_ruleOut_41 (w_mem fun M8 eM8 => ?_)
          replace hw := hw M8 eM8
          exact w_sub [0, 1, 2, 3, 4] rfl (s_X3_ruleOut_42 C HR HT ih x1 x2 x3 x4  _ hw)
set_option maxRecDepth 100000 in
set_option maxHeartbeats 4000000 in
theorem c_X3_ruleOut {G : GG} {n : Nat} {l : Launch} (x1 : Int32) (x2 : Int32) (x3 : Int32)  (M : Mem) (Q : Mem → Prop) (hw : wp_X3_ruleOut x1 x2 x3 M Q) : Ct G n l yX3_ruleOut cX3_ruleOut 5 none 0 0 [.ref (gad G 3 0), .int x1, .int x2, .int x3] M (Qv G n Q) := by
  refine ct_of (by decide) (Nat.le_of_ble_eq_true rfl) (lv := [(0, .ref (gad G 3 0)), (1, .int x1), (2, .int x2), (3, .int x3)]) rfl (fun E C HR HT hE => ?_)
  replace C : Cx G n E RX3 cX3_ruleOut 5 := C
  refine w_iconst C dX3_ruleOut_0 kc_i_0 ?_
  refine w_istore C (lv' := [(4, .int 0), (0, .ref (gad G 3 0)), (1, .int x1), (2, .int x2), (3, .int x3)]) dX3_ruleOut_1 (by decide) rfl ?_
  obtain ⟨f1, hw⟩ := hw
  exact w_sub [1, 2, 3, 4, 0] rfl (s_X3_ruleOut_3 C HR HT  f1 x1 x2 x3 0  _ hw)
set_option maxRecDepth 100000 in
set_option maxHeartbeats 4000000 in
theorem s_X3_tellChoices_87 {G : GG} {n : Nat} {E : EE} (C : Cx G n E RX3 cX3_tellChoices 5) (HR : RM E 1 21) (HT : RT E (some .int)) {Q : Int32 → Mem → Prop} {K11 : Int32 → Int32 → Int32 → Mem → Prop} (g11 : ∀ (x1 : Int32) (x2 : Int32) (x3 : Int32)  (M : Mem), K11 x1 x2 x3 M → WW G n E 5 (QE G E (Qi G n Q)) 11 [(0, .ref (gad G 3 0)), (1, .int x1), (2, .int x2), (3, .int x3)] [] M) : ∀ (x1 : Int32) (x2 : Int32) (x3 : Int32)  (M : Mem), w_X3_tellChoices_87 Q K11 x1 x2 x3 M → WW G n E 5 (QE G E (Qi G n Q)) 87 [(0, .ref (gad G 3 0)), (1, .int x1), (2, .int x2), (3, .int x3)] [] M := by
  intro x1 x2 x3 M hw
  refine w_iincV C (lv' := [(3, .int (x3 + 1)), (0, .ref (gad G 3 0)), (1, .int x1), (2, .int x2)]) 3 dX3_tellChoices_87 kc_i_1 rfl (by decide) rfl ?_
  refine w_goto C dX3_tellChoices_90 (tgt := 11) rfl ?_
  exact w_sub [1, 2, 3, 0] rfl (g11 x1 x2 (x3 + 1)  _ hw)
set_option maxRecDepth 100000 in
set_option maxHeartbeats 4000000 in
theorem s_X3_tellChoices_75 {G : GG} {n : Nat} {E : EE} (C : Cx G n E RX3 cX3_tellChoices 5) (HR : RM E 1 21) (HT : RT E (some .int)) {Q : Int32 → Mem → Prop} {K11 : Int32 → Int32 → Int32 → Mem → Prop} (g11 : ∀ (x1 : Int32) (x2 : Int32) (x3 : Int32)  (M : Mem), K11 x1 x2 x3 M → WW G n E 5 (QE G E (Qi G n Q)) 11 [(0, .ref (gad G 3 0)), (1, .int x1), (2, .int x2), (3, .int x3)] [] M) : ∀ (x1 : Int32) (x2 : Int32) (x3 : Int32)  (M : Mem), w_X3_tellChoices_75 Q K11 x1 x2 x3 M → WW G n E 5 (QE G E (Qi G n Q)) 75 [(0, .ref (gad G 3 0)), (1, .int x1), (2, .int x2), (3, .int x3)] [] M := by
  intro x1 x2 x3 M hw
  refine w_iconst C dX3_tellChoices_75 kc_i_2 ?_
  refine w_iload_n C 2 dX3_tellChoices_76 rfl rfl ?_
  refine w_imul C dX3_tellChoices_77 ?_
  refine w_aload_n C 0 dX3_tellChoices_78 rfl rfl ?_
  refine gf_X3_9 C (Nat.le_of_ble_eq_true rfl) dX3_tellChoices_79 ?_
  refine v_alen C ak_32 rfl (Nat.le_of_ble_eq_true rfl) dX3_tellChoices_82 ?_
  refine back_I (run_S C HR mt_J9_min_7cf53 gw439 gw641 (by decide) rfl (Nat.le_of_ble_eq_true rfl) dX3_tellChoices_83 (As := [.int (2 * x2), .int (nI (alen 32))]) rfl (c_J9_min_7cf53 (2 * x2) (nI (alen 32))  _ _ hw)) (fun r9 M8 hw => ?_)
  refine w_istore_n C (lv' := [(2, .int r9), (0, .ref (gad G 3 0)), (1, .int x1), (3, .int x3)]) dX3_tellChoices_86 rfl (by decide) rfl ?_
  exact w_sub [1, 2, 0, 3] rfl (s_X3_tellChoices_87 C HR HT g11 x1 r9 x3  _ hw)
set_option maxRecDepth 100000 in
set_option maxHeartbeats 4000000 in
theorem s_X3_tellChoices_31 {G : GG} {n : Nat} {E : EE} (C : Cx G n E RX3 cX3_tellChoices 5) (HR : RM E 1 21) (HT : RT E (some .int)) {Q : Int32 → Mem → Prop} {K11 : Int32 → Int32 → Int32 → Mem → Prop} (g11 : ∀ (x1 : Int32) (x2 : Int32) (x3 : Int32)  (M : Mem), K11 x1 x2 x3 M → WW G n E 5 (QE G E (Qi G n Q)) 11 [(0, .ref (gad G 3 0)), (1, .int x1), (2, .int x2), (3, .int x3)] [] M) : ∀ (f : Nat) (x1 : Int32) (x2 : Int32) (x3 : Int32) (x4 : Int32)  (M : Mem), w_X3_tellChoices_31 Q K11 f x1 x2 x3 x4 M → WW G n E 5 (QE G E (Qi G n Q)) 31 [(0, .ref (gad G 3 0)), (1, .int x1), (2, .int x2), (3, .int x3), (4, .int x4)] [] M := by
  intro f
  induction f with
  | zero => intro x1 x2 x3 x4 M hw; exact hw.elim
  | succ f ih =>
    intro x1 x2 x3 x4 M hw
    refine w_iload C 4 dX3_tellChoices_31 rfl ?_
    refine w_iload_n C 2 dX3_tellChoices_33 rfl rfl ?_
    refine w_icmp_ge C dX3_tellChoices_34 (tgt := 75) rfl (fun c7 => ?_) (fun c7 => ?_)
    · replace hw := hw.1 c7
      exact w_sub [0, 1, 2, 3] rfl (s_X3_tellChoices_75 C HR HT g11 x1 x2 x3  _ hw)
    · replace hw := hw.2 c7
      refine w_iload_n C 2 dX3_tellChoices_37 rfl rfl ?_
      refine w_iload C 4 dX3_tellChoices_38 rfl ?_
      refine w_iadd C dX3_tellChoices_40 ?_
      refine w_aload_n C 0 dX3_tellChoices_41 rfl rfl ?_
      refine gf_X3_9 C (Nat.le_of_ble_eq_true rfl) dX3_tellChoices_42 ?_
      refine v_alen C ak_32 rfl (Nat.le_of_ble_eq_true rfl) dX3_tellChoices_45 ?_
      refine w_icmp_ge C dX3_tellChoices_46 (tgt := 75) rfl (fun c10 => ?_) (fun c10 => ?_)
      · replace hw := hw.1 c10
        exact w_sub [0, 1, 2, 3] rfl (s_X3_tellChoices_75 C HR HT g11 x1 x2 x3  _ hw)
      · replace hw := hw.2 c10
        refine w_aload_n C 0 dX3_tellChoices_49 rfl rfl ?_
        refine gf_X3_9 C (Nat.le_of_ble_eq_true rfl) dX3_tellChoices_50 ?_
        refine w_iload_n C 2 dX3_tellChoices_53 rfl rfl ?_
        refine w_iload C 4 dX3_tellChoices_54 rfl ?_
        refine w_iadd C dX3_tellChoices_56 ?_
        refine w_aload_n C 0 dX3_tellChoices_57 rfl rfl ?_
        refine gf_X3_9 C (Nat.le_of_ble_eq_true rfl) dX3_tellChoices_58 ?_
        refine w_iload C 4 dX3_tellChoices_61 rfl ?_
        obtain ⟨b11, hw⟩ := hw
        refine v_iald C ak_32 rfl (Nat.le_of_ble_eq_true rfl) b11 dX3_tellChoices_63 ?_
        refine w_iconst C dX3_tellChoices_64 kc_i_1 ?_
        refine w_iload_n C 3 dX3_tellChoices_65 rfl rfl ?_
        refine w_ishl C dX3_tellChoices_66 ?_
        refine w_ior C dX3_tellChoices_67 ?_
        obtain ⟨b12, hw⟩ := hw
        refine v_iast C ak_32 rfl (Nat.le_of_ble_eq_true rfl) b12 dX3_tellChoices_68 (w_mem fun M13 eM13 => ?_)
        replace hw := hw M13 eM13
        refine w_iincV C (lv' := [(4, .int (x4 + 1)), (0, .ref (gad G 3 0)), (1, .int x1), (2, .int x2), (3, .int x3)]) 4 dX3_tellChoices_69 kc_i_1 rfl (by decide) rfl ?_
        refine w_goto C dX3_tellChoices_72 (tgt := 31) rfl ?_
        exact w_sub [1, 2, 3, 4, 0] rfl (ih x1 x2 x3 (x4 + 1)  _ hw)
set_option maxRecDepth 100000 in
set_option maxHeartbeats 4000000 in
theorem s_X3_tellChoices_11 {G : GG} {n : Nat} {E : EE} (C : Cx G n E RX3 cX3_tellChoices 5) (HR : RM E 1 21) (HT : RT E (some .int)) {Q : Int32 → Mem → Prop}  : ∀ (f : Nat) (x1 : Int32) (x2 : Int32) (x3 : Int32)  (M : Mem), w_X3_tellChoices_11 Q  f x1 x2 x3 M → WW G n E 5 (QE G E (Qi G n Q)) 11 [(0, .ref (gad G 3 0)), (1, .int x1), (2, .int x2), (3, .int x3)] [] M := by
  intro f
  induction f with
  | zero => intro x1 x2 x3 M hw; exact hw.elim
  | succ f ih =>
    intro x1 x2 x3 M hw
    refine w_iload_n C 3 dX3_tellChoices_11 rfl rfl ?_
    refine w_bipush C dX3_tellChoices_12 kc_b_16 ?_
    refine w_icmp_ge C dX3_tellChoices_14 (tgt := 93) rfl (fun c4 => ?_) (fun c4 => ?_)
    · replace hw := hw.1 c4
      refine w_iload_n C 2 dX3_tellChoices_93 rfl rfl ?_
      exact ret_I C HT hw dX3_tellChoices_94
    · replace hw := hw.2 c4
      refine w_iload_n C 1 dX3_tellChoices_17 rfl rfl ?_
      refine w_iload_n C 3 dX3_tellChoices_18 rfl rfl ?_
      refine w_ishr C dX3_tellChoices_19 ?_
      refine w_iconst C dX3_tellChoices_20 kc_i_1 ?_
      refine w_iand C dX3_tellChoices_21 ?_
      refine w_if_ne C dX3_tellChoices_22 (tgt := 28) rfl (fun c5 => ?_) (fun c5 => ?_)
      · replace hw := hw.2 c5
        refine w_iconst C dX3_tellChoices_28 kc_i_0 ?_
        refine w_istore C (lv' := [(4, .int 0), (0, .ref (gad G 3 0)), (1, .int x1), (2, .int x2), (3, .int x3)]) dX3_tellChoices_29 (by decide) rfl ?_
        obtain ⟨f6, hw⟩ := hw
        exact w_sub [1, 2, 3, 4, 0] rfl (s_X3_tellChoices_31 C HR HT ih f6 x1 x2 x3 0  _ hw)
      · replace hw := hw.1 c5
        refine w_goto C dX3_tellChoices_25 (tgt := 87) rfl ?_
        exact w_sub [0, 1, 2, 3] rfl (s_X3_tellChoices_87 C HR HT ih x1 x2 x3  _ hw)
set_option maxRecDepth 100000 in
set_option maxHeartbeats 4000000 in
theorem c_X3_tellChoices {G : GG} {n : Nat} {l : Launch} (x1 : Int32)  (M : Mem) (Q : Int32 → Mem → Prop) (hw : wp_X3_tellChoices x1 M Q) : Ct G n l yX3_tellChoices cX3_tellChoices 5 (some .int) 1 21 [.ref (gad G 3 0), .int x1] M (Qi G n Q) := by
  refine ct_of (by decide) (Nat.le_of_ble_eq_true rfl) (lv := [(0, .ref (gad G 3 0)), (1, .int x1)]) rfl (fun E C HR HT hE => ?_)
  replace C : Cx G n E RX3 cX3_tellChoices 5 := C
  refine w_iconst C dX3_tellChoices_0 kc_i_1 ?_
  refine w_istore_n C (lv' := [(2, .int 1), (0, .ref (gad G 3 0)), (1, .int x1)]) dX3_tellChoices_1 rfl (by decide) rfl ?_
  refine w_aload_n C 1 dX3_tellChoices_2 rfl rfl ?_
  refine gf_X3_9 C (Nat.le_of_ble_eq_true rfl) dX3_tellChoices_3 ?_
  refine w_iconst C dX3_tellChoices_6 kc_i_0 ?_
  refine w_iconst C dX3_tellChoices_7 kc_i_0 ?_
  obtain ⟨b1, hw⟩ := hw
  refine v_iast C ak_32 rfl (Nat.le_of_ble_eq_true rfl) b1 dX3_tellChoices_8 (w_mem fun M2 eM2 => ?_)
  replace hw := hw M2 eM2
  refine w_iconst C dX3_tellChoices_9 kc_i_0 ?_
  refine w_istore_n C (lv' := [(3, .int 0), (2, .int 1), (0, .ref (gad G 3 0)), (1, .int x1)]) dX3_tellChoices_10 rfl (by decide) rfl ?_
  obtain ⟨f3, hw⟩ := hw
  exact w_sub [2, 3, 1, 0] rfl (s_X3_tellChoices_11 C HR HT  f3 x1 1 0  _ hw)
set_option maxRecDepth 100000 in
set_option maxHeartbeats 4000000 in
theorem c_X6_drawerOf {G : GG} {n : Nat} {l : Launch} (x0 : Int32)  (M : Mem) (Q : Int32 → Mem → Prop) (hw : wp_X6_drawerOf x0 M Q) : Ct G n l yX6_drawerOf cX6_drawerOf 1 (some .int) 0 0 [.int x0] M (Qi G n Q) := by
  refine ct_of (by decide) (Nat.le_of_ble_eq_true rfl) (lv := [(0, .int x0)]) rfl (fun E C HR HT hE => ?_)
  replace C : Cx G n E RX6 cX6_drawerOf 1 := C
  refine w_iload_n C 0 dX6_drawerOf_0 rfl rfl ?_
  refine w_bipush C dX6_drawerOf_1 kc_b_25 ?_
  refine w_ishr C dX6_drawerOf_3 ?_
  refine w_bipush C dX6_drawerOf_4 kc_b_8 ?_
  refine w_isub C dX6_drawerOf_6 ?_
  exact ret_I C HT hw dX6_drawerOf_7
set_option maxRecDepth 100000 in
set_option maxHeartbeats 4000000 in
theorem c_X6_keep {G : GG} {n : Nat} {l : Launch} (x1 : Int32) (x2 : Int32) (x3 : Int32) (x4 : Int32)  (M : Mem) (Q : Mem → Prop) (hw : wp_X6_keep x1 x2 x3 x4 M Q) : Ct G n l yX6_keep cX6_keep 5 none 0 0 [.ref (gad G 6 0), .int x1, .int x2, .int x3, .int x4] M (Qv G n Q) := by
  refine ct_of (by decide) (Nat.le_of_ble_eq_true rfl) (lv := [(0, .ref (gad G 6 0)), (1, .int x1), (2, .int x2), (3, .int x3), (4, .int x4)]) rfl (fun E C HR HT hE => ?_)
  replace C : Cx G n E RX6 cX6_keep 5 := C
  refine w_aload_n C 0 dX6_keep_0 rfl rfl ?_
  refine gf_X6_27 C (Nat.le_of_ble_eq_true rfl) dX6_keep_1 ?_
  refine w_sipush C dX6_keep_4 kc_s_585 ?_
  refine w_icmp_lt C dX6_keep_7 (tgt := 11) rfl (fun c1 => ?_) (fun c1 => ?_)
  · replace hw := hw.1 c1
    refine w_aload_n C 0 dX6_keep_11 rfl rfl ?_
    refine gf_X6_11 C (Nat.le_of_ble_eq_true rfl) dX6_keep_12 ?_
    refine w_aload_n C 0 dX6_keep_15 rfl rfl ?_
    refine gf_X6_27 C (Nat.le_of_ble_eq_true rfl) dX6_keep_16 ?_
    refine w_iload_n C 2 dX6_keep_19 rfl rfl ?_
    obtain ⟨b2, hw⟩ := hw
    refine v_iast C ak_37 rfl (Nat.le_of_ble_eq_true rfl) b2 dX6_keep_20 (w_mem fun M3 eM3 => ?_)
    replace hw := hw M3 eM3
    refine w_aload_n C 0 dX6_keep_21 rfl rfl ?_
    refine gf_X6_15 C (Nat.le_of_ble_eq_true rfl) dX6_keep_22 ?_
    refine w_aload_n C 0 dX6_keep_25 rfl rfl ?_
    refine gf_X6_27 C (Nat.le_of_ble_eq_true rfl) dX6_keep_26 ?_
    refine w_iload_n C 3 dX6_keep_29 rfl rfl ?_
    obtain ⟨b4, hw⟩ := hw
    refine v_iast C ak_38 rfl (Nat.le_of_ble_eq_true rfl) b4 dX6_keep_30 (w_mem fun M5 eM5 => ?_)
    replace hw := hw M5 eM5
    refine w_aload_n C 0 dX6_keep_31 rfl rfl ?_
    refine gf_X6_18 C (Nat.le_of_ble_eq_true rfl) dX6_keep_32 ?_
    refine w_aload_n C 0 dX6_keep_35 rfl rfl ?_
    refine gf_X6_27 C (Nat.le_of_ble_eq_true rfl) dX6_keep_36 ?_
    refine w_iload C 4 dX6_keep_39 rfl ?_
    obtain ⟨b6, hw⟩ := hw
    refine v_iast C ak_39 rfl (Nat.le_of_ble_eq_true rfl) b6 dX6_keep_41 (w_mem fun M7 eM7 => ?_)
    replace hw := hw M7 eM7
    refine w_aload_n C 0 dX6_keep_42 rfl rfl ?_
    refine w_dup C dX6_keep_43 rfl ?_
    refine gf_X6_27 C (Nat.le_of_ble_eq_true rfl) dX6_keep_44 ?_
    refine w_iconst C dX6_keep_47 kc_i_1 ?_
    refine w_iadd C dX6_keep_48 ?_
    refine pf_X6_27 C (Nat.le_of_ble_eq_true rfl) dX6_keep_49 (w_mem fun M8 eM8 => ?_)
    replace hw := hw M8 eM8
    refine w_aload_n C 0 dX6_keep_52 rfl rfl ?_
    refine gf_X6_21 C (Nat.le_of_ble_eq_true rfl) dX6_keep_53 ?_
    refine w_iload_n C 1 dX6_keep_56 rfl rfl ?_
    refine w_aload_n C 0 dX6_keep_57 rfl rfl ?_
    refine gf_X6_27 C (Nat.le_of_ble_eq_true rfl) dX6_keep_58 ?_
    obtain ⟨b9, hw⟩ := hw
    refine v_iast C ak_40 rfl (Nat.le_of_ble_eq_true rfl) b9 dX6_keep_61 (w_mem fun M10 eM10 => ?_)
    replace hw := hw M10 eM10
    exact ret_V C HT hw dX6_keep_62
  · replace hw := hw.2 c1
    exact ret_V C HT hw dX6_keep_10
set_option maxRecDepth 100000 in
set_option maxHeartbeats 4000000 in
theorem c_X6_keyOf {G : GG} {n : Nat} {l : Launch} (x0 : Int32) (x1 : Int32)  (M : Mem) (Q : Int32 → Mem → Prop) (hw : wp_X6_keyOf x0 x1 M Q) : Ct G n l yX6_keyOf cX6_keyOf 2 (some .int) 0 0 [.int x0, .int x1] M (Qi G n Q) := by
  refine ct_of (by decide) (Nat.le_of_ble_eq_true rfl) (lv := [(0, .int x0), (1, .int x1)]) rfl (fun E C HR HT hE => ?_)
  replace C : Cx G n E RX6 cX6_keyOf 2 := C
  refine w_iload_n C 1 dX6_keyOf_0 rfl rfl ?_
  refine w_bipush C dX6_keyOf_1 kc_b_8 ?_
  refine w_iadd C dX6_keyOf_3 ?_
  refine w_bipush C dX6_keyOf_4 kc_b_25 ?_
  refine w_ishl C dX6_keyOf_6 ?_
  refine w_iload_n C 0 dX6_keyOf_7 rfl rfl ?_
  refine w_ior C dX6_keyOf_8 ?_
  exact ret_I C HT hw dX6_keyOf_9
set_option maxRecDepth 100000 in
set_option maxHeartbeats 4000000 in
theorem c_X6_partsByBalance {G : GG} {n : Nat} {l : Launch} (x1 : Int32) (x2 : Int32)  (M : Mem) (Q : Int32 → Mem → Prop) (hw : wp_X6_partsByBalance x1 x2 M Q) : Ct G n l yX6_partsByBalance cX6_partsByBalance 3 (some .boolean) 2 51 [.ref (gad G 4 0), .int x1, .int x2] M (Qi G n Q) := by
  refine ct_of (by decide) (Nat.le_of_ble_eq_true rfl) (lv := [(0, .ref (gad G 4 0)), (1, .int x1), (2, .int x2)]) rfl (fun E C HR HT hE => ?_)
  replace C : Cx G n E RX6 cX6_partsByBalance 3 := C
  refine w_aload_n C 0 dX6_partsByBalance_0 rfl rfl ?_
  refine w_iload_n C 1 dX6_partsByBalance_1 rfl rfl ?_
  refine w_bipush C dX6_partsByBalance_2 kc_b_7 ?_
  refine back_I (run_V C HR mt_X4_after (ci := 4) rfl (by decide) (Nat.le_of_ble_eq_true rfl) gw549 gw550 gw600 (by decide) rfl (Nat.le_of_ble_eq_true rfl) dX6_partsByBalance_4 (As := [.int x1, .int 7]) rfl (c_X4_after x1 7  _ _ hw)) (fun r2 M1 hw => ?_)
  refine back_I (run_SN C HR mt_X9_ledgerOf gw568 nw601 (by decide) rfl (Nat.le_of_ble_eq_true rfl) dX6_partsByBalance_7 (As := [.int r2]) rfl (c_X9_ledgerOf r2  _ _ hw)) (fun r4 M3 hw => ?_)
  refine w_iload_n C 2 dX6_partsByBalance_10 rfl rfl ?_
  refine w_icmp_eq C dX6_partsByBalance_11 (tgt := 18) rfl (fun c5 => ?_) (fun c5 => ?_)
  · replace hw := hw.1 c5
    refine w_iconst C dX6_partsByBalance_18 kc_i_0 ?_
    exact ret_Z C HT rfl hw dX6_partsByBalance_19
  · replace hw := hw.2 c5
    refine w_iconst C dX6_partsByBalance_14 kc_i_1 ?_
    refine w_goto C dX6_partsByBalance_15 (tgt := 19) rfl ?_
    exact ret_Z C HT rfl hw dX6_partsByBalance_19
set_option maxRecDepth 100000 in
set_option maxHeartbeats 4000000 in
theorem s_X6_slotOf_10 {G : GG} {n : Nat} {E : EE} (C : Cx G n E RX6 cX6_slotOf 4) (HR : RM E 0 0) (HT : RT E (some .int)) {Q : Int32 → Mem → Prop}  : ∀ (f : Nat) (x1 : Int32) (x2 : Int32) (x3 : Int32)  (M : Mem), w_X6_slotOf_10 Q  f x1 x2 x3 M → WW G n E 4 (QE G E (Qi G n Q)) 10 [(0, .ref (gad G 6 0)), (1, .int x1), (2, .int x2), (3, .int x3)] [] M := by
  intro f
  induction f with
  | zero => intro x1 x2 x3 M hw; exact hw.elim
  | succ f ih =>
    intro x1 x2 x3 M hw
    refine w_iload_n C 3 dX6_slotOf_10 rfl rfl ?_
    refine w_sipush C dX6_slotOf_11 kc_s_1024 ?_
    refine w_icmp_ge C dX6_slotOf_14 (tgt := 57) rfl (fun c3 => ?_) (fun c3 => ?_)
    · replace hw := hw.1 c3
      refine w_iload_n C 2 dX6_slotOf_57 rfl rfl ?_
      exact ret_I C HT hw dX6_slotOf_58
    · replace hw := hw.2 c3
      refine w_aload_n C 0 dX6_slotOf_17 rfl rfl ?_
      refine gf_X6_21 C (Nat.le_of_ble_eq_true rfl) dX6_slotOf_18 ?_
      refine w_iload_n C 2 dX6_slotOf_21 rfl rfl ?_
      obtain ⟨b4, hw⟩ := hw
      refine v_iald C ak_40 rfl (Nat.le_of_ble_eq_true rfl) b4 dX6_slotOf_22 ?_
      refine w_if_eq C dX6_slotOf_23 (tgt := 57) rfl (fun c5 => ?_) (fun c5 => ?_)
      · replace hw := hw.1 c5
        refine w_iload_n C 2 dX6_slotOf_57 rfl rfl ?_
        exact ret_I C HT hw dX6_slotOf_58
      · replace hw := hw.2 c5
        refine w_aload_n C 0 dX6_slotOf_26 rfl rfl ?_
        refine gf_X6_11 C (Nat.le_of_ble_eq_true rfl) dX6_slotOf_27 ?_
        refine w_aload_n C 0 dX6_slotOf_30 rfl rfl ?_
        refine gf_X6_21 C (Nat.le_of_ble_eq_true rfl) dX6_slotOf_31 ?_
        refine w_iload_n C 2 dX6_slotOf_34 rfl rfl ?_
        obtain ⟨b6, hw⟩ := hw
        refine v_iald C ak_40 rfl (Nat.le_of_ble_eq_true rfl) b6 dX6_slotOf_35 ?_
        refine w_iconst C dX6_slotOf_36 kc_i_1 ?_
        refine w_isub C dX6_slotOf_37 ?_
        obtain ⟨b7, hw⟩ := hw
        refine v_iald C ak_37 rfl (Nat.le_of_ble_eq_true rfl) b7 dX6_slotOf_38 ?_
        refine w_iload_n C 1 dX6_slotOf_39 rfl rfl ?_
        refine w_icmp_eq C dX6_slotOf_40 (tgt := 57) rfl (fun c8 => ?_) (fun c8 => ?_)
        · replace hw := hw.1 c8
          refine w_iload_n C 2 dX6_slotOf_57 rfl rfl ?_
          exact ret_I C HT hw dX6_slotOf_58
        · replace hw := hw.2 c8
          refine w_iload_n C 2 dX6_slotOf_43 rfl rfl ?_
          refine w_iconst C dX6_slotOf_44 kc_i_1 ?_
          refine w_iadd C dX6_slotOf_45 ?_
          refine w_sipush C dX6_slotOf_46 kc_s_1023 ?_
          refine w_iand C dX6_slotOf_49 ?_
          refine w_istore_nV C dX6_slotOf_50 rfl (by decide) (fun a9 ea9 => w_lv (lv' := [(2, .int a9), (0, .ref (gad G 6 0)), (1, .int x1), (3, .int x3)]) rfl ?_)
          replace hw := hw a9 ea9
          refine w_iincV C (lv' := [(3, .int (x3 + 1)), (2, .int a9), (0, .ref (gad G 6 0)), (1, .int x1)]) 3 dX6_slotOf_51 kc_i_1 rfl (by decide) rfl ?_
          refine w_goto C dX6_slotOf_54 (tgt := 10) rfl ?_
          exact w_sub [2, 3, 1, 0] rfl (ih x1 a9 (x3 + 1)  _ hw)
set_option maxRecDepth 100000 in
set_option maxHeartbeats 4000000 in
theorem c_X6_slotOf {G : GG} {n : Nat} {l : Launch} (x1 : Int32)  (M : Mem) (Q : Int32 → Mem → Prop) (hw : wp_X6_slotOf x1 M Q) : Ct G n l yX6_slotOf cX6_slotOf 4 (some .int) 0 0 [.ref (gad G 6 0), .int x1] M (Qi G n Q) := by
  refine ct_of (by decide) (Nat.le_of_ble_eq_true rfl) (lv := [(0, .ref (gad G 6 0)), (1, .int x1)]) rfl (fun E C HR HT hE => ?_)
  replace C : Cx G n E RX6 cX6_slotOf 4 := C
  refine w_iload_n C 1 dX6_slotOf_0 rfl rfl ?_
  refine w_ldc C dX6_slotOf_1 gw592 ?_
  refine w_imul C dX6_slotOf_3 ?_
  refine w_bipush C dX6_slotOf_4 kc_b_22 ?_
  refine w_iushr C dX6_slotOf_6 ?_
  refine w_istore_nV C dX6_slotOf_7 rfl (by decide) (fun a1 ea1 => w_lv (lv' := [(2, .int a1), (0, .ref (gad G 6 0)), (1, .int x1)]) rfl ?_)
  replace hw := hw a1 ea1
  refine w_iconst C dX6_slotOf_8 kc_i_0 ?_
  refine w_istore_n C (lv' := [(3, .int 0), (2, .int a1), (0, .ref (gad G 6 0)), (1, .int x1)]) dX6_slotOf_9 rfl (by decide) rfl ?_
  obtain ⟨f2, hw⟩ := hw
  exact w_sub [2, 3, 1, 0] rfl (s_X6_slotOf_10 C HR HT  f2 x1 a1 0  _ hw)
set_option maxRecDepth 100000 in
set_option maxHeartbeats 4000000 in
theorem c_X6_stateOf {G : GG} {n : Nat} {l : Launch} (x0 : Int32)  (M : Mem) (Q : Int32 → Mem → Prop) (hw : wp_X6_stateOf x0 M Q) : Ct G n l yX6_stateOf cX6_stateOf 1 (some .int) 0 0 [.int x0] M (Qi G n Q) := by
  refine ct_of (by decide) (Nat.le_of_ble_eq_true rfl) (lv := [(0, .int x0)]) rfl (fun E C HR HT hE => ?_)
  replace C : Cx G n E RX6 cX6_stateOf 1 := C
  refine w_iload_n C 0 dX6_stateOf_0 rfl rfl ?_
  refine w_ldc C dX6_stateOf_1 gw609 ?_
  refine w_iand C dX6_stateOf_3 ?_
  exact ret_I C HT hw dX6_stateOf_4
set_option maxRecDepth 100000 in
set_option maxHeartbeats 4000000 in
theorem s_X6_goOnFrom_103 {G : GG} {n : Nat} {E : EE} (C : Cx G n E RX6 cX6_goOnFrom 9) (HR : RM E 3 73) (HT : RT E (some .int)) {Q : Int32 → Mem → Prop} {K3 : Int32 → Int32 → Int32 → Mem → Prop} (g3 : ∀ (x2 : Int32) (x3 : Int32) (x4 : Int32)  (M : Mem), K3 x2 x3 x4 M → WW G n E 9 (QE G E (Qi G n Q)) 3 [(0, .ref (gad G 6 0)), (1, .ref (gad G 4 0)), (2, .int x2), (3, .int x3), (4, .int x4)] [] M) : ∀ (x2 : Int32) (x3 : Int32) (x4 : Int32)  (M : Mem), w_X6_goOnFrom_103 Q K3 x2 x3 x4 M → WW G n E 9 (QE G E (Qi G n Q)) 103 [(0, .ref (gad G 6 0)), (1, .ref (gad G 4 0)), (2, .int x2), (3, .int x3), (4, .int x4)] [] M := by
  intro x2 x3 x4 M hw
  refine w_iincV C (lv' := [(4, .int (x4 + 1)), (0, .ref (gad G 6 0)), (1, .ref (gad G 4 0)), (2, .int x2), (3, .int x3)]) 4 dX6_goOnFrom_103 kc_i_1 rfl (by decide) rfl ?_
  refine w_goto C dX6_goOnFrom_106 (tgt := 3) rfl ?_
  exact w_sub [1, 2, 3, 4, 0] rfl (g3 x2 x3 (x4 + 1)  _ hw)
set_option maxRecDepth 100000 in
set_option maxHeartbeats 4000000 in
theorem s_X6_goOnFrom_3 {G : GG} {n : Nat} {E : EE} (C : Cx G n E RX6 cX6_goOnFrom 9) (HR : RM E 3 73) (HT : RT E (some .int)) {Q : Int32 → Mem → Prop}  : ∀ (f : Nat) (x2 : Int32) (x3 : Int32) (x4 : Int32)  (M : Mem), w_X6_goOnFrom_3 Q  f x2 x3 x4 M → WW G n E 9 (QE G E (Qi G n Q)) 3 [(0, .ref (gad G 6 0)), (1, .ref (gad G 4 0)), (2, .int x2), (3, .int x3), (4, .int x4)] [] M := by
  intro f
  induction f with
  | zero => intro x2 x3 x4 M hw; exact hw.elim
  | succ f ih =>
    intro x2 x3 x4 M hw
    refine w_iload C 4 dX6_goOnFrom_3 rfl ?_
    refine w_bipush C dX6_goOnFrom_5 kc_b_8 ?_
    refine w_icmp_ge C dX6_goOnFrom_7 (tgt := 109) rfl (fun c2 => ?_) (fun c2 => ?_)
    · replace hw := hw.1 c2
      refine w_iconst C dX6_goOnFrom_109 kc_i_m1 ?_
      exact ret_I C HT hw dX6_goOnFrom_110
    · replace hw := hw.2 c2
      refine w_aload_n C 1 dX6_goOnFrom_10 rfl rfl ?_
      refine w_aload_n C 0 dX6_goOnFrom_11 rfl rfl ?_
      refine gf_X6_11 C (Nat.le_of_ble_eq_true rfl) dX6_goOnFrom_12 ?_
      refine w_iload_n C 2 dX6_goOnFrom_15 rfl rfl ?_
      obtain ⟨b3, hw⟩ := hw
      refine v_iald C ak_37 rfl (Nat.le_of_ble_eq_true rfl) b3 dX6_goOnFrom_16 ?_
      refine back_I (run_S C HR mt_X6_stateOf gw607 gw606 (by decide) rfl (Nat.le_of_ble_eq_true rfl) dX6_goOnFrom_17 (As := [.int (M 37 0 x2.toNatClampNeg)]) rfl (c_X6_stateOf (M 37 0 x2.toNatClampNeg)  _ _ hw)) (fun r5 M4 hw => ?_)
      refine w_iload C 4 dX6_goOnFrom_20 rfl ?_
      refine back_I (run_V C HR mt_X4_after (ci := 4) rfl (by decide) (Nat.le_of_ble_eq_true rfl) gw549 gw550 gw600 (by decide) rfl (Nat.le_of_ble_eq_true rfl) dX6_goOnFrom_22 (As := [.int r5, .int x4]) rfl (c_X4_after r5 x4  _ _ hw)) (fun r7 M6 hw => ?_)
      refine w_istore C (lv' := [(5, .int r7), (0, .ref (gad G 6 0)), (1, .ref (gad G 4 0)), (2, .int x2), (3, .int x3), (4, .int x4)]) dX6_goOnFrom_25 (by decide) rfl ?_
      refine w_aload_n C 1 dX6_goOnFrom_27 rfl rfl ?_
      refine gf_X6_11 C (Nat.le_of_ble_eq_true rfl) dX6_goOnFrom_28 ?_
      refine w_iload_n C 3 dX6_goOnFrom_31 rfl rfl ?_
      obtain ⟨b8, hw⟩ := hw
      refine v_iald C ak_37 rfl (Nat.le_of_ble_eq_true rfl) b8 dX6_goOnFrom_32 ?_
      refine back_I (run_S C HR mt_X6_drawerOf gw611 gw610 (by decide) rfl (Nat.le_of_ble_eq_true rfl) dX6_goOnFrom_33 (As := [.int (M6 37 0 x2.toNatClampNeg)]) rfl (c_X6_drawerOf (M6 37 0 x2.toNatClampNeg)  _ _ hw)) (fun r10 M9 hw => ?_)
      refine w_iload C 5 dX6_goOnFrom_36 rfl ?_
      refine back_I (run_SN C HR mt_X9_coinsOf gw565 nw613 (by decide) rfl (Nat.le_of_ble_eq_true rfl) dX6_goOnFrom_38 (As := [.int x4]) rfl (c_X9_coinsOf x4  _ _ hw)) (fun r12 M11 hw => ?_)
      refine w_iadd C dX6_goOnFrom_41 ?_
      refine w_istoreV C dX6_goOnFrom_42 (by decide) (fun a13 ea13 => w_lv (lv' := [(6, .int a13), (5, .int r7), (0, .ref (gad G 6 0)), (1, .ref (gad G 4 0)), (2, .int x2), (3, .int x3), (4, .int x4)]) rfl ?_)
      replace hw := hw a13 ea13
      refine w_iload C 1 dX6_goOnFrom_44 rfl ?_
      refine w_iload C 0 dX6_goOnFrom_46 rfl ?_
      refine back_I (run_S C HR mt_X6_keyOf gw586 gw585 (by decide) rfl (Nat.le_of_ble_eq_true rfl) dX6_goOnFrom_48 (As := [.int r7, .int a13]) rfl (c_X6_keyOf r7 a13  _ _ hw)) (fun r15 M14 hw => ?_)
      refine w_istore C (lv' := [(7, .int r15), (6, .int a13), (5, .int r7), (0, .ref (gad G 6 0)), (1, .ref (gad G 4 0)), (2, .int x2), (3, .int x3), (4, .int x4)]) dX6_goOnFrom_51 (by decide) rfl ?_
      refine w_aload_n C 3 dX6_goOnFrom_53 rfl rfl ?_
      refine w_iload C 0 dX6_goOnFrom_54 rfl ?_
      refine back_I (run_V C HR mt_X6_slotOf (ci := 6) rfl (by decide) (Nat.le_of_ble_eq_true rfl) gw590 gw8 gw588 (by decide) rfl (Nat.le_of_ble_eq_true rfl) dX6_goOnFrom_56 (As := [.int r15]) rfl (c_X6_slotOf r15  _ _ hw)) (fun r17 M16 hw => ?_)
      refine w_istore C (lv' := [(8, .int r17), (7, .int r15), (6, .int a13), (5, .int r7), (0, .ref (gad G 6 0)), (1, .ref (gad G 4 0)), (2, .int x2), (3, .int x3), (4, .int x4)]) dX6_goOnFrom_59 (by decide) rfl ?_
      refine w_aload_n C 4 dX6_goOnFrom_61 rfl rfl ?_
      refine gf_X6_21 C (Nat.le_of_ble_eq_true rfl) dX6_goOnFrom_62 ?_
      refine w_iload C 0 dX6_goOnFrom_65 rfl ?_
      obtain ⟨b18, hw⟩ := hw
      refine v_iald C ak_40 rfl (Nat.le_of_ble_eq_true rfl) b18 dX6_goOnFrom_67 ?_
      refine w_if_eq C dX6_goOnFrom_68 (tgt := 74) rfl (fun c19 => ?_) (fun c19 => ?_)
      · replace hw := hw.1 c19
        refine w_aload_n C 5 dX6_goOnFrom_74 rfl rfl ?_
        refine w_iload C 3 dX6_goOnFrom_75 rfl ?_
        refine w_iload C 2 dX6_goOnFrom_77 rfl ?_
        refine back_I (run_S C HR mt_X6_partsByBalance gw598 gw597 (by decide) rfl (Nat.le_of_ble_eq_true rfl) dX6_goOnFrom_79 (As := [.ref (gad G 4 0), .int r7, .int a13]) rfl (c_X6_partsByBalance r7 a13  _ _ hw)) (fun r21 M20 hw => ?_)
        refine w_if_eq C dX6_goOnFrom_82 (tgt := 88) rfl (fun c22 => ?_) (fun c22 => ?_)
        · replace hw := hw.1 c22
          refine w_iload_n C 7 dX6_goOnFrom_88 rfl rfl ?_
          refine w_if_eq C dX6_goOnFrom_89 (tgt := 103) rfl (fun c23 => ?_) (fun c23 => ?_)
          · replace hw := hw.1 c23
            exact w_sub [4, 5, 6, 7, 8] rfl (s_X6_goOnFrom_103 C HR HT ih x2 x3 x4  _ hw)
          · replace hw := hw.2 c23
            refine w_aload_n C 4 dX6_goOnFrom_92 rfl rfl ?_
            refine w_iload C 0 dX6_goOnFrom_93 rfl ?_
            refine w_iload C 1 dX6_goOnFrom_95 rfl ?_
            refine w_iload_n C 6 dX6_goOnFrom_97 rfl rfl ?_
            refine w_iload C 8 dX6_goOnFrom_98 rfl ?_
            refine back_V (run_V C HR mt_X6_keep (ci := 6) rfl (by decide) (Nat.le_of_ble_eq_true rfl) gw595 gw9 gw593 (by decide) rfl (Nat.le_of_ble_eq_true rfl) dX6_goOnFrom_100 (As := [.int r17, .int r15, .int x2, .int x4]) rfl (c_X6_keep r17 r15 x2 x4  _ _ hw)) (fun M24 hw => ?_)
            exact w_sub [4, 5, 6, 7, 8] rfl (s_X6_goOnFrom_103 C HR HT ih x2 x3 x4  _ hw)
        · replace hw := hw.2 c22
          refine w_iload C 8 dX6_goOnFrom_85 rfl ?_
          exact ret_I C HT hw dX6_goOnFrom_87
      · replace hw := hw.2 c19
        refine w_goto C dX6_goOnFrom_71 (tgt := 103) rfl ?_
        exact w_sub [4, 5, 6, 7, 8] rfl (s_X6_goOnFrom_103 C HR HT ih x2 x3 x4  _ hw)
set_option maxRecDepth 100000 in
set_option maxHeartbeats 4000000 in
theorem c_X6_goOnFrom {G : GG} {n : Nat} {l : Launch} (x2 : Int32) (x3 : Int32)  (M : Mem) (Q : Int32 → Mem → Prop) (hw : wp_X6_goOnFrom x2 x3 M Q) : Ct G n l yX6_goOnFrom cX6_goOnFrom 9 (some .int) 3 73 [.ref (gad G 6 0), .ref (gad G 4 0), .int x2, .int x3] M (Qi G n Q) := by
  refine ct_of (by decide) (Nat.le_of_ble_eq_true rfl) (lv := [(0, .ref (gad G 6 0)), (1, .ref (gad G 4 0)), (2, .int x2), (3, .int x3)]) rfl (fun E C HR HT hE => ?_)
  replace C : Cx G n E RX6 cX6_goOnFrom 9 := C
  refine w_iconst C dX6_goOnFrom_0 kc_i_0 ?_
  refine w_istore C (lv' := [(4, .int 0), (0, .ref (gad G 6 0)), (1, .ref (gad G 4 0)), (2, .int x2), (3, .int x3)]) dX6_goOnFrom_1 (by decide) rfl ?_
  obtain ⟨f1, hw⟩ := hw
  exact w_sub [1, 2, 3, 4, 0] rfl (s_X6_goOnFrom_3 C HR HT  f1 x2 x3 0  _ hw)
set_option maxRecDepth 100000 in
set_option maxHeartbeats 4000000 in
theorem s_X6_tellRow_27 {G : GG} {n : Nat} {E : EE} (C : Cx G n E RX6 cX6_tellRow 6) (HR : RM E 0 0) (HT : RT E none) {Q : Mem → Prop}  : ∀ (f : Nat) (x4 : Int32) (x5 : Int32)  (M : Mem), w_X6_tellRow_27 Q  f x4 x5 M → WW G n E 6 (QE G E (Qv G n Q)) 27 [(0, .ref (gad G 6 0)), (4, .int x4), (5, .int x5)] [] M := by
  intro f
  induction f with
  | zero => intro x4 x5 M hw; exact hw.elim
  | succ f ih =>
    intro x4 x5 M hw
    refine w_iload C 2 dX6_tellRow_27 rfl ?_
    refine w_if_lt C dX6_tellRow_29 (tgt := 61) rfl (fun c7 => ?_) (fun c7 => ?_)
    · replace hw := hw.1 c7
      exact ret_V C HT hw dX6_tellRow_61
    · replace hw := hw.2 c7
      refine w_aload_n C 0 dX6_tellRow_32 rfl rfl ?_
      refine gf_X6_24 C (Nat.le_of_ble_eq_true rfl) dX6_tellRow_33 ?_
      refine w_iload C 2 dX6_tellRow_36 rfl ?_
      refine w_aload_n C 0 dX6_tellRow_38 rfl rfl ?_
      refine gf_X6_18 C (Nat.le_of_ble_eq_true rfl) dX6_tellRow_39 ?_
      refine w_iload C 1 dX6_tellRow_42 rfl ?_
      obtain ⟨b8, hw⟩ := hw
      refine v_iald C ak_39 rfl (Nat.le_of_ble_eq_true rfl) b8 dX6_tellRow_44 ?_
      obtain ⟨b9, hw⟩ := hw
      refine v_iast C ak_41 rfl (Nat.le_of_ble_eq_true rfl) b9 dX6_tellRow_45 (w_mem fun M10 eM10 => ?_)
      replace hw := hw M10 eM10
      refine w_aload_n C 0 dX6_tellRow_46 rfl rfl ?_
      refine gf_X6_15 C (Nat.le_of_ble_eq_true rfl) dX6_tellRow_47 ?_
      refine w_iload C 1 dX6_tellRow_50 rfl ?_
      obtain ⟨b11, hw⟩ := hw
      refine v_iald C ak_38 rfl (Nat.le_of_ble_eq_true rfl) b11 dX6_tellRow_52 ?_
      refine w_istoreV C dX6_tellRow_53 (by decide) (fun a12 ea12 => w_lv (lv' := [(4, .int a12), (0, .ref (gad G 6 0)), (5, .int x5)]) rfl ?_)
      replace hw := hw a12 ea12
      refine w_iincV C (lv' := [(5, .int (x5 + (-1))), (4, .int a12), (0, .ref (gad G 6 0))]) 2 dX6_tellRow_55 kc_i_m1 rfl (by decide) rfl ?_
      refine w_goto C dX6_tellRow_58 (tgt := 27) rfl ?_
      exact w_sub [2, 1, 0] rfl (ih a12 (x5 + (-1))  _ hw)
set_option maxRecDepth 100000 in
set_option maxHeartbeats 4000000 in
theorem c_X6_tellRow {G : GG} {n : Nat} {l : Launch} (x1 : Int32) (x2 : Int32) (x3 : Int32)  (M : Mem) (Q : Mem → Prop) (hw : wp_X6_tellRow x1 x2 x3 M Q) : Ct G n l yX6_tellRow cX6_tellRow 6 none 0 0 [.ref (gad G 6 0), .int x1, .int x2, .int x3] M (Qv G n Q) := by
  refine ct_of (by decide) (Nat.le_of_ble_eq_true rfl) (lv := [(0, .ref (gad G 6 0)), (1, .int x1), (2, .int x2), (3, .int x3)]) rfl (fun E C HR HT hE => ?_)
  replace C : Cx G n E RX6 cX6_tellRow 6 := C
  refine w_aload_n C 0 dX6_tellRow_0 rfl rfl ?_
  refine gf_X6_24 C (Nat.le_of_ble_eq_true rfl) dX6_tellRow_1 ?_
  refine w_iload_n C 3 dX6_tellRow_4 rfl rfl ?_
  refine w_iconst C dX6_tellRow_5 kc_i_1 ?_
  refine w_isub C dX6_tellRow_6 ?_
  refine w_bipush C dX6_tellRow_7 kc_b_7 ?_
  obtain ⟨b1, hw⟩ := hw
  refine v_iast C ak_41 rfl (Nat.le_of_ble_eq_true rfl) b1 dX6_tellRow_9 (w_mem fun M2 eM2 => ?_)
  replace hw := hw M2 eM2
  refine w_aload_n C 0 dX6_tellRow_10 rfl rfl ?_
  refine gf_X6_24 C (Nat.le_of_ble_eq_true rfl) dX6_tellRow_11 ?_
  refine w_iload_n C 3 dX6_tellRow_14 rfl rfl ?_
  refine w_iconst C dX6_tellRow_15 kc_i_2 ?_
  refine w_isub C dX6_tellRow_16 ?_
  refine w_iload_n C 2 dX6_tellRow_17 rfl rfl ?_
  obtain ⟨b3, hw⟩ := hw
  refine v_iast C ak_41 rfl (Nat.le_of_ble_eq_true rfl) b3 dX6_tellRow_18 (w_mem fun M4 eM4 => ?_)
  replace hw := hw M4 eM4
  refine w_iload_n C 1 dX6_tellRow_19 rfl rfl ?_
  refine w_istore C (lv' := [(4, .int x1), (0, .ref (gad G 6 0)), (1, .int x1), (2, .int x2), (3, .int x3)]) dX6_tellRow_20 (by decide) rfl ?_
  refine w_iload_n C 4 dX6_tellRow_22 rfl rfl ?_
  refine w_iconst C dX6_tellRow_23 kc_i_3 ?_
  refine w_isub C dX6_tellRow_24 ?_
  refine w_istoreV C dX6_tellRow_25 (by decide) (fun a5 ea5 => w_lv (lv' := [(5, .int a5), (4, .int x1), (0, .ref (gad G 6 0)), (1, .int x1), (2, .int x2), (3, .int x3)]) rfl ?_)
  replace hw := hw a5 ea5
  obtain ⟨f6, hw⟩ := hw
  exact w_sub [2, 1, 0] rfl (s_X6_tellRow_27 C HR HT  f6 x1 a5  _ hw)
set_option maxRecDepth 100000 in
set_option maxHeartbeats 4000000 in
theorem s_X6_find_96 {G : GG} {n : Nat} {E : EE} (C : Cx G n E RX6 cX6_find 9) (HR : RM E 4 101) (HT : RT E (some .int)) {Q : Int32 → Mem → Prop} {K58 : Int32 → Int32 → Int32 → Mem → Prop} (g58 : ∀ (x2 : Int32) (x4 : Int32) (x5 : Int32)  (M : Mem), K58 x2 x4 x5 M → WW G n E 9 (QE G E (Qi G n Q)) 58 [(0, .ref (gad G 6 0)), (1, .ref (gad G 4 0)), (2, .int x2), (4, .int x4), (5, .int x5)] [] M) {K74 : Int32 → Int32 → Int32 → Int32 → Mem → Prop} (g74 : ∀ (x2 : Int32) (x5 : Int32) (x6 : Int32) (x7 : Int32)  (M : Mem), K74 x2 x5 x6 x7 M → WW G n E 9 (QE G E (Qi G n Q)) 74 [(0, .ref (gad G 6 0)), (1, .ref (gad G 4 0)), (2, .int x2), (5, .int x5), (6, .int x6), (7, .int x7)] [] M) : ∀ (x2 : Int32) (x5 : Int32) (x6 : Int32) (x7 : Int32) (y0 : Int32) (y1 : Int32)  (M : Mem), w_X6_find_96 Q K58 K74 x2 x5 x6 x7 y0 y1 M → WW G n E 9 (QE G E (Qi G n Q)) 96 [(0, .ref (gad G 6 0)), (1, .ref (gad G 4 0)), (2, .int x2), (5, .int x5), (6, .int x6), (7, .int x7)] [.int y0, .int y1, .ref (gad G 4 0), .ref (gad G 6 0)] M := by
  intro x2 x5 x6 x7 y0 y1 M hw
  refine back_I (run_V C HR mt_X6_goOnFrom (ci := 6) rfl (by decide) (Nat.le_of_ble_eq_true rfl) gw604 gw10 gw602 (by decide) rfl (Nat.le_of_ble_eq_true rfl) dX6_find_96 (As := [.ref (gad G 4 0), .int y1, .int y0]) rfl (c_X6_goOnFrom y1 y0  _ _ hw)) (fun r18 M17 hw => ?_)
  refine w_istore C (lv' := [(8, .int r18), (0, .ref (gad G 6 0)), (1, .ref (gad G 4 0)), (2, .int x2), (5, .int x5), (6, .int x6), (7, .int x7)]) dX6_find_99 (by decide) rfl ?_
  refine w_iload C 0 dX6_find_101 rfl ?_
  refine w_iconst C dX6_find_103 kc_i_m1 ?_
  refine w_icmp_eq C dX6_find_104 (tgt := 120) rfl (fun c19 => ?_) (fun c19 => ?_)
  · replace hw := hw.1 c19
    refine w_iincV C (lv' := [(7, .int (x7 + 1)), (8, .int r18), (0, .ref (gad G 6 0)), (1, .ref (gad G 4 0)), (2, .int x2), (5, .int x5), (6, .int x6)]) 6 dX6_find_120 kc_i_1 rfl (by decide) rfl ?_
    refine w_goto C dX6_find_123 (tgt := 74) rfl ?_
    exact w_sub [2, 3, 4, 5, 6, 0] rfl (g74 x2 x5 x6 (x7 + 1)  _ hw)
  · replace hw := hw.2 c19
    refine w_aload_n C 1 dX6_find_107 rfl rfl ?_
    refine w_iload C 6 dX6_find_108 rfl ?_
    refine w_iload C 0 dX6_find_110 rfl ?_
    refine w_iload C 4 dX6_find_112 rfl ?_
    refine back_V (run_V C HR mt_X6_tellRow (ci := 6) rfl (by decide) (Nat.le_of_ble_eq_true rfl) gw616 gw11 gw614 (by decide) rfl (Nat.le_of_ble_eq_true rfl) dX6_find_114 (As := [.int x7, .int r18, .int x5]) rfl (c_X6_tellRow x7 r18 x5  _ _ hw)) (fun M20 hw => ?_)
    refine w_iload C 4 dX6_find_117 rfl ?_
    exact ret_I C HT hw dX6_find_119
set_option maxRecDepth 100000 in
set_option maxHeartbeats 4000000 in
theorem s_X6_find_74 {G : GG} {n : Nat} {E : EE} (C : Cx G n E RX6 cX6_find 9) (HR : RM E 4 101) (HT : RT E (some .int)) {Q : Int32 → Mem → Prop} {K58 : Int32 → Int32 → Int32 → Mem → Prop} (g58 : ∀ (x2 : Int32) (x4 : Int32) (x5 : Int32)  (M : Mem), K58 x2 x4 x5 M → WW G n E 9 (QE G E (Qi G n Q)) 58 [(0, .ref (gad G 6 0)), (1, .ref (gad G 4 0)), (2, .int x2), (4, .int x4), (5, .int x5)] [] M) : ∀ (f : Nat) (x2 : Int32) (x5 : Int32) (x6 : Int32) (x7 : Int32)  (M : Mem), w_X6_find_74 Q K58 f x2 x5 x6 x7 M → WW G n E 9 (QE G E (Qi G n Q)) 74 [(0, .ref (gad G 6 0)), (1, .ref (gad G 4 0)), (2, .int x2), (5, .int x5), (6, .int x6), (7, .int x7)] [] M := by
  intro f
  induction f with
  | zero => intro x2 x5 x6 x7 M hw; exact hw.elim
  | succ f ih =>
    intro x2 x5 x6 x7 M hw
    refine w_iload C 5 dX6_find_74 rfl ?_
    refine w_iload C 4 dX6_find_76 rfl ?_
    refine w_icmp_ge C dX6_find_78 (tgt := 126) rfl (fun c15 => ?_) (fun c15 => ?_)
    · replace hw := hw.1 c15
      refine w_iload C 4 dX6_find_126 rfl ?_
      refine w_istore C (lv' := [(4, .int x6), (0, .ref (gad G 6 0)), (1, .ref (gad G 4 0)), (2, .int x2), (5, .int x5), (6, .int x6), (7, .int x7)]) dX6_find_128 (by decide) rfl ?_
      refine w_iincV C (lv' := [(5, .int (x5 + 1)), (4, .int x6), (0, .ref (gad G 6 0)), (1, .ref (gad G 4 0)), (2, .int x2), (6, .int x6), (7, .int x7)]) 4 dX6_find_130 kc_i_1 rfl (by decide) rfl ?_
      refine w_goto C dX6_find_133 (tgt := 58) rfl ?_
      exact w_sub [2, 3, 4, 1, 0] rfl (g58 x2 x6 (x5 + 1)  _ hw)
    · replace hw := hw.2 c15
      refine w_aload_n C 0 dX6_find_81 rfl rfl ?_
      refine w_aload_n C 1 dX6_find_82 rfl rfl ?_
      refine w_iload C 5 dX6_find_83 rfl ?_
      refine w_iload C 3 dX6_find_85 rfl ?_
      refine w_iload_n C 2 dX6_find_87 rfl rfl ?_
      refine w_icmp_ge C dX6_find_88 (tgt := 95) rfl (fun c16 => ?_) (fun c16 => ?_)
      · replace hw := hw.1 c16
        refine w_iconst C dX6_find_95 kc_i_0 ?_
        exact w_sub [0, 1, 2, 3, 4, 5] rfl (s_X6_find_96 C HR HT g58 ih x2 x5 x6 x7 0 x7  _ hw)
      · replace hw := hw.2 c16
        refine w_iconst C dX6_find_91 kc_i_1 ?_
        refine w_goto C dX6_find_92 (tgt := 96) rfl ?_
        exact w_sub [0, 1, 2, 3, 4, 5] rfl (s_X6_find_96 C HR HT g58 ih x2 x5 x6 x7 1 x7  _ hw)
set_option maxRecDepth 100000 in
set_option maxHeartbeats 4000000 in
theorem s_X6_find_58 {G : GG} {n : Nat} {E : EE} (C : Cx G n E RX6 cX6_find 9) (HR : RM E 4 101) (HT : RT E (some .int)) {Q : Int32 → Mem → Prop}  : ∀ (f : Nat) (x2 : Int32) (x4 : Int32) (x5 : Int32)  (M : Mem), w_X6_find_58 Q  f x2 x4 x5 M → WW G n E 9 (QE G E (Qi G n Q)) 58 [(0, .ref (gad G 6 0)), (1, .ref (gad G 4 0)), (2, .int x2), (4, .int x4), (5, .int x5)] [] M := by
  intro f
  induction f with
  | zero => intro x2 x4 x5 M hw; exact hw.elim
  | succ f ih =>
    intro x2 x4 x5 M hw
    refine w_iload C 4 dX6_find_58 rfl ?_
    refine w_iload_n C 2 dX6_find_60 rfl rfl ?_
    refine w_icmp_gt C dX6_find_61 (tgt := 136) rfl (fun c12 => ?_) (fun c12 => ?_)
    · replace hw := hw.1 c12
      refine w_iconst C dX6_find_136 kc_i_m1 ?_
      exact ret_I C HT hw dX6_find_137
    · replace hw := hw.2 c12
      refine w_aload_n C 0 dX6_find_64 rfl rfl ?_
      refine gf_X6_27 C (Nat.le_of_ble_eq_true rfl) dX6_find_65 ?_
      refine w_istoreV C dX6_find_68 (by decide) (fun a13 ea13 => w_lv (lv' := [(6, .int a13), (0, .ref (gad G 6 0)), (1, .ref (gad G 4 0)), (2, .int x2), (4, .int x4), (5, .int x5)]) rfl ?_)
      replace hw := hw a13 ea13
      refine w_iload C 4 dX6_find_70 rfl ?_
      refine w_istore C (lv' := [(7, .int x4), (6, .int a13), (0, .ref (gad G 6 0)), (1, .ref (gad G 4 0)), (2, .int x2), (4, .int x4), (5, .int x5)]) dX6_find_72 (by decide) rfl ?_
      obtain ⟨f14, hw⟩ := hw
      exact w_sub [2, 3, 4, 6, 1, 0] rfl (s_X6_find_74 C HR HT ih f14 x2 x5 a13 x4  _ hw)
set_option maxRecDepth 100000 in
set_option maxHeartbeats 4000000 in
theorem c_X6_find {G : GG} {n : Nat} {l : Launch} (x2 : Int32)  (M : Mem) (Q : Int32 → Mem → Prop) (hw : wp_X6_find x2 M Q) : Ct G n l yX6_find cX6_find 9 (some .int) 4 101 [.ref (gad G 6 0), .ref (gad G 4 0), .int x2] M (Qi G n Q) := by
  refine ct_of (by decide) (Nat.le_of_ble_eq_true rfl) (lv := [(0, .ref (gad G 6 0)), (1, .ref (gad G 4 0)), (2, .int x2)]) rfl (fun E C HR HT hE => ?_)
  replace C : Cx G n E RX6 cX6_find 9 := C
  refine w_aload_n C 0 dX6_find_0 rfl rfl ?_
  refine gf_X6_21 C (Nat.le_of_ble_eq_true rfl) dX6_find_1 ?_
  refine w_iconst C dX6_find_4 kc_i_0 ?_
  refine back_V (run_S C HR mt_J7_fill_53178 gw397 gw583 (by decide) rfl (Nat.le_of_ble_eq_true rfl) dX6_find_5 (As := [.ref (gad G 40 0), .int 0]) rfl (c_J7_fill_53178 40 0 0 ak_40 (Nat.le_of_ble_eq_true rfl) _ _ hw)) (fun M1 hw => ?_)
  refine w_aload_n C 0 dX6_find_8 rfl rfl ?_
  refine w_iconst C dX6_find_9 kc_i_0 ?_
  refine pf_X6_27 C (Nat.le_of_ble_eq_true rfl) dX6_find_10 (w_mem fun M2 eM2 => ?_)
  replace hw := hw M2 eM2
  refine w_ldc C dX6_find_13 gw584 ?_
  refine w_iconst C dX6_find_15 kc_i_0 ?_
  refine back_I (run_S C HR mt_X6_keyOf gw586 gw585 (by decide) rfl (Nat.le_of_ble_eq_true rfl) dX6_find_16 (As := [.int 6513507, .int 0]) rfl (c_X6_keyOf 6513507 0  _ _ hw)) (fun r4 M3 hw => ?_)
  refine w_istore_n C (lv' := [(3, .int r4), (0, .ref (gad G 6 0)), (1, .ref (gad G 4 0)), (2, .int x2)]) dX6_find_19 rfl (by decide) rfl ?_
  refine w_aload_n C 1 dX6_find_20 rfl rfl ?_
  refine w_aload_n C 1 dX6_find_21 rfl rfl ?_
  refine w_iload_n C 0 dX6_find_22 rfl rfl ?_
  refine back_I (run_V C HR mt_X6_slotOf (ci := 6) rfl (by decide) (Nat.le_of_ble_eq_true rfl) gw590 gw8 gw588 (by decide) rfl (Nat.le_of_ble_eq_true rfl) dX6_find_23 (As := [.int r4]) rfl (c_X6_slotOf r4  _ _ hw)) (fun r6 M5 hw => ?_)
  refine w_iload_n C 0 dX6_find_26 rfl rfl ?_
  refine w_iconst C dX6_find_27 kc_i_0 ?_
  refine w_iconst C dX6_find_28 kc_i_0 ?_
  refine back_V (run_V C HR mt_X6_keep (ci := 6) rfl (by decide) (Nat.le_of_ble_eq_true rfl) gw595 gw9 gw593 (by decide) rfl (Nat.le_of_ble_eq_true rfl) dX6_find_29 (As := [.int r6, .int r4, .int 0, .int 0]) rfl (c_X6_keep r6 r4 0 0  _ _ hw)) (fun M7 hw => ?_)
  refine w_aload_n C 2 dX6_find_32 rfl rfl ?_
  refine w_ldc C dX6_find_33 gw584 ?_
  refine w_iconst C dX6_find_35 kc_i_0 ?_
  refine back_I (run_S C HR mt_X6_partsByBalance gw598 gw597 (by decide) rfl (Nat.le_of_ble_eq_true rfl) dX6_find_36 (As := [.ref (gad G 4 0), .int 6513507, .int 0]) rfl (c_X6_partsByBalance 6513507 0  _ _ hw)) (fun r9 M8 hw => ?_)
  refine w_if_eq C dX6_find_39 (tgt := 52) rfl (fun c10 => ?_) (fun c10 => ?_)
  · replace hw := hw.1 c10
    refine w_iconst C dX6_find_52 kc_i_0 ?_
    refine w_istore C (lv' := [(4, .int 0), (3, .int r4), (0, .ref (gad G 6 0)), (1, .ref (gad G 4 0)), (2, .int x2)]) dX6_find_53 (by decide) rfl ?_
    refine w_iconst C dX6_find_55 kc_i_2 ?_
    refine w_istore C (lv' := [(5, .int 2), (4, .int 0), (3, .int r4), (0, .ref (gad G 6 0)), (1, .ref (gad G 4 0)), (2, .int x2)]) dX6_find_56 (by decide) rfl ?_
    obtain ⟨f11, hw⟩ := hw
    exact w_sub [3, 4, 5, 1, 0] rfl (s_X6_find_58 C HR HT  f11 x2 0 2  _ hw)
  · replace hw := hw.2 c10
    refine w_aload_n C 1 dX6_find_42 rfl rfl ?_
    refine gf_X6_24 C (Nat.le_of_ble_eq_true rfl) dX6_find_43 ?_
    refine w_iconst C dX6_find_46 kc_i_0 ?_
    refine w_bipush C dX6_find_47 kc_b_7 ?_
    obtain ⟨b21, hw⟩ := hw
    refine v_iast C ak_41 rfl (Nat.le_of_ble_eq_true rfl) b21 dX6_find_49 (w_mem fun M22 eM22 => ?_)
    replace hw := hw M22 eM22
    refine w_iconst C dX6_find_50 kc_i_1 ?_
    exact ret_I C HT hw dX6_find_51
set_option maxRecDepth 100000 in
set_option maxHeartbeats 4000000 in
theorem s_X6_linesOfRow_9 {G : GG} {n : Nat} {E : EE} (C : Cx G n E RX6 cX6_linesOfRow 6) (HR : RM E 2 51) (HT : RT E (some .int)) {Q : Int32 → Mem → Prop}  : ∀ (f : Nat) (x2 : Int32) (x3 : Int32) (x4 : Int32) (x5 : Int32)  (M : Mem), w_X6_linesOfRow_9 Q  f x2 x3 x4 x5 M → WW G n E 6 (QE G E (Qi G n Q)) 9 [(0, .ref (gad G 6 0)), (1, .ref (gad G 4 0)), (2, .int x2), (3, .int x3), (4, .int x4), (5, .int x5)] [] M := by
  intro f
  induction f with
  | zero => intro x2 x3 x4 x5 M hw; exact hw.elim
  | succ f ih =>
    intro x2 x3 x4 x5 M hw
    refine w_iload C 5 dX6_linesOfRow_9 rfl ?_
    refine w_iload_n C 2 dX6_linesOfRow_11 rfl rfl ?_
    refine w_icmp_ge C dX6_linesOfRow_12 (tgt := 59) rfl (fun c2 => ?_) (fun c2 => ?_)
    · replace hw := hw.1 c2
      refine w_iload C 4 dX6_linesOfRow_59 rfl ?_
      exact ret_I C HT hw dX6_linesOfRow_61
    · replace hw := hw.2 c2
      refine w_iload C 5 dX6_linesOfRow_15 rfl ?_
      refine w_iconst C dX6_linesOfRow_17 kc_i_5 ?_
      refine w_icmp_ge C dX6_linesOfRow_18 (tgt := 59) rfl (fun c3 => ?_) (fun c3 => ?_)
      · replace hw := hw.1 c3
        refine w_iload C 4 dX6_linesOfRow_59 rfl ?_
        exact ret_I C HT hw dX6_linesOfRow_61
      · replace hw := hw.2 c3
        refine w_iload C 4 dX6_linesOfRow_21 rfl ?_
        refine w_iconst C dX6_linesOfRow_23 kc_i_1 ?_
        refine w_aload_n C 1 dX6_linesOfRow_24 rfl rfl ?_
        refine w_iload_n C 3 dX6_linesOfRow_25 rfl rfl ?_
        refine w_aload_n C 0 dX6_linesOfRow_26 rfl rfl ?_
        refine gf_X6_24 C (Nat.le_of_ble_eq_true rfl) dX6_linesOfRow_27 ?_
        refine w_iload C 5 dX6_linesOfRow_30 rfl ?_
        obtain ⟨b4, hw⟩ := hw
        refine v_iald C ak_41 rfl (Nat.le_of_ble_eq_true rfl) b4 dX6_linesOfRow_32 ?_
        refine back_I (run_V C HR mt_X4_lineOf (ci := 4) rfl (by decide) (Nat.le_of_ble_eq_true rfl) gw553 gw554 gw647 (by decide) rfl (Nat.le_of_ble_eq_true rfl) dX6_linesOfRow_33 (As := [.int x3, .int (M 41 0 x5.toNatClampNeg)]) rfl (c_X4_lineOf x3 (M 41 0 x5.toNatClampNeg)  _ _ hw)) (fun r6 M5 hw => ?_)
        refine w_ishl C dX6_linesOfRow_36 ?_
        refine w_ior C dX6_linesOfRow_37 ?_
        refine w_istoreV C dX6_linesOfRow_38 (by decide) (fun a7 ea7 => w_lv (lv' := [(4, .int a7), (0, .ref (gad G 6 0)), (1, .ref (gad G 4 0)), (2, .int x2), (3, .int x3), (5, .int x5)]) rfl ?_)
        replace hw := hw a7 ea7
        refine w_aload_n C 2 dX6_linesOfRow_40 rfl rfl ?_
        refine w_iload_n C 4 dX6_linesOfRow_41 rfl rfl ?_
        refine w_aload_n C 1 dX6_linesOfRow_42 rfl rfl ?_
        refine gf_X6_24 C (Nat.le_of_ble_eq_true rfl) dX6_linesOfRow_43 ?_
        refine w_iload C 5 dX6_linesOfRow_46 rfl ?_
        obtain ⟨b8, hw⟩ := hw
        refine v_iald C ak_41 rfl (Nat.le_of_ble_eq_true rfl) b8 dX6_linesOfRow_48 ?_
        refine back_I (run_V C HR mt_X4_after (ci := 4) rfl (by decide) (Nat.le_of_ble_eq_true rfl) gw549 gw550 gw600 (by decide) rfl (Nat.le_of_ble_eq_true rfl) dX6_linesOfRow_49 (As := [.int x3, .int (M5 41 0 x5.toNatClampNeg)]) rfl (c_X4_after x3 (M5 41 0 x5.toNatClampNeg)  _ _ hw)) (fun r10 M9 hw => ?_)
        refine w_istore_n C (lv' := [(3, .int r10), (4, .int a7), (0, .ref (gad G 6 0)), (1, .ref (gad G 4 0)), (2, .int x2), (5, .int x5)]) dX6_linesOfRow_52 rfl (by decide) rfl ?_
        refine w_iincV C (lv' := [(5, .int (x5 + 1)), (3, .int r10), (4, .int a7), (0, .ref (gad G 6 0)), (1, .ref (gad G 4 0)), (2, .int x2)]) 5 dX6_linesOfRow_53 kc_i_1 rfl (by decide) rfl ?_
        refine w_goto C dX6_linesOfRow_56 (tgt := 9) rfl ?_
        exact w_sub [3, 4, 5, 1, 2, 0] rfl (ih x2 r10 a7 (x5 + 1)  _ hw)
set_option maxRecDepth 100000 in
set_option maxHeartbeats 4000000 in
theorem c_X6_linesOfRow {G : GG} {n : Nat} {l : Launch} (x2 : Int32)  (M : Mem) (Q : Int32 → Mem → Prop) (hw : wp_X6_linesOfRow x2 M Q) : Ct G n l yX6_linesOfRow cX6_linesOfRow 6 (some .int) 2 51 [.ref (gad G 6 0), .ref (gad G 4 0), .int x2] M (Qi G n Q) := by
  refine ct_of (by decide) (Nat.le_of_ble_eq_true rfl) (lv := [(0, .ref (gad G 6 0)), (1, .ref (gad G 4 0)), (2, .int x2)]) rfl (fun E C HR HT hE => ?_)
  replace C : Cx G n E RX6 cX6_linesOfRow 6 := C
  refine w_ldc C dX6_linesOfRow_0 gw584 ?_
  refine w_istore_n C (lv' := [(3, .int 6513507), (0, .ref (gad G 6 0)), (1, .ref (gad G 4 0)), (2, .int x2)]) dX6_linesOfRow_2 rfl (by decide) rfl ?_
  refine w_iconst C dX6_linesOfRow_3 kc_i_0 ?_
  refine w_istore C (lv' := [(4, .int 0), (3, .int 6513507), (0, .ref (gad G 6 0)), (1, .ref (gad G 4 0)), (2, .int x2)]) dX6_linesOfRow_4 (by decide) rfl ?_
  refine w_iconst C dX6_linesOfRow_6 kc_i_0 ?_
  refine w_istore C (lv' := [(5, .int 0), (4, .int 0), (3, .int 6513507), (0, .ref (gad G 6 0)), (1, .ref (gad G 4 0)), (2, .int x2)]) dX6_linesOfRow_7 (by decide) rfl ?_
  obtain ⟨f1, hw⟩ := hw
  exact w_sub [3, 4, 5, 2, 1, 0] rfl (s_X6_linesOfRow_9 C HR HT  f1 x2 6513507 0 0  _ hw)
set_option maxRecDepth 100000 in
set_option maxHeartbeats 4000000 in
theorem s_X3_fewestLines_99 {G : GG} {n : Nat} {E : EE} (C : Cx G n E RX3 cX3_fewestLines 10) (HR : RM E 5 129) (HT : RT E (some .int)) {Q : Int32 → Mem → Prop} {K16 : Int32 → Int32 → Int32 → Mem → Prop} (g16 : ∀ (x4 : Int32) (x5 : Int32) (x6 : Int32)  (M : Mem), K16 x4 x5 x6 M → WW G n E 10 (QE G E (Qi G n Q)) 16 [(0, .ref (gad G 3 0)), (1, .ref (gad G 4 0)), (2, .ref (gad G 6 0)), (4, .int x4), (5, .int x5), (6, .int x6)] [] M) {K26 : Int32 → Int32 → Int32 → Int32 → Mem → Prop} (g26 : ∀ (x4 : Int32) (x5 : Int32) (x6 : Int32) (x7 : Int32)  (M : Mem), K26 x4 x5 x6 x7 M → WW G n E 10 (QE G E (Qi G n Q)) 26 [(0, .ref (gad G 3 0)), (1, .ref (gad G 4 0)), (2, .ref (gad G 6 0)), (4, .int x4), (5, .int x5), (6, .int x6), (7, .int x7)] [] M) : ∀ (x4 : Int32) (x5 : Int32) (x6 : Int32) (x7 : Int32)  (M : Mem), w_X3_fewestLines_99 Q K16 K26 x4 x5 x6 x7 M → WW G n E 10 (QE G E (Qi G n Q)) 99 [(0, .ref (gad G 3 0)), (1, .ref (gad G 4 0)), (2, .ref (gad G 6 0)), (4, .int x4), (5, .int x5), (6, .int x6), (7, .int x7)] [] M := by
  intro x4 x5 x6 x7 M hw
  refine w_iincV C (lv' := [(7, .int (x7 + 1)), (0, .ref (gad G 3 0)), (1, .ref (gad G 4 0)), (2, .ref (gad G 6 0)), (4, .int x4), (5, .int x5), (6, .int x6)]) 6 dX3_fewestLines_99 kc_i_1 rfl (by decide) rfl ?_
  refine w_goto C dX3_fewestLines_102 (tgt := 26) rfl ?_
  exact w_sub [1, 2, 3, 4, 5, 6, 0] rfl (g26 x4 x5 x6 (x7 + 1)  _ hw)
set_option maxRecDepth 100000 in
set_option maxHeartbeats 4000000 in
theorem s_X3_fewestLines_26 {G : GG} {n : Nat} {E : EE} (C : Cx G n E RX3 cX3_fewestLines 10) (HR : RM E 5 129) (HT : RT E (some .int)) {Q : Int32 → Mem → Prop} {K16 : Int32 → Int32 → Int32 → Mem → Prop} (g16 : ∀ (x4 : Int32) (x5 : Int32) (x6 : Int32)  (M : Mem), K16 x4 x5 x6 M → WW G n E 10 (QE G E (Qi G n Q)) 16 [(0, .ref (gad G 3 0)), (1, .ref (gad G 4 0)), (2, .ref (gad G 6 0)), (4, .int x4), (5, .int x5), (6, .int x6)] [] M) : ∀ (f : Nat) (x4 : Int32) (x5 : Int32) (x6 : Int32) (x7 : Int32)  (M : Mem), w_X3_fewestLines_26 Q K16 f x4 x5 x6 x7 M → WW G n E 10 (QE G E (Qi G n Q)) 26 [(0, .ref (gad G 3 0)), (1, .ref (gad G 4 0)), (2, .ref (gad G 6 0)), (4, .int x4), (5, .int x5), (6, .int x6), (7, .int x7)] [] M := by
  intro f
  induction f with
  | zero => intro x4 x5 x6 x7 M hw; exact hw.elim
  | succ f ih =>
    intro x4 x5 x6 x7 M hw
    refine w_iload C 6 dX3_fewestLines_26 rfl ?_
    refine w_iload C 4 dX3_fewestLines_28 rfl ?_
    refine w_icmp_ge C dX3_fewestLines_30 (tgt := 105) rfl (fun c8 => ?_) (fun c8 => ?_)
    · replace hw := hw.1 c8
      refine w_iincV C (lv' := [(6, .int (x6 + 1)), (0, .ref (gad G 3 0)), (1, .ref (gad G 4 0)), (2, .ref (gad G 6 0)), (4, .int x4), (5, .int x5), (7, .int x7)]) 5 dX3_fewestLines_105 kc_i_1 rfl (by decide) rfl ?_
      refine w_goto C dX3_fewestLines_108 (tgt := 16) rfl ?_
      exact w_sub [1, 2, 3, 4, 5, 0] rfl (g16 x4 x5 (x6 + 1)  _ hw)
    · replace hw := hw.2 c8
      refine w_aload_n C 0 dX3_fewestLines_33 rfl rfl ?_
      refine gf_X3_9 C (Nat.le_of_ble_eq_true rfl) dX3_fewestLines_34 ?_
      refine w_iload C 6 dX3_fewestLines_37 rfl ?_
      obtain ⟨b9, hw⟩ := hw
      refine v_iald C ak_32 rfl (Nat.le_of_ble_eq_true rfl) b9 dX3_fewestLines_39 ?_
      refine w_istoreV C dX3_fewestLines_40 (by decide) (fun a10 ea10 => w_lv (lv' := [(8, .int a10), (0, .ref (gad G 3 0)), (1, .ref (gad G 4 0)), (2, .ref (gad G 6 0)), (4, .int x4), (5, .int x5), (6, .int x6), (7, .int x7)]) rfl ?_)
      replace hw := hw a10 ea10
      refine w_iload C 7 dX3_fewestLines_42 rfl ?_
      refine back_I (run_S C HR mt_J6_bitCount_0f7a4 gw627 gw636 (by decide) rfl (Nat.le_of_ble_eq_true rfl) dX3_fewestLines_44 (As := [.int x7]) rfl (c_J6_bitCount_0f7a4 x7  _ _ hw)) (fun r12 M11 hw => ?_)
      refine w_iload C 6 dX3_fewestLines_47 rfl ?_
      refine w_icmp_ne C dX3_fewestLines_49 (tgt := 99) rfl (fun c13 => ?_) (fun c13 => ?_)
      · replace hw := hw.2 c13
        exact w_sub [1, 2, 3, 4, 5, 6, 7] rfl (s_X3_fewestLines_99 C HR HT g16 ih x4 x5 x6 x7  _ hw)
      · replace hw := hw.1 c13
        refine w_iload C 0 dX3_fewestLines_52 rfl ?_
        refine w_iconst C dX3_fewestLines_54 kc_i_m1 ?_
        refine w_icmp_ne C dX3_fewestLines_55 (tgt := 61) rfl (fun c14 => ?_) (fun c14 => ?_)
        · replace hw := hw.2 c14
          refine w_aload_n C 2 dX3_fewestLines_61 rfl rfl ?_
          refine w_iload C 0 dX3_fewestLines_62 rfl ?_
          refine pf_X3_24 C (Nat.le_of_ble_eq_true rfl) dX3_fewestLines_64 (w_mem fun M15 eM15 => ?_)
          replace hw := hw M15 eM15
          refine w_aload_n C 3 dX3_fewestLines_67 rfl rfl ?_
          refine w_aload_n C 2 dX3_fewestLines_68 rfl rfl ?_
          refine w_iconst C dX3_fewestLines_69 kc_i_4 ?_
          refine back_I (run_V C HR mt_X6_find (ci := 6) rfl (by decide) (Nat.le_of_ble_eq_true rfl) gw580 gw581 gw642 (by decide) rfl (Nat.le_of_ble_eq_true rfl) dX3_fewestLines_70 (As := [.ref (gad G 4 0), .int 4]) rfl (c_X6_find 4  _ _ hw)) (fun r17 M16 hw => ?_)
          refine w_istore C (lv' := [(9, .int r17), (8, .int a10), (0, .ref (gad G 3 0)), (1, .ref (gad G 4 0)), (2, .ref (gad G 6 0)), (4, .int x4), (5, .int x5), (6, .int x6), (7, .int x7)]) dX3_fewestLines_73 (by decide) rfl ?_
          refine w_iload C 0 dX3_fewestLines_75 rfl ?_
          refine w_iconst C dX3_fewestLines_77 kc_i_m1 ?_
          refine w_icmp_ne C dX3_fewestLines_78 (tgt := 84) rfl (fun c18 => ?_) (fun c18 => ?_)
          · replace hw := hw.2 c18
            refine w_aload_n C 2 dX3_fewestLines_84 rfl rfl ?_
            refine w_iload C 1 dX3_fewestLines_85 rfl ?_
            refine w_aload_n C 4 dX3_fewestLines_87 rfl rfl ?_
            refine w_aload_n C 3 dX3_fewestLines_88 rfl rfl ?_
            refine w_iload C 0 dX3_fewestLines_89 rfl ?_
            refine back_I (run_V C HR mt_X6_linesOfRow (ci := 6) rfl (by decide) (Nat.le_of_ble_eq_true rfl) gw644 gw645 gw643 (by decide) rfl (Nat.le_of_ble_eq_true rfl) dX3_fewestLines_91 (As := [.ref (gad G 4 0), .int r17]) rfl (c_X6_linesOfRow r17  _ _ hw)) (fun r20 M19 hw => ?_)
            refine w_iload C 6 dX3_fewestLines_94 rfl ?_
            refine back_V (run_V C HR mt_X3_ruleOut (ci := 3) rfl (by decide) (Nat.le_of_ble_eq_true rfl) gw650 gw13 gw648 (by decide) rfl (Nat.le_of_ble_eq_true rfl) dX3_fewestLines_96 (As := [.int a10, .int r20, .int x5]) rfl (c_X3_ruleOut a10 r20 x5  _ _ hw)) (fun M21 hw => ?_)
            exact w_sub [2, 3, 4, 5, 6, 7, 8] rfl (s_X3_fewestLines_99 C HR HT g16 ih x4 x5 x6 x7  _ hw)
          · replace hw := hw.1 c18
            refine w_iload C 1 dX3_fewestLines_81 rfl ?_
            exact ret_I C HT hw dX3_fewestLines_83
        · replace hw := hw.1 c14
          refine w_goto C dX3_fewestLines_58 (tgt := 99) rfl ?_
          exact w_sub [1, 2, 3, 4, 5, 6, 7] rfl (s_X3_fewestLines_99 C HR HT g16 ih x4 x5 x6 x7  _ hw)
set_option maxRecDepth 100000 in
set_option maxHeartbeats 4000000 in
theorem s_X3_fewestLines_16 {G : GG} {n : Nat} {E : EE} (C : Cx G n E RX3 cX3_fewestLines 10) (HR : RM E 5 129) (HT : RT E (some .int)) {Q : Int32 → Mem → Prop}  : ∀ (f : Nat) (x4 : Int32) (x5 : Int32) (x6 : Int32)  (M : Mem), w_X3_fewestLines_16 Q  f x4 x5 x6 M → WW G n E 10 (QE G E (Qi G n Q)) 16 [(0, .ref (gad G 3 0)), (1, .ref (gad G 4 0)), (2, .ref (gad G 6 0)), (4, .int x4), (5, .int x5), (6, .int x6)] [] M := by
  intro f
  induction f with
  | zero => intro x4 x5 x6 M hw; exact hw.elim
  | succ f ih =>
    intro x4 x5 x6 M hw
    refine w_iload C 5 dX3_fewestLines_16 rfl ?_
    refine w_iload C 3 dX3_fewestLines_18 rfl ?_
    refine w_icmp_gt C dX3_fewestLines_20 (tgt := 111) rfl (fun c6 => ?_) (fun c6 => ?_)
    · replace hw := hw.1 c6
      refine w_iconst C dX3_fewestLines_111 kc_i_m1 ?_
      exact ret_I C HT hw dX3_fewestLines_112
    · replace hw := hw.2 c6
      refine w_iconst C dX3_fewestLines_23 kc_i_0 ?_
      refine w_istore C (lv' := [(7, .int 0), (0, .ref (gad G 3 0)), (1, .ref (gad G 4 0)), (2, .ref (gad G 6 0)), (4, .int x4), (5, .int x5), (6, .int x6)]) dX3_fewestLines_24 (by decide) rfl ?_
      obtain ⟨f7, hw⟩ := hw
      exact w_sub [1, 2, 3, 4, 5, 6, 0] rfl (s_X3_fewestLines_26 C HR HT ih f7 x4 x5 x6 0  _ hw)
set_option maxRecDepth 100000 in
set_option maxHeartbeats 4000000 in
theorem c_X3_fewestLines {G : GG} {n : Nat} {l : Launch} (x3 : Int32)  (M : Mem) (Q : Int32 → Mem → Prop) (hw : wp_X3_fewestLines x3 M Q) : Ct G n l yX3_fewestLines cX3_fewestLines 10 (some .int) 5 129 [.ref (gad G 3 0), .ref (gad G 4 0), .ref (gad G 6 0), .int x3] M (Qi G n Q) := by
  refine ct_of (by decide) (Nat.le_of_ble_eq_true rfl) (lv := [(0, .ref (gad G 3 0)), (1, .ref (gad G 4 0)), (2, .ref (gad G 6 0)), (3, .int x3)]) rfl (fun E C HR HT hE => ?_)
  replace C : Cx G n E RX3 cX3_fewestLines 10 := C
  refine w_iload_n C 3 dX3_fewestLines_0 rfl rfl ?_
  refine back_I (run_S C HR mt_J6_bitCount_0f7a4 gw627 gw636 (by decide) rfl (Nat.le_of_ble_eq_true rfl) dX3_fewestLines_1 (As := [.int x3]) rfl (c_J6_bitCount_0f7a4 x3  _ _ hw)) (fun r2 M1 hw => ?_)
  refine w_istore C (lv' := [(4, .int r2), (0, .ref (gad G 3 0)), (1, .ref (gad G 4 0)), (2, .ref (gad G 6 0)), (3, .int x3)]) dX3_fewestLines_4 (by decide) rfl ?_
  refine w_aload_n C 1 dX3_fewestLines_6 rfl rfl ?_
  refine w_iload_n C 4 dX3_fewestLines_7 rfl rfl ?_
  refine back_I (run_V C HR mt_X3_tellChoices (ci := 3) rfl (by decide) (Nat.le_of_ble_eq_true rfl) gw639 gw12 gw637 (by decide) rfl (Nat.le_of_ble_eq_true rfl) dX3_fewestLines_8 (As := [.int x3]) rfl (c_X3_tellChoices x3  _ _ hw)) (fun r4 M3 hw => ?_)
  refine w_istore C (lv' := [(5, .int r4), (4, .int r2), (0, .ref (gad G 3 0)), (1, .ref (gad G 4 0)), (2, .ref (gad G 6 0)), (3, .int x3)]) dX3_fewestLines_11 (by decide) rfl ?_
  refine w_iconst C dX3_fewestLines_13 kc_i_0 ?_
  refine w_istore C (lv' := [(6, .int 0), (5, .int r4), (4, .int r2), (0, .ref (gad G 3 0)), (1, .ref (gad G 4 0)), (2, .ref (gad G 6 0)), (3, .int x3)]) dX3_fewestLines_14 (by decide) rfl ?_
  obtain ⟨f5, hw⟩ := hw
  exact w_sub [3, 4, 5, 2, 1, 0] rfl (s_X3_fewestLines_16 C HR HT  f5 r2 r4 0  _ hw)
set_option maxRecDepth 100000 in
set_option maxHeartbeats 4000000 in
theorem c_J0_isLatin1_aae02 {G : GG} {n : Nat} {l : Launch} (jt : Nat) (hjt : jt < 3) (M : Mem) (Q : Int32 → Mem → Prop) (hw : wp_J0_isLatin1_aae02 jt M Q) : Ct G n l yJ0_isLatin1_aae02 cJ0_isLatin1_aae02 1 (some .boolean) 0 0 [.ref (gK G jt)] M (Qi G n Q) := by
  refine ct_ofF (by decide +kernel) (Nat.le_of_ble_eq_true rfl) (lv := [(0, .ref (gK G jt))]) rfl (fun E C HR HT hE => ?_)
  replace C : Cx G n E RJ0 cJ0_isLatin1_aae02 1 := C
  refine w_scomp C gw419 dJ0_isLatin1_aae02_0 ?_
  refine w_if_eq C dJ0_isLatin1_aae02_3 (tgt := 17) rfl (fun c1 => ?_) (fun c1 => ?_)
  · replace hw := hw.1 c1
    refine w_iconst C dJ0_isLatin1_aae02_17 kc_i_0 ?_
    exact ret_Z C HT rfl hw dJ0_isLatin1_aae02_18
  · replace hw := hw.2 c1
    refine w_aload_n C 0 dJ0_isLatin1_aae02_6 rfl rfl ?_
    refine w_scod C hjt gw1492 dJ0_isLatin1_aae02_7 ?_
    refine w_if_ne C dJ0_isLatin1_aae02_10 (tgt := 17) rfl (fun c2 => ?_) (fun c2 => ?_)
    · replace hw := hw.2 c2
      refine w_iconst C dJ0_isLatin1_aae02_17 kc_i_0 ?_
      exact ret_Z C HT rfl hw dJ0_isLatin1_aae02_18
    · replace hw := hw.1 c2
      refine w_iconst C dJ0_isLatin1_aae02_13 kc_i_1 ?_
      refine w_goto C dJ0_isLatin1_aae02_14 (tgt := 18) rfl ?_
      exact ret_Z C HT rfl hw dJ0_isLatin1_aae02_18
set_option maxRecDepth 100000 in
set_option maxHeartbeats 4000000 in
theorem c_J0_coder_7d493 {G : GG} {n : Nat} {l : Launch} (jt : Nat) (hjt : jt < 3) (M : Mem) (Q : Int32 → Mem → Prop) (hw : wp_J0_coder_7d493 jt M Q) : Ct G n l yJ0_coder_7d493 cJ0_coder_7d493 1 (some .byte) 0 0 [.ref (gK G jt)] M (Qi G n Q) := by
  refine ct_ofF (by decide +kernel) (Nat.le_of_ble_eq_true rfl) (lv := [(0, .ref (gK G jt))]) rfl (fun E C HR HT hE => ?_)
  replace C : Cx G n E RJ0 cJ0_coder_7d493 1 := C
  refine w_scomp C gw419 dJ0_coder_7d493_0 ?_
  refine w_if_eq C dJ0_coder_7d493_3 (tgt := 13) rfl (fun c1 => ?_) (fun c1 => ?_)
  · replace hw := hw.1 c1
    refine w_iconst C dJ0_coder_7d493_13 kc_i_1 ?_
    exact ret_Z C HT rfl hw dJ0_coder_7d493_14
  · replace hw := hw.2 c1
    refine w_aload_n C 0 dJ0_coder_7d493_6 rfl rfl ?_
    refine w_scod C hjt gw1492 dJ0_coder_7d493_7 ?_
    refine w_goto C dJ0_coder_7d493_10 (tgt := 14) rfl ?_
    exact ret_Z C HT rfl hw dJ0_coder_7d493_14
set_option maxRecDepth 100000 in
set_option maxHeartbeats 4000000 in
theorem c_J0_length_8abf5 {G : GG} {n : Nat} {l : Launch} (jt : Nat) (hjt : jt < 3) (M : Mem) (Q : Int32 → Mem → Prop) (hw : wp_J0_length_8abf5 jt M Q) : Ct G n l yJ0_length_8abf5 cJ0_length_8abf5 1 (some .int) 1 20 [.ref (gK G jt)] M (Qi G n Q) := by
  refine ct_ofF (by decide +kernel) (Nat.le_of_ble_eq_true rfl) (lv := [(0, .ref (gK G jt))]) rfl (fun E C HR HT hE => ?_)
  replace C : Cx G n E RJ0 cJ0_length_8abf5 1 := C
  refine w_aload_n C 0 dJ0_length_8abf5_0 rfl rfl ?_
  refine w_sval C hjt gw1493 dJ0_length_8abf5_1 ?_
  refine w_sblen C hjt dJ0_length_8abf5_4 ?_
  refine w_aload_n C 0 dJ0_length_8abf5_5 rfl rfl ?_
  refine back_I (run_VT C HR mt_J0_coder_7d493 rfl hjt gw426 gw427 gw425 (by decide) rfl (Nat.le_of_ble_eq_true rfl) dJ0_length_8abf5_6 (As := []) rfl (c_J0_coder_7d493 jt hjt _ _ hw)) (fun r2 M1 hw => ?_)
  refine w_ishr C dJ0_length_8abf5_9 ?_
  exact ret_I C HT hw dJ0_length_8abf5_10
set_option maxRecDepth 100000 in
set_option maxHeartbeats 4000000 in
theorem c_J1_canEncode_9a6ad {G : GG} {n : Nat} {l : Launch} (x0 : Int32)  (M : Mem) (Q : Int32 → Mem → Prop) (hw : wp_J1_canEncode_9a6ad x0 M Q) : Ct G n l yJ1_canEncode_9a6ad cJ1_canEncode_9a6ad 1 (some .boolean) 0 0 [.int x0] M (Qi G n Q) := by
  refine ct_ofF (by decide +kernel) (Nat.le_of_ble_eq_true rfl) (lv := [(0, .int x0)]) rfl (fun E C HR HT hE => ?_)
  replace C : Cx G n E RJ1 cJ1_canEncode_9a6ad 1 := C
  refine w_iload_n C 0 dJ1_canEncode_9a6ad_0 rfl rfl ?_
  refine w_if_lt C dJ1_canEncode_9a6ad_1 (tgt := 15) rfl (fun c1 => ?_) (fun c1 => ?_)
  · replace hw := hw.1 c1
    refine w_iconst C dJ1_canEncode_9a6ad_15 kc_i_0 ?_
    exact ret_Z C HT rfl hw dJ1_canEncode_9a6ad_16
  · replace hw := hw.2 c1
    refine w_iload_n C 0 dJ1_canEncode_9a6ad_4 rfl rfl ?_
    refine w_sipush C dJ1_canEncode_9a6ad_5 kc_s_255 ?_
    refine w_icmp_gt C dJ1_canEncode_9a6ad_8 (tgt := 15) rfl (fun c2 => ?_) (fun c2 => ?_)
    · replace hw := hw.1 c2
      refine w_iconst C dJ1_canEncode_9a6ad_15 kc_i_0 ?_
      exact ret_Z C HT rfl hw dJ1_canEncode_9a6ad_16
    · replace hw := hw.2 c2
      refine w_iconst C dJ1_canEncode_9a6ad_11 kc_i_1 ?_
      refine w_goto C dJ1_canEncode_9a6ad_12 (tgt := 16) rfl ?_
      exact ret_Z C HT rfl hw dJ1_canEncode_9a6ad_16
set_option maxRecDepth 100000 in
set_option maxHeartbeats 4000000 in
theorem s_J1_indexOfChar_4cfef_7 {G : GG} {n : Nat} {E : EE} (C : Cx G n E RJ1 cJ1_indexOfChar_4cfef 6) (HR : RM E 0 0) (HT : RT E (some .int)) {Q : Int32 → Mem → Prop}  : ∀ (f : Nat) (j0 : Nat) (x3 : Int32) (x4 : Int32) (x5 : Int32) (hj0 : j0 < 3) (M : Mem), w_J1_indexOfChar_4cfef_7 Q  f j0 x3 x4 x5 M → WW G n E 6 (QE G E (Qi G n Q)) 7 [(0, .ref (gV G j0)), (3, .int x3), (4, .int x4), (5, .int x5)] [] M := by
  intro f
  induction f with
  | zero => intro j0 x3 x4 x5 hj0 M hw; exact hw.elim
  | succ f ih =>
    intro j0 x3 x4 x5 hj0 M hw
    refine w_iload C 3 dJ1_indexOfChar_4cfef_7 rfl ?_
    refine w_iload_n C 1 dJ1_indexOfChar_4cfef_9 rfl rfl ?_
    refine w_icmp_ge C dJ1_indexOfChar_4cfef_10 (tgt := 31) rfl (fun c3 => ?_) (fun c3 => ?_)
    · replace hw := hw.1 c3
      refine w_iconst C dJ1_indexOfChar_4cfef_31 kc_i_m1 ?_
      exact ret_I C HT hw dJ1_indexOfChar_4cfef_32
    · replace hw := hw.2 c3
      refine w_aload_n C 0 dJ1_indexOfChar_4cfef_13 rfl rfl ?_
      refine w_iload C 3 dJ1_indexOfChar_4cfef_14 rfl ?_
      obtain ⟨b4, hw⟩ := hw
      refine w_sbald C hj0 b4 dJ1_indexOfChar_4cfef_16 ?_
      refine w_iload C 2 dJ1_indexOfChar_4cfef_17 rfl ?_
      refine w_icmp_ne C dJ1_indexOfChar_4cfef_19 (tgt := 25) rfl (fun c5 => ?_) (fun c5 => ?_)
      · replace hw := hw.2 c5
        refine w_iincV C (lv' := [(5, .int (x5 + 1)), (0, .ref (gV G j0)), (3, .int x3), (4, .int x4)]) 3 dJ1_indexOfChar_4cfef_25 kc_i_1 rfl (by decide) rfl ?_
        refine w_goto C dJ1_indexOfChar_4cfef_28 (tgt := 7) rfl ?_
        exact w_sub [1, 2, 3, 0] rfl (ih j0 x3 x4 (x5 + 1) hj0 _ hw)
      · replace hw := hw.1 c5
        refine w_iload C 3 dJ1_indexOfChar_4cfef_22 rfl ?_
        exact ret_I C HT hw dJ1_indexOfChar_4cfef_24
set_option maxRecDepth 100000 in
set_option maxHeartbeats 4000000 in
theorem c_J1_indexOfChar_4cfef {G : GG} {n : Nat} {l : Launch} (j0 : Nat) (x1 : Int32) (x2 : Int32) (x3 : Int32) (hj0 : j0 < 3) (M : Mem) (Q : Int32 → Mem → Prop) (hw : wp_J1_indexOfChar_4cfef j0 x1 x2 x3 M Q) : Ct G n l yJ1_indexOfChar_4cfef cJ1_indexOfChar_4cfef 6 (some .int) 0 0 [.ref (gV G j0), .int x1, .int x2, .int x3] M (Qi G n Q) := by
  refine ct_ofF (by decide +kernel) (Nat.le_of_ble_eq_true rfl) (lv := [(0, .ref (gV G j0)), (1, .int x1), (2, .int x2), (3, .int x3)]) rfl (fun E C HR HT hE => ?_)
  replace C : Cx G n E RJ1 cJ1_indexOfChar_4cfef 6 := C
  refine w_iload_n C 1 dJ1_indexOfChar_4cfef_0 rfl rfl ?_
  refine w_i2b C dJ1_indexOfChar_4cfef_1 ?_
  refine w_istoreV C dJ1_indexOfChar_4cfef_2 (by decide) (fun a1 ea1 => w_lv (lv' := [(4, .int a1), (0, .ref (gV G j0)), (1, .int x1), (2, .int x2), (3, .int x3)]) rfl ?_)
  replace hw := hw a1 ea1
  refine w_iload_n C 3 dJ1_indexOfChar_4cfef_4 rfl rfl ?_
  refine w_istore C (lv' := [(5, .int x2), (4, .int a1), (0, .ref (gV G j0)), (1, .int x1), (2, .int x2), (3, .int x3)]) dJ1_indexOfChar_4cfef_5 (by decide) rfl ?_
  obtain ⟨f2, hw⟩ := hw
  exact w_sub [2, 5, 1, 0] rfl (s_J1_indexOfChar_4cfef_7 C HR HT  f2 j0 x3 a1 x2 hj0 _ hw)
set_option maxRecDepth 100000 in
set_option maxHeartbeats 4000000 in
theorem c_J1_indexOf_4cfef {G : GG} {n : Nat} {l : Launch} (j0 : Nat) (x1 : Int32) (x2 : Int32) (x3 : Int32) (hj0 : j0 < 3) (M : Mem) (Q : Int32 → Mem → Prop) (hw : wp_J1_indexOf_4cfef j0 x1 x2 x3 M Q) : Ct G n l yJ1_indexOf_4cfef cJ1_indexOf_4cfef 4 (some .int) 1 25 [.ref (gV G j0), .int x1, .int x2, .int x3] M (Qi G n Q) := by
  refine ct_ofF (by decide +kernel) (Nat.le_of_ble_eq_true rfl) (lv := [(0, .ref (gV G j0)), (1, .int x1), (2, .int x2), (3, .int x3)]) rfl (fun E C HR HT hE => ?_)
  replace C : Cx G n E RJ1 cJ1_indexOf_4cfef 4 := C
  refine w_iload_n C 1 dJ1_indexOf_4cfef_0 rfl rfl ?_
  refine back_I (run_S C HR mt_J1_canEncode_9a6ad gw433 gw432 (by decide) rfl (Nat.le_of_ble_eq_true rfl) dJ1_indexOf_4cfef_1 (As := [.int x1]) rfl (c_J1_canEncode_9a6ad x1  _ _ hw)) (fun r2 M1 hw => ?_)
  refine w_if_ne C dJ1_indexOf_4cfef_4 (tgt := 9) rfl (fun c3 => ?_) (fun c3 => ?_)
  · replace hw := hw.2 c3
    refine w_iload_n C 2 dJ1_indexOf_4cfef_9 rfl rfl ?_
    refine w_iconst C dJ1_indexOf_4cfef_10 kc_i_0 ?_
    refine back_I (run_S C HR mt_J9_max_7cf53 gw436 gw435 (by decide) rfl (Nat.le_of_ble_eq_true rfl) dJ1_indexOf_4cfef_11 (As := [.int x2, .int 0]) rfl (c_J9_max_7cf53 x2 0  _ _ hw)) (fun r5 M4 hw => ?_)
    refine w_istore_n C (lv' := [(2, .int r5), (0, .ref (gV G j0)), (1, .int x1), (3, .int x3)]) dJ1_indexOf_4cfef_14 rfl (by decide) rfl ?_
    refine w_iload_n C 3 dJ1_indexOf_4cfef_15 rfl rfl ?_
    refine w_aload_n C 1 dJ1_indexOf_4cfef_16 rfl rfl ?_
    refine w_sblen C hj0 dJ1_indexOf_4cfef_17 ?_
    refine back_I (run_S C HR mt_J9_min_7cf53 gw439 gw438 (by decide) rfl (Nat.le_of_ble_eq_true rfl) dJ1_indexOf_4cfef_18 (As := [.int x3, .int (nI (slen.getD j0 0))]) rfl (c_J9_min_7cf53 x3 (nI (slen.getD j0 0))  _ _ hw)) (fun r7 M6 hw => ?_)
    refine w_istore_n C (lv' := [(3, .int r7), (2, .int r5), (0, .ref (gV G j0)), (1, .int x1)]) dJ1_indexOf_4cfef_21 rfl (by decide) rfl ?_
    refine w_iload_n C 1 dJ1_indexOf_4cfef_22 rfl rfl ?_
    refine w_iload_n C 0 dJ1_indexOf_4cfef_23 rfl rfl ?_
    refine w_icmp_lt C dJ1_indexOf_4cfef_24 (tgt := 29) rfl (fun c8 => ?_) (fun c8 => ?_)
    · replace hw := hw.1 c8
      refine w_aload_n C 2 dJ1_indexOf_4cfef_29 rfl rfl ?_
      refine w_iload_n C 3 dJ1_indexOf_4cfef_30 rfl rfl ?_
      refine w_iload_n C 1 dJ1_indexOf_4cfef_31 rfl rfl ?_
      refine w_iload_n C 0 dJ1_indexOf_4cfef_32 rfl rfl ?_
      refine back_I (run_S C HR mt_J1_indexOfChar_4cfef gw442 gw441 (by decide) rfl (Nat.le_of_ble_eq_true rfl) dJ1_indexOf_4cfef_33 (As := [.ref (gV G j0), .int x1, .int r5, .int r7]) rfl (c_J1_indexOfChar_4cfef j0 x1 r5 r7 hj0 _ _ hw)) (fun r10 M9 hw => ?_)
      exact ret_I C HT hw dJ1_indexOf_4cfef_36
    · replace hw := hw.2 c8
      refine w_iconst C dJ1_indexOf_4cfef_27 kc_i_m1 ?_
      exact ret_I C HT hw dJ1_indexOf_4cfef_28
  · replace hw := hw.1 c3
    refine w_iconst C dJ1_indexOf_4cfef_7 kc_i_m1 ?_
    exact ret_I C HT hw dJ1_indexOf_4cfef_8
set_option maxRecDepth 100000 in
set_option maxHeartbeats 4000000 in
theorem c_J0_indexOf_7cf53 {G : GG} {n : Nat} {l : Launch} (jt : Nat) (x1 : Int32) (x2 : Int32) (hjt : jt < 3) (M : Mem) (Q : Int32 → Mem → Prop) (hw : wp_J0_indexOf_7cf53 jt x1 x2 M Q) : Ct G n l yJ0_indexOf_7cf53 cJ0_indexOf_7cf53 3 (some .int) 2 48 [.ref (gK G jt), .int x1, .int x2] M (Qi G n Q) := by
  refine ct_ofF (by decide +kernel) (Nat.le_of_ble_eq_true rfl) (lv := [(0, .ref (gK G jt)), (1, .int x1), (2, .int x2)]) rfl (fun E C HR HT hE => ?_)
  replace C : Cx G n E RJ0 cJ0_indexOf_7cf53 3 := C
  refine w_aload_n C 0 dJ0_indexOf_7cf53_0 rfl rfl ?_
  refine back_I (run_VT C HR mt_J0_isLatin1_aae02 rfl hjt gw416 gw417 gw415 (by decide) rfl (Nat.le_of_ble_eq_true rfl) dJ0_indexOf_7cf53_1 (As := []) rfl (c_J0_isLatin1_aae02 jt hjt _ _ hw)) (fun r2 M1 hw => ?_)
  refine w_if_eq C dJ0_indexOf_7cf53_4 (tgt := 23) rfl (fun c3 => ?_) (fun c3 => ?_)
  · replace hw := hw.1 c3
    exact hw.elim
  · replace hw := hw.2 c3
    refine w_aload_n C 0 dJ0_indexOf_7cf53_7 rfl rfl ?_
    refine w_sval C hjt gw1493 dJ0_indexOf_7cf53_8 ?_
    refine w_iload_n C 1 dJ0_indexOf_7cf53_11 rfl rfl ?_
    refine w_iload_n C 2 dJ0_indexOf_7cf53_12 rfl rfl ?_
    refine w_aload_n C 0 dJ0_indexOf_7cf53_13 rfl rfl ?_
    refine back_I (run_VT C HR mt_J0_length_8abf5 rfl hjt gw422 gw423 gw421 (by decide) rfl (Nat.le_of_ble_eq_true rfl) dJ0_indexOf_7cf53_14 (As := []) rfl (c_J0_length_8abf5 jt hjt _ _ hw)) (fun r5 M4 hw => ?_)
    refine back_I (run_S C HR mt_J1_indexOf_4cfef gw430 gw429 (by decide) rfl (Nat.le_of_ble_eq_true rfl) dJ0_indexOf_7cf53_17 (As := [.ref (gV G jt), .int x1, .int x2, .int r5]) rfl (c_J1_indexOf_4cfef jt x1 x2 r5 hjt _ _ hw)) (fun r7 M6 hw => ?_)
    refine w_goto C dJ0_indexOf_7cf53_20 (tgt := 36) rfl ?_
    exact ret_I C HT hw dJ0_indexOf_7cf53_36
set_option maxRecDepth 100000 in
set_option maxHeartbeats 4000000 in
theorem c_J0_indexOf_0f7a4 {G : GG} {n : Nat} {l : Launch} (jt : Nat) (x1 : Int32) (hjt : jt < 3) (M : Mem) (Q : Int32 → Mem → Prop) (hw : wp_J0_indexOf_0f7a4 jt x1 M Q) : Ct G n l yJ0_indexOf_0f7a4 cJ0_indexOf_0f7a4 2 (some .int) 3 70 [.ref (gK G jt), .int x1] M (Qi G n Q) := by
  refine ct_ofF (by decide +kernel) (Nat.le_of_ble_eq_true rfl) (lv := [(0, .ref (gK G jt)), (1, .int x1)]) rfl (fun E C HR HT hE => ?_)
  replace C : Cx G n E RJ0 cJ0_indexOf_0f7a4 2 := C
  refine w_aload_n C 0 dJ0_indexOf_0f7a4_0 rfl rfl ?_
  refine w_iload_n C 1 dJ0_indexOf_0f7a4_1 rfl rfl ?_
  refine w_iconst C dJ0_indexOf_0f7a4_2 kc_i_0 ?_
  refine back_I (run_VT C HR mt_J0_indexOf_7cf53 rfl hjt gw412 gw413 gw411 (by decide) rfl (Nat.le_of_ble_eq_true rfl) dJ0_indexOf_0f7a4_3 (As := [.int x1, .int 0]) rfl (c_J0_indexOf_7cf53 jt x1 0 hjt _ _ hw)) (fun r2 M1 hw => ?_)
  exact ret_I C HT hw dJ0_indexOf_0f7a4_6
set_option maxRecDepth 100000 in
set_option maxHeartbeats 4000000 in
theorem s_X8_stepBehind_167 {G : GG} {n : Nat} {E : EE} (C : Cx G n E RX8 cX8_stepBehind 4) (HR : RM E 4 91) (HT : RT E (some .int)) {Q : Int32 → Mem → Prop}  : ∀   (M : Mem), w_X8_stepBehind_167 Q   M → WW G n E 4 (QE G E (Qi G n Q)) 167 [] [] M := by
  intro  M hw
  refine w_bipush C dX8_stepBehind_167 kc_b_7 ?_
  refine w_goto C dX8_stepBehind_169 (tgt := 173) rfl ?_
  exact ret_I C HT hw dX8_stepBehind_173
set_option maxRecDepth 100000 in
set_option maxHeartbeats 4000000 in
theorem s_X8_stepBehind_33 {G : GG} {n : Nat} {E : EE} (C : Cx G n E RX8 cX8_stepBehind 4) (HR : RM E 4 91) (HT : RT E (some .int)) {Q : Int32 → Mem → Prop}  : ∀ (x0 : Int32) (x1 : Int32) (x2 : Int32) (y0 : Int32)  (M : Mem), w_X8_stepBehind_33 Q  x0 x1 x2 y0 M → WW G n E 4 (QE G E (Qi G n Q)) 33 [(0, .int x0), (1, .int x1), (2, .int x2)] [.int y0] M := by
  intro x0 x1 x2 y0 M hw
  refine w_istore_n C (lv' := [(3, .int y0), (0, .int x0), (1, .int x1), (2, .int x2)]) dX8_stepBehind_33 rfl (by decide) rfl ?_
  refine w_iload_n C 1 dX8_stepBehind_34 rfl rfl ?_
  by_cases c5 : x0 = (0 : Int32)
  · replace hw := hw.1 c5
    refine w_swAt C c5 dX8_stepBehind_35 (off := 41) (tgt := 76) (by decide) rfl ?_
    refine w_ldcS C (i := 0) (tx := "srkdaxtb") (fun U h => h.1) dX8_stepBehind_76 ?_
    refine w_iload_n C 2 dX8_stepBehind_78 rfl rfl ?_
    refine w_i2c C dX8_stepBehind_79 ?_
    refine back_I (run_VT C HR mt_J0_indexOf_0f7a4 rfl (by decide) gw408 gw409 gw407 (by decide) rfl (Nat.le_of_ble_eq_true rfl) dX8_stepBehind_80 (As := [.int (((x1 : Int32).toUInt32 % 65536).toInt32)]) rfl (c_J0_indexOf_0f7a4 0 (((x1 : Int32).toUInt32 % 65536).toInt32) (by decide) _ _ hw)) (fun r7 M6 hw => ?_)
    refine w_if_lt C dX8_stepBehind_83 (tgt := 90) rfl (fun c8 => ?_) (fun c8 => ?_)
    · replace hw := hw.1 c8
      refine w_iconst C dX8_stepBehind_90 kc_i_m1 ?_
      exact ret_I C HT hw dX8_stepBehind_91
    · replace hw := hw.2 c8
      refine w_iconst C dX8_stepBehind_86 kc_i_1 ?_
      refine w_goto C dX8_stepBehind_87 (tgt := 91) rfl ?_
      exact ret_I C HT hw dX8_stepBehind_91
  replace hw := hw.2
  by_cases c9 : x0 = (1 : Int32)
  · replace hw := hw.1 c9
    refine w_swAt C c9 dX8_stepBehind_35 (off := 57) (tgt := 92) (by decide) rfl ?_
    refine w_iload_n C 3 dX8_stepBehind_92 rfl rfl ?_
    refine w_if_eq C dX8_stepBehind_93 (tgt := 100) rfl (fun c10 => ?_) (fun c10 => ?_)
    · replace hw := hw.1 c10
      refine w_iconst C dX8_stepBehind_100 kc_i_m1 ?_
      exact ret_I C HT hw dX8_stepBehind_101
    · replace hw := hw.2 c10
      refine w_iconst C dX8_stepBehind_96 kc_i_2 ?_
      refine w_goto C dX8_stepBehind_97 (tgt := 101) rfl ?_
      exact ret_I C HT hw dX8_stepBehind_101
  replace hw := hw.2
  by_cases c11 : x0 = (2 : Int32)
  · replace hw := hw.1 c11
    refine w_swAt C c11 dX8_stepBehind_35 (off := 67) (tgt := 102) (by decide) rfl ?_
    refine w_iload_n C 2 dX8_stepBehind_102 rfl rfl ?_
    refine w_bipush C dX8_stepBehind_103 kc_b_58 ?_
    refine w_icmp_ne C dX8_stepBehind_105 (tgt := 112) rfl (fun c12 => ?_) (fun c12 => ?_)
    · replace hw := hw.2 c12
      refine w_iconst C dX8_stepBehind_112 kc_i_m1 ?_
      exact ret_I C HT hw dX8_stepBehind_113
    · replace hw := hw.1 c12
      refine w_iconst C dX8_stepBehind_108 kc_i_3 ?_
      refine w_goto C dX8_stepBehind_109 (tgt := 113) rfl ?_
      exact ret_I C HT hw dX8_stepBehind_113
  replace hw := hw.2
  by_cases c13 : x0 = (3 : Int32)
  · replace hw := hw.1 c13
    refine w_swAt C c13 dX8_stepBehind_35 (off := 79) (tgt := 114) (by decide) rfl ?_
    refine w_iload_n C 0 dX8_stepBehind_114 rfl rfl ?_
    refine w_if_eq C dX8_stepBehind_115 (tgt := 122) rfl (fun c14 => ?_) (fun c14 => ?_)
    · replace hw := hw.1 c14
      refine w_iload_n C 2 dX8_stepBehind_122 rfl rfl ?_
      refine w_bipush C dX8_stepBehind_123 kc_b_109 ?_
      refine w_icmp_ne C dX8_stepBehind_125 (tgt := 133) rfl (fun c15 => ?_) (fun c15 => ?_)
      · replace hw := hw.2 c15
        refine w_iconst C dX8_stepBehind_133 kc_i_m1 ?_
        exact ret_I C HT hw dX8_stepBehind_134
      · replace hw := hw.1 c15
        refine w_bipush C dX8_stepBehind_128 kc_b_6 ?_
        refine w_goto C dX8_stepBehind_130 (tgt := 134) rfl ?_
        exact ret_I C HT hw dX8_stepBehind_134
    · replace hw := hw.2 c14
      refine w_iconst C dX8_stepBehind_118 kc_i_4 ?_
      refine w_goto C dX8_stepBehind_119 (tgt := 134) rfl ?_
      exact ret_I C HT hw dX8_stepBehind_134
  replace hw := hw.2
  by_cases c16 : x0 = (4 : Int32)
  · replace hw := hw.1 c16
    refine w_swAt C c16 dX8_stepBehind_35 (off := 100) (tgt := 135) (by decide) rfl ?_
    refine w_ldcS C (i := 2) (tx := "+-=") (fun U h => h.2.2) dX8_stepBehind_135 ?_
    refine w_iload_n C 2 dX8_stepBehind_137 rfl rfl ?_
    refine w_i2c C dX8_stepBehind_138 ?_
    refine back_I (run_VT C HR mt_J0_indexOf_0f7a4 rfl (by decide) gw408 gw409 gw407 (by decide) rfl (Nat.le_of_ble_eq_true rfl) dX8_stepBehind_139 (As := [.int (((x1 : Int32).toUInt32 % 65536).toInt32)]) rfl (c_J0_indexOf_0f7a4 2 (((x1 : Int32).toUInt32 % 65536).toInt32) (by decide) _ _ hw)) (fun r18 M17 hw => ?_)
    refine w_if_lt C dX8_stepBehind_142 (tgt := 149) rfl (fun c19 => ?_) (fun c19 => ?_)
    · replace hw := hw.1 c19
      refine w_iconst C dX8_stepBehind_149 kc_i_m1 ?_
      exact ret_I C HT hw dX8_stepBehind_150
    · replace hw := hw.2 c19
      refine w_iconst C dX8_stepBehind_145 kc_i_5 ?_
      refine w_goto C dX8_stepBehind_146 (tgt := 150) rfl ?_
      exact ret_I C HT hw dX8_stepBehind_150
  replace hw := hw.2
  by_cases c20 : x0 = (5 : Int32)
  · replace hw := hw.1 c20
    refine w_swAt C c20 dX8_stepBehind_35 (off := 116) (tgt := 151) (by decide) rfl ?_
    refine w_iload_n C 0 dX8_stepBehind_151 rfl rfl ?_
    refine w_if_ne C dX8_stepBehind_152 (tgt := 167) rfl (fun c21 => ?_) (fun c21 => ?_)
    · replace hw := hw.2 c21
      exact w_sub [] rfl (s_X8_stepBehind_167 C HR HT    _ hw)
    · replace hw := hw.1 c21
      refine w_iload_n C 2 dX8_stepBehind_155 rfl rfl ?_
      refine w_bipush C dX8_stepBehind_156 kc_b_48 ?_
      refine w_icmp_lt C dX8_stepBehind_158 (tgt := 172) rfl (fun c22 => ?_) (fun c22 => ?_)
      · replace hw := hw.1 c22
        refine w_iconst C dX8_stepBehind_172 kc_i_m1 ?_
        exact ret_I C HT hw dX8_stepBehind_173
      · replace hw := hw.2 c22
        refine w_iload_n C 2 dX8_stepBehind_161 rfl rfl ?_
        refine w_bipush C dX8_stepBehind_162 kc_b_57 ?_
        refine w_icmp_gt C dX8_stepBehind_164 (tgt := 172) rfl (fun c23 => ?_) (fun c23 => ?_)
        · replace hw := hw.1 c23
          refine w_iconst C dX8_stepBehind_172 kc_i_m1 ?_
          exact ret_I C HT hw dX8_stepBehind_173
        · replace hw := hw.2 c23
          exact w_sub [] rfl (s_X8_stepBehind_167 C HR HT    _ hw)
  replace hw := hw.2
  by_cases c24 : x0 = (6 : Int32)
  · replace hw := hw.1 c24
    refine w_swAt C c24 dX8_stepBehind_35 (off := 139) (tgt := 174) (by decide) rfl ?_
    refine w_iload_n C 3 dX8_stepBehind_174 rfl rfl ?_
    refine w_if_eq C dX8_stepBehind_175 (tgt := 183) rfl (fun c25 => ?_) (fun c25 => ?_)
    · replace hw := hw.1 c25
      refine w_iconst C dX8_stepBehind_183 kc_i_m1 ?_
      exact ret_I C HT hw dX8_stepBehind_184
    · replace hw := hw.2 c25
      refine w_bipush C dX8_stepBehind_178 kc_b_7 ?_
      refine w_goto C dX8_stepBehind_180 (tgt := 184) rfl ?_
      exact ret_I C HT hw dX8_stepBehind_184
  replace hw := hw.2
  replace hw := hw c5 c9 c11 c13 c16 c20 c24
  refine w_swOut C dX8_stepBehind_35 (sw_out (N := 6) (by decide) (fun v hv => by
    match v, hv with
    | 0, _ => exact c5
    | 1, _ => exact c9
    | 2, _ => exact c11
    | 3, _ => exact c13
    | 4, _ => exact c16
    | 5, _ => exact c20
    | 6, _ => exact c24
    | w + 7, hv => exact absurd hv (by omega))) (tgt := 185) rfl ?_
  refine w_iload_n C 2 dX8_stepBehind_185 rfl rfl ?_
  refine w_bipush C dX8_stepBehind_186 kc_b_44 ?_
  refine w_icmp_ne C dX8_stepBehind_188 (tgt := 195) rfl (fun c26 => ?_) (fun c26 => ?_)
  · replace hw := hw.2 c26
    refine w_iload_n C 2 dX8_stepBehind_195 rfl rfl ?_
    refine w_bipush C dX8_stepBehind_196 kc_b_59 ?_
    refine w_icmp_ne C dX8_stepBehind_198 (tgt := 205) rfl (fun c27 => ?_) (fun c27 => ?_)
    · replace hw := hw.2 c27
      refine w_iconst C dX8_stepBehind_205 kc_i_m1 ?_
      exact ret_I C HT hw dX8_stepBehind_206
    · replace hw := hw.1 c27
      refine w_iconst C dX8_stepBehind_201 kc_i_0 ?_
      refine w_goto C dX8_stepBehind_202 (tgt := 206) rfl ?_
      exact ret_I C HT hw dX8_stepBehind_206
  · replace hw := hw.1 c26
    refine w_iconst C dX8_stepBehind_191 kc_i_3 ?_
    refine w_goto C dX8_stepBehind_192 (tgt := 206) rfl ?_
    exact ret_I C HT hw dX8_stepBehind_206
set_option maxRecDepth 100000 in
set_option maxHeartbeats 4000000 in
theorem s_X8_stepBehind_17 {G : GG} {n : Nat} {E : EE} (C : Cx G n E RX8 cX8_stepBehind 4) (HR : RM E 4 91) (HT : RT E (some .int)) {Q : Int32 → Mem → Prop}  : ∀ (x0 : Int32) (x1 : Int32) (y0 : Int32)  (M : Mem), w_X8_stepBehind_17 Q  x0 x1 y0 M → WW G n E 4 (QE G E (Qi G n Q)) 17 [(0, .int x0), (1, .int x1)] [.int y0] M := by
  intro x0 x1 y0 M hw
  refine w_istore_n C (lv' := [(2, .int y0), (0, .int x0), (1, .int x1)]) dX8_stepBehind_17 rfl (by decide) rfl ?_
  refine w_ldcS C (i := 1) (tx := "lpc") (fun U h => h.2.1) dX8_stepBehind_18 ?_
  refine w_iload_n C 2 dX8_stepBehind_20 rfl rfl ?_
  refine w_i2c C dX8_stepBehind_21 ?_
  refine back_I (run_VT C HR mt_J0_indexOf_0f7a4 rfl (by decide) gw408 gw409 gw407 (by decide) rfl (Nat.le_of_ble_eq_true rfl) dX8_stepBehind_22 (As := [.int (((x1 : Int32).toUInt32 % 65536).toInt32)]) rfl (c_J0_indexOf_0f7a4 1 (((x1 : Int32).toUInt32 % 65536).toInt32) (by decide) _ _ hw)) (fun r3 M2 hw => ?_)
  refine w_if_lt C dX8_stepBehind_25 (tgt := 32) rfl (fun c4 => ?_) (fun c4 => ?_)
  · replace hw := hw.1 c4
    refine w_iconst C dX8_stepBehind_32 kc_i_0 ?_
    exact w_sub [1, 2, 0] rfl (s_X8_stepBehind_33 C HR HT  x0 x1 y0 0  _ hw)
  · replace hw := hw.2 c4
    refine w_iconst C dX8_stepBehind_28 kc_i_1 ?_
    refine w_goto C dX8_stepBehind_29 (tgt := 33) rfl ?_
    exact w_sub [1, 2, 0] rfl (s_X8_stepBehind_33 C HR HT  x0 x1 y0 1  _ hw)
set_option maxRecDepth 100000 in
set_option maxHeartbeats 4000000 in
theorem s_X8_stepBehind_12 {G : GG} {n : Nat} {E : EE} (C : Cx G n E RX8 cX8_stepBehind 4) (HR : RM E 4 91) (HT : RT E (some .int)) {Q : Int32 → Mem → Prop}  : ∀ (x0 : Int32) (x1 : Int32)  (M : Mem), w_X8_stepBehind_12 Q  x0 x1 M → WW G n E 4 (QE G E (Qi G n Q)) 12 [(0, .int x0), (1, .int x1)] [] M := by
  intro x0 x1 M hw
  refine w_iconst C dX8_stepBehind_12 kc_i_1 ?_
  refine w_goto C dX8_stepBehind_13 (tgt := 17) rfl ?_
  exact w_sub [0, 1] rfl (s_X8_stepBehind_17 C HR HT  x0 x1 1  _ hw)
set_option maxRecDepth 100000 in
set_option maxHeartbeats 4000000 in
theorem c_X8_stepBehind {G : GG} {n : Nat} {l : Launch} (x0 : Int32) (x1 : Int32)  (M : Mem) (Q : Int32 → Mem → Prop) (hw : wp_X8_stepBehind x0 x1 M Q) : Ct G n l yX8_stepBehind cX8_stepBehind 4 (some .int) 4 91 [.int x0, .int x1] M (Qi G n Q) := by
  refine ct_of (by decide) (Nat.le_of_ble_eq_true rfl) (lv := [(0, .int x0), (1, .int x1)]) rfl (fun E C HR HT hE => ?_)
  replace C : Cx G n E RX8 cX8_stepBehind 4 := C
  refine w_iload_n C 1 dX8_stepBehind_0 rfl rfl ?_
  refine w_bipush C dX8_stepBehind_1 kc_b_48 ?_
  refine w_icmp_eq C dX8_stepBehind_3 (tgt := 12) rfl (fun c1 => ?_) (fun c1 => ?_)
  · replace hw := hw.1 c1
    exact w_sub [0, 1] rfl (s_X8_stepBehind_12 C HR HT  x0 x1  _ hw)
  · replace hw := hw.2 c1
    refine w_iload_n C 1 dX8_stepBehind_6 rfl rfl ?_
    refine w_bipush C dX8_stepBehind_7 kc_b_49 ?_
    refine w_icmp_ne C dX8_stepBehind_9 (tgt := 16) rfl (fun c28 => ?_) (fun c28 => ?_)
    · replace hw := hw.2 c28
      refine w_iconst C dX8_stepBehind_16 kc_i_0 ?_
      exact w_sub [0, 1] rfl (s_X8_stepBehind_17 C HR HT  x0 x1 0  _ hw)
    · replace hw := hw.1 c28
      exact w_sub [0, 1] rfl (s_X8_stepBehind_12 C HR HT  x0 x1  _ hw)
set_option maxRecDepth 100000 in
set_option maxHeartbeats 4000000 in
theorem s_X8_findFault_49 {G : GG} {n : Nat} {E : EE} (C : Cx G n E RX8 cX8_findFault 3) (HR : RM E 5 114) (HT : RT E (some .int)) {Q : Int32 → Mem → Prop}  : ∀   (M : Mem), w_X8_findFault_49 Q   M → WW G n E 3 (QE G E (Qi G n Q)) 49 [] [] M := by
  intro  M hw
  refine w_iconst C dX8_findFault_49 kc_i_m1 ?_
  refine w_goto C dX8_findFault_50 (tgt := 57) rfl ?_
  exact ret_I C HT hw dX8_findFault_57
set_option maxRecDepth 100000 in
set_option maxHeartbeats 4000000 in
theorem s_X8_findFault_4 {G : GG} {n : Nat} {E : EE} (C : Cx G n E RX8 cX8_findFault 3) (HR : RM E 5 114) (HT : RT E (some .int)) {Q : Int32 → Mem → Prop}  : ∀ (f : Nat) (j0 : Nat) (x1 : Int32) (x2 : Int32) (hj0 : j0 < cnt n 8) (M : Mem), w_X8_findFault_4 Q  f j0 x1 x2 M → WW G n E 3 (QE G E (Qi G n Q)) 4 [(0, .ref (gad G 8 j0)), (1, .int x1), (2, .int x2)] [] M := by
  intro f
  induction f with
  | zero => intro j0 x1 x2 hj0 M hw; exact hw.elim
  | succ f ih =>
    intro j0 x1 x2 hj0 M hw
    refine w_iload_n C 2 dX8_findFault_4 rfl rfl ?_
    refine w_aload_n C 0 dX8_findFault_5 rfl rfl ?_
    refine gf_X8_30 C hj0 dX8_findFault_6 ?_
    refine w_icmp_ge C dX8_findFault_9 (tgt := 36) rfl (fun c2 => ?_) (fun c2 => ?_)
    · replace hw := hw.1 c2
      refine w_aload_n C 0 dX8_findFault_36 rfl rfl ?_
      refine gf_X8_30 C hj0 dX8_findFault_37 ?_
      refine w_if_eq C dX8_findFault_40 (tgt := 49) rfl (fun c3 => ?_) (fun c3 => ?_)
      · replace hw := hw.1 c3
        exact w_sub [] rfl (s_X8_findFault_49 C HR HT    _ hw)
      · replace hw := hw.2 c3
        refine w_iload_n C 1 dX8_findFault_43 rfl rfl ?_
        refine w_bipush C dX8_findFault_44 kc_b_7 ?_
        refine w_icmp_ne C dX8_findFault_46 (tgt := 53) rfl (fun c4 => ?_) (fun c4 => ?_)
        · replace hw := hw.2 c4
          refine w_aload_n C 0 dX8_findFault_53 rfl rfl ?_
          refine gf_X8_30 C hj0 dX8_findFault_54 ?_
          exact ret_I C HT hw dX8_findFault_57
        · replace hw := hw.1 c4
          exact w_sub [] rfl (s_X8_findFault_49 C HR HT    _ hw)
    · replace hw := hw.2 c2
      refine w_iload_n C 1 dX8_findFault_12 rfl rfl ?_
      refine w_aload_n C 0 dX8_findFault_13 rfl rfl ?_
      refine gf_X8_9 C hj0 dX8_findFault_14 ?_
      refine w_iload_n C 2 dX8_findFault_17 rfl rfl ?_
      obtain ⟨b5, hw⟩ := hw
      refine v_iald C ak_43 rfl hj0 b5 dX8_findFault_18 ?_
      refine back_I (run_S C HR mt_X8_stepBehind gw404 gw403 (by decide) rfl (Nat.le_of_ble_eq_true rfl) dX8_findFault_19 (As := [.int x1, .int (M 43 j0 x2.toNatClampNeg)]) rfl (c_X8_stepBehind x1 (M 43 j0 x2.toNatClampNeg)  _ _ hw)) (fun r7 M6 hw => ?_)
      refine w_istore_n C (lv' := [(1, .int r7), (0, .ref (gad G 8 j0)), (2, .int x2)]) dX8_findFault_22 rfl (by decide) rfl ?_
      refine w_iload_n C 0 dX8_findFault_23 rfl rfl ?_
      refine w_iconst C dX8_findFault_24 kc_i_m1 ?_
      refine w_icmp_ne C dX8_findFault_25 (tgt := 30) rfl (fun c8 => ?_) (fun c8 => ?_)
      · replace hw := hw.2 c8
        refine w_iincV C (lv' := [(2, .int (x2 + 1)), (1, .int r7), (0, .ref (gad G 8 j0))]) 2 dX8_findFault_30 kc_i_1 rfl (by decide) rfl ?_
        refine w_goto C dX8_findFault_33 (tgt := 4) rfl ?_
        exact w_sub [2, 1, 0] rfl (ih j0 r7 (x2 + 1) hj0 _ hw)
      · replace hw := hw.1 c8
        refine w_iload_n C 2 dX8_findFault_28 rfl rfl ?_
        exact ret_I C HT hw dX8_findFault_29
set_option maxRecDepth 100000 in
set_option maxHeartbeats 4000000 in
theorem c_X8_findFault {G : GG} {n : Nat} {l : Launch} (jt : Nat) (hjt : jt < cnt n 8) (M : Mem) (Q : Int32 → Mem → Prop) (hw : wp_X8_findFault jt M Q) : Ct G n l yX8_findFault cX8_findFault 3 (some .int) 5 114 [.ref (gad G 8 jt)] M (Qi G n Q) := by
  refine ct_of (by decide) (Nat.le_of_ble_eq_true rfl) (lv := [(0, .ref (gad G 8 jt))]) rfl (fun E C HR HT hE => ?_)
  replace C : Cx G n E RX8 cX8_findFault 3 := C
  refine w_iconst C dX8_findFault_0 kc_i_0 ?_
  refine w_istore_n C (lv' := [(1, .int 0), (0, .ref (gad G 8 jt))]) dX8_findFault_1 rfl (by decide) rfl ?_
  refine w_iconst C dX8_findFault_2 kc_i_0 ?_
  refine w_istore_n C (lv' := [(2, .int 0), (1, .int 0), (0, .ref (gad G 8 jt))]) dX8_findFault_3 rfl (by decide) rfl ?_
  obtain ⟨f1, hw⟩ := hw
  exact w_sub [2, 1, 0] rfl (s_X8_findFault_4 C HR HT  f1 jt 0 0 hjt _ hw)
set_option maxRecDepth 100000 in
set_option maxHeartbeats 4000000 in
theorem c_X8_valueOf {G : GG} {n : Nat} {l : Launch} (x0 : Int32)  (M : Mem) (Q : Int32 → Mem → Prop) (hw : wp_X8_valueOf x0 M Q) : Ct G n l yX8_valueOf cX8_valueOf 2 (some .int) 4 91 [.int x0] M (Qi G n Q) := by
  refine ct_of (by decide) (Nat.le_of_ble_eq_true rfl) (lv := [(0, .int x0)]) rfl (fun E C HR HT hE => ?_)
  replace C : Cx G n E RX8 cX8_valueOf 2 := C
  refine w_ldcS C (i := 1) (tx := "lpc") (fun U h => h.2.1) dX8_valueOf_0 ?_
  refine w_iload_n C 0 dX8_valueOf_2 rfl rfl ?_
  refine w_i2c C dX8_valueOf_3 ?_
  refine back_I (run_VT C HR mt_J0_indexOf_0f7a4 rfl (by decide) gw408 gw409 gw407 (by decide) rfl (Nat.le_of_ble_eq_true rfl) dX8_valueOf_4 (As := [.int (((x0 : Int32).toUInt32 % 65536).toInt32)]) rfl (c_J0_indexOf_0f7a4 1 (((x0 : Int32).toUInt32 % 65536).toInt32) (by decide) _ _ hw)) (fun r2 M1 hw => ?_)
  refine w_istore_n C (lv' := [(1, .int r2), (0, .int x0)]) dX8_valueOf_7 rfl (by decide) rfl ?_
  refine w_iload_n C 0 dX8_valueOf_8 rfl rfl ?_
  refine w_if_lt C dX8_valueOf_9 (tgt := 19) rfl (fun c3 => ?_) (fun c3 => ?_)
  · replace hw := hw.1 c3
    refine w_iload_n C 1 dX8_valueOf_19 rfl rfl ?_
    refine w_bipush C dX8_valueOf_20 kc_b_48 ?_
    refine w_isub C dX8_valueOf_22 ?_
    refine w_bipush C dX8_valueOf_23 kc_b_15 ?_
    refine w_iand C dX8_valueOf_25 ?_
    exact ret_I C HT hw dX8_valueOf_26
  · replace hw := hw.2 c3
    refine w_bipush C dX8_valueOf_12 kc_b_10 ?_
    refine w_iload_n C 0 dX8_valueOf_14 rfl rfl ?_
    refine w_iadd C dX8_valueOf_15 ?_
    refine w_goto C dX8_valueOf_16 (tgt := 26) rfl ?_
    exact ret_I C HT hw dX8_valueOf_26
set_option maxRecDepth 100000 in
set_option maxHeartbeats 4000000 in
theorem s_X8_readLines_213 {G : GG} {n : Nat} {E : EE} (C : Cx G n E RX8 cX8_readLines 7) (HR : RM E 5 114) (HT : RT E none) {Q : Mem → Prop} {K12 : Nat → Int32 → Int32 → Int32 → Int32 → Int32 → Mem → Prop} (g12 : ∀ (j0 : Nat) (x1 : Int32) (x2 : Int32) (x3 : Int32) (x4 : Int32) (x5 : Int32) (hj0 : j0 < cnt n 8) (M : Mem), K12 j0 x1 x2 x3 x4 x5 M → WW G n E 7 (QE G E (Qv G n Q)) 12 [(0, .ref (gad G 8 j0)), (1, .int x1), (2, .int x2), (3, .int x3), (4, .int x4), (5, .int x5)] [] M) : ∀ (j0 : Nat) (x1 : Int32) (x2 : Int32) (x3 : Int32) (x4 : Int32) (x5 : Int32) (x6 : Int32) (hj0 : j0 < cnt n 8) (M : Mem), w_X8_readLines_213 Q K12 j0 x1 x2 x3 x4 x5 x6 M → WW G n E 7 (QE G E (Qv G n Q)) 213 [(0, .ref (gad G 8 j0)), (1, .int x1), (2, .int x2), (3, .int x3), (4, .int x4), (5, .int x5), (6, .int x6)] [] M := by
  intro j0 x1 x2 x3 x4 x5 x6 hj0 M hw
  refine w_iload_n C 1 dX8_readLines_213 rfl rfl ?_
  refine w_iload C 6 dX8_readLines_214 rfl ?_
  refine back_I (run_S C HR mt_X8_stepBehind gw404 gw403 (by decide) rfl (Nat.le_of_ble_eq_true rfl) dX8_readLines_216 (As := [.int x1, .int x6]) rfl (c_X8_stepBehind x1 x6  _ _ hw)) (fun r10 M9 hw => ?_)
  refine w_istore_n C (lv' := [(1, .int r10), (0, .ref (gad G 8 j0)), (2, .int x2), (3, .int x3), (4, .int x4), (5, .int x5), (6, .int x6)]) dX8_readLines_219 rfl (by decide) rfl ?_
  refine w_iincV C (lv' := [(5, .int (x5 + 1)), (1, .int r10), (0, .ref (gad G 8 j0)), (2, .int x2), (3, .int x3), (4, .int x4), (6, .int x6)]) 5 dX8_readLines_220 kc_i_1 rfl (by decide) rfl ?_
  refine w_goto C dX8_readLines_223 (tgt := 12) rfl ?_
  exact w_sub [2, 1, 3, 4, 5, 0] rfl (g12 j0 r10 x2 x3 x4 (x5 + 1) hj0 _ hw)
set_option maxRecDepth 100000 in
set_option maxHeartbeats 4000000 in
theorem s_X8_readLines_152 {G : GG} {n : Nat} {E : EE} (C : Cx G n E RX8 cX8_readLines 7) (HR : RM E 5 114) (HT : RT E none) {Q : Mem → Prop} {K12 : Nat → Int32 → Int32 → Int32 → Int32 → Int32 → Mem → Prop} (g12 : ∀ (j0 : Nat) (x1 : Int32) (x2 : Int32) (x3 : Int32) (x4 : Int32) (x5 : Int32) (hj0 : j0 < cnt n 8) (M : Mem), K12 j0 x1 x2 x3 x4 x5 M → WW G n E 7 (QE G E (Qv G n Q)) 12 [(0, .ref (gad G 8 j0)), (1, .int x1), (2, .int x2), (3, .int x3), (4, .int x4), (5, .int x5)] [] M) : ∀ (j0 : Nat) (x1 : Int32) (x2 : Int32) (x4 : Int32) (x5 : Int32) (x6 : Int32) (y0 : Int32) (hj0 : j0 < cnt n 8) (M : Mem), w_X8_readLines_152 Q K12 j0 x1 x2 x4 x5 x6 y0 M → WW G n E 7 (QE G E (Qv G n Q)) 152 [(0, .ref (gad G 8 j0)), (1, .int x1), (2, .int x2), (4, .int x4), (5, .int x5), (6, .int x6)] [.int y0] M := by
  intro j0 x1 x2 x4 x5 x6 y0 hj0 M hw
  refine w_istore_n C (lv' := [(3, .int y0), (0, .ref (gad G 8 j0)), (1, .int x1), (2, .int x2), (4, .int x4), (5, .int x5), (6, .int x6)]) dX8_readLines_152 rfl (by decide) rfl ?_
  refine w_goto C dX8_readLines_153 (tgt := 213) rfl ?_
  exact w_sub [1, 2, 3, 0, 4, 5, 6] rfl (s_X8_readLines_213 C HR HT g12 j0 x1 x2 y0 x4 x5 x6 hj0 _ hw)
set_option maxRecDepth 100000 in
set_option maxHeartbeats 4000000 in
theorem s_X8_readLines_173 {G : GG} {n : Nat} {E : EE} (C : Cx G n E RX8 cX8_readLines 7) (HR : RM E 5 114) (HT : RT E none) {Q : Mem → Prop} {K12 : Nat → Int32 → Int32 → Int32 → Int32 → Int32 → Mem → Prop} (g12 : ∀ (j0 : Nat) (x1 : Int32) (x2 : Int32) (x3 : Int32) (x4 : Int32) (x5 : Int32) (hj0 : j0 < cnt n 8) (M : Mem), K12 j0 x1 x2 x3 x4 x5 M → WW G n E 7 (QE G E (Qv G n Q)) 12 [(0, .ref (gad G 8 j0)), (1, .int x1), (2, .int x2), (3, .int x3), (4, .int x4), (5, .int x5)] [] M) : ∀ (j0 : Nat) (x1 : Int32) (x2 : Int32) (x3 : Int32) (x4 : Int32) (x5 : Int32) (x6 : Int32) (hj0 : j0 < cnt n 8) (M : Mem), w_X8_readLines_173 Q K12 j0 x1 x2 x3 x4 x5 x6 M → WW G n E 7 (QE G E (Qv G n Q)) 173 [(0, .ref (gad G 8 j0)), (1, .int x1), (2, .int x2), (3, .int x3), (4, .int x4), (5, .int x5), (6, .int x6)] [] M := by
  intro j0 x1 x2 x3 x4 x5 x6 hj0 M hw
  refine w_aload_n C 0 dX8_readLines_173 rfl rfl ?_
  refine gf_X8_15 C hj0 dX8_readLines_174 ?_
  refine w_iload C 4 dX8_readLines_177 rfl ?_
  refine w_iload_n C 3 dX8_readLines_179 rfl rfl ?_
  refine w_iload C 6 dX8_readLines_180 rfl ?_
  refine back_I (run_S C HR mt_X8_valueOf gw500 gw499 (by decide) rfl (Nat.le_of_ble_eq_true rfl) dX8_readLines_182 (As := [.int x6]) rfl (c_X8_valueOf x6  _ _ hw)) (fun r30 M29 hw => ?_)
  refine w_ior C dX8_readLines_185 ?_
  obtain ⟨b31, hw⟩ := hw
  refine v_iast C ak_44 rfl hj0 b31 dX8_readLines_186 (w_mem fun M32 eM32 => ?_)
  replace hw := hw M32 eM32
  refine w_iincV C (lv' := [(4, .int (x4 + 1)), (0, .ref (gad G 8 j0)), (1, .int x1), (2, .int x2), (3, .int x3), (5, .int x5), (6, .int x6)]) 4 dX8_readLines_187 kc_i_1 rfl (by decide) rfl ?_
  refine w_aload_n C 1 dX8_readLines_190 rfl rfl ?_
  refine gf_X8_21 C hj0 dX8_readLines_191 ?_
  refine w_iload_n C 3 dX8_readLines_194 rfl rfl ?_
  refine w_dup2 C dX8_readLines_195 rfl rfl ?_
  obtain ⟨b33, hw⟩ := hw
  refine v_iald C ak_46 rfl hj0 b33 dX8_readLines_196 ?_
  refine w_iconst C dX8_readLines_197 kc_i_1 ?_
  refine w_iadd C dX8_readLines_198 ?_
  obtain ⟨b34, hw⟩ := hw
  refine v_iast C ak_46 rfl hj0 b34 dX8_readLines_199 (w_mem fun M35 eM35 => ?_)
  replace hw := hw M35 eM35
  refine w_aload_n C 1 dX8_readLines_200 rfl rfl ?_
  refine gf_X8_27 C hj0 dX8_readLines_201 ?_
  refine w_iload_n C 3 dX8_readLines_204 rfl rfl ?_
  refine w_iload C 5 dX8_readLines_205 rfl ?_
  refine w_iconst C dX8_readLines_207 kc_i_1 ?_
  refine w_iadd C dX8_readLines_208 ?_
  obtain ⟨b36, hw⟩ := hw
  refine v_iast C ak_48 rfl hj0 b36 dX8_readLines_209 (w_mem fun M37 eM37 => ?_)
  replace hw := hw M37 eM37
  refine w_goto C dX8_readLines_210 (tgt := 213) rfl ?_
  exact w_sub [1, 2, 3, 4, 0, 5, 6] rfl (s_X8_readLines_213 C HR HT g12 j0 x1 x2 x3 (x4 + 1) x5 x6 hj0 _ hw)
set_option maxRecDepth 100000 in
set_option maxHeartbeats 4000000 in
theorem s_X8_readLines_12 {G : GG} {n : Nat} {E : EE} (C : Cx G n E RX8 cX8_readLines 7) (HR : RM E 5 114) (HT : RT E none) {Q : Mem → Prop}  : ∀ (f : Nat) (j0 : Nat) (x1 : Int32) (x2 : Int32) (x3 : Int32) (x4 : Int32) (x5 : Int32) (hj0 : j0 < cnt n 8) (M : Mem), w_X8_readLines_12 Q  f j0 x1 x2 x3 x4 x5 M → WW G n E 7 (QE G E (Qv G n Q)) 12 [(0, .ref (gad G 8 j0)), (1, .int x1), (2, .int x2), (3, .int x3), (4, .int x4), (5, .int x5)] [] M := by
  intro f
  induction f with
  | zero => intro j0 x1 x2 x3 x4 x5 hj0 M hw; exact hw.elim
  | succ f ih =>
    intro j0 x1 x2 x3 x4 x5 hj0 M hw
    refine w_iload C 5 dX8_readLines_12 rfl ?_
    refine w_aload_n C 0 dX8_readLines_14 rfl rfl ?_
    refine gf_X8_30 C hj0 dX8_readLines_15 ?_
    refine w_icmp_ge C dX8_readLines_18 (tgt := 226) rfl (fun c2 => ?_) (fun c2 => ?_)
    · replace hw := hw.1 c2
      exact ret_V C HT hw dX8_readLines_226
    · replace hw := hw.2 c2
      refine w_aload_n C 0 dX8_readLines_21 rfl rfl ?_
      refine gf_X8_9 C hj0 dX8_readLines_22 ?_
      refine w_iload C 5 dX8_readLines_25 rfl ?_
      obtain ⟨b3, hw⟩ := hw
      refine v_iald C ak_43 rfl hj0 b3 dX8_readLines_27 ?_
      refine w_istoreV C dX8_readLines_28 (by decide) (fun a4 ea4 => w_lv (lv' := [(6, .int a4), (0, .ref (gad G 8 j0)), (1, .int x1), (2, .int x2), (3, .int x3), (4, .int x4), (5, .int x5)]) rfl ?_)
      replace hw := hw a4 ea4
      refine w_iload_n C 2 dX8_readLines_30 rfl rfl ?_
      by_cases c5 : x1 = (0 : Int32)
      · replace hw := hw.1 c5
        refine w_swAt C c5 dX8_readLines_31 (off := 41) (tgt := 72) (by decide) rfl ?_
        refine w_ldcS C (i := 0) (tx := "srkdaxtb") (fun U h => h.1) dX8_readLines_72 ?_
        refine w_iload C 0 dX8_readLines_74 rfl ?_
        refine w_i2c C dX8_readLines_76 ?_
        refine back_I (run_VT C HR mt_J0_indexOf_0f7a4 rfl (by decide) gw408 gw409 gw407 (by decide) rfl (Nat.le_of_ble_eq_true rfl) dX8_readLines_77 (As := [.int (((a4 : Int32).toUInt32 % 65536).toInt32)]) rfl (c_J0_indexOf_0f7a4 0 (((a4 : Int32).toUInt32 % 65536).toInt32) (by decide) _ _ hw)) (fun r7 M6 hw => ?_)
        refine w_bipush C dX8_readLines_80 kc_b_7 ?_
        refine w_iand C dX8_readLines_82 ?_
        refine w_iconst C dX8_readLines_83 kc_i_1 ?_
        refine w_ishl C dX8_readLines_84 ?_
        refine w_istore_nV C dX8_readLines_85 rfl (by decide) (fun a8 ea8 => w_lv (lv' := [(2, .int a8), (6, .int a4), (0, .ref (gad G 8 j0)), (1, .int x1), (3, .int x3), (4, .int x4), (5, .int x5)]) rfl ?_)
        replace hw := hw a8 ea8
        refine w_goto C dX8_readLines_86 (tgt := 213) rfl ?_
        exact w_sub [2, 3, 0, 4, 5, 6, 1] rfl (s_X8_readLines_213 C HR HT ih j0 x1 a8 x3 x4 x5 a4 hj0 _ hw)
      replace hw := hw.2
      by_cases c11 : x1 = (1 : Int32)
      · replace hw := hw.1 c11
        refine w_swAt C c11 dX8_readLines_31 (off := 58) (tgt := 89) (by decide) rfl ?_
        refine w_iload_n C 3 dX8_readLines_89 rfl rfl ?_
        refine w_iload C 0 dX8_readLines_90 rfl ?_
        refine w_iconst C dX8_readLines_92 kc_i_1 ?_
        refine w_iand C dX8_readLines_93 ?_
        refine w_ior C dX8_readLines_94 ?_
        refine w_istore_nV C dX8_readLines_95 rfl (by decide) (fun a12 ea12 => w_lv (lv' := [(2, .int a12), (6, .int a4), (0, .ref (gad G 8 j0)), (1, .int x1), (3, .int x3), (4, .int x4), (5, .int x5)]) rfl ?_)
        replace hw := hw a12 ea12
        refine w_goto C dX8_readLines_96 (tgt := 213) rfl ?_
        exact w_sub [2, 3, 0, 4, 5, 6, 1] rfl (s_X8_readLines_213 C HR HT ih j0 x1 a12 x3 x4 x5 a4 hj0 _ hw)
      replace hw := hw.2
      by_cases c13 : x1 = (2 : Int32)
      · replace hw := hw.1 c13
        refine w_swAt C c13 dX8_readLines_31 (off := 68) (tgt := 99) (by decide) rfl ?_
        refine w_aload_n C 1 dX8_readLines_99 rfl rfl ?_
        refine gf_X8_21 C hj0 dX8_readLines_100 ?_
        refine w_iload_n C 3 dX8_readLines_103 rfl rfl ?_
        refine w_iconst C dX8_readLines_104 kc_i_0 ?_
        obtain ⟨b14, hw⟩ := hw
        refine v_iast C ak_46 rfl hj0 b14 dX8_readLines_105 (w_mem fun M15 eM15 => ?_)
        replace hw := hw M15 eM15
        refine w_aload_n C 1 dX8_readLines_106 rfl rfl ?_
        refine gf_X8_18 C hj0 dX8_readLines_107 ?_
        refine w_iload_n C 3 dX8_readLines_110 rfl rfl ?_
        refine w_iload C 5 dX8_readLines_111 rfl ?_
        obtain ⟨b16, hw⟩ := hw
        refine v_iast C ak_45 rfl hj0 b16 dX8_readLines_113 (w_mem fun M17 eM17 => ?_)
        replace hw := hw M17 eM17
        refine w_aload_n C 1 dX8_readLines_114 rfl rfl ?_
        refine gf_X8_24 C hj0 dX8_readLines_115 ?_
        refine w_iload_n C 3 dX8_readLines_118 rfl rfl ?_
        refine w_iload C 6 dX8_readLines_119 rfl ?_
        refine w_iconst C dX8_readLines_121 kc_i_1 ?_
        refine w_iadd C dX8_readLines_122 ?_
        obtain ⟨b18, hw⟩ := hw
        refine v_iast C ak_47 rfl hj0 b18 dX8_readLines_123 (w_mem fun M19 eM19 => ?_)
        replace hw := hw M19 eM19
        refine w_goto C dX8_readLines_124 (tgt := 213) rfl ?_
        exact w_sub [1, 2, 3, 4, 5, 6, 0] rfl (s_X8_readLines_213 C HR HT ih j0 x1 x2 x3 x4 x5 a4 hj0 _ hw)
      replace hw := hw.2
      by_cases c20 : x1 = (3 : Int32)
      · replace hw := hw.1 c20
        refine w_swAt C c20 dX8_readLines_31 (off := 96) (tgt := 127) (by decide) rfl ?_
        refine w_iload C 0 dX8_readLines_127 rfl ?_
        refine w_bipush C dX8_readLines_129 kc_b_109 ?_
        refine w_icmp_ne C dX8_readLines_131 (tgt := 140) rfl (fun c21 => ?_) (fun c21 => ?_)
        · replace hw := hw.2 c21
          refine w_ldcS C (i := 1) (tx := "lpc") (fun U h => h.2.1) dX8_readLines_140 ?_
          refine w_iload C 0 dX8_readLines_142 rfl ?_
          refine w_i2c C dX8_readLines_144 ?_
          refine back_I (run_VT C HR mt_J0_indexOf_0f7a4 rfl (by decide) gw408 gw409 gw407 (by decide) rfl (Nat.le_of_ble_eq_true rfl) dX8_readLines_145 (As := [.int (((a4 : Int32).toUInt32 % 65536).toInt32)]) rfl (c_J0_indexOf_0f7a4 1 (((a4 : Int32).toUInt32 % 65536).toInt32) (by decide) _ _ hw)) (fun r23 M22 hw => ?_)
          refine w_iconst C dX8_readLines_148 kc_i_3 ?_
          refine w_iand C dX8_readLines_149 ?_
          refine w_iconst C dX8_readLines_150 kc_i_4 ?_
          refine w_ishl C dX8_readLines_151 ?_
          exact w_sub [1, 2, 3, 5, 6, 0] rfl (s_X8_readLines_152 C HR HT ih j0 x1 x2 x4 x5 a4 ((r23 &&& 3) <<< (4 &&& 31)) hj0 _ hw)
        · replace hw := hw.1 c21
          refine w_sipush C dX8_readLines_134 kc_s_192 ?_
          refine w_goto C dX8_readLines_137 (tgt := 152) rfl ?_
          exact w_sub [1, 2, 3, 5, 6, 0] rfl (s_X8_readLines_152 C HR HT ih j0 x1 x2 x4 x5 a4 192 hj0 _ hw)
      replace hw := hw.2
      by_cases c24 : x1 = (4 : Int32)
      · replace hw := hw.1 c24
        refine w_swAt C c24 dX8_readLines_31 (off := 125) (tgt := 156) (by decide) rfl ?_
        refine w_iload_n C 4 dX8_readLines_156 rfl rfl ?_
        refine w_ldcS C (i := 2) (tx := "+-=") (fun U h => h.2.2) dX8_readLines_157 ?_
        refine w_iload C 0 dX8_readLines_159 rfl ?_
        refine w_i2c C dX8_readLines_161 ?_
        refine back_I (run_VT C HR mt_J0_indexOf_0f7a4 rfl (by decide) gw408 gw409 gw407 (by decide) rfl (Nat.le_of_ble_eq_true rfl) dX8_readLines_162 (As := [.int (((a4 : Int32).toUInt32 % 65536).toInt32)]) rfl (c_J0_indexOf_0f7a4 2 (((a4 : Int32).toUInt32 % 65536).toInt32) (by decide) _ _ hw)) (fun r26 M25 hw => ?_)
        refine w_bipush C dX8_readLines_165 kc_b_6 ?_
        refine w_ishl C dX8_readLines_167 ?_
        refine w_ior C dX8_readLines_168 ?_
        refine w_istore_nV C dX8_readLines_169 rfl (by decide) (fun a27 ea27 => w_lv (lv' := [(3, .int a27), (6, .int a4), (0, .ref (gad G 8 j0)), (1, .int x1), (2, .int x2), (4, .int x4), (5, .int x5)]) rfl ?_)
        replace hw := hw a27 ea27
        refine w_goto C dX8_readLines_170 (tgt := 213) rfl ?_
        exact w_sub [2, 3, 4, 0, 5, 6, 1] rfl (s_X8_readLines_213 C HR HT ih j0 x1 x2 a27 x4 x5 a4 hj0 _ hw)
      replace hw := hw.2
      by_cases c28 : x1 = (5 : Int32)
      · replace hw := hw.1 c28
        refine w_swAt C c28 dX8_readLines_31 (off := 142) (tgt := 173) (by decide) rfl ?_
        exact w_sub [1, 2, 3, 4, 5, 6, 0] rfl (s_X8_readLines_173 C HR HT ih j0 x1 x2 x3 x4 x5 a4 hj0 _ hw)
      replace hw := hw.2
      by_cases c38 : x1 = (6 : Int32)
      · replace hw := hw.1 c38
        refine w_swAt C c38 dX8_readLines_31 (off := 142) (tgt := 173) (by decide) rfl ?_
        exact w_sub [1, 2, 3, 4, 5, 6, 0] rfl (s_X8_readLines_173 C HR HT ih j0 x1 x2 x3 x4 x5 a4 hj0 _ hw)
      replace hw := hw.2
      replace hw := hw c5 c11 c13 c20 c24 c28 c38
      refine w_swOut C dX8_readLines_31 (sw_out (N := 6) (by decide) (fun v hv => by
        match v, hv with
        | 0, _ => exact c5
        | 1, _ => exact c11
        | 2, _ => exact c13
        | 3, _ => exact c20
        | 4, _ => exact c24
        | 5, _ => exact c28
        | 6, _ => exact c38
        | w + 7, hv => exact absurd hv (by omega))) (tgt := 213) rfl ?_
      exact w_sub [1, 2, 3, 4, 5, 6, 0] rfl (s_X8_readLines_213 C HR HT ih j0 x1 x2 x3 x4 x5 a4 hj0 _ hw)
set_option maxRecDepth 100000 in
set_option maxHeartbeats 4000000 in
theorem c_X8_readLines {G : GG} {n : Nat} {l : Launch} (jt : Nat) (hjt : jt < cnt n 8) (M : Mem) (Q : Mem → Prop) (hw : wp_X8_readLines jt M Q) : Ct G n l yX8_readLines cX8_readLines 7 none 5 114 [.ref (gad G 8 jt)] M (Qv G n Q) := by
  refine ct_of (by decide) (Nat.le_of_ble_eq_true rfl) (lv := [(0, .ref (gad G 8 jt))]) rfl (fun E C HR HT hE => ?_)
  replace C : Cx G n E RX8 cX8_readLines 7 := C
  refine w_iconst C dX8_readLines_0 kc_i_0 ?_
  refine w_istore_n C (lv' := [(1, .int 0), (0, .ref (gad G 8 jt))]) dX8_readLines_1 rfl (by decide) rfl ?_
  refine w_iconst C dX8_readLines_2 kc_i_0 ?_
  refine w_istore_n C (lv' := [(2, .int 0), (1, .int 0), (0, .ref (gad G 8 jt))]) dX8_readLines_3 rfl (by decide) rfl ?_
  refine w_iconst C dX8_readLines_4 kc_i_0 ?_
  refine w_istore_n C (lv' := [(3, .int 0), (2, .int 0), (1, .int 0), (0, .ref (gad G 8 jt))]) dX8_readLines_5 rfl (by decide) rfl ?_
  refine w_iconst C dX8_readLines_6 kc_i_0 ?_
  refine w_istore C (lv' := [(4, .int 0), (3, .int 0), (2, .int 0), (1, .int 0), (0, .ref (gad G 8 jt))]) dX8_readLines_7 (by decide) rfl ?_
  refine w_iconst C dX8_readLines_9 kc_i_0 ?_
  refine w_istore C (lv' := [(5, .int 0), (4, .int 0), (3, .int 0), (2, .int 0), (1, .int 0), (0, .ref (gad G 8 jt))]) dX8_readLines_10 (by decide) rfl ?_
  obtain ⟨f1, hw⟩ := hw
  exact w_sub [5, 4, 3, 2, 1, 0] rfl (s_X8_readLines_12 C HR HT  f1 jt 0 0 0 0 0 hjt _ hw)
set_option maxRecDepth 100000 in
set_option maxHeartbeats 4000000 in
theorem c_X8_read {G : GG} {n : Nat} {l : Launch} (jt : Nat) (hjt : jt < cnt n 8) (M : Mem) (Q : Mem → Prop) (hw : wp_X8_read jt M Q) : Ct G n l yX8_read cX8_read 1 none 6 140 [.ref (gad G 8 jt)] M (Qv G n Q) := by
  refine ct_of (by decide) (Nat.le_of_ble_eq_true rfl) (lv := [(0, .ref (gad G 8 jt))]) rfl (fun E C HR HT hE => ?_)
  replace C : Cx G n E RX8 cX8_read 1 := C
  refine w_aload_n C 0 dX8_read_0 rfl rfl ?_
  refine gf_X8_40 C hjt dX8_read_1 ?_
  refine w_if_eq C dX8_read_4 (tgt := 8) rfl (fun c1 => ?_) (fun c1 => ?_)
  · replace hw := hw.1 c1
    refine w_aload_n C 0 dX8_read_8 rfl rfl ?_
    refine w_iconst C dX8_read_9 kc_i_1 ?_
    refine pf_X8_40 C hjt rfl rfl dX8_read_10 (w_mem fun M2 eM2 => ?_)
    replace hw := hw M2 eM2
    refine w_aload_n C 0 dX8_read_13 rfl rfl ?_
    refine gf_X8_21 C hjt dX8_read_14 ?_
    refine w_iconst C dX8_read_17 kc_i_0 ?_
    refine back_V (run_S C HR mt_J7_fill_53178 gw397 gw396 (by decide) rfl (Nat.le_of_ble_eq_true rfl) dX8_read_18 (As := [.ref (gad G 46 jt), .int 0]) rfl (c_J7_fill_53178 46 jt 0 ak_46 hjt _ _ hw)) (fun M3 hw => ?_)
    refine w_aload_n C 0 dX8_read_21 rfl rfl ?_
    refine gf_X8_24 C hjt dX8_read_22 ?_
    refine w_iconst C dX8_read_25 kc_i_0 ?_
    refine back_V (run_S C HR mt_J7_fill_53178 gw397 gw396 (by decide) rfl (Nat.le_of_ble_eq_true rfl) dX8_read_26 (As := [.ref (gad G 47 jt), .int 0]) rfl (c_J7_fill_53178 47 jt 0 ak_47 hjt _ _ hw)) (fun M4 hw => ?_)
    refine w_aload_n C 0 dX8_read_29 rfl rfl ?_
    refine gf_X8_27 C hjt dX8_read_30 ?_
    refine w_iconst C dX8_read_33 kc_i_0 ?_
    refine back_V (run_S C HR mt_J7_fill_53178 gw397 gw396 (by decide) rfl (Nat.le_of_ble_eq_true rfl) dX8_read_34 (As := [.ref (gad G 48 jt), .int 0]) rfl (c_J7_fill_53178 48 jt 0 ak_48 hjt _ _ hw)) (fun M5 hw => ?_)
    refine w_aload_n C 0 dX8_read_37 rfl rfl ?_
    refine w_aload_n C 0 dX8_read_38 rfl rfl ?_
    refine back_I (run_V C HR mt_X8_findFault (ci := 8) rfl (by decide) hjt gw401 gw1 gw399 (by decide) rfl (Nat.le_of_ble_eq_true rfl) dX8_read_39 (As := []) rfl (c_X8_findFault jt hjt _ _ hw)) (fun r7 M6 hw => ?_)
    refine pf_X8_34 C hjt dX8_read_42 (w_mem fun M8 eM8 => ?_)
    replace hw := hw M8 eM8
    refine w_aload_n C 0 dX8_read_45 rfl rfl ?_
    refine gf_X8_34 C hjt dX8_read_46 ?_
    refine w_iconst C dX8_read_49 kc_i_m1 ?_
    refine w_icmp_ne C dX8_read_50 (tgt := 57) rfl (fun c9 => ?_) (fun c9 => ?_)
    · replace hw := hw.2 c9
      exact ret_V C HT hw dX8_read_57
    · replace hw := hw.1 c9
      refine w_aload_n C 0 dX8_read_53 rfl rfl ?_
      refine back_V (run_V C HR mt_X8_readLines (ci := 8) rfl (by decide) hjt gw497 gw2 gw495 (by decide) rfl (Nat.le_of_ble_eq_true rfl) dX8_read_54 (As := []) rfl (c_X8_readLines jt hjt _ _ hw)) (fun M10 hw => ?_)
      exact ret_V C HT hw dX8_read_57
  · replace hw := hw.2 c1
    exact ret_V C HT hw dX8_read_7
set_option maxRecDepth 100000 in
set_option maxHeartbeats 4000000 in
theorem c_X4_set {G : GG} {n : Nat} {l : Launch} (j1 : Nat) (j2 : Nat) (x3 : Int32) (hj1 : j1 < cnt n 8) (hj2 : j2 < cnt n 8) (M : Mem) (Q : Mem → Prop) (hw : wp_X4_set j1 j2 x3 M Q) : Ct G n l yX4_set cX4_set 4 none 7 160 [.ref (gad G 4 0), .ref (gad G 8 j1), .ref (gad G 8 j2), .int x3] M (Qv G n Q) := by
  refine ct_of (by decide) (Nat.le_of_ble_eq_true rfl) (lv := [(0, .ref (gad G 4 0)), (1, .ref (gad G 8 j1)), (2, .ref (gad G 8 j2)), (3, .int x3)]) rfl (fun E C HR HT hE => ?_)
  replace C : Cx G n E RX4 cX4_set 4 := C
  refine w_aload_n C 1 dX4_set_0 rfl rfl ?_
  refine back_V (run_V C HR mt_X8_read (ci := 8) rfl (by decide) hj1 gw393 gw394 gw530 (by decide) rfl (Nat.le_of_ble_eq_true rfl) dX4_set_1 (As := []) rfl (c_X8_read j1 hj1 _ _ hw)) (fun M1 hw => ?_)
  refine w_aload_n C 2 dX4_set_4 rfl rfl ?_
  refine back_V (run_V C HR mt_X8_read (ci := 8) rfl (by decide) hj2 gw393 gw394 gw530 (by decide) rfl (Nat.le_of_ble_eq_true rfl) dX4_set_5 (As := []) rfl (c_X8_read j2 hj2 _ _ hw)) (fun M2 hw => ?_)
  refine w_aload_n C 0 dX4_set_8 rfl rfl ?_
  refine w_aload_n C 1 dX4_set_9 rfl rfl ?_
  refine pf_X4_19 C hj1 dX4_set_10 (w_mem fun M3 eM3 => ?_)
  replace hw := hw M3 eM3
  refine w_aload_n C 0 dX4_set_13 rfl rfl ?_
  refine w_aload_n C 2 dX4_set_14 rfl rfl ?_
  refine pf_X4_23 C hj2 dX4_set_15 (w_mem fun M4 eM4 => ?_)
  replace hw := hw M4 eM4
  refine w_aload_n C 0 dX4_set_18 rfl rfl ?_
  refine w_iload_n C 3 dX4_set_19 rfl rfl ?_
  refine pf_X4_15 C (Nat.le_of_ble_eq_true rfl) dX4_set_20 (w_mem fun M5 eM5 => ?_)
  replace hw := hw M5 eM5
  exact ret_V C HT hw dX4_set_23
set_option maxRecDepth 100000 in
set_option maxHeartbeats 4000000 in
theorem c_X5_add {G : GG} {n : Nat} {l : Launch} (x1 : Int32) (x2 : Int32) (x3 : Int32)  (M : Mem) (Q : Int32 → Mem → Prop) (hw : wp_X5_add x1 x2 x3 M Q) : Ct G n l yX5_add cX5_add 4 (some .int) 0 0 [.ref (gad G 5 0), .int x1, .int x2, .int x3] M (Qi G n Q) := by
  refine ct_of (by decide) (Nat.le_of_ble_eq_true rfl) (lv := [(0, .ref (gad G 5 0)), (1, .int x1), (2, .int x2), (3, .int x3)]) rfl (fun E C HR HT hE => ?_)
  replace C : Cx G n E RX5 cX5_add 4 := C
  refine w_aload_n C 0 dX5_add_0 rfl rfl ?_
  refine gf_X5_21 C (Nat.le_of_ble_eq_true rfl) dX5_add_1 ?_
  refine w_bipush C dX5_add_4 kc_b_40 ?_
  refine w_icmp_lt C dX5_add_6 (tgt := 12) rfl (fun c1 => ?_) (fun c1 => ?_)
  · replace hw := hw.1 c1
    refine w_aload_n C 0 dX5_add_12 rfl rfl ?_
    refine gf_X5_9 C (Nat.le_of_ble_eq_true rfl) dX5_add_13 ?_
    refine w_aload_n C 0 dX5_add_16 rfl rfl ?_
    refine gf_X5_21 C (Nat.le_of_ble_eq_true rfl) dX5_add_17 ?_
    refine w_iload_n C 1 dX5_add_20 rfl rfl ?_
    obtain ⟨b2, hw⟩ := hw
    refine v_iast C ak_34 rfl (Nat.le_of_ble_eq_true rfl) b2 dX5_add_21 (w_mem fun M3 eM3 => ?_)
    replace hw := hw M3 eM3
    refine w_aload_n C 0 dX5_add_22 rfl rfl ?_
    refine gf_X5_15 C (Nat.le_of_ble_eq_true rfl) dX5_add_23 ?_
    refine w_aload_n C 0 dX5_add_26 rfl rfl ?_
    refine gf_X5_21 C (Nat.le_of_ble_eq_true rfl) dX5_add_27 ?_
    refine w_iload_n C 2 dX5_add_30 rfl rfl ?_
    obtain ⟨b4, hw⟩ := hw
    refine v_iast C ak_35 rfl (Nat.le_of_ble_eq_true rfl) b4 dX5_add_31 (w_mem fun M5 eM5 => ?_)
    replace hw := hw M5 eM5
    refine w_aload_n C 0 dX5_add_32 rfl rfl ?_
    refine gf_X5_18 C (Nat.le_of_ble_eq_true rfl) dX5_add_33 ?_
    refine w_aload_n C 0 dX5_add_36 rfl rfl ?_
    refine gf_X5_21 C (Nat.le_of_ble_eq_true rfl) dX5_add_37 ?_
    refine w_iload_n C 3 dX5_add_40 rfl rfl ?_
    obtain ⟨b6, hw⟩ := hw
    refine v_iast C ak_36 rfl (Nat.le_of_ble_eq_true rfl) b6 dX5_add_41 (w_mem fun M7 eM7 => ?_)
    replace hw := hw M7 eM7
    refine w_aload_n C 0 dX5_add_42 rfl rfl ?_
    refine w_dup C dX5_add_43 rfl ?_
    refine gf_X5_21 C (Nat.le_of_ble_eq_true rfl) dX5_add_44 ?_
    refine w_iconst C dX5_add_47 kc_i_1 ?_
    refine w_iadd C dX5_add_48 ?_
    refine pf_X5_21 C (Nat.le_of_ble_eq_true rfl) dX5_add_49 (w_mem fun M8 eM8 => ?_)
    replace hw := hw M8 eM8
    refine w_aload_n C 0 dX5_add_52 rfl rfl ?_
    refine gf_X5_21 C (Nat.le_of_ble_eq_true rfl) dX5_add_53 ?_
    exact ret_I C HT hw dX5_add_56
  · replace hw := hw.2 c1
    refine w_bipush C dX5_add_9 kc_b_m4 ?_
    exact ret_I C HT hw dX5_add_11
set_option maxRecDepth 100000 in
set_option maxHeartbeats 4000000 in
theorem s_X5_hasAny_32 {G : GG} {n : Nat} {E : EE} (C : Cx G n E RX5 cX5_hasAny 4) (HR : RM E 0 0) (HT : RT E (some .boolean)) {Q : Int32 → Mem → Prop} {K2 : Int32 → Int32 → Int32 → Mem → Prop} (g2 : ∀ (x1 : Int32) (x2 : Int32) (x3 : Int32)  (M : Mem), K2 x1 x2 x3 M → WW G n E 4 (QE G E (Qi G n Q)) 2 [(0, .ref (gad G 5 0)), (1, .int x1), (2, .int x2), (3, .int x3)] [] M) : ∀ (x1 : Int32) (x2 : Int32) (x3 : Int32)  (M : Mem), w_X5_hasAny_32 Q K2 x1 x2 x3 M → WW G n E 4 (QE G E (Qi G n Q)) 32 [(0, .ref (gad G 5 0)), (1, .int x1), (2, .int x2), (3, .int x3)] [] M := by
  intro x1 x2 x3 M hw
  refine w_iincV C (lv' := [(3, .int (x3 + 1)), (0, .ref (gad G 5 0)), (1, .int x1), (2, .int x2)]) 3 dX5_hasAny_32 kc_i_1 rfl (by decide) rfl ?_
  refine w_goto C dX5_hasAny_35 (tgt := 2) rfl ?_
  exact w_sub [1, 2, 3, 0] rfl (g2 x1 x2 (x3 + 1)  _ hw)
set_option maxRecDepth 100000 in
set_option maxHeartbeats 4000000 in
theorem s_X5_hasAny_2 {G : GG} {n : Nat} {E : EE} (C : Cx G n E RX5 cX5_hasAny 4) (HR : RM E 0 0) (HT : RT E (some .boolean)) {Q : Int32 → Mem → Prop}  : ∀ (f : Nat) (x1 : Int32) (x2 : Int32) (x3 : Int32)  (M : Mem), w_X5_hasAny_2 Q  f x1 x2 x3 M → WW G n E 4 (QE G E (Qi G n Q)) 2 [(0, .ref (gad G 5 0)), (1, .int x1), (2, .int x2), (3, .int x3)] [] M := by
  intro f
  induction f with
  | zero => intro x1 x2 x3 M hw; exact hw.elim
  | succ f ih =>
    intro x1 x2 x3 M hw
    refine w_iload_n C 3 dX5_hasAny_2 rfl rfl ?_
    refine w_aload_n C 0 dX5_hasAny_3 rfl rfl ?_
    refine gf_X5_21 C (Nat.le_of_ble_eq_true rfl) dX5_hasAny_4 ?_
    refine w_icmp_ge C dX5_hasAny_7 (tgt := 38) rfl (fun c2 => ?_) (fun c2 => ?_)
    · replace hw := hw.1 c2
      refine w_iconst C dX5_hasAny_38 kc_i_0 ?_
      exact ret_Z C HT rfl hw dX5_hasAny_39
    · replace hw := hw.2 c2
      refine w_aload_n C 0 dX5_hasAny_10 rfl rfl ?_
      refine gf_X5_9 C (Nat.le_of_ble_eq_true rfl) dX5_hasAny_11 ?_
      refine w_iload_n C 3 dX5_hasAny_14 rfl rfl ?_
      obtain ⟨b3, hw⟩ := hw
      refine v_iald C ak_34 rfl (Nat.le_of_ble_eq_true rfl) b3 dX5_hasAny_15 ?_
      refine w_iload_n C 1 dX5_hasAny_16 rfl rfl ?_
      refine w_icmp_ne C dX5_hasAny_17 (tgt := 32) rfl (fun c4 => ?_) (fun c4 => ?_)
      · replace hw := hw.2 c4
        exact w_sub [0, 1, 2, 3] rfl (s_X5_hasAny_32 C HR HT ih x1 x2 x3  _ hw)
      · replace hw := hw.1 c4
        refine w_aload_n C 0 dX5_hasAny_20 rfl rfl ?_
        refine gf_X5_15 C (Nat.le_of_ble_eq_true rfl) dX5_hasAny_21 ?_
        refine w_iload_n C 3 dX5_hasAny_24 rfl rfl ?_
        obtain ⟨b5, hw⟩ := hw
        refine v_iald C ak_35 rfl (Nat.le_of_ble_eq_true rfl) b5 dX5_hasAny_25 ?_
        refine w_iload_n C 2 dX5_hasAny_26 rfl rfl ?_
        refine w_icmp_gt C dX5_hasAny_27 (tgt := 32) rfl (fun c6 => ?_) (fun c6 => ?_)
        · replace hw := hw.1 c6
          exact w_sub [0, 1, 2, 3] rfl (s_X5_hasAny_32 C HR HT ih x1 x2 x3  _ hw)
        · replace hw := hw.2 c6
          refine w_iconst C dX5_hasAny_30 kc_i_1 ?_
          exact ret_Z C HT rfl hw dX5_hasAny_31
set_option maxRecDepth 100000 in
set_option maxHeartbeats 4000000 in
theorem c_X5_hasAny {G : GG} {n : Nat} {l : Launch} (x1 : Int32) (x2 : Int32)  (M : Mem) (Q : Int32 → Mem → Prop) (hw : wp_X5_hasAny x1 x2 M Q) : Ct G n l yX5_hasAny cX5_hasAny 4 (some .boolean) 0 0 [.ref (gad G 5 0), .int x1, .int x2] M (Qi G n Q) := by
  refine ct_of (by decide) (Nat.le_of_ble_eq_true rfl) (lv := [(0, .ref (gad G 5 0)), (1, .int x1), (2, .int x2)]) rfl (fun E C HR HT hE => ?_)
  replace C : Cx G n E RX5 cX5_hasAny 4 := C
  refine w_iconst C dX5_hasAny_0 kc_i_0 ?_
  refine w_istore_n C (lv' := [(3, .int 0), (0, .ref (gad G 5 0)), (1, .int x1), (2, .int x2)]) dX5_hasAny_1 rfl (by decide) rfl ?_
  obtain ⟨f1, hw⟩ := hw
  exact w_sub [1, 2, 3, 0] rfl (s_X5_hasAny_2 C HR HT  f1 x1 x2 0  _ hw)
set_option maxRecDepth 100000 in
set_option maxHeartbeats 4000000 in
theorem s_X5_withInterest_80 {G : GG} {n : Nat} {E : EE} (C : Cx G n E RX5 cX5_withInterest 6) (HR : RM E 0 0) (HT : RT E (some .int)) {Q : Int32 → Mem → Prop} {K5 : Int32 → Int32 → Int32 → Int32 → Mem → Prop} (g5 : ∀ (x1 : Int32) (x2 : Int32) (x3 : Int32) (x4 : Int32)  (M : Mem), K5 x1 x2 x3 x4 M → WW G n E 6 (QE G E (Qi G n Q)) 5 [(0, .ref (gad G 5 0)), (1, .int x1), (2, .int x2), (3, .int x3), (4, .int x4)] [] M) : ∀ (x1 : Int32) (x2 : Int32) (x3 : Int32) (x4 : Int32)  (M : Mem), w_X5_withInterest_80 Q K5 x1 x2 x3 x4 M → WW G n E 6 (QE G E (Qi G n Q)) 80 [(0, .ref (gad G 5 0)), (1, .int x1), (2, .int x2), (3, .int x3), (4, .int x4)] [] M := by
  intro x1 x2 x3 x4 M hw
  refine w_iincV C (lv' := [(4, .int (x4 + 1)), (0, .ref (gad G 5 0)), (1, .int x1), (2, .int x2), (3, .int x3)]) 4 dX5_withInterest_80 kc_i_1 rfl (by decide) rfl ?_
  refine w_goto C dX5_withInterest_83 (tgt := 5) rfl ?_
  exact w_sub [1, 2, 3, 4, 0] rfl (g5 x1 x2 x3 (x4 + 1)  _ hw)
set_option maxRecDepth 100000 in
set_option maxHeartbeats 4000000 in
theorem s_X5_withInterest_5 {G : GG} {n : Nat} {E : EE} (C : Cx G n E RX5 cX5_withInterest 6) (HR : RM E 0 0) (HT : RT E (some .int)) {Q : Int32 → Mem → Prop}  : ∀ (f : Nat) (x1 : Int32) (x2 : Int32) (x3 : Int32) (x4 : Int32)  (M : Mem), w_X5_withInterest_5 Q  f x1 x2 x3 x4 M → WW G n E 6 (QE G E (Qi G n Q)) 5 [(0, .ref (gad G 5 0)), (1, .int x1), (2, .int x2), (3, .int x3), (4, .int x4)] [] M := by
  intro f
  induction f with
  | zero => intro x1 x2 x3 x4 M hw; exact hw.elim
  | succ f ih =>
    intro x1 x2 x3 x4 M hw
    refine w_iload C 4 dX5_withInterest_5 rfl ?_
    refine w_aload_n C 0 dX5_withInterest_7 rfl rfl ?_
    refine gf_X5_21 C (Nat.le_of_ble_eq_true rfl) dX5_withInterest_8 ?_
    refine w_icmp_ge C dX5_withInterest_11 (tgt := 86) rfl (fun c2 => ?_) (fun c2 => ?_)
    · replace hw := hw.1 c2
      refine w_iload_n C 3 dX5_withInterest_86 rfl rfl ?_
      exact ret_I C HT hw dX5_withInterest_87
    · replace hw := hw.2 c2
      refine w_aload_n C 0 dX5_withInterest_14 rfl rfl ?_
      refine gf_X5_9 C (Nat.le_of_ble_eq_true rfl) dX5_withInterest_15 ?_
      refine w_iload C 4 dX5_withInterest_18 rfl ?_
      obtain ⟨b3, hw⟩ := hw
      refine v_iald C ak_34 rfl (Nat.le_of_ble_eq_true rfl) b3 dX5_withInterest_20 ?_
      refine w_iload_n C 1 dX5_withInterest_21 rfl rfl ?_
      refine w_icmp_ne C dX5_withInterest_22 (tgt := 80) rfl (fun c4 => ?_) (fun c4 => ?_)
      · replace hw := hw.2 c4
        exact w_sub [0, 1, 2, 3, 4] rfl (s_X5_withInterest_80 C HR HT ih x1 x2 x3 x4  _ hw)
      · replace hw := hw.1 c4
        refine w_aload_n C 0 dX5_withInterest_25 rfl rfl ?_
        refine gf_X5_15 C (Nat.le_of_ble_eq_true rfl) dX5_withInterest_26 ?_
        refine w_iload C 4 dX5_withInterest_29 rfl ?_
        obtain ⟨b5, hw⟩ := hw
        refine v_iald C ak_35 rfl (Nat.le_of_ble_eq_true rfl) b5 dX5_withInterest_31 ?_
        refine w_iload_n C 2 dX5_withInterest_32 rfl rfl ?_
        refine w_icmp_gt C dX5_withInterest_33 (tgt := 80) rfl (fun c6 => ?_) (fun c6 => ?_)
        · replace hw := hw.1 c6
          exact w_sub [0, 1, 2, 3, 4] rfl (s_X5_withInterest_80 C HR HT ih x1 x2 x3 x4  _ hw)
        · replace hw := hw.2 c6
          refine w_iload_n C 2 dX5_withInterest_36 rfl rfl ?_
          refine w_aload_n C 0 dX5_withInterest_37 rfl rfl ?_
          refine gf_X5_15 C (Nat.le_of_ble_eq_true rfl) dX5_withInterest_38 ?_
          refine w_iload C 4 dX5_withInterest_41 rfl ?_
          obtain ⟨b7, hw⟩ := hw
          refine v_iald C ak_35 rfl (Nat.le_of_ble_eq_true rfl) b7 dX5_withInterest_43 ?_
          refine w_isub C dX5_withInterest_44 ?_
          refine w_bipush C dX5_withInterest_45 kc_b_10 ?_
          obtain ⟨b8, hw⟩ := hw
          refine w_idiv C dX5_withInterest_47 b8 ?_
          refine w_istoreV C dX5_withInterest_48 (by decide) (fun a9 ea9 => w_lv (lv' := [(5, .int a9), (0, .ref (gad G 5 0)), (1, .int x1), (2, .int x2), (3, .int x3), (4, .int x4)]) rfl ?_)
          replace hw := hw a9 ea9
          refine w_iload_n C 4 dX5_withInterest_50 rfl rfl ?_
          refine w_aload_n C 1 dX5_withInterest_51 rfl rfl ?_
          refine gf_X5_18 C (Nat.le_of_ble_eq_true rfl) dX5_withInterest_52 ?_
          refine w_iload C 5 dX5_withInterest_55 rfl ?_
          obtain ⟨b10, hw⟩ := hw
          refine v_iald C ak_36 rfl (Nat.le_of_ble_eq_true rfl) b10 dX5_withInterest_57 ?_
          refine w_aload_n C 1 dX5_withInterest_58 rfl rfl ?_
          refine gf_X5_18 C (Nat.le_of_ble_eq_true rfl) dX5_withInterest_59 ?_
          refine w_iload C 5 dX5_withInterest_62 rfl ?_
          obtain ⟨b11, hw⟩ := hw
          refine v_iald C ak_36 rfl (Nat.le_of_ble_eq_true rfl) b11 dX5_withInterest_64 ?_
          refine w_aload_n C 1 dX5_withInterest_65 rfl rfl ?_
          refine gf_X5_25 C (Nat.le_of_ble_eq_true rfl) dX5_withInterest_66 ?_
          refine w_imul C dX5_withInterest_69 ?_
          refine w_iload C 0 dX5_withInterest_70 rfl ?_
          refine w_imul C dX5_withInterest_72 ?_
          refine w_sipush C dX5_withInterest_73 kc_s_1000 ?_
          obtain ⟨b12, hw⟩ := hw
          refine w_idiv C dX5_withInterest_76 b12 ?_
          refine w_iadd C dX5_withInterest_77 ?_
          refine w_iadd C dX5_withInterest_78 ?_
          refine w_istore_nV C dX5_withInterest_79 rfl (by decide) (fun a13 ea13 => w_lv (lv' := [(3, .int a13), (5, .int a9), (0, .ref (gad G 5 0)), (1, .int x1), (2, .int x2), (4, .int x4)]) rfl ?_)
          replace hw := hw a13 ea13
          exact w_sub [2, 3, 4, 0, 5] rfl (s_X5_withInterest_80 C HR HT ih x1 x2 a13 x4  _ hw)
set_option maxRecDepth 100000 in
set_option maxHeartbeats 4000000 in
theorem c_X5_withInterest {G : GG} {n : Nat} {l : Launch} (x1 : Int32) (x2 : Int32)  (M : Mem) (Q : Int32 → Mem → Prop) (hw : wp_X5_withInterest x1 x2 M Q) : Ct G n l yX5_withInterest cX5_withInterest 6 (some .int) 0 0 [.ref (gad G 5 0), .int x1, .int x2] M (Qi G n Q) := by
  refine ct_of (by decide) (Nat.le_of_ble_eq_true rfl) (lv := [(0, .ref (gad G 5 0)), (1, .int x1), (2, .int x2)]) rfl (fun E C HR HT hE => ?_)
  replace C : Cx G n E RX5 cX5_withInterest 6 := C
  refine w_iconst C dX5_withInterest_0 kc_i_0 ?_
  refine w_istore_n C (lv' := [(3, .int 0), (0, .ref (gad G 5 0)), (1, .int x1), (2, .int x2)]) dX5_withInterest_1 rfl (by decide) rfl ?_
  refine w_iconst C dX5_withInterest_2 kc_i_0 ?_
  refine w_istore C (lv' := [(4, .int 0), (3, .int 0), (0, .ref (gad G 5 0)), (1, .int x1), (2, .int x2)]) dX5_withInterest_3 (by decide) rfl ?_
  obtain ⟨f1, hw⟩ := hw
  exact w_sub [2, 3, 4, 1, 0] rfl (s_X5_withInterest_5 C HR HT  f1 x1 x2 0 0  _ hw)
set_option maxRecDepth 100000 in
set_option maxHeartbeats 4000000 in
theorem c_X7_renew {G : GG} {n : Nat} {l : Launch} (jt : Nat) (x1 : Int32) (x2 : Int32) (hjt : jt < cnt n 7) (M : Mem) (Q : Mem → Prop) (hw : wp_X7_renew jt x1 x2 M Q) : Ct G n l yX7_renew cX7_renew 3 none 1 23 [.ref (gad G 7 jt), .int x1, .int x2] M (Qv G n Q) := by
  refine ct_of (by decide) (Nat.le_of_ble_eq_true rfl) (lv := [(0, .ref (gad G 7 jt)), (1, .int x1), (2, .int x2)]) rfl (fun E C HR HT hE => ?_)
  replace C : Cx G n E RX7 cX7_renew 3 := C
  refine w_aload_n C 0 dX7_renew_0 rfl rfl ?_
  refine gf_X7_9 C hjt dX7_renew_1 ?_
  refine w_iconst C dX7_renew_4 kc_i_0 ?_
  refine back_V (run_S C HR mt_J7_fill_53178 gw397 gw954 (by decide) rfl (Nat.le_of_ble_eq_true rfl) dX7_renew_5 (As := [.ref (gad G 42 jt), .int 0]) rfl (c_J7_fill_53178 42 jt 0 ak_42 hjt _ _ hw)) (fun M1 hw => ?_)
  refine w_aload_n C 0 dX7_renew_8 rfl rfl ?_
  refine w_iconst C dX7_renew_9 kc_i_0 ?_
  refine pf_X7_15 C hjt rfl rfl dX7_renew_10 (w_mem fun M2 eM2 => ?_)
  replace hw := hw M2 eM2
  refine w_aload_n C 0 dX7_renew_13 rfl rfl ?_
  refine w_iload_n C 1 dX7_renew_14 rfl rfl ?_
  refine pf_X7_19 C hjt dX7_renew_15 (w_mem fun M3 eM3 => ?_)
  replace hw := hw M3 eM3
  refine w_aload_n C 0 dX7_renew_18 rfl rfl ?_
  refine w_iload_n C 2 dX7_renew_19 rfl rfl ?_
  refine w_bipush C dX7_renew_20 kc_b_40 ?_
  refine back_I (run_S C HR mt_J9_min_7cf53 gw439 gw955 (by decide) rfl (Nat.le_of_ble_eq_true rfl) dX7_renew_22 (As := [.int x2, .int 40]) rfl (c_J9_min_7cf53 x2 40  _ _ hw)) (fun r5 M4 hw => ?_)
  refine pf_X7_23 C hjt dX7_renew_25 (w_mem fun M6 eM6 => ?_)
  replace hw := hw M6 eM6
  exact ret_V C HT hw dX7_renew_28
set_option maxRecDepth 100000 in
set_option maxHeartbeats 4000000 in
theorem s_X7_findingAt_31 {G : GG} {n : Nat} {E : EE} (C : Cx G n E RX7 cX7_findingAt 3) (HR : RM E 0 0) (HT : RT E (some .int)) {Q : Int32 → Mem → Prop}  : ∀   (M : Mem), w_X7_findingAt_31 Q   M → WW G n E 3 (QE G E (Qi G n Q)) 31 [] [] M := by
  intro  M hw
  refine w_iconst C dX7_findingAt_31 kc_i_2 ?_
  refine w_goto C dX7_findingAt_32 (tgt := 36) rfl ?_
  exact ret_I C HT hw dX7_findingAt_36
set_option maxRecDepth 100000 in
set_option maxHeartbeats 4000000 in
theorem c_X7_findingAt {G : GG} {n : Nat} {l : Launch} (jt : Nat) (x1 : Int32) (x2 : Int32) (hjt : jt < cnt n 7) (M : Mem) (Q : Int32 → Mem → Prop) (hw : wp_X7_findingAt jt x1 x2 M Q) : Ct G n l yX7_findingAt cX7_findingAt 3 (some .int) 0 0 [.ref (gad G 7 jt), .int x1, .int x2] M (Qi G n Q) := by
  refine ct_of (by decide) (Nat.le_of_ble_eq_true rfl) (lv := [(0, .ref (gad G 7 jt)), (1, .int x1), (2, .int x2)]) rfl (fun E C HR HT hE => ?_)
  replace C : Cx G n E RX7 cX7_findingAt 3 := C
  refine w_aload_n C 0 dX7_findingAt_0 rfl rfl ?_
  refine gf_X7_15 C hjt dX7_findingAt_1 ?_
  refine w_if_eq C dX7_findingAt_4 (tgt := 9) rfl (fun c1 => ?_) (fun c1 => ?_)
  · replace hw := hw.1 c1
    refine w_iload_n C 1 dX7_findingAt_9 rfl rfl ?_
    refine w_aload_n C 0 dX7_findingAt_10 rfl rfl ?_
    refine gf_X7_19 C hjt dX7_findingAt_11 ?_
    refine w_icmp_eq C dX7_findingAt_14 (tgt := 19) rfl (fun c2 => ?_) (fun c2 => ?_)
    · replace hw := hw.1 c2
      refine w_iload_n C 2 dX7_findingAt_19 rfl rfl ?_
      refine w_if_lt C dX7_findingAt_20 (tgt := 31) rfl (fun c3 => ?_) (fun c3 => ?_)
      · replace hw := hw.1 c3
        exact w_sub [] rfl (s_X7_findingAt_31 C HR HT    _ hw)
      · replace hw := hw.2 c3
        refine w_iload_n C 2 dX7_findingAt_23 rfl rfl ?_
        refine w_aload_n C 0 dX7_findingAt_24 rfl rfl ?_
        refine gf_X7_23 C hjt dX7_findingAt_25 ?_
        refine w_icmp_lt C dX7_findingAt_28 (tgt := 35) rfl (fun c4 => ?_) (fun c4 => ?_)
        · replace hw := hw.1 c4
          refine w_iconst C dX7_findingAt_35 kc_i_0 ?_
          exact ret_I C HT hw dX7_findingAt_36
        · replace hw := hw.2 c4
          exact w_sub [] rfl (s_X7_findingAt_31 C HR HT    _ hw)
    · replace hw := hw.2 c2
      refine w_iconst C dX7_findingAt_17 kc_i_3 ?_
      exact ret_I C HT hw dX7_findingAt_18
  · replace hw := hw.2 c1
    refine w_iconst C dX7_findingAt_7 kc_i_1 ?_
    exact ret_I C HT hw dX7_findingAt_8
set_option maxRecDepth 100000 in
set_option maxHeartbeats 4000000 in
theorem s_X7_store_43 {G : GG} {n : Nat} {E : EE} (C : Cx G n E RX7 cX7_store 3) (HR : RM E 0 0) (HT : RT E none) {Q : Mem → Prop}  : ∀ (y0 : Int32) (y1 : Int32) (j2 : Nat) (hj2 : j2 < cnt n 42) (M : Mem), w_X7_store_43 Q  y0 y1 j2 M → WW G n E 3 (QE G E (Qv G n Q)) 43 [] [.int y0, .int y1, .ref (gad G 42 j2)] M := by
  intro y0 y1 j2 hj2 M hw
  obtain ⟨b5, hw⟩ := hw
  refine v_iast C ak_42 rfl hj2 b5 dX7_store_43 (w_mem fun M6 eM6 => ?_)
  replace hw := hw M6 eM6
  exact ret_V C HT hw dX7_store_44
set_option maxRecDepth 100000 in
set_option maxHeartbeats 4000000 in
theorem c_X7_store {G : GG} {n : Nat} {l : Launch} (jt : Nat) (x1 : Int32) (x2 : Int32) (hjt : jt < cnt n 7) (M : Mem) (Q : Mem → Prop) (hw : wp_X7_store jt x1 x2 M Q) : Ct G n l yX7_store cX7_store 3 none 0 0 [.ref (gad G 7 jt), .int x1, .int x2] M (Qv G n Q) := by
  refine ct_of (by decide) (Nat.le_of_ble_eq_true rfl) (lv := [(0, .ref (gad G 7 jt)), (1, .int x1), (2, .int x2)]) rfl (fun E C HR HT hE => ?_)
  replace C : Cx G n E RX7 cX7_store 3 := C
  refine w_iload_n C 1 dX7_store_0 rfl rfl ?_
  refine w_if_lt C dX7_store_1 (tgt := 44) rfl (fun c1 => ?_) (fun c1 => ?_)
  · replace hw := hw.1 c1
    exact ret_V C HT hw dX7_store_44
  · replace hw := hw.2 c1
    refine w_iload_n C 1 dX7_store_4 rfl rfl ?_
    refine w_aload_n C 0 dX7_store_5 rfl rfl ?_
    refine gf_X7_23 C hjt dX7_store_6 ?_
    refine w_icmp_ge C dX7_store_9 (tgt := 44) rfl (fun c2 => ?_) (fun c2 => ?_)
    · replace hw := hw.1 c2
      exact ret_V C HT hw dX7_store_44
    · replace hw := hw.2 c2
      refine w_aload_n C 0 dX7_store_12 rfl rfl ?_
      refine gf_X7_9 C hjt dX7_store_13 ?_
      refine w_iload_n C 1 dX7_store_16 rfl rfl ?_
      refine w_aload_n C 0 dX7_store_17 rfl rfl ?_
      refine gf_X7_19 C hjt dX7_store_18 ?_
      refine w_if_ne C dX7_store_21 (tgt := 29) rfl (fun c3 => ?_) (fun c3 => ?_)
      · replace hw := hw.2 c3
        refine w_aload_n C 0 dX7_store_29 rfl rfl ?_
        refine gf_X7_19 C hjt dX7_store_30 ?_
        refine w_iconst C dX7_store_33 kc_i_1 ?_
        refine w_icmp_ne C dX7_store_34 (tgt := 42) rfl (fun c4 => ?_) (fun c4 => ?_)
        · replace hw := hw.2 c4
          refine w_iload_n C 2 dX7_store_42 rfl rfl ?_
          exact w_sub [] rfl (s_X7_store_43 C HR HT  x2 x1 jt hjt _ hw)
        · replace hw := hw.1 c4
          refine w_iload_n C 2 dX7_store_37 rfl rfl ?_
          refine w_i2s C dX7_store_38 ?_
          refine w_goto C dX7_store_39 (tgt := 43) rfl ?_
          exact w_sub [] rfl (s_X7_store_43 C HR HT  ((x2 : Int32).toInt16.toInt32) x1 jt hjt _ hw)
      · replace hw := hw.1 c3
        refine w_iload_n C 2 dX7_store_24 rfl rfl ?_
        refine w_i2b C dX7_store_25 ?_
        refine w_goto C dX7_store_26 (tgt := 43) rfl ?_
        exact w_sub [] rfl (s_X7_store_43 C HR HT  ((x2 : Int32).toInt8.toInt32) x1 jt hjt _ hw)
set_option maxRecDepth 100000 in
set_option maxHeartbeats 4000000 in
theorem c_X7_hasItems {G : GG} {n : Nat} {l : Launch} (jt : Nat) (x1 : Int32) (x2 : Int32) (hjt : jt < cnt n 7) (M : Mem) (Q : Int32 → Mem → Prop) (hw : wp_X7_hasItems jt x1 x2 M Q) : Ct G n l yX7_hasItems cX7_hasItems 3 (some .boolean) 0 0 [.ref (gad G 7 jt), .int x1, .int x2] M (Qi G n Q) := by
  refine ct_of (by decide) (Nat.le_of_ble_eq_true rfl) (lv := [(0, .ref (gad G 7 jt)), (1, .int x1), (2, .int x2)]) rfl (fun E C HR HT hE => ?_)
  replace C : Cx G n E RX7 cX7_hasItems 3 := C
  refine w_iload_n C 1 dX7_hasItems_0 rfl rfl ?_
  refine w_if_lt C dX7_hasItems_1 (tgt := 30) rfl (fun c1 => ?_) (fun c1 => ?_)
  · replace hw := hw.1 c1
    refine w_iconst C dX7_hasItems_30 kc_i_0 ?_
    exact ret_Z C HT rfl hw dX7_hasItems_31
  · replace hw := hw.2 c1
    refine w_iload_n C 2 dX7_hasItems_4 rfl rfl ?_
    refine w_if_lt C dX7_hasItems_5 (tgt := 30) rfl (fun c2 => ?_) (fun c2 => ?_)
    · replace hw := hw.1 c2
      refine w_iconst C dX7_hasItems_30 kc_i_0 ?_
      exact ret_Z C HT rfl hw dX7_hasItems_31
    · replace hw := hw.2 c2
      refine w_iload_n C 2 dX7_hasItems_8 rfl rfl ?_
      refine w_aload_n C 0 dX7_hasItems_9 rfl rfl ?_
      refine gf_X7_23 C hjt dX7_hasItems_10 ?_
      refine w_icmp_gt C dX7_hasItems_13 (tgt := 30) rfl (fun c3 => ?_) (fun c3 => ?_)
      · replace hw := hw.1 c3
        refine w_iconst C dX7_hasItems_30 kc_i_0 ?_
        exact ret_Z C HT rfl hw dX7_hasItems_31
      · replace hw := hw.2 c3
        refine w_iload_n C 1 dX7_hasItems_16 rfl rfl ?_
        refine w_aload_n C 0 dX7_hasItems_17 rfl rfl ?_
        refine gf_X7_23 C hjt dX7_hasItems_18 ?_
        refine w_iload_n C 2 dX7_hasItems_21 rfl rfl ?_
        refine w_isub C dX7_hasItems_22 ?_
        refine w_icmp_gt C dX7_hasItems_23 (tgt := 30) rfl (fun c4 => ?_) (fun c4 => ?_)
        · replace hw := hw.1 c4
          refine w_iconst C dX7_hasItems_30 kc_i_0 ?_
          exact ret_Z C HT rfl hw dX7_hasItems_31
        · replace hw := hw.2 c4
          refine w_iconst C dX7_hasItems_26 kc_i_1 ?_
          refine w_goto C dX7_hasItems_27 (tgt := 31) rfl ?_
          exact ret_Z C HT rfl hw dX7_hasItems_31
set_option maxRecDepth 100000 in
set_option maxHeartbeats 4000000 in
theorem s_X7_countEvents_23 {G : GG} {n : Nat} {E : EE} (C : Cx G n E RX7 cX7_countEvents 4) (HR : RM E 1 21) (HT : RT E (some .int)) {Q : Int32 → Mem → Prop} {K4 : Nat → Int32 → Int32 → Int32 → Mem → Prop} (g4 : ∀ (j0 : Nat) (x1 : Int32) (x2 : Int32) (x3 : Int32) (hj0 : j0 < cnt n 7) (M : Mem), K4 j0 x1 x2 x3 M → WW G n E 4 (QE G E (Qi G n Q)) 4 [(0, .ref (gad G 7 j0)), (1, .int x1), (2, .int x2), (3, .int x3)] [] M) : ∀ (j0 : Nat) (x1 : Int32) (x3 : Int32) (y0 : Int32) (y1 : Int32) (hj0 : j0 < cnt n 7) (M : Mem), w_X7_countEvents_23 Q K4 j0 x1 x3 y0 y1 M → WW G n E 4 (QE G E (Qi G n Q)) 23 [(0, .ref (gad G 7 j0)), (1, .int x1), (3, .int x3)] [.int y0, .int y1] M := by
  intro j0 x1 x3 y0 y1 hj0 M hw
  refine w_iadd C dX7_countEvents_23 ?_
  refine w_istore_nV C dX7_countEvents_24 rfl (by decide) (fun a6 ea6 => w_lv (lv' := [(2, .int a6), (0, .ref (gad G 7 j0)), (1, .int x1), (3, .int x3)]) rfl ?_)
  replace hw := hw a6 ea6
  refine w_iincV C (lv' := [(3, .int (x3 + 1)), (2, .int a6), (0, .ref (gad G 7 j0)), (1, .int x1)]) 3 dX7_countEvents_25 kc_i_1 rfl (by decide) rfl ?_
  refine w_goto C dX7_countEvents_28 (tgt := 4) rfl ?_
  exact w_sub [2, 3, 1, 0] rfl (g4 j0 x1 a6 (x3 + 1) hj0 _ hw)
set_option maxRecDepth 100000 in
set_option maxHeartbeats 4000000 in
theorem s_X7_countEvents_4 {G : GG} {n : Nat} {E : EE} (C : Cx G n E RX7 cX7_countEvents 4) (HR : RM E 1 21) (HT : RT E (some .int)) {Q : Int32 → Mem → Prop}  : ∀ (f : Nat) (j0 : Nat) (x1 : Int32) (x2 : Int32) (x3 : Int32) (hj0 : j0 < cnt n 7) (M : Mem), w_X7_countEvents_4 Q  f j0 x1 x2 x3 M → WW G n E 4 (QE G E (Qi G n Q)) 4 [(0, .ref (gad G 7 j0)), (1, .int x1), (2, .int x2), (3, .int x3)] [] M := by
  intro f
  induction f with
  | zero => intro j0 x1 x2 x3 hj0 M hw; exact hw.elim
  | succ f ih =>
    intro j0 x1 x2 x3 hj0 M hw
    refine w_iload_n C 3 dX7_countEvents_4 rfl rfl ?_
    refine w_iload_n C 1 dX7_countEvents_5 rfl rfl ?_
    refine w_icmp_ge C dX7_countEvents_6 (tgt := 31) rfl (fun c2 => ?_) (fun c2 => ?_)
    · replace hw := hw.1 c2
      refine w_iload_n C 2 dX7_countEvents_31 rfl rfl ?_
      exact ret_I C HT hw dX7_countEvents_32
    · replace hw := hw.2 c2
      refine w_iload_n C 2 dX7_countEvents_9 rfl rfl ?_
      refine w_aload_n C 0 dX7_countEvents_10 rfl rfl ?_
      refine w_iload_n C 3 dX7_countEvents_11 rfl rfl ?_
      refine back_I (run_V C HR mt_X7_holdsEvent (ci := 7) rfl (by decide) hj0 gw540 gw541 gw539 (by decide) rfl (Nat.le_of_ble_eq_true rfl) dX7_countEvents_12 (As := [.int x3]) rfl (c_X7_holdsEvent j0 x3 hj0 _ _ hw)) (fun r4 M3 hw => ?_)
      refine w_if_eq C dX7_countEvents_15 (tgt := 22) rfl (fun c5 => ?_) (fun c5 => ?_)
      · replace hw := hw.1 c5
        refine w_iconst C dX7_countEvents_22 kc_i_0 ?_
        exact w_sub [0, 1, 3] rfl (s_X7_countEvents_23 C HR HT ih j0 x1 x3 0 x2 hj0 _ hw)
      · replace hw := hw.2 c5
        refine w_iconst C dX7_countEvents_18 kc_i_1 ?_
        refine w_goto C dX7_countEvents_19 (tgt := 23) rfl ?_
        exact w_sub [0, 1, 3] rfl (s_X7_countEvents_23 C HR HT ih j0 x1 x3 1 x2 hj0 _ hw)
set_option maxRecDepth 100000 in
set_option maxHeartbeats 4000000 in
theorem c_X7_countEvents {G : GG} {n : Nat} {l : Launch} (jt : Nat) (x1 : Int32) (hjt : jt < cnt n 7) (M : Mem) (Q : Int32 → Mem → Prop) (hw : wp_X7_countEvents jt x1 M Q) : Ct G n l yX7_countEvents cX7_countEvents 4 (some .int) 1 21 [.ref (gad G 7 jt), .int x1] M (Qi G n Q) := by
  refine ct_of (by decide) (Nat.le_of_ble_eq_true rfl) (lv := [(0, .ref (gad G 7 jt)), (1, .int x1)]) rfl (fun E C HR HT hE => ?_)
  replace C : Cx G n E RX7 cX7_countEvents 4 := C
  refine w_iconst C dX7_countEvents_0 kc_i_0 ?_
  refine w_istore_n C (lv' := [(2, .int 0), (0, .ref (gad G 7 jt)), (1, .int x1)]) dX7_countEvents_1 rfl (by decide) rfl ?_
  refine w_iconst C dX7_countEvents_2 kc_i_0 ?_
  refine w_istore_n C (lv' := [(3, .int 0), (2, .int 0), (0, .ref (gad G 7 jt)), (1, .int x1)]) dX7_countEvents_3 rfl (by decide) rfl ?_
  obtain ⟨f1, hw⟩ := hw
  exact w_sub [2, 3, 1, 0] rfl (s_X7_countEvents_4 C HR HT  f1 jt x1 0 0 hjt _ hw)
set_option maxRecDepth 100000 in
set_option maxHeartbeats 4000000 in
theorem c_X8_append {G : GG} {n : Nat} {l : Launch} (jt : Nat) (x1 : Int32) (hjt : jt < cnt n 8) (M : Mem) (Q : Int32 → Mem → Prop) (hw : wp_X8_append jt x1 M Q) : Ct G n l yX8_append cX8_append 2 (some .int) 0 0 [.ref (gad G 8 jt), .int x1] M (Qi G n Q) := by
  refine ct_of (by decide) (Nat.le_of_ble_eq_true rfl) (lv := [(0, .ref (gad G 8 jt)), (1, .int x1)]) rfl (fun E C HR HT hE => ?_)
  replace C : Cx G n E RX8 cX8_append 2 := C
  refine w_aload_n C 0 dX8_append_0 rfl rfl ?_
  refine gf_X8_30 C hjt dX8_append_1 ?_
  refine w_bipush C dX8_append_4 kc_b_120 ?_
  refine w_icmp_lt C dX8_append_6 (tgt := 12) rfl (fun c1 => ?_) (fun c1 => ?_)
  · replace hw := hw.1 c1
    refine w_aload_n C 0 dX8_append_12 rfl rfl ?_
    refine gf_X8_9 C hjt dX8_append_13 ?_
    refine w_aload_n C 0 dX8_append_16 rfl rfl ?_
    refine gf_X8_30 C hjt dX8_append_17 ?_
    refine w_iload_n C 1 dX8_append_20 rfl rfl ?_
    obtain ⟨b2, hw⟩ := hw
    refine v_iast C ak_43 rfl hjt b2 dX8_append_21 (w_mem fun M3 eM3 => ?_)
    replace hw := hw M3 eM3
    refine w_aload_n C 0 dX8_append_22 rfl rfl ?_
    refine w_dup C dX8_append_23 rfl ?_
    refine gf_X8_30 C hjt dX8_append_24 ?_
    refine w_iconst C dX8_append_27 kc_i_1 ?_
    refine w_iadd C dX8_append_28 ?_
    refine pf_X8_30 C hjt dX8_append_29 (w_mem fun M4 eM4 => ?_)
    replace hw := hw M4 eM4
    refine w_aload_n C 0 dX8_append_32 rfl rfl ?_
    refine w_iconst C dX8_append_33 kc_i_0 ?_
    refine pf_X8_40 C hjt rfl rfl dX8_append_34 (w_mem fun M5 eM5 => ?_)
    replace hw := hw M5 eM5
    refine w_aload_n C 0 dX8_append_37 rfl rfl ?_
    refine w_dup C dX8_append_38 rfl ?_
    refine gf_X8_37 C hjt dX8_append_39 ?_
    refine w_iconst C dX8_append_42 kc_i_1 ?_
    refine w_iadd C dX8_append_43 ?_
    refine pf_X8_37 C hjt dX8_append_44 (w_mem fun M6 eM6 => ?_)
    replace hw := hw M6 eM6
    refine w_aload_n C 0 dX8_append_47 rfl rfl ?_
    refine gf_X8_30 C hjt dX8_append_48 ?_
    exact ret_I C HT hw dX8_append_51
  · replace hw := hw.2 c1
    refine w_bipush C dX8_append_9 kc_b_m4 ?_
    exact ret_I C HT hw dX8_append_11
set_option maxRecDepth 100000 in
set_option maxHeartbeats 4000000 in
theorem c_X8_empty {G : GG} {n : Nat} {l : Launch} (jt : Nat) (hjt : jt < cnt n 8) (M : Mem) (Q : Int32 → Mem → Prop) (hw : wp_X8_empty jt M Q) : Ct G n l yX8_empty cX8_empty 2 (some .int) 0 0 [.ref (gad G 8 jt)] M (Qi G n Q) := by
  refine ct_of (by decide) (Nat.le_of_ble_eq_true rfl) (lv := [(0, .ref (gad G 8 jt))]) rfl (fun E C HR HT hE => ?_)
  replace C : Cx G n E RX8 cX8_empty 2 := C
  refine w_aload_n C 0 dX8_empty_0 rfl rfl ?_
  refine gf_X8_30 C hjt dX8_empty_1 ?_
  refine w_istore_nV C dX8_empty_4 rfl (by decide) (fun a1 ea1 => w_lv (lv' := [(1, .int a1), (0, .ref (gad G 8 jt))]) rfl ?_)
  replace hw := hw a1 ea1
  refine w_aload_n C 1 dX8_empty_5 rfl rfl ?_
  refine w_iconst C dX8_empty_6 kc_i_0 ?_
  refine pf_X8_30 C hjt dX8_empty_7 (w_mem fun M2 eM2 => ?_)
  replace hw := hw M2 eM2
  refine w_aload_n C 1 dX8_empty_10 rfl rfl ?_
  refine w_iconst C dX8_empty_11 kc_i_0 ?_
  refine pf_X8_40 C hjt rfl rfl dX8_empty_12 (w_mem fun M3 eM3 => ?_)
  replace hw := hw M3 eM3
  refine w_aload_n C 1 dX8_empty_15 rfl rfl ?_
  refine w_dup C dX8_empty_16 rfl ?_
  refine gf_X8_37 C hjt dX8_empty_17 ?_
  refine w_iconst C dX8_empty_20 kc_i_1 ?_
  refine w_iadd C dX8_empty_21 ?_
  refine pf_X8_37 C hjt dX8_empty_22 (w_mem fun M4 eM4 => ?_)
  replace hw := hw M4 eM4
  refine w_iload_n C 0 dX8_empty_25 rfl rfl ?_
  exact ret_I C HT hw dX8_empty_26
set_option maxRecDepth 100000 in
set_option maxHeartbeats 4000000 in
theorem s_X9_versionAt_9 {G : GG} {n : Nat} {E : EE} (C : Cx G n E RX9 cX9_versionAt 2) (HR : RM E 0 0) (HT : RT E (some (.object "TrueLedger$Version"))) {Q : Option Nat → Mem → Prop}  : ∀   (M : Mem), w_X9_versionAt_9 Q   M → WW G n E 2 (QE G E (Qr G n 8 Q)) 9 [] [] M := by
  intro  M hw
  refine w_null C dX9_versionAt_9 ?_
  refine w_goto C dX9_versionAt_10 (tgt := 19) rfl ?_
  exact ret_N C HT hw dX9_versionAt_19
set_option maxRecDepth 100000 in
set_option maxHeartbeats 4000000 in
theorem c_X9_versionAt {G : GG} {n : Nat} {l : Launch} (x1 : Int32)  (M : Mem) (Q : Option Nat → Mem → Prop) (hw : wp_X9_versionAt x1 M Q) : Ct G n l yX9_versionAt cX9_versionAt 2 (some (.object "TrueLedger$Version")) 0 0 [.ref (gad G 9 0), .int x1] M (Qr G n 8 Q) := by
  refine ct_of (by decide) (Nat.le_of_ble_eq_true rfl) (lv := [(0, .ref (gad G 9 0)), (1, .int x1)]) rfl (fun E C HR HT hE => ?_)
  replace C : Cx G n E RX9 cX9_versionAt 2 := C
  refine w_iload_n C 1 dX9_versionAt_0 rfl rfl ?_
  refine w_if_lt C dX9_versionAt_1 (tgt := 9) rfl (fun c1 => ?_) (fun c1 => ?_)
  · replace hw := hw.1 c1
    exact w_sub [] rfl (s_X9_versionAt_9 C HR HT    _ hw)
  · replace hw := hw.2 c1
    refine w_iload_n C 1 dX9_versionAt_4 rfl rfl ?_
    refine w_iconst C dX9_versionAt_5 kc_i_4 ?_
    refine w_icmp_lt C dX9_versionAt_6 (tgt := 13) rfl (fun c2 => ?_) (fun c2 => ?_)
    · replace hw := hw.1 c2
      refine w_aload_n C 0 dX9_versionAt_13 rfl rfl ?_
      refine gf_X9_11 C (Nat.le_of_ble_eq_true rfl) dX9_versionAt_14 ?_
      refine w_iload_n C 1 dX9_versionAt_17 rfl rfl ?_
      obtain ⟨b3, hw⟩ := hw
      refine v_aaldV C b3 dX9_versionAt_18 ?_
      exact ret_R C HT (vin_lt b3) hw dX9_versionAt_19
    · replace hw := hw.2 c2
      exact w_sub [] rfl (s_X9_versionAt_9 C HR HT    _ hw)
set_option maxRecDepth 100000 in
set_option maxHeartbeats 4000000 in
theorem c_X9_type {G : GG} {n : Nat} {l : Launch} (x1 : Int32) (x2 : Int32)  (M : Mem) (Q : Int32 → Mem → Prop) (hw : wp_X9_type x1 x2 M Q) : Ct G n l yX9_type cX9_type 4 (some .int) 1 21 [.ref (gad G 9 0), .int x1, .int x2] M (Qi G n Q) := by
  refine ct_of (by decide) (Nat.le_of_ble_eq_true rfl) (lv := [(0, .ref (gad G 9 0)), (1, .int x1), (2, .int x2)]) rfl (fun E C HR HT hE => ?_)
  replace C : Cx G n E RX9 cX9_type 4 := C
  refine w_aload_n C 0 dX9_type_0 rfl rfl ?_
  refine w_iload_n C 1 dX9_type_1 rfl rfl ?_
  refine back_R (run_V C HR mt_X9_versionAt (ci := 9) rfl (by decide) (Nat.le_of_ble_eq_true rfl) gw374 gw0 gw372 (by decide) rfl (Nat.le_of_ble_eq_true rfl) dX9_type_2 (As := [.int x1]) rfl (c_X9_versionAt x1  _ _ hw)) (fun M1 hw => ?_) (fun j2 M1 hj2 hw => ?_)
  · replace hw := hw.1 rfl
    refine w_astore_nN C (lv' := [(3, .null), (0, .ref (gad G 9 0)), (1, .int x1), (2, .int x2)]) dX9_type_5 rfl (by decide) rfl ?_
    refine w_aload_nN C 0 dX9_type_6 rfl rfl ?_
    refine w_ifnullN C dX9_type_7 (tgt := 21) rfl ?_
    refine w_bipush C dX9_type_21 kc_b_m2 ?_
    exact ret_I C HT hw dX9_type_23
  · replace hw := hw.2 j2 rfl
    refine w_astore_n C (lv' := [(3, .ref (gad G 8 j2)), (0, .ref (gad G 9 0)), (1, .int x1), (2, .int x2)]) dX9_type_5 rfl (by decide) rfl ?_
    refine w_aload_n C 0 dX9_type_6 rfl rfl ?_
    refine w_ifnull C dX9_type_7 ?_
    refine w_iload_n C 3 dX9_type_10 rfl rfl ?_
    refine w_if_lt C dX9_type_11 (tgt := 21) rfl (fun c4 => ?_) (fun c4 => ?_)
    · replace hw := hw.1 c4
      refine w_bipush C dX9_type_21 kc_b_m2 ?_
      exact ret_I C HT hw dX9_type_23
    · replace hw := hw.2 c4
      refine w_iload_n C 3 dX9_type_14 rfl rfl ?_
      refine w_sipush C dX9_type_15 kc_s_255 ?_
      refine w_icmp_le C dX9_type_18 (tgt := 24) rfl (fun c5 => ?_) (fun c5 => ?_)
      · replace hw := hw.1 c5
        refine w_aload_n C 1 dX9_type_24 rfl rfl ?_
        refine w_iconst C dX9_type_25 kc_i_m1 ?_
        refine pf_X9_73 C (Nat.le_of_ble_eq_true rfl) dX9_type_26 (w_mem fun M6 eM6 => ?_)
        replace hw := hw M6 eM6
        refine w_aload_n C 0 dX9_type_29 rfl rfl ?_
        refine w_iload_n C 3 dX9_type_30 rfl rfl ?_
        refine back_I (run_V C HR mt_X8_append (ci := 8) rfl (by decide) hj2 gw377 gw378 gw376 (by decide) rfl (Nat.le_of_ble_eq_true rfl) dX9_type_31 (As := [.int x2]) rfl (c_X8_append j2 x2 hj2 _ _ hw)) (fun r8 M7 hw => ?_)
        exact ret_I C HT hw dX9_type_34
      · replace hw := hw.2 c5
        refine w_bipush C dX9_type_21 kc_b_m2 ?_
        exact ret_I C HT hw dX9_type_23
set_option maxRecDepth 100000 in
set_option maxHeartbeats 4000000 in
theorem c_X9_wipe {G : GG} {n : Nat} {l : Launch} (x1 : Int32)  (M : Mem) (Q : Int32 → Mem → Prop) (hw : wp_X9_wipe x1 M Q) : Ct G n l yX9_wipe cX9_wipe 3 (some .int) 1 21 [.ref (gad G 9 0), .int x1] M (Qi G n Q) := by
  refine ct_of (by decide) (Nat.le_of_ble_eq_true rfl) (lv := [(0, .ref (gad G 9 0)), (1, .int x1)]) rfl (fun E C HR HT hE => ?_)
  replace C : Cx G n E RX9 cX9_wipe 3 := C
  refine w_aload_n C 0 dX9_wipe_0 rfl rfl ?_
  refine w_iload_n C 1 dX9_wipe_1 rfl rfl ?_
  refine back_R (run_V C HR mt_X9_versionAt (ci := 9) rfl (by decide) (Nat.le_of_ble_eq_true rfl) gw374 gw0 gw372 (by decide) rfl (Nat.le_of_ble_eq_true rfl) dX9_wipe_2 (As := [.int x1]) rfl (c_X9_versionAt x1  _ _ hw)) (fun M1 hw => ?_) (fun j2 M1 hj2 hw => ?_)
  · replace hw := hw.1 rfl
    refine w_astore_nN C (lv' := [(2, .null), (0, .ref (gad G 9 0)), (1, .int x1)]) dX9_wipe_5 rfl (by decide) rfl ?_
    refine w_aload_nN C 0 dX9_wipe_6 rfl rfl ?_
    refine w_ifnonnullN C dX9_wipe_7 ?_
    refine w_bipush C dX9_wipe_10 kc_b_m2 ?_
    exact ret_I C HT hw dX9_wipe_12
  · replace hw := hw.2 j2 rfl
    refine w_astore_n C (lv' := [(2, .ref (gad G 8 j2)), (0, .ref (gad G 9 0)), (1, .int x1)]) dX9_wipe_5 rfl (by decide) rfl ?_
    refine w_aload_n C 0 dX9_wipe_6 rfl rfl ?_
    refine w_ifnonnull C dX9_wipe_7 (tgt := 13) rfl ?_
    refine w_aload_n C 1 dX9_wipe_13 rfl rfl ?_
    refine w_iconst C dX9_wipe_14 kc_i_m1 ?_
    refine pf_X9_73 C (Nat.le_of_ble_eq_true rfl) dX9_wipe_15 (w_mem fun M4 eM4 => ?_)
    replace hw := hw M4 eM4
    refine w_aload_n C 0 dX9_wipe_18 rfl rfl ?_
    refine back_I (run_V C HR mt_X8_empty (ci := 8) rfl (by decide) hj2 gw385 gw386 gw384 (by decide) rfl (Nat.le_of_ble_eq_true rfl) dX9_wipe_19 (As := []) rfl (c_X8_empty j2 hj2 _ _ hw)) (fun r6 M5 hw => ?_)
    exact ret_I C HT hw dX9_wipe_22
set_option maxRecDepth 100000 in
set_option maxHeartbeats 4000000 in
theorem c_X9_fault {G : GG} {n : Nat} {l : Launch} (x1 : Int32)  (M : Mem) (Q : Int32 → Mem → Prop) (hw : wp_X9_fault x1 M Q) : Ct G n l yX9_fault cX9_fault 3 (some .int) 7 160 [.ref (gad G 9 0), .int x1] M (Qi G n Q) := by
  refine ct_of (by decide) (Nat.le_of_ble_eq_true rfl) (lv := [(0, .ref (gad G 9 0)), (1, .int x1)]) rfl (fun E C HR HT hE => ?_)
  replace C : Cx G n E RX9 cX9_fault 3 := C
  refine w_aload_n C 0 dX9_fault_0 rfl rfl ?_
  refine w_iload_n C 1 dX9_fault_1 rfl rfl ?_
  refine back_R (run_V C HR mt_X9_versionAt (ci := 9) rfl (by decide) (Nat.le_of_ble_eq_true rfl) gw374 gw0 gw372 (by decide) rfl (Nat.le_of_ble_eq_true rfl) dX9_fault_2 (As := [.int x1]) rfl (c_X9_versionAt x1  _ _ hw)) (fun M1 hw => ?_) (fun j2 M1 hj2 hw => ?_)
  · replace hw := hw.1 rfl
    refine w_astore_nN C (lv' := [(2, .null), (0, .ref (gad G 9 0)), (1, .int x1)]) dX9_fault_5 rfl (by decide) rfl ?_
    refine w_aload_nN C 0 dX9_fault_6 rfl rfl ?_
    refine w_ifnonnullN C dX9_fault_7 ?_
    refine w_bipush C dX9_fault_10 kc_b_m2 ?_
    exact ret_I C HT hw dX9_fault_12
  · replace hw := hw.2 j2 rfl
    refine w_astore_n C (lv' := [(2, .ref (gad G 8 j2)), (0, .ref (gad G 9 0)), (1, .int x1)]) dX9_fault_5 rfl (by decide) rfl ?_
    refine w_aload_n C 0 dX9_fault_6 rfl rfl ?_
    refine w_ifnonnull C dX9_fault_7 (tgt := 13) rfl ?_
    refine w_aload_n C 0 dX9_fault_13 rfl rfl ?_
    refine back_V (run_V C HR mt_X8_read (ci := 8) rfl (by decide) hj2 gw393 gw394 gw392 (by decide) rfl (Nat.le_of_ble_eq_true rfl) dX9_fault_14 (As := []) rfl (c_X8_read j2 hj2 _ _ hw)) (fun M4 hw => ?_)
    refine w_aload_n C 0 dX9_fault_17 rfl rfl ?_
    refine gf_X9_105 C hj2 dX9_fault_18 ?_
    exact ret_I C HT hw dX9_fault_21
set_option maxRecDepth 100000 in
set_option maxHeartbeats 4000000 in
theorem c_X9_acts {G : GG} {n : Nat} {l : Launch} (x1 : Int32) (x2 : Int32)  (M : Mem) (Q : Int32 → Mem → Prop) (hw : wp_X9_acts x1 x2 M Q) : Ct G n l yX9_acts cX9_acts 4 (some .int) 7 160 [.ref (gad G 9 0), .int x1, .int x2] M (Qi G n Q) := by
  refine ct_of (by decide) (Nat.le_of_ble_eq_true rfl) (lv := [(0, .ref (gad G 9 0)), (1, .int x1), (2, .int x2)]) rfl (fun E C HR HT hE => ?_)
  replace C : Cx G n E RX9 cX9_acts 4 := C
  refine w_aload_n C 0 dX9_acts_0 rfl rfl ?_
  refine w_iload_n C 1 dX9_acts_1 rfl rfl ?_
  refine back_R (run_V C HR mt_X9_versionAt (ci := 9) rfl (by decide) (Nat.le_of_ble_eq_true rfl) gw374 gw0 gw372 (by decide) rfl (Nat.le_of_ble_eq_true rfl) dX9_acts_2 (As := [.int x1]) rfl (c_X9_versionAt x1  _ _ hw)) (fun M1 hw => ?_) (fun j2 M1 hj2 hw => ?_)
  · replace hw := hw.1 rfl
    refine w_astore_nN C (lv' := [(3, .null), (0, .ref (gad G 9 0)), (1, .int x1), (2, .int x2)]) dX9_acts_5 rfl (by decide) rfl ?_
    refine w_aload_nN C 0 dX9_acts_6 rfl rfl ?_
    refine w_ifnullN C dX9_acts_7 (tgt := 20) rfl ?_
    refine w_bipush C dX9_acts_20 kc_b_m2 ?_
    exact ret_I C HT hw dX9_acts_22
  · replace hw := hw.2 j2 rfl
    refine w_astore_n C (lv' := [(3, .ref (gad G 8 j2)), (0, .ref (gad G 9 0)), (1, .int x1), (2, .int x2)]) dX9_acts_5 rfl (by decide) rfl ?_
    refine w_aload_n C 0 dX9_acts_6 rfl rfl ?_
    refine w_ifnull C dX9_acts_7 ?_
    refine w_iload_n C 3 dX9_acts_10 rfl rfl ?_
    refine w_if_lt C dX9_acts_11 (tgt := 20) rfl (fun c4 => ?_) (fun c4 => ?_)
    · replace hw := hw.1 c4
      refine w_bipush C dX9_acts_20 kc_b_m2 ?_
      exact ret_I C HT hw dX9_acts_22
    · replace hw := hw.2 c4
      refine w_iload_n C 3 dX9_acts_14 rfl rfl ?_
      refine w_bipush C dX9_acts_15 kc_b_16 ?_
      refine w_icmp_lt C dX9_acts_17 (tgt := 23) rfl (fun c5 => ?_) (fun c5 => ?_)
      · replace hw := hw.1 c5
        refine w_aload_n C 0 dX9_acts_23 rfl rfl ?_
        refine back_V (run_V C HR mt_X8_read (ci := 8) rfl (by decide) hj2 gw393 gw394 gw392 (by decide) rfl (Nat.le_of_ble_eq_true rfl) dX9_acts_24 (As := []) rfl (c_X8_read j2 hj2 _ _ hw)) (fun M6 hw => ?_)
        refine w_aload_n C 0 dX9_acts_27 rfl rfl ?_
        refine gf_X9_108 C hj2 dX9_acts_28 ?_
        refine w_iload_n C 3 dX9_acts_31 rfl rfl ?_
        obtain ⟨b7, hw⟩ := hw
        refine v_iald C ak_46 rfl hj2 b7 dX9_acts_32 ?_
        exact ret_I C HT hw dX9_acts_33
      · replace hw := hw.2 c5
        refine w_bipush C dX9_acts_20 kc_b_m2 ?_
        exact ret_I C HT hw dX9_acts_22
