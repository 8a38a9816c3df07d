set_option maxRecDepth 100000 in
set_option maxHeartbeats 4000000 in
theorem c_X10_comesIn {G : GG} {n : Nat} {l : Launch} (x1 : Int32) (x2 : Int32) (x3 : Int32)  (M : Mem) (Q : Int32 → Mem → Prop) (hw : wp_X10_comesIn x1 x2 x3 M Q) : Ct G n l yX10_comesIn cX10_comesIn 8 (some .boolean) 0 0 [.ref (gad G 10 0), .int x1, .int x2, .int x3] M (Qi G n Q) := by
  refine ct_of (by decide) (Nat.le_of_ble_eq_true rfl) (lv := [(0, .ref (gad G 10 0)), (1, .int x1), (2, .int x2), (3, .int x3)]) rfl (fun E C HR HT hE => ?_)
  replace C : Cx G n E RX10 cX10_comesIn 8 := C
  refine w_iconst C dX10_comesIn_0 kc_i_0 ?_
  refine w_istore C (lv' := [(4, .int 0), (0, .ref (gad G 10 0)), (1, .int x1), (2, .int x2), (3, .int x3)]) dX10_comesIn_1 (by decide) rfl ?_
  obtain ⟨f1, hw⟩ := hw
  exact w_sub [1, 2, 3, 4, 0] rfl (s_X10_comesIn_3 C HR HT  f1 x1 x2 x3 0  _ hw)
set_option maxRecDepth 100000 in
set_option maxHeartbeats 4000000 in
theorem s_X10_like_125 {G : GG} {n : Nat} {E : EE} (C : Cx G n E RX10 cX10_like 5) (HR : RM E 2 43) (HT : RT E (some .int)) {Q : Int32 → Mem → Prop} {K74 : Int32 → Int32 → Int32 → Int32 → Mem → Prop} (g74 : ∀ (x1 : Int32) (x2 : Int32) (x3 : Int32) (x4 : Int32)  (M : Mem), K74 x1 x2 x3 x4 M → WW G n E 5 (QE G E (Qi G n Q)) 74 [(0, .ref (gad G 10 0)), (1, .int x1), (2, .int x2), (3, .int x3), (4, .int x4)] [] M) : ∀ (x1 : Int32) (x2 : Int32) (x4 : Int32) (y0 : Int32) (y1 : Int32)  (M : Mem), w_X10_like_125 Q K74 x1 x2 x4 y0 y1 M → WW G n E 5 (QE G E (Qi G n Q)) 125 [(0, .ref (gad G 10 0)), (1, .int x1), (2, .int x2), (4, .int x4)] [.int y0, .int y1] M := by
  intro x1 x2 x4 y0 y1 M hw
  refine w_ior C dX10_like_125 ?_
  refine w_istore_nV C dX10_like_126 rfl (by decide) (fun a14 ea14 => w_lv (lv' := [(3, .int a14), (0, .ref (gad G 10 0)), (1, .int x1), (2, .int x2), (4, .int x4)]) rfl ?_)
  replace hw := hw a14 ea14
  refine w_iincV C (lv' := [(4, .int (x4 + 1)), (3, .int a14), (0, .ref (gad G 10 0)), (1, .int x1), (2, .int x2)]) 4 dX10_like_127 kc_i_1 rfl (by decide) rfl ?_
  refine w_goto C dX10_like_130 (tgt := 74) rfl ?_
  exact w_sub [2, 3, 4, 1, 0] rfl (g74 x1 x2 a14 (x4 + 1)  _ hw)
set_option maxRecDepth 100000 in
set_option maxHeartbeats 4000000 in
theorem s_X10_like_124 {G : GG} {n : Nat} {E : EE} (C : Cx G n E RX10 cX10_like 5) (HR : RM E 2 43) (HT : RT E (some .int)) {Q : Int32 → Mem → Prop} {K74 : Int32 → Int32 → Int32 → Int32 → Mem → Prop} (g74 : ∀ (x1 : Int32) (x2 : Int32) (x3 : Int32) (x4 : Int32)  (M : Mem), K74 x1 x2 x3 x4 M → WW G n E 5 (QE G E (Qi G n Q)) 74 [(0, .ref (gad G 10 0)), (1, .int x1), (2, .int x2), (3, .int x3), (4, .int x4)] [] M) : ∀ (x1 : Int32) (x2 : Int32) (x4 : Int32) (y0 : Int32)  (M : Mem), w_X10_like_124 Q K74 x1 x2 x4 y0 M → WW G n E 5 (QE G E (Qi G n Q)) 124 [(0, .ref (gad G 10 0)), (1, .int x1), (2, .int x2), (4, .int x4)] [.int y0] M := by
  intro x1 x2 x4 y0 M hw
  refine w_iconst C dX10_like_124 kc_i_0 ?_
  exact w_sub [0, 1, 2, 3] rfl (s_X10_like_125 C HR HT g74 x1 x2 x4 0 y0  _ hw)
set_option maxRecDepth 100000 in
set_option maxHeartbeats 4000000 in
theorem s_X10_like_74 {G : GG} {n : Nat} {E : EE} (C : Cx G n E RX10 cX10_like 5) (HR : RM E 2 43) (HT : RT E (some .int)) {Q : Int32 → Mem → Prop}  : ∀ (f : Nat) (x1 : Int32) (x2 : Int32) (x3 : Int32) (x4 : Int32)  (M : Mem), w_X10_like_74 Q  f x1 x2 x3 x4 M → WW G n E 5 (QE G E (Qi G n Q)) 74 [(0, .ref (gad G 10 0)), (1, .int x1), (2, .int x2), (3, .int x3), (4, .int x4)] [] M := by
  intro f
  induction f with
  | zero => intro x1 x2 x3 x4 M hw; exact hw.elim
  | succ f ih =>
    intro x1 x2 x3 x4 M hw
    refine w_iload C 4 dX10_like_74 rfl ?_
    refine w_aload_n C 0 dX10_like_76 rfl rfl ?_
    refine gf_X10_229 C (Nat.le_of_ble_eq_true rfl) dX10_like_77 ?_
    refine w_icmp_ge C dX10_like_80 (tgt := 133) rfl (fun c12 => ?_) (fun c12 => ?_)
    · replace hw := hw.1 c12
      refine w_iload_n C 3 dX10_like_133 rfl rfl ?_
      exact ret_I C HT hw dX10_like_134
    · replace hw := hw.2 c12
      refine w_iload_n C 3 dX10_like_83 rfl rfl ?_
      refine w_iload C 4 dX10_like_84 rfl ?_
      refine w_iload_n C 1 dX10_like_86 rfl rfl ?_
      refine w_icmp_eq C dX10_like_87 (tgt := 124) rfl (fun c13 => ?_) (fun c13 => ?_)
      · replace hw := hw.1 c13
        exact w_sub [0, 1, 2, 4] rfl (s_X10_like_124 C HR HT ih x1 x2 x4 x3  _ hw)
      · replace hw := hw.2 c13
        refine w_aload_n C 0 dX10_like_90 rfl rfl ?_
        refine gf_X10_44 C (Nat.le_of_ble_eq_true rfl) dX10_like_91 ?_
        refine w_iload C 4 dX10_like_94 rfl ?_
        obtain ⟨b15, hw⟩ := hw
        refine v_iald C ak_64 rfl (Nat.le_of_ble_eq_true rfl) b15 dX10_like_96 ?_
        refine w_aload_n C 0 dX10_like_97 rfl rfl ?_
        refine gf_X10_44 C (Nat.le_of_ble_eq_true rfl) dX10_like_98 ?_
        refine w_iload_n C 1 dX10_like_101 rfl rfl ?_
        obtain ⟨b16, hw⟩ := hw
        refine v_iald C ak_64 rfl (Nat.le_of_ble_eq_true rfl) b16 dX10_like_102 ?_
        refine w_icmp_ne C dX10_like_103 (tgt := 124) rfl (fun c17 => ?_) (fun c17 => ?_)
        · replace hw := hw.2 c17
          exact w_sub [0, 1, 2, 4] rfl (s_X10_like_124 C HR HT ih x1 x2 x4 x3  _ hw)
        · replace hw := hw.1 c17
          refine w_aload_n C 0 dX10_like_106 rfl rfl ?_
          refine w_iload C 4 dX10_like_107 rfl ?_
          refine w_iload_n C 1 dX10_like_109 rfl rfl ?_
          refine w_iload_n C 2 dX10_like_110 rfl rfl ?_
          refine back_I (run_V C HR mt_X10_comesIn (ci := 10) rfl (by decide) (Nat.le_of_ble_eq_true rfl) gw1389 gw66 gw1387 (by decide) rfl (Nat.le_of_ble_eq_true rfl) dX10_like_111 (As := [.int x4, .int x1, .int x2]) rfl (c_X10_comesIn x4 x1 x2  _ _ hw)) (fun r19 M18 hw => ?_)
          refine w_if_eq C dX10_like_114 (tgt := 124) rfl (fun c20 => ?_) (fun c20 => ?_)
          · replace hw := hw.1 c20
            exact w_sub [0, 1, 2, 4] rfl (s_X10_like_124 C HR HT ih x1 x2 x4 x3  _ hw)
          · replace hw := hw.2 c20
            refine w_iconst C dX10_like_117 kc_i_1 ?_
            refine w_iload C 4 dX10_like_118 rfl ?_
            refine w_ishl C dX10_like_120 ?_
            refine w_goto C dX10_like_121 (tgt := 125) rfl ?_
            exact w_sub [0, 1, 2, 4] rfl (s_X10_like_125 C HR HT ih x1 x2 x4 (1 <<< (x4 &&& 31)) x3  _ hw)
set_option maxRecDepth 100000 in
set_option maxHeartbeats 4000000 in
theorem s_X10_like_33 {G : GG} {n : Nat} {E : EE} (C : Cx G n E RX10 cX10_like 5) (HR : RM E 2 43) (HT : RT E (some .int)) {Q : Int32 → Mem → Prop}  : ∀ (f : Nat) (x1 : Int32) (x2 : Int32) (x3 : Int32)  (M : Mem), w_X10_like_33 Q  f x1 x2 x3 M → WW G n E 5 (QE G E (Qi G n Q)) 33 [(0, .ref (gad G 10 0)), (1, .int x1), (2, .int x2), (3, .int x3)] [] M := by
  intro f
  induction f with
  | zero => intro x1 x2 x3 M hw; exact hw.elim
  | succ f ih =>
    intro x1 x2 x3 M hw
    refine w_iload_n C 3 dX10_like_33 rfl rfl ?_
    refine w_iload_n C 2 dX10_like_34 rfl rfl ?_
    refine w_icmp_gt C dX10_like_35 (tgt := 69) rfl (fun c10 => ?_) (fun c10 => ?_)
    · replace hw := hw.1 c10
      refine w_iconst C dX10_like_69 kc_i_0 ?_
      refine w_istore_n C (lv' := [(3, .int 0), (0, .ref (gad G 10 0)), (1, .int x1), (2, .int x2)]) dX10_like_70 rfl (by decide) rfl ?_
      refine w_iconst C dX10_like_71 kc_i_0 ?_
      refine w_istore C (lv' := [(4, .int 0), (3, .int 0), (0, .ref (gad G 10 0)), (1, .int x1), (2, .int x2)]) dX10_like_72 (by decide) rfl ?_
      obtain ⟨f11, hw⟩ := hw
      exact w_sub [2, 3, 4, 1, 0] rfl (s_X10_like_74 C HR HT  f11 x1 x2 0 0  _ hw)
    · replace hw := hw.2 c10
      refine w_aload_n C 0 dX10_like_38 rfl rfl ?_
      refine gf_X10_50 C (Nat.le_of_ble_eq_true rfl) dX10_like_39 ?_
      refine w_bipush C dX10_like_42 kc_b_12 ?_
      refine w_iload_n C 1 dX10_like_44 rfl rfl ?_
      refine w_imul C dX10_like_45 ?_
      refine w_aload_n C 0 dX10_like_46 rfl rfl ?_
      refine gf_X10_47 C (Nat.le_of_ble_eq_true rfl) dX10_like_47 ?_
      refine w_iload_n C 1 dX10_like_50 rfl rfl ?_
      obtain ⟨b21, hw⟩ := hw
      refine v_iald C ak_65 rfl (Nat.le_of_ble_eq_true rfl) b21 dX10_like_51 ?_
      refine w_iadd C dX10_like_52 ?_
      refine w_iload_n C 3 dX10_like_53 rfl rfl ?_
      refine w_isub C dX10_like_54 ?_
      obtain ⟨b22, hw⟩ := hw
      refine v_iald C ak_66 rfl (Nat.le_of_ble_eq_true rfl) b22 dX10_like_55 ?_
      refine w_iconst C dX10_like_56 kc_i_m1 ?_
      refine w_icmp_ne C dX10_like_57 (tgt := 63) rfl (fun c23 => ?_) (fun c23 => ?_)
      · replace hw := hw.2 c23
        refine w_iincV C (lv' := [(3, .int (x3 + 1)), (0, .ref (gad G 10 0)), (1, .int x1), (2, .int x2)]) 3 dX10_like_63 kc_i_1 rfl (by decide) rfl ?_
        refine w_goto C dX10_like_66 (tgt := 33) rfl ?_
        exact w_sub [1, 2, 3, 0] rfl (ih x1 x2 (x3 + 1)  _ hw)
      · replace hw := hw.1 c23
        refine w_bipush C dX10_like_60 kc_b_m3 ?_
        exact ret_I C HT hw dX10_like_62
set_option maxRecDepth 100000 in
set_option maxHeartbeats 4000000 in
theorem c_X10_like {G : GG} {n : Nat} {l : Launch} (x1 : Int32) (x2 : Int32)  (M : Mem) (Q : Int32 → Mem → Prop) (hw : wp_X10_like x1 x2 M Q) : Ct G n l yX10_like cX10_like 5 (some .int) 2 43 [.ref (gad G 10 0), .int x1, .int x2] M (Qi G n Q) := by
  refine ct_of (by decide) (Nat.le_of_ble_eq_true rfl) (lv := [(0, .ref (gad G 10 0)), (1, .int x1), (2, .int x2)]) rfl (fun E C HR HT hE => ?_)
  replace C : Cx G n E RX10 cX10_like 5 := C
  refine w_aload_n C 0 dX10_like_0 rfl rfl ?_
  refine w_iload_n C 1 dX10_like_1 rfl rfl ?_
  refine back_I (run_V C HR mt_X10_isCounter (ci := 10) rfl (by decide) (Nat.le_of_ble_eq_true rfl) gw1306 gw54 gw1304 (by decide) rfl (Nat.le_of_ble_eq_true rfl) dX10_like_2 (As := [.int x1]) rfl (c_X10_isCounter x1  _ _ hw)) (fun r2 M1 hw => ?_)
  refine w_if_eq C dX10_like_5 (tgt := 28) rfl (fun c3 => ?_) (fun c3 => ?_)
  · replace hw := hw.1 c3
    refine w_bipush C dX10_like_28 kc_b_m2 ?_
    exact ret_I C HT hw dX10_like_30
  · replace hw := hw.2 c3
    refine w_iload_n C 2 dX10_like_8 rfl rfl ?_
    refine w_iconst C dX10_like_9 kc_i_1 ?_
    refine w_bipush C dX10_like_10 kc_b_12 ?_
    refine back_I (run_S C HR mt_X10_in gw1179 gw1178 (by decide) rfl (Nat.le_of_ble_eq_true rfl) dX10_like_12 (As := [.int x2, .int 1, .int 12]) rfl (c_X10_in x2 1 12  _ _ hw)) (fun r5 M4 hw => ?_)
    refine w_if_eq C dX10_like_15 (tgt := 28) rfl (fun c6 => ?_) (fun c6 => ?_)
    · replace hw := hw.1 c6
      refine w_bipush C dX10_like_28 kc_b_m2 ?_
      exact ret_I C HT hw dX10_like_30
    · replace hw := hw.2 c6
      refine w_iload_n C 2 dX10_like_18 rfl rfl ?_
      refine w_aload_n C 0 dX10_like_19 rfl rfl ?_
      refine gf_X10_47 C (Nat.le_of_ble_eq_true rfl) dX10_like_20 ?_
      refine w_iload_n C 1 dX10_like_23 rfl rfl ?_
      obtain ⟨b7, hw⟩ := hw
      refine v_iald C ak_65 rfl (Nat.le_of_ble_eq_true rfl) b7 dX10_like_24 ?_
      refine w_icmp_le C dX10_like_25 (tgt := 31) rfl (fun c8 => ?_) (fun c8 => ?_)
      · replace hw := hw.1 c8
        refine w_iconst C dX10_like_31 kc_i_1 ?_
        refine w_istore_n C (lv' := [(3, .int 1), (0, .ref (gad G 10 0)), (1, .int x1), (2, .int x2)]) dX10_like_32 rfl (by decide) rfl ?_
        obtain ⟨f9, hw⟩ := hw
        exact w_sub [1, 2, 3, 0] rfl (s_X10_like_33 C HR HT  f9 x1 x2 1  _ hw)
      · replace hw := hw.2 c8
        refine w_bipush C dX10_like_28 kc_b_m2 ?_
        exact ret_I C HT hw dX10_like_30
set_option maxRecDepth 100000 in
set_option maxHeartbeats 4000000 in
theorem c_X10_pay {G : GG} {n : Nat} {l : Launch} (x1 : Int32) (x2 : Int32) (x3 : Int32)  (M : Mem) (Q : Int32 → Mem → Prop) (hw : wp_X10_pay x1 x2 x3 M Q) : Ct G n l yX10_pay cX10_pay 4 (some .int) 2 43 [.ref (gad G 10 0), .int x1, .int x2, .int x3] M (Qi G n Q) := by
  refine ct_of (by decide) (Nat.le_of_ble_eq_true rfl) (lv := [(0, .ref (gad G 10 0)), (1, .int x1), (2, .int x2), (3, .int x3)]) rfl (fun E C HR HT hE => ?_)
  replace C : Cx G n E RX10 cX10_pay 4 := C
  refine w_aload_n C 0 dX10_pay_0 rfl rfl ?_
  refine w_iload_n C 1 dX10_pay_1 rfl rfl ?_
  refine back_I (run_V C HR mt_X10_isCounter (ci := 10) rfl (by decide) (Nat.le_of_ble_eq_true rfl) gw1306 gw54 gw1304 (by decide) rfl (Nat.le_of_ble_eq_true rfl) dX10_pay_2 (As := [.int x1]) rfl (c_X10_isCounter x1  _ _ hw)) (fun r2 M1 hw => ?_)
  refine w_if_eq C dX10_pay_5 (tgt := 30) rfl (fun c3 => ?_) (fun c3 => ?_)
  · replace hw := hw.1 c3
    refine w_bipush C dX10_pay_30 kc_b_m2 ?_
    exact ret_I C HT hw dX10_pay_32
  · replace hw := hw.2 c3
    refine w_iload_n C 2 dX10_pay_8 rfl rfl ?_
    refine w_iconst C dX10_pay_9 kc_i_0 ?_
    refine w_sipush C dX10_pay_10 kc_s_399 ?_
    refine back_I (run_S C HR mt_X10_in gw1179 gw1178 (by decide) rfl (Nat.le_of_ble_eq_true rfl) dX10_pay_13 (As := [.int x2, .int 0, .int 399]) rfl (c_X10_in x2 0 399  _ _ hw)) (fun r5 M4 hw => ?_)
    refine w_if_eq C dX10_pay_16 (tgt := 30) rfl (fun c6 => ?_) (fun c6 => ?_)
    · replace hw := hw.1 c6
      refine w_bipush C dX10_pay_30 kc_b_m2 ?_
      exact ret_I C HT hw dX10_pay_32
    · replace hw := hw.2 c6
      refine w_iload_n C 3 dX10_pay_19 rfl rfl ?_
      refine w_iconst C dX10_pay_20 kc_i_1 ?_
      refine w_sipush C dX10_pay_21 kc_s_1000 ?_
      refine back_I (run_S C HR mt_X10_in gw1179 gw1178 (by decide) rfl (Nat.le_of_ble_eq_true rfl) dX10_pay_24 (As := [.int x3, .int 1, .int 1000]) rfl (c_X10_in x3 1 1000  _ _ hw)) (fun r8 M7 hw => ?_)
      refine w_if_ne C dX10_pay_27 (tgt := 33) rfl (fun c9 => ?_) (fun c9 => ?_)
      · replace hw := hw.2 c9
        refine w_aload_n C 0 dX10_pay_33 rfl rfl ?_
        refine gf_X10_274 C (Nat.le_of_ble_eq_true rfl) dX10_pay_34 ?_
        refine w_bipush C dX10_pay_37 kc_b_40 ?_
        refine w_icmp_ne C dX10_pay_39 (tgt := 45) rfl (fun c10 => ?_) (fun c10 => ?_)
        · replace hw := hw.2 c10
          refine w_aload_n C 0 dX10_pay_45 rfl rfl ?_
          refine gf_X10_77 C (Nat.le_of_ble_eq_true rfl) dX10_pay_46 ?_
          refine w_aload_n C 0 dX10_pay_49 rfl rfl ?_
          refine gf_X10_274 C (Nat.le_of_ble_eq_true rfl) dX10_pay_50 ?_
          refine w_iload_n C 1 dX10_pay_53 rfl rfl ?_
          obtain ⟨b11, hw⟩ := hw
          refine v_iast C ak_75 rfl (Nat.le_of_ble_eq_true rfl) b11 dX10_pay_54 (w_mem fun M12 eM12 => ?_)
          replace hw := hw M12 eM12
          refine w_aload_n C 0 dX10_pay_55 rfl rfl ?_
          refine gf_X10_80 C (Nat.le_of_ble_eq_true rfl) dX10_pay_56 ?_
          refine w_aload_n C 0 dX10_pay_59 rfl rfl ?_
          refine gf_X10_274 C (Nat.le_of_ble_eq_true rfl) dX10_pay_60 ?_
          refine w_iload_n C 2 dX10_pay_63 rfl rfl ?_
          obtain ⟨b13, hw⟩ := hw
          refine v_iast C ak_76 rfl (Nat.le_of_ble_eq_true rfl) b13 dX10_pay_64 (w_mem fun M14 eM14 => ?_)
          replace hw := hw M14 eM14
          refine w_aload_n C 0 dX10_pay_65 rfl rfl ?_
          refine gf_X10_83 C (Nat.le_of_ble_eq_true rfl) dX10_pay_66 ?_
          refine w_aload_n C 0 dX10_pay_69 rfl rfl ?_
          refine gf_X10_274 C (Nat.le_of_ble_eq_true rfl) dX10_pay_70 ?_
          refine w_iload_n C 3 dX10_pay_73 rfl rfl ?_
          obtain ⟨b15, hw⟩ := hw
          refine v_iast C ak_77 rfl (Nat.le_of_ble_eq_true rfl) b15 dX10_pay_74 (w_mem fun M16 eM16 => ?_)
          replace hw := hw M16 eM16
          refine w_aload_n C 0 dX10_pay_75 rfl rfl ?_
          refine w_dup C dX10_pay_76 rfl ?_
          refine gf_X10_274 C (Nat.le_of_ble_eq_true rfl) dX10_pay_77 ?_
          refine w_iconst C dX10_pay_80 kc_i_1 ?_
          refine w_iadd C dX10_pay_81 ?_
          refine pf_X10_274 C (Nat.le_of_ble_eq_true rfl) dX10_pay_82 (w_mem fun M17 eM17 => ?_)
          replace hw := hw M17 eM17
          refine w_aload_n C 0 dX10_pay_85 rfl rfl ?_
          refine gf_X10_274 C (Nat.le_of_ble_eq_true rfl) dX10_pay_86 ?_
          exact ret_I C HT hw dX10_pay_89
        · replace hw := hw.1 c10
          refine w_bipush C dX10_pay_42 kc_b_m4 ?_
          exact ret_I C HT hw dX10_pay_44
      · replace hw := hw.1 c9
        refine w_bipush C dX10_pay_30 kc_b_m2 ?_
        exact ret_I C HT hw dX10_pay_32
set_option maxRecDepth 100000 in
set_option maxHeartbeats 4000000 in
theorem c_X10_interest {G : GG} {n : Nat} {l : Launch} (x1 : Int32)  (M : Mem) (Q : Int32 → Mem → Prop) (hw : wp_X10_interest x1 M Q) : Ct G n l yX10_interest cX10_interest 3 (some .int) 1 22 [.ref (gad G 10 0), .int x1] M (Qi G n Q) := by
  refine ct_of (by decide) (Nat.le_of_ble_eq_true rfl) (lv := [(0, .ref (gad G 10 0)), (1, .int x1)]) rfl (fun E C HR HT hE => ?_)
  replace C : Cx G n E RX10 cX10_interest 3 := C
  refine w_iload_n C 1 dX10_interest_0 rfl rfl ?_
  refine w_iconst C dX10_interest_1 kc_i_0 ?_
  refine w_bipush C dX10_interest_2 kc_b_100 ?_
  refine back_I (run_S C HR mt_X10_in gw1179 gw1178 (by decide) rfl (Nat.le_of_ble_eq_true rfl) dX10_interest_4 (As := [.int x1, .int 0, .int 100]) rfl (c_X10_in x1 0 100  _ _ hw)) (fun r2 M1 hw => ?_)
  refine w_if_ne C dX10_interest_7 (tgt := 13) rfl (fun c3 => ?_) (fun c3 => ?_)
  · replace hw := hw.2 c3
    refine w_aload_n C 0 dX10_interest_13 rfl rfl ?_
    refine gf_X10_86 C (Nat.le_of_ble_eq_true rfl) dX10_interest_14 ?_
    refine w_istore_nV C dX10_interest_17 rfl (by decide) (fun a4 ea4 => w_lv (lv' := [(2, .int a4), (0, .ref (gad G 10 0)), (1, .int x1)]) rfl ?_)
    replace hw := hw a4 ea4
    refine w_aload_n C 1 dX10_interest_18 rfl rfl ?_
    refine w_iload_n C 2 dX10_interest_19 rfl rfl ?_
    refine pf_X10_86 C (Nat.le_of_ble_eq_true rfl) dX10_interest_20 (w_mem fun M5 eM5 => ?_)
    replace hw := hw M5 eM5
    refine w_iload_n C 0 dX10_interest_23 rfl rfl ?_
    exact ret_I C HT hw dX10_interest_24
  · replace hw := hw.1 c3
    refine w_bipush C dX10_interest_10 kc_b_m2 ?_
    exact ret_I C HT hw dX10_interest_12
set_option maxRecDepth 100000 in
set_option maxHeartbeats 4000000 in
theorem s_X10_isOwed_12 {G : GG} {n : Nat} {E : EE} (C : Cx G n E RX10 cX10_isOwed 3) (HR : RM E 8 181) (HT : RT E (some .boolean)) {Q : Int32 → Mem → Prop}  : ∀ (f : Nat) (x1 : Int32) (x2 : Int32)  (M : Mem), w_X10_isOwed_12 Q  f x1 x2 M → WW G n E 3 (QE G E (Qi G n Q)) 12 [(0, .ref (gad G 10 0)), (1, .int x1), (2, .int x2)] [] M := by
  intro f
  induction f with
  | zero => intro x1 x2 M hw; exact hw.elim
  | succ f ih =>
    intro x1 x2 M hw
    refine w_iload_n C 2 dX10_isOwed_12 rfl rfl ?_
    refine w_aload_n C 0 dX10_isOwed_13 rfl rfl ?_
    refine w_iload_n C 1 dX10_isOwed_14 rfl rfl ?_
    refine back_I (run_V C HR mt_X10_fillMany (ci := 10) rfl (by decide) (Nat.le_of_ble_eq_true rfl) gw1346 gw59 gw1344 (by decide) rfl (Nat.le_of_ble_eq_true rfl) dX10_isOwed_15 (As := [.int x1]) rfl (c_X10_fillMany x1  _ _ hw)) (fun r6 M5 hw => ?_)
    refine w_icmp_ge C dX10_isOwed_18 (tgt := 38) rfl (fun c7 => ?_) (fun c7 => ?_)
    · replace hw := hw.1 c7
      refine w_iconst C dX10_isOwed_38 kc_i_0 ?_
      exact ret_Z C HT rfl hw dX10_isOwed_39
    · replace hw := hw.2 c7
      refine w_aload_n C 0 dX10_isOwed_21 rfl rfl ?_
      refine w_iload_n C 1 dX10_isOwed_22 rfl rfl ?_
      refine w_iload_n C 2 dX10_isOwed_23 rfl rfl ?_
      refine back_I (run_V C HR mt_X10_isClear (ci := 10) rfl (by decide) (Nat.le_of_ble_eq_true rfl) gw1354 gw61 gw1352 (by decide) rfl (Nat.le_of_ble_eq_true rfl) dX10_isOwed_24 (As := [.int x1, .int x2]) rfl (c_X10_isClear x1 x2  _ _ hw)) (fun r9 M8 hw => ?_)
      refine w_if_eq C dX10_isOwed_27 (tgt := 32) rfl (fun c10 => ?_) (fun c10 => ?_)
      · replace hw := hw.1 c10
        refine w_iincV C (lv' := [(2, .int (x2 + 1)), (0, .ref (gad G 10 0)), (1, .int x1)]) 2 dX10_isOwed_32 kc_i_1 rfl (by decide) rfl ?_
        refine w_goto C dX10_isOwed_35 (tgt := 12) rfl ?_
        exact w_sub [1, 2, 0] rfl (ih x1 (x2 + 1)  _ hw)
      · replace hw := hw.2 c10
        refine w_iconst C dX10_isOwed_30 kc_i_1 ?_
        exact ret_Z C HT rfl hw dX10_isOwed_31
set_option maxRecDepth 100000 in
set_option maxHeartbeats 4000000 in
theorem c_X10_isOwed {G : GG} {n : Nat} {l : Launch} (x1 : Int32)  (M : Mem) (Q : Int32 → Mem → Prop) (hw : wp_X10_isOwed x1 M Q) : Ct G n l yX10_isOwed cX10_isOwed 3 (some .boolean) 8 181 [.ref (gad G 10 0), .int x1] M (Qi G n Q) := by
  refine ct_of (by decide) (Nat.le_of_ble_eq_true rfl) (lv := [(0, .ref (gad G 10 0)), (1, .int x1)]) rfl (fun E C HR HT hE => ?_)
  replace C : Cx G n E RX10 cX10_isOwed 3 := C
  refine w_aload_n C 0 dX10_isOwed_0 rfl rfl ?_
  refine w_iload_n C 1 dX10_isOwed_1 rfl rfl ?_
  refine back_I (run_V C HR mt_X10_isShort (ci := 10) rfl (by decide) (Nat.le_of_ble_eq_true rfl) gw1330 gw58 gw1328 (by decide) rfl (Nat.le_of_ble_eq_true rfl) dX10_isOwed_2 (As := [.int x1]) rfl (c_X10_isShort x1  _ _ hw)) (fun r2 M1 hw => ?_)
  refine w_if_ne C dX10_isOwed_5 (tgt := 10) rfl (fun c3 => ?_) (fun c3 => ?_)
  · replace hw := hw.2 c3
    refine w_iconst C dX10_isOwed_10 kc_i_0 ?_
    refine w_istore_n C (lv' := [(2, .int 0), (0, .ref (gad G 10 0)), (1, .int x1)]) dX10_isOwed_11 rfl (by decide) rfl ?_
    obtain ⟨f4, hw⟩ := hw
    exact w_sub [1, 2, 0] rfl (s_X10_isOwed_12 C HR HT  f4 x1 0  _ hw)
  · replace hw := hw.1 c3
    refine w_iconst C dX10_isOwed_8 kc_i_0 ?_
    exact ret_Z C HT rfl hw dX10_isOwed_9
set_option maxRecDepth 100000 in
set_option maxHeartbeats 4000000 in
theorem s_X10_owedOn_86 {G : GG} {n : Nat} {E : EE} (C : Cx G n E RX10 cX10_owedOn 5) (HR : RM E 9 203) (HT : RT E (some .int)) {Q : Int32 → Mem → Prop} {K15 : Int32 → Int32 → Int32 → Int32 → Mem → Prop} (g15 : ∀ (x1 : Int32) (x2 : Int32) (x3 : Int32) (x4 : Int32)  (M : Mem), K15 x1 x2 x3 x4 M → WW G n E 5 (QE G E (Qi G n Q)) 15 [(0, .ref (gad G 10 0)), (1, .int x1), (2, .int x2), (3, .int x3), (4, .int x4)] [] M) : ∀ (x1 : Int32) (x2 : Int32) (x3 : Int32) (x4 : Int32)  (M : Mem), w_X10_owedOn_86 Q K15 x1 x2 x3 x4 M → WW G n E 5 (QE G E (Qi G n Q)) 86 [(0, .ref (gad G 10 0)), (1, .int x1), (2, .int x2), (3, .int x3), (4, .int x4)] [] M := by
  intro x1 x2 x3 x4 M hw
  refine w_iincV C (lv' := [(4, .int (x4 + 1)), (0, .ref (gad G 10 0)), (1, .int x1), (2, .int x2), (3, .int x3)]) 4 dX10_owedOn_86 kc_i_1 rfl (by decide) rfl ?_
  refine w_goto C dX10_owedOn_89 (tgt := 15) rfl ?_
  exact w_sub [1, 2, 3, 4, 0] rfl (g15 x1 x2 x3 (x4 + 1)  _ hw)
set_option maxRecDepth 100000 in
set_option maxHeartbeats 4000000 in
theorem s_X10_owedOn_15 {G : GG} {n : Nat} {E : EE} (C : Cx G n E RX10 cX10_owedOn 5) (HR : RM E 9 203) (HT : RT E (some .int)) {Q : Int32 → Mem → Prop}  : ∀ (f : Nat) (x1 : Int32) (x2 : Int32) (x3 : Int32) (x4 : Int32)  (M : Mem), w_X10_owedOn_15 Q  f x1 x2 x3 x4 M → WW G n E 5 (QE G E (Qi G n Q)) 15 [(0, .ref (gad G 10 0)), (1, .int x1), (2, .int x2), (3, .int x3), (4, .int x4)] [] M := by
  intro f
  induction f with
  | zero => intro x1 x2 x3 x4 M hw; exact hw.elim
  | succ f ih =>
    intro x1 x2 x3 x4 M hw
    refine w_iload C 4 dX10_owedOn_15 rfl ?_
    refine w_aload_n C 0 dX10_owedOn_17 rfl rfl ?_
    refine gf_X10_274 C (Nat.le_of_ble_eq_true rfl) dX10_owedOn_18 ?_
    refine w_icmp_ge C dX10_owedOn_21 (tgt := 92) rfl (fun c5 => ?_) (fun c5 => ?_)
    · replace hw := hw.1 c5
      refine w_iload_n C 3 dX10_owedOn_92 rfl rfl ?_
      exact ret_I C HT hw dX10_owedOn_93
    · replace hw := hw.2 c5
      refine w_aload_n C 0 dX10_owedOn_24 rfl rfl ?_
      refine gf_X10_77 C (Nat.le_of_ble_eq_true rfl) dX10_owedOn_25 ?_
      refine w_iload C 4 dX10_owedOn_28 rfl ?_
      obtain ⟨b6, hw⟩ := hw
      refine v_iald C ak_75 rfl (Nat.le_of_ble_eq_true rfl) b6 dX10_owedOn_30 ?_
      refine w_iload_n C 1 dX10_owedOn_31 rfl rfl ?_
      refine w_icmp_ne C dX10_owedOn_32 (tgt := 86) rfl (fun c7 => ?_) (fun c7 => ?_)
      · replace hw := hw.2 c7
        exact w_sub [0, 1, 2, 3, 4] rfl (s_X10_owedOn_86 C HR HT ih x1 x2 x3 x4  _ hw)
      · replace hw := hw.1 c7
        refine w_aload_n C 0 dX10_owedOn_35 rfl rfl ?_
        refine gf_X10_80 C (Nat.le_of_ble_eq_true rfl) dX10_owedOn_36 ?_
        refine w_iload C 4 dX10_owedOn_39 rfl ?_
        obtain ⟨b8, hw⟩ := hw
        refine v_iald C ak_76 rfl (Nat.le_of_ble_eq_true rfl) b8 dX10_owedOn_41 ?_
        refine w_iload_n C 2 dX10_owedOn_42 rfl rfl ?_
        refine w_icmp_gt C dX10_owedOn_43 (tgt := 86) rfl (fun c9 => ?_) (fun c9 => ?_)
        · replace hw := hw.1 c9
          exact w_sub [0, 1, 2, 3, 4] rfl (s_X10_owedOn_86 C HR HT ih x1 x2 x3 x4  _ hw)
        · replace hw := hw.2 c9
          refine w_iload_n C 3 dX10_owedOn_46 rfl rfl ?_
          refine w_aload_n C 0 dX10_owedOn_47 rfl rfl ?_
          refine gf_X10_83 C (Nat.le_of_ble_eq_true rfl) dX10_owedOn_48 ?_
          refine w_iload C 4 dX10_owedOn_51 rfl ?_
          obtain ⟨b10, hw⟩ := hw
          refine v_iald C ak_77 rfl (Nat.le_of_ble_eq_true rfl) b10 dX10_owedOn_53 ?_
          refine w_aload_n C 0 dX10_owedOn_54 rfl rfl ?_
          refine gf_X10_83 C (Nat.le_of_ble_eq_true rfl) dX10_owedOn_55 ?_
          refine w_iload C 4 dX10_owedOn_58 rfl ?_
          obtain ⟨b11, hw⟩ := hw
          refine v_iald C ak_77 rfl (Nat.le_of_ble_eq_true rfl) b11 dX10_owedOn_60 ?_
          refine w_aload_n C 0 dX10_owedOn_61 rfl rfl ?_
          refine gf_X10_86 C (Nat.le_of_ble_eq_true rfl) dX10_owedOn_62 ?_
          refine w_imul C dX10_owedOn_65 ?_
          refine w_iload_n C 2 dX10_owedOn_66 rfl rfl ?_
          refine w_aload_n C 0 dX10_owedOn_67 rfl rfl ?_
          refine gf_X10_80 C (Nat.le_of_ble_eq_true rfl) dX10_owedOn_68 ?_
          refine w_iload C 4 dX10_owedOn_71 rfl ?_
          obtain ⟨b12, hw⟩ := hw
          refine v_iald C ak_76 rfl (Nat.le_of_ble_eq_true rfl) b12 dX10_owedOn_73 ?_
          refine w_isub C dX10_owedOn_74 ?_
          refine w_bipush C dX10_owedOn_75 kc_b_10 ?_
          obtain ⟨b13, hw⟩ := hw
          refine w_idiv C dX10_owedOn_77 b13 ?_
          refine w_imul C dX10_owedOn_78 ?_
          refine w_sipush C dX10_owedOn_79 kc_s_1000 ?_
          obtain ⟨b14, hw⟩ := hw
          refine w_idiv C dX10_owedOn_82 b14 ?_
          refine w_iadd C dX10_owedOn_83 ?_
          refine w_iadd C dX10_owedOn_84 ?_
          refine w_istore_nV C dX10_owedOn_85 rfl (by decide) (fun a15 ea15 => w_lv (lv' := [(3, .int a15), (0, .ref (gad G 10 0)), (1, .int x1), (2, .int x2), (4, .int x4)]) rfl ?_)
          replace hw := hw a15 ea15
          exact w_sub [1, 2, 3, 0, 4] rfl (s_X10_owedOn_86 C HR HT ih x1 x2 a15 x4  _ hw)
set_option maxRecDepth 100000 in
set_option maxHeartbeats 4000000 in
theorem c_X10_owedOn {G : GG} {n : Nat} {l : Launch} (x1 : Int32) (x2 : Int32)  (M : Mem) (Q : Int32 → Mem → Prop) (hw : wp_X10_owedOn x1 x2 M Q) : Ct G n l yX10_owedOn cX10_owedOn 5 (some .int) 9 203 [.ref (gad G 10 0), .int x1, .int x2] M (Qi G n Q) := by
  refine ct_of (by decide) (Nat.le_of_ble_eq_true rfl) (lv := [(0, .ref (gad G 10 0)), (1, .int x1), (2, .int x2)]) rfl (fun E C HR HT hE => ?_)
  replace C : Cx G n E RX10 cX10_owedOn 5 := C
  refine w_aload_n C 0 dX10_owedOn_0 rfl rfl ?_
  refine w_iload_n C 1 dX10_owedOn_1 rfl rfl ?_
  refine back_I (run_V C HR mt_X10_isOwed (ci := 10) rfl (by decide) (Nat.le_of_ble_eq_true rfl) gw1413 gw69 gw1411 (by decide) rfl (Nat.le_of_ble_eq_true rfl) dX10_owedOn_2 (As := [.int x1]) rfl (c_X10_isOwed x1  _ _ hw)) (fun r2 M1 hw => ?_)
  refine w_if_ne C dX10_owedOn_5 (tgt := 10) rfl (fun c3 => ?_) (fun c3 => ?_)
  · replace hw := hw.2 c3
    refine w_iconst C dX10_owedOn_10 kc_i_0 ?_
    refine w_istore_n C (lv' := [(3, .int 0), (0, .ref (gad G 10 0)), (1, .int x1), (2, .int x2)]) dX10_owedOn_11 rfl (by decide) rfl ?_
    refine w_iconst C dX10_owedOn_12 kc_i_0 ?_
    refine w_istore C (lv' := [(4, .int 0), (3, .int 0), (0, .ref (gad G 10 0)), (1, .int x1), (2, .int x2)]) dX10_owedOn_13 (by decide) rfl ?_
    obtain ⟨f4, hw⟩ := hw
    exact w_sub [2, 3, 4, 1, 0] rfl (s_X10_owedOn_15 C HR HT  f4 x1 x2 0 0  _ hw)
  · replace hw := hw.1 c3
    refine w_iconst C dX10_owedOn_8 kc_i_0 ?_
    exact ret_I C HT hw dX10_owedOn_9
set_option maxRecDepth 100000 in
set_option maxHeartbeats 4000000 in
theorem s_X10_owedAll_4 {G : GG} {n : Nat} {E : EE} (C : Cx G n E RX10 cX10_owedAll 4) (HR : RM E 10 227) (HT : RT E (some .int)) {Q : Int32 → Mem → Prop}  : ∀ (f : Nat) (x1 : Int32) (x2 : Int32) (x3 : Int32)  (M : Mem), w_X10_owedAll_4 Q  f x1 x2 x3 M → WW G n E 4 (QE G E (Qi G n Q)) 4 [(0, .ref (gad G 10 0)), (1, .int x1), (2, .int x2), (3, .int x3)] [] M := by
  intro f
  induction f with
  | zero => intro x1 x2 x3 M hw; exact hw.elim
  | succ f ih =>
    intro x1 x2 x3 M hw
    refine w_iload_n C 3 dX10_owedAll_4 rfl rfl ?_
    refine w_aload_n C 0 dX10_owedAll_5 rfl rfl ?_
    refine gf_X10_229 C (Nat.le_of_ble_eq_true rfl) dX10_owedAll_6 ?_
    refine w_icmp_ge C dX10_owedAll_9 (tgt := 27) rfl (fun c2 => ?_) (fun c2 => ?_)
    · replace hw := hw.1 c2
      refine w_iload_n C 2 dX10_owedAll_27 rfl rfl ?_
      exact ret_I C HT hw dX10_owedAll_28
    · replace hw := hw.2 c2
      refine w_iload_n C 2 dX10_owedAll_12 rfl rfl ?_
      refine w_aload_n C 0 dX10_owedAll_13 rfl rfl ?_
      refine w_iload_n C 3 dX10_owedAll_14 rfl rfl ?_
      refine w_iload_n C 1 dX10_owedAll_15 rfl rfl ?_
      refine back_I (run_V C HR mt_X10_owedOn (ci := 10) rfl (by decide) (Nat.le_of_ble_eq_true rfl) gw1409 gw68 gw1407 (by decide) rfl (Nat.le_of_ble_eq_true rfl) dX10_owedAll_16 (As := [.int x3, .int x1]) rfl (c_X10_owedOn x3 x1  _ _ hw)) (fun r4 M3 hw => ?_)
      refine w_iadd C dX10_owedAll_19 ?_
      refine w_istore_nV C dX10_owedAll_20 rfl (by decide) (fun a5 ea5 => w_lv (lv' := [(2, .int a5), (0, .ref (gad G 10 0)), (1, .int x1), (3, .int x3)]) rfl ?_)
      replace hw := hw a5 ea5
      refine w_iincV C (lv' := [(3, .int (x3 + 1)), (2, .int a5), (0, .ref (gad G 10 0)), (1, .int x1)]) 3 dX10_owedAll_21 kc_i_1 rfl (by decide) rfl ?_
      refine w_goto C dX10_owedAll_24 (tgt := 4) rfl ?_
      exact w_sub [2, 3, 1, 0] rfl (ih x1 a5 (x3 + 1)  _ hw)
set_option maxRecDepth 100000 in
set_option maxHeartbeats 4000000 in
theorem c_X10_owedAll {G : GG} {n : Nat} {l : Launch} (x1 : Int32)  (M : Mem) (Q : Int32 → Mem → Prop) (hw : wp_X10_owedAll x1 M Q) : Ct G n l yX10_owedAll cX10_owedAll 4 (some .int) 10 227 [.ref (gad G 10 0), .int x1] M (Qi G n Q) := by
  refine ct_of (by decide) (Nat.le_of_ble_eq_true rfl) (lv := [(0, .ref (gad G 10 0)), (1, .int x1)]) rfl (fun E C HR HT hE => ?_)
  replace C : Cx G n E RX10 cX10_owedAll 4 := C
  refine w_iconst C dX10_owedAll_0 kc_i_0 ?_
  refine w_istore_n C (lv' := [(2, .int 0), (0, .ref (gad G 10 0)), (1, .int x1)]) dX10_owedAll_1 rfl (by decide) rfl ?_
  refine w_iconst C dX10_owedAll_2 kc_i_0 ?_
  refine w_istore_n C (lv' := [(3, .int 0), (2, .int 0), (0, .ref (gad G 10 0)), (1, .int x1)]) dX10_owedAll_3 rfl (by decide) rfl ?_
  obtain ⟨f1, hw⟩ := hw
  exact w_sub [2, 3, 1, 0] rfl (s_X10_owedAll_4 C HR HT  f1 x1 0 0  _ hw)
set_option maxRecDepth 100000 in
set_option maxHeartbeats 4000000 in
theorem s_X10_owed_13 {G : GG} {n : Nat} {E : EE} (C : Cx G n E RX10 cX10_owed 3) (HR : RM E 11 250) (HT : RT E (some .int)) {Q : Int32 → Mem → Prop}  : ∀ (x1 : Int32) (x2 : Int32)  (M : Mem), w_X10_owed_13 Q  x1 x2 M → WW G n E 3 (QE G E (Qi G n Q)) 13 [(0, .ref (gad G 10 0)), (1, .int x1), (2, .int x2)] [] M := by
  intro x1 x2 M hw
  refine w_iload_n C 2 dX10_owed_13 rfl rfl ?_
  refine w_iconst C dX10_owed_14 kc_i_0 ?_
  refine w_sipush C dX10_owed_15 kc_s_399 ?_
  refine back_I (run_S C HR mt_X10_in gw1179 gw1178 (by decide) rfl (Nat.le_of_ble_eq_true rfl) dX10_owed_18 (As := [.int x2, .int 0, .int 399]) rfl (c_X10_in x2 0 399  _ _ hw)) (fun r3 M2 hw => ?_)
  refine w_if_ne C dX10_owed_21 (tgt := 27) rfl (fun c4 => ?_) (fun c4 => ?_)
  · replace hw := hw.2 c4
    refine w_iload_n C 1 dX10_owed_27 rfl rfl ?_
    refine w_iconst C dX10_owed_28 kc_i_m1 ?_
    refine w_icmp_ne C dX10_owed_29 (tgt := 40) rfl (fun c5 => ?_) (fun c5 => ?_)
    · replace hw := hw.2 c5
      refine w_aload_n C 0 dX10_owed_40 rfl rfl ?_
      refine w_iload_n C 1 dX10_owed_41 rfl rfl ?_
      refine w_iload_n C 2 dX10_owed_42 rfl rfl ?_
      refine back_I (run_V C HR mt_X10_owedOn (ci := 10) rfl (by decide) (Nat.le_of_ble_eq_true rfl) gw1409 gw68 gw1407 (by decide) rfl (Nat.le_of_ble_eq_true rfl) dX10_owed_43 (As := [.int x1, .int x2]) rfl (c_X10_owedOn x1 x2  _ _ hw)) (fun r7 M6 hw => ?_)
      exact ret_I C HT hw dX10_owed_46
    · replace hw := hw.1 c5
      refine w_aload_n C 0 dX10_owed_32 rfl rfl ?_
      refine w_iload_n C 2 dX10_owed_33 rfl rfl ?_
      refine back_I (run_V C HR mt_X10_owedAll (ci := 10) rfl (by decide) (Nat.le_of_ble_eq_true rfl) gw1405 gw67 gw1403 (by decide) rfl (Nat.le_of_ble_eq_true rfl) dX10_owed_34 (As := [.int x2]) rfl (c_X10_owedAll x2  _ _ hw)) (fun r9 M8 hw => ?_)
      refine w_goto C dX10_owed_37 (tgt := 46) rfl ?_
      exact ret_I C HT hw dX10_owed_46
  · replace hw := hw.1 c4
    refine w_bipush C dX10_owed_24 kc_b_m2 ?_
    exact ret_I C HT hw dX10_owed_26
set_option maxRecDepth 100000 in
set_option maxHeartbeats 4000000 in
theorem c_X10_owed {G : GG} {n : Nat} {l : Launch} (x1 : Int32) (x2 : Int32)  (M : Mem) (Q : Int32 → Mem → Prop) (hw : wp_X10_owed x1 x2 M Q) : Ct G n l yX10_owed cX10_owed 3 (some .int) 11 250 [.ref (gad G 10 0), .int x1, .int x2] M (Qi G n Q) := by
  refine ct_of (by decide) (Nat.le_of_ble_eq_true rfl) (lv := [(0, .ref (gad G 10 0)), (1, .int x1), (2, .int x2)]) rfl (fun E C HR HT hE => ?_)
  replace C : Cx G n E RX10 cX10_owed 3 := C
  refine w_iload_n C 1 dX10_owed_0 rfl rfl ?_
  refine w_iconst C dX10_owed_1 kc_i_m1 ?_
  refine w_icmp_eq C dX10_owed_2 (tgt := 13) rfl (fun c1 => ?_) (fun c1 => ?_)
  · replace hw := hw.1 c1
    exact w_sub [0, 1, 2] rfl (s_X10_owed_13 C HR HT  x1 x2  _ hw)
  · replace hw := hw.2 c1
    refine w_aload_n C 0 dX10_owed_5 rfl rfl ?_
    refine w_iload_n C 1 dX10_owed_6 rfl rfl ?_
    refine back_I (run_V C HR mt_X10_isCounter (ci := 10) rfl (by decide) (Nat.le_of_ble_eq_true rfl) gw1306 gw54 gw1304 (by decide) rfl (Nat.le_of_ble_eq_true rfl) dX10_owed_7 (As := [.int x1]) rfl (c_X10_isCounter x1  _ _ hw)) (fun r11 M10 hw => ?_)
    refine w_if_eq C dX10_owed_10 (tgt := 24) rfl (fun c12 => ?_) (fun c12 => ?_)
    · replace hw := hw.1 c12
      refine w_bipush C dX10_owed_24 kc_b_m2 ?_
      exact ret_I C HT hw dX10_owed_26
    · replace hw := hw.2 c12
      exact w_sub [0, 1, 2] rfl (s_X10_owed_13 C HR HT  x1 x2  _ hw)
set_option maxRecDepth 100000 in
set_option maxHeartbeats 4000000 in
theorem c_X10_judgment {G : GG} {n : Nat} {l : Launch} (x1 : Int32) (x2 : Int32)  (M : Mem) (Q : Int32 → Mem → Prop) (hw : wp_X10_judgment x1 x2 M Q) : Ct G n l yX10_judgment cX10_judgment 3 (some .int) 1 22 [.ref (gad G 10 0), .int x1, .int x2] M (Qi G n Q) := by
  refine ct_of (by decide) (Nat.le_of_ble_eq_true rfl) (lv := [(0, .ref (gad G 10 0)), (1, .int x1), (2, .int x2)]) rfl (fun E C HR HT hE => ?_)
  replace C : Cx G n E RX10 cX10_judgment 3 := C
  refine w_iload_n C 1 dX10_judgment_0 rfl rfl ?_
  refine w_iconst C dX10_judgment_1 kc_i_0 ?_
  refine w_ldcw C dX10_judgment_2 gw1419 ?_
  refine back_I (run_S C HR mt_X10_in gw1179 gw1178 (by decide) rfl (Nat.le_of_ble_eq_true rfl) dX10_judgment_5 (As := [.int x1, .int 0, .int 16777215]) rfl (c_X10_in x1 0 16777215  _ _ hw)) (fun r2 M1 hw => ?_)
  refine w_if_eq C dX10_judgment_8 (tgt := 22) rfl (fun c3 => ?_) (fun c3 => ?_)
  · replace hw := hw.1 c3
    refine w_bipush C dX10_judgment_22 kc_b_m2 ?_
    exact ret_I C HT hw dX10_judgment_24
  · replace hw := hw.2 c3
    refine w_iload_n C 2 dX10_judgment_11 rfl rfl ?_
    refine w_iconst C dX10_judgment_12 kc_i_0 ?_
    refine w_ldcw C dX10_judgment_13 gw1419 ?_
    refine back_I (run_S C HR mt_X10_in gw1179 gw1178 (by decide) rfl (Nat.le_of_ble_eq_true rfl) dX10_judgment_16 (As := [.int x2, .int 0, .int 16777215]) rfl (c_X10_in x2 0 16777215  _ _ hw)) (fun r5 M4 hw => ?_)
    refine w_if_ne C dX10_judgment_19 (tgt := 25) rfl (fun c6 => ?_) (fun c6 => ?_)
    · replace hw := hw.2 c6
      refine w_aload_n C 0 dX10_judgment_25 rfl rfl ?_
      refine gf_X10_287 C (Nat.le_of_ble_eq_true rfl) dX10_judgment_26 ?_
      refine w_bipush C dX10_judgment_29 kc_b_16 ?_
      refine w_icmp_ne C dX10_judgment_31 (tgt := 37) rfl (fun c7 => ?_) (fun c7 => ?_)
      · replace hw := hw.2 c7
        refine w_aload_n C 0 dX10_judgment_37 rfl rfl ?_
        refine gf_X10_90 C (Nat.le_of_ble_eq_true rfl) dX10_judgment_38 ?_
        refine w_aload_n C 0 dX10_judgment_41 rfl rfl ?_
        refine gf_X10_287 C (Nat.le_of_ble_eq_true rfl) dX10_judgment_42 ?_
        refine w_iload_n C 1 dX10_judgment_45 rfl rfl ?_
        obtain ⟨b8, hw⟩ := hw
        refine v_iast C ak_78 rfl (Nat.le_of_ble_eq_true rfl) b8 dX10_judgment_46 (w_mem fun M9 eM9 => ?_)
        replace hw := hw M9 eM9
        refine w_aload_n C 0 dX10_judgment_47 rfl rfl ?_
        refine gf_X10_93 C (Nat.le_of_ble_eq_true rfl) dX10_judgment_48 ?_
        refine w_aload_n C 0 dX10_judgment_51 rfl rfl ?_
        refine gf_X10_287 C (Nat.le_of_ble_eq_true rfl) dX10_judgment_52 ?_
        refine w_iload_n C 2 dX10_judgment_55 rfl rfl ?_
        obtain ⟨b10, hw⟩ := hw
        refine v_iast C ak_79 rfl (Nat.le_of_ble_eq_true rfl) b10 dX10_judgment_56 (w_mem fun M11 eM11 => ?_)
        replace hw := hw M11 eM11
        refine w_aload_n C 0 dX10_judgment_57 rfl rfl ?_
        refine w_dup C dX10_judgment_58 rfl ?_
        refine gf_X10_287 C (Nat.le_of_ble_eq_true rfl) dX10_judgment_59 ?_
        refine w_iconst C dX10_judgment_62 kc_i_1 ?_
        refine w_iadd C dX10_judgment_63 ?_
        refine pf_X10_287 C (Nat.le_of_ble_eq_true rfl) dX10_judgment_64 (w_mem fun M12 eM12 => ?_)
        replace hw := hw M12 eM12
        refine w_aload_n C 0 dX10_judgment_67 rfl rfl ?_
        refine gf_X10_287 C (Nat.le_of_ble_eq_true rfl) dX10_judgment_68 ?_
        refine w_iconst C dX10_judgment_71 kc_i_1 ?_
        refine w_isub C dX10_judgment_72 ?_
        exact ret_I C HT hw dX10_judgment_73
      · replace hw := hw.1 c7
        refine w_bipush C dX10_judgment_34 kc_b_m4 ?_
        exact ret_I C HT hw dX10_judgment_36
    · replace hw := hw.1 c6
      refine w_bipush C dX10_judgment_22 kc_b_m2 ?_
      exact ret_I C HT hw dX10_judgment_24
set_option maxRecDepth 100000 in
set_option maxHeartbeats 4000000 in
theorem s_X10_ground_66 {G : GG} {n : Nat} {E : EE} (C : Cx G n E RX10 cX10_ground 4) (HR : RM E 1 22) (HT : RT E (some .int)) {Q : Int32 → Mem → Prop}  : ∀ (x3 : Int32) (y0 : Int32)  (M : Mem), w_X10_ground_66 Q  x3 y0 M → WW G n E 4 (QE G E (Qi G n Q)) 66 [(3, .int x3)] [.int y0, .ref (gad G 10 0)] M := by
  intro x3 y0 M hw
  refine pf_X10_96 C (Nat.le_of_ble_eq_true rfl) dX10_ground_66 (w_mem fun M7 eM7 => ?_)
  replace hw := hw M7 eM7
  refine w_iload_n C 0 dX10_ground_69 rfl rfl ?_
  refine w_if_eq C dX10_ground_70 (tgt := 77) rfl (fun c8 => ?_) (fun c8 => ?_)
  · replace hw := hw.1 c8
    refine w_iconst C dX10_ground_77 kc_i_1 ?_
    exact ret_I C HT hw dX10_ground_78
  · replace hw := hw.2 c8
    refine w_iconst C dX10_ground_73 kc_i_0 ?_
    refine w_goto C dX10_ground_74 (tgt := 78) rfl ?_
    exact ret_I C HT hw dX10_ground_78
set_option maxRecDepth 100000 in
set_option maxHeartbeats 4000000 in
theorem s_X10_ground_39 {G : GG} {n : Nat} {E : EE} (C : Cx G n E RX10 cX10_ground 4) (HR : RM E 1 22) (HT : RT E (some .int)) {Q : Int32 → Mem → Prop}  : ∀ (x1 : Int32) (x2 : Int32) (y0 : Int32)  (M : Mem), w_X10_ground_39 Q  x1 x2 y0 M → WW G n E 4 (QE G E (Qi G n Q)) 39 [(0, .ref (gad G 10 0)), (1, .int x1), (2, .int x2)] [.int y0] M := by
  intro x1 x2 y0 M hw
  refine w_istore_n C (lv' := [(3, .int y0), (0, .ref (gad G 10 0)), (1, .int x1), (2, .int x2)]) dX10_ground_39 rfl (by decide) rfl ?_
  refine w_aload_n C 1 dX10_ground_40 rfl rfl ?_
  refine w_iload_n C 3 dX10_ground_41 rfl rfl ?_
  refine w_if_eq C dX10_ground_42 (tgt := 56) rfl (fun c6 => ?_) (fun c6 => ?_)
  · replace hw := hw.1 c6
    refine w_aload_n C 1 dX10_ground_56 rfl rfl ?_
    refine gf_X10_96 C (Nat.le_of_ble_eq_true rfl) dX10_ground_57 ?_
    refine w_iconst C dX10_ground_60 kc_i_1 ?_
    refine w_iload_n C 2 dX10_ground_61 rfl rfl ?_
    refine w_ishl C dX10_ground_62 ?_
    refine w_iconst C dX10_ground_63 kc_i_m1 ?_
    refine w_ixor C dX10_ground_64 ?_
    refine w_iand C dX10_ground_65 ?_
    exact w_sub [0] rfl (s_X10_ground_66 C HR HT  y0 ((M 740 0 0) &&& ((1 <<< (x1 &&& 31)) ^^^ (-1)))  _ hw)
  · replace hw := hw.2 c6
    refine w_aload_n C 1 dX10_ground_45 rfl rfl ?_
    refine gf_X10_96 C (Nat.le_of_ble_eq_true rfl) dX10_ground_46 ?_
    refine w_iconst C dX10_ground_49 kc_i_1 ?_
    refine w_iload_n C 2 dX10_ground_50 rfl rfl ?_
    refine w_ishl C dX10_ground_51 ?_
    refine w_ior C dX10_ground_52 ?_
    refine w_goto C dX10_ground_53 (tgt := 66) rfl ?_
    exact w_sub [0] rfl (s_X10_ground_66 C HR HT  y0 ((M 740 0 0) ||| (1 <<< (x1 &&& 31)))  _ hw)
set_option maxRecDepth 100000 in
set_option maxHeartbeats 4000000 in
theorem s_X10_ground_30 {G : GG} {n : Nat} {E : EE} (C : Cx G n E RX10 cX10_ground 4) (HR : RM E 1 22) (HT : RT E (some .int)) {Q : Int32 → Mem → Prop}  : ∀ (x1 : Int32) (x2 : Int32) (y0 : Int32)  (M : Mem), w_X10_ground_30 Q  x1 x2 y0 M → WW G n E 4 (QE G E (Qi G n Q)) 30 [(0, .ref (gad G 10 0)), (1, .int x1), (2, .int x2)] [.int y0] M := by
  intro x1 x2 y0 M hw
  refine w_iload_n C 2 dX10_ground_30 rfl rfl ?_
  refine w_icmp_ne C dX10_ground_31 (tgt := 38) rfl (fun c5 => ?_) (fun c5 => ?_)
  · replace hw := hw.2 c5
    refine w_iconst C dX10_ground_38 kc_i_0 ?_
    exact w_sub [0, 1, 2] rfl (s_X10_ground_39 C HR HT  x1 x2 0  _ hw)
  · replace hw := hw.1 c5
    refine w_iconst C dX10_ground_34 kc_i_1 ?_
    refine w_goto C dX10_ground_35 (tgt := 39) rfl ?_
    exact w_sub [0, 1, 2] rfl (s_X10_ground_39 C HR HT  x1 x2 1  _ hw)
set_option maxRecDepth 100000 in
set_option maxHeartbeats 4000000 in
theorem c_X10_ground {G : GG} {n : Nat} {l : Launch} (x1 : Int32) (x2 : Int32)  (M : Mem) (Q : Int32 → Mem → Prop) (hw : wp_X10_ground x1 x2 M Q) : Ct G n l yX10_ground cX10_ground 4 (some .int) 1 22 [.ref (gad G 10 0), .int x1, .int x2] M (Qi G n Q) := by
  refine ct_of (by decide) (Nat.le_of_ble_eq_true rfl) (lv := [(0, .ref (gad G 10 0)), (1, .int x1), (2, .int x2)]) rfl (fun E C HR HT hE => ?_)
  replace C : Cx G n E RX10 cX10_ground 4 := C
  refine w_iload_n C 1 dX10_ground_0 rfl rfl ?_
  refine w_iconst C dX10_ground_1 kc_i_0 ?_
  refine w_bipush C dX10_ground_2 kc_b_7 ?_
  refine back_I (run_S C HR mt_X10_in gw1179 gw1178 (by decide) rfl (Nat.le_of_ble_eq_true rfl) dX10_ground_4 (As := [.int x1, .int 0, .int 7]) rfl (c_X10_in x1 0 7  _ _ hw)) (fun r2 M1 hw => ?_)
  refine w_if_ne C dX10_ground_7 (tgt := 13) rfl (fun c3 => ?_) (fun c3 => ?_)
  · replace hw := hw.2 c3
    refine w_aload_n C 0 dX10_ground_13 rfl rfl ?_
    refine gf_X10_96 C (Nat.le_of_ble_eq_true rfl) dX10_ground_14 ?_
    refine w_iload_n C 1 dX10_ground_17 rfl rfl ?_
    refine w_ishr C dX10_ground_18 ?_
    refine w_iconst C dX10_ground_19 kc_i_1 ?_
    refine w_iand C dX10_ground_20 ?_
    refine w_iconst C dX10_ground_21 kc_i_1 ?_
    refine w_icmp_ne C dX10_ground_22 (tgt := 29) rfl (fun c4 => ?_) (fun c4 => ?_)
    · replace hw := hw.2 c4
      refine w_iconst C dX10_ground_29 kc_i_0 ?_
      exact w_sub [0, 1, 2] rfl (s_X10_ground_30 C HR HT  x1 x2 0  _ hw)
    · replace hw := hw.1 c4
      refine w_iconst C dX10_ground_25 kc_i_1 ?_
      refine w_goto C dX10_ground_26 (tgt := 30) rfl ?_
      exact w_sub [0, 1, 2] rfl (s_X10_ground_30 C HR HT  x1 x2 1  _ hw)
  · replace hw := hw.1 c3
    refine w_bipush C dX10_ground_10 kc_b_m2 ?_
    exact ret_I C HT hw dX10_ground_12
set_option maxRecDepth 100000 in
set_option maxHeartbeats 4000000 in
theorem s_X10_standsOn_93 {G : GG} {n : Nat} {E : EE} (C : Cx G n E RX10 cX10_standsOn 6) (HR : RM E 0 0) (HT : RT E (some .int)) {Q : Int32 → Mem → Prop} {K4 : Int32 → Int32 → Mem → Prop} (g4 : ∀ (x2 : Int32) (x3 : Int32)  (M : Mem), K4 x2 x3 M → WW G n E 6 (QE G E (Qi G n Q)) 4 [(0, .ref (gad G 10 0)), (2, .int x2), (3, .int x3)] [] M) {K13 : Int32 → Int32 → Int32 → Mem → Prop} (g13 : ∀ (x2 : Int32) (x3 : Int32) (x4 : Int32)  (M : Mem), K13 x2 x3 x4 M → WW G n E 6 (QE G E (Qi G n Q)) 13 [(0, .ref (gad G 10 0)), (2, .int x2), (3, .int x3), (4, .int x4)] [] M) : ∀ (x2 : Int32) (x3 : Int32) (x4 : Int32)  (M : Mem), w_X10_standsOn_93 Q K4 K13 x2 x3 x4 M → WW G n E 6 (QE G E (Qi G n Q)) 93 [(0, .ref (gad G 10 0)), (2, .int x2), (3, .int x3), (4, .int x4)] [] M := by
  intro x2 x3 x4 M hw
  refine w_iincV C (lv' := [(4, .int (x4 + 1)), (0, .ref (gad G 10 0)), (2, .int x2), (3, .int x3)]) 3 dX10_standsOn_93 kc_i_1 rfl (by decide) rfl ?_
  refine w_goto C dX10_standsOn_96 (tgt := 13) rfl ?_
  exact w_sub [1, 2, 3, 0] rfl (g13 x2 x3 (x4 + 1)  _ hw)
set_option maxRecDepth 100000 in
set_option maxHeartbeats 4000000 in
theorem s_X10_standsOn_63 {G : GG} {n : Nat} {E : EE} (C : Cx G n E RX10 cX10_standsOn 6) (HR : RM E 0 0) (HT : RT E (some .int)) {Q : Int32 → Mem → Prop} {K4 : Int32 → Int32 → Mem → Prop} (g4 : ∀ (x2 : Int32) (x3 : Int32)  (M : Mem), K4 x2 x3 M → WW G n E 6 (QE G E (Qi G n Q)) 4 [(0, .ref (gad G 10 0)), (2, .int x2), (3, .int x3)] [] M) {K13 : Int32 → Int32 → Int32 → Mem → Prop} (g13 : ∀ (x2 : Int32) (x3 : Int32) (x4 : Int32)  (M : Mem), K13 x2 x3 x4 M → WW G n E 6 (QE G E (Qi G n Q)) 13 [(0, .ref (gad G 10 0)), (2, .int x2), (3, .int x3), (4, .int x4)] [] M) : ∀ (x2 : Int32) (x3 : Int32) (x4 : Int32) (y0 : Int32)  (M : Mem), w_X10_standsOn_63 Q K4 K13 x2 x3 x4 y0 M → WW G n E 6 (QE G E (Qi G n Q)) 63 [(0, .ref (gad G 10 0)), (2, .int x2), (3, .int x3), (4, .int x4)] [.int y0] M := by
  intro x2 x3 x4 y0 M hw
  refine w_istore C (lv' := [(5, .int y0), (0, .ref (gad G 10 0)), (2, .int x2), (3, .int x3), (4, .int x4)]) dX10_standsOn_63 (by decide) rfl ?_
  refine w_iload C 0 dX10_standsOn_65 rfl ?_
  refine w_if_eq C dX10_standsOn_67 (tgt := 93) rfl (fun c7 => ?_) (fun c7 => ?_)
  · replace hw := hw.1 c7
    exact w_sub [1, 2, 3, 4] rfl (s_X10_standsOn_93 C HR HT g4 g13 x2 x3 x4  _ hw)
  · replace hw := hw.2 c7
    refine w_iload_n C 2 dX10_standsOn_70 rfl rfl ?_
    refine w_bipush C dX10_standsOn_71 kc_b_8 ?_
    refine w_iload C 4 dX10_standsOn_73 rfl ?_
    refine w_iadd C dX10_standsOn_75 ?_
    refine w_ishr C dX10_standsOn_76 ?_
    refine w_iconst C dX10_standsOn_77 kc_i_1 ?_
    refine w_iand C dX10_standsOn_78 ?_
    refine w_if_ne C dX10_standsOn_79 (tgt := 93) rfl (fun c8 => ?_) (fun c8 => ?_)
    · replace hw := hw.2 c8
      exact w_sub [1, 2, 3, 4] rfl (s_X10_standsOn_93 C HR HT g4 g13 x2 x3 x4  _ hw)
    · replace hw := hw.1 c8
      refine w_iload_n C 2 dX10_standsOn_82 rfl rfl ?_
      refine w_sipush C dX10_standsOn_83 kc_s_256 ?_
      refine w_iload C 4 dX10_standsOn_86 rfl ?_
      refine w_ishl C dX10_standsOn_88 ?_
      refine w_ior C dX10_standsOn_89 ?_
      refine w_istore_nV C dX10_standsOn_90 rfl (by decide) (fun a9 ea9 => w_lv (lv' := [(2, .int a9), (5, .int y0), (0, .ref (gad G 10 0)), (3, .int x3), (4, .int x4)]) rfl ?_)
      replace hw := hw a9 ea9
      refine w_iconst C dX10_standsOn_91 kc_i_1 ?_
      refine w_istore_n C (lv' := [(3, .int 1), (2, .int a9), (5, .int y0), (0, .ref (gad G 10 0)), (4, .int x4)]) dX10_standsOn_92 rfl (by decide) rfl ?_
      exact w_sub [3, 1, 0, 4] rfl (s_X10_standsOn_93 C HR HT g4 g13 a9 1 x4  _ hw)
set_option maxRecDepth 100000 in
set_option maxHeartbeats 4000000 in
theorem s_X10_standsOn_62 {G : GG} {n : Nat} {E : EE} (C : Cx G n E RX10 cX10_standsOn 6) (HR : RM E 0 0) (HT : RT E (some .int)) {Q : Int32 → Mem → Prop} {K4 : Int32 → Int32 → Mem → Prop} (g4 : ∀ (x2 : Int32) (x3 : Int32)  (M : Mem), K4 x2 x3 M → WW G n E 6 (QE G E (Qi G n Q)) 4 [(0, .ref (gad G 10 0)), (2, .int x2), (3, .int x3)] [] M) {K13 : Int32 → Int32 → Int32 → Mem → Prop} (g13 : ∀ (x2 : Int32) (x3 : Int32) (x4 : Int32)  (M : Mem), K13 x2 x3 x4 M → WW G n E 6 (QE G E (Qi G n Q)) 13 [(0, .ref (gad G 10 0)), (2, .int x2), (3, .int x3), (4, .int x4)] [] M) : ∀ (x2 : Int32) (x3 : Int32) (x4 : Int32)  (M : Mem), w_X10_standsOn_62 Q K4 K13 x2 x3 x4 M → WW G n E 6 (QE G E (Qi G n Q)) 62 [(0, .ref (gad G 10 0)), (2, .int x2), (3, .int x3), (4, .int x4)] [] M := by
  intro x2 x3 x4 M hw
  refine w_iconst C dX10_standsOn_62 kc_i_0 ?_
  exact w_sub [0, 1, 2, 3] rfl (s_X10_standsOn_63 C HR HT g4 g13 x2 x3 x4 0  _ hw)
set_option maxRecDepth 100000 in
set_option maxHeartbeats 4000000 in
theorem s_X10_standsOn_58 {G : GG} {n : Nat} {E : EE} (C : Cx G n E RX10 cX10_standsOn 6) (HR : RM E 0 0) (HT : RT E (some .int)) {Q : Int32 → Mem → Prop} {K4 : Int32 → Int32 → Mem → Prop} (g4 : ∀ (x2 : Int32) (x3 : Int32)  (M : Mem), K4 x2 x3 M → WW G n E 6 (QE G E (Qi G n Q)) 4 [(0, .ref (gad G 10 0)), (2, .int x2), (3, .int x3)] [] M) {K13 : Int32 → Int32 → Int32 → Mem → Prop} (g13 : ∀ (x2 : Int32) (x3 : Int32) (x4 : Int32)  (M : Mem), K13 x2 x3 x4 M → WW G n E 6 (QE G E (Qi G n Q)) 13 [(0, .ref (gad G 10 0)), (2, .int x2), (3, .int x3), (4, .int x4)] [] M) : ∀ (x2 : Int32) (x3 : Int32) (x4 : Int32)  (M : Mem), w_X10_standsOn_58 Q K4 K13 x2 x3 x4 M → WW G n E 6 (QE G E (Qi G n Q)) 58 [(0, .ref (gad G 10 0)), (2, .int x2), (3, .int x3), (4, .int x4)] [] M := by
  intro x2 x3 x4 M hw
  refine w_iconst C dX10_standsOn_58 kc_i_1 ?_
  refine w_goto C dX10_standsOn_59 (tgt := 63) rfl ?_
  exact w_sub [0, 1, 2, 3] rfl (s_X10_standsOn_63 C HR HT g4 g13 x2 x3 x4 1  _ hw)
set_option maxRecDepth 100000 in
set_option maxHeartbeats 4000000 in
theorem s_X10_standsOn_13 {G : GG} {n : Nat} {E : EE} (C : Cx G n E RX10 cX10_standsOn 6) (HR : RM E 0 0) (HT : RT E (some .int)) {Q : Int32 → Mem → Prop} {K4 : Int32 → Int32 → Mem → Prop} (g4 : ∀ (x2 : Int32) (x3 : Int32)  (M : Mem), K4 x2 x3 M → WW G n E 6 (QE G E (Qi G n Q)) 4 [(0, .ref (gad G 10 0)), (2, .int x2), (3, .int x3)] [] M) : ∀ (f : Nat) (x2 : Int32) (x3 : Int32) (x4 : Int32)  (M : Mem), w_X10_standsOn_13 Q K4 f x2 x3 x4 M → WW G n E 6 (QE G E (Qi G n Q)) 13 [(0, .ref (gad G 10 0)), (2, .int x2), (3, .int x3), (4, .int x4)] [] M := by
  intro f
  induction f with
  | zero => intro x2 x3 x4 M hw; exact hw.elim
  | succ f ih =>
    intro x2 x3 x4 M hw
    refine w_iload C 3 dX10_standsOn_13 rfl ?_
    refine w_aload_n C 0 dX10_standsOn_15 rfl rfl ?_
    refine gf_X10_287 C (Nat.le_of_ble_eq_true rfl) dX10_standsOn_16 ?_
    refine w_icmp_ge C dX10_standsOn_19 (tgt := 99) rfl (fun c4 => ?_) (fun c4 => ?_)
    · replace hw := hw.1 c4
      refine w_goto C dX10_standsOn_99 (tgt := 4) rfl ?_
      exact w_sub [0, 1, 2] rfl (g4 x2 x3  _ hw)
    · replace hw := hw.2 c4
      refine w_aload_n C 0 dX10_standsOn_22 rfl rfl ?_
      refine gf_X10_90 C (Nat.le_of_ble_eq_true rfl) dX10_standsOn_23 ?_
      refine w_iload C 3 dX10_standsOn_26 rfl ?_
      obtain ⟨b5, hw⟩ := hw
      refine v_iald C ak_78 rfl (Nat.le_of_ble_eq_true rfl) b5 dX10_standsOn_28 ?_
      refine w_iload_n C 1 dX10_standsOn_29 rfl rfl ?_
      refine w_iconst C dX10_standsOn_30 kc_i_m1 ?_
      refine w_ixor C dX10_standsOn_31 ?_
      refine w_iand C dX10_standsOn_32 ?_
      refine w_if_ne C dX10_standsOn_33 (tgt := 62) rfl (fun c6 => ?_) (fun c6 => ?_)
      · replace hw := hw.2 c6
        exact w_sub [0, 1, 2, 3] rfl (s_X10_standsOn_62 C HR HT g4 ih x2 x3 x4  _ hw)
      · replace hw := hw.1 c6
        refine w_aload_n C 0 dX10_standsOn_36 rfl rfl ?_
        refine gf_X10_93 C (Nat.le_of_ble_eq_true rfl) dX10_standsOn_37 ?_
        refine w_iload C 3 dX10_standsOn_40 rfl ?_
        obtain ⟨b10, hw⟩ := hw
        refine v_iald C ak_79 rfl (Nat.le_of_ble_eq_true rfl) b10 dX10_standsOn_42 ?_
        refine w_if_eq C dX10_standsOn_43 (tgt := 58) rfl (fun c11 => ?_) (fun c11 => ?_)
        · replace hw := hw.1 c11
          exact w_sub [0, 1, 2, 3] rfl (s_X10_standsOn_58 C HR HT g4 ih x2 x3 x4  _ hw)
        · replace hw := hw.2 c11
          refine w_aload_n C 0 dX10_standsOn_46 rfl rfl ?_
          refine gf_X10_93 C (Nat.le_of_ble_eq_true rfl) dX10_standsOn_47 ?_
          refine w_iload C 3 dX10_standsOn_50 rfl ?_
          obtain ⟨b12, hw⟩ := hw
          refine v_iald C ak_79 rfl (Nat.le_of_ble_eq_true rfl) b12 dX10_standsOn_52 ?_
          refine w_iload_n C 1 dX10_standsOn_53 rfl rfl ?_
          refine w_iand C dX10_standsOn_54 ?_
          refine w_if_eq C dX10_standsOn_55 (tgt := 62) rfl (fun c13 => ?_) (fun c13 => ?_)
          · replace hw := hw.1 c13
            exact w_sub [0, 1, 2, 3] rfl (s_X10_standsOn_62 C HR HT g4 ih x2 x3 x4  _ hw)
          · replace hw := hw.2 c13
            exact w_sub [0, 1, 2, 3] rfl (s_X10_standsOn_58 C HR HT g4 ih x2 x3 x4  _ hw)
set_option maxRecDepth 100000 in
set_option maxHeartbeats 4000000 in
theorem s_X10_standsOn_4 {G : GG} {n : Nat} {E : EE} (C : Cx G n E RX10 cX10_standsOn 6) (HR : RM E 0 0) (HT : RT E (some .int)) {Q : Int32 → Mem → Prop}  : ∀ (f : Nat) (x2 : Int32) (x3 : Int32)  (M : Mem), w_X10_standsOn_4 Q  f x2 x3 M → WW G n E 6 (QE G E (Qi G n Q)) 4 [(0, .ref (gad G 10 0)), (2, .int x2), (3, .int x3)] [] M := by
  intro f
  induction f with
  | zero => intro x2 x3 M hw; exact hw.elim
  | succ f ih =>
    intro x2 x3 M hw
    refine w_iload_n C 2 dX10_standsOn_4 rfl rfl ?_
    refine w_if_eq C dX10_standsOn_5 (tgt := 102) rfl (fun c2 => ?_) (fun c2 => ?_)
    · replace hw := hw.1 c2
      refine w_iload_n C 1 dX10_standsOn_102 rfl rfl ?_
      refine w_bipush C dX10_standsOn_103 kc_b_8 ?_
      refine w_ishr C dX10_standsOn_105 ?_
      exact ret_I C HT hw dX10_standsOn_106
    · replace hw := hw.2 c2
      refine w_iconst C dX10_standsOn_8 kc_i_0 ?_
      refine w_istore_n C (lv' := [(3, .int 0), (0, .ref (gad G 10 0)), (2, .int x2)]) dX10_standsOn_9 rfl (by decide) rfl ?_
      refine w_iconst C dX10_standsOn_10 kc_i_0 ?_
      refine w_istore C (lv' := [(4, .int 0), (3, .int 0), (0, .ref (gad G 10 0)), (2, .int x2)]) dX10_standsOn_11 (by decide) rfl ?_
      obtain ⟨f3, hw⟩ := hw
      exact w_sub [2, 3, 1, 0] rfl (s_X10_standsOn_13 C HR HT ih f3 x2 0 0  _ hw)
set_option maxRecDepth 100000 in
set_option maxHeartbeats 4000000 in
theorem c_X10_standsOn {G : GG} {n : Nat} {l : Launch} (x1 : Int32)  (M : Mem) (Q : Int32 → Mem → Prop) (hw : wp_X10_standsOn x1 M Q) : Ct G n l yX10_standsOn cX10_standsOn 6 (some .int) 0 0 [.ref (gad G 10 0), .int x1] M (Qi G n Q) := by
  refine ct_of (by decide) (Nat.le_of_ble_eq_true rfl) (lv := [(0, .ref (gad G 10 0)), (1, .int x1)]) rfl (fun E C HR HT hE => ?_)
  replace C : Cx G n E RX10 cX10_standsOn 6 := C
  refine w_iload_n C 1 dX10_standsOn_0 rfl rfl ?_
  refine w_istore_n C (lv' := [(2, .int x1), (0, .ref (gad G 10 0)), (1, .int x1)]) dX10_standsOn_1 rfl (by decide) rfl ?_
  refine w_iconst C dX10_standsOn_2 kc_i_1 ?_
  refine w_istore_n C (lv' := [(3, .int 1), (2, .int x1), (0, .ref (gad G 10 0)), (1, .int x1)]) dX10_standsOn_3 rfl (by decide) rfl ?_
  obtain ⟨f1, hw⟩ := hw
  exact w_sub [2, 1, 0] rfl (s_X10_standsOn_4 C HR HT  f1 x1 1  _ hw)
set_option maxRecDepth 100000 in
set_option maxHeartbeats 4000000 in
theorem c_X10_standing {G : GG} {n : Nat} {l : Launch}   (M : Mem) (Q : Int32 → Mem → Prop) (hw : wp_X10_standing  M Q) : Ct G n l yX10_standing cX10_standing 1 (some .int) 1 25 [.ref (gad G 10 0)] M (Qi G n Q) := by
  refine ct_of (by decide) (Nat.le_of_ble_eq_true rfl) (lv := [(0, .ref (gad G 10 0))]) rfl (fun E C HR HT hE => ?_)
  replace C : Cx G n E RX10 cX10_standing 1 := C
  refine w_aload_n C 0 dX10_standing_0 rfl rfl ?_
  refine w_aload_n C 0 dX10_standing_1 rfl rfl ?_
  refine gf_X10_96 C (Nat.le_of_ble_eq_true rfl) dX10_standing_2 ?_
  refine back_I (run_V C HR mt_X10_standsOn (ci := 10) rfl (by decide) (Nat.le_of_ble_eq_true rfl) gw1430 gw70 gw1428 (by decide) rfl (Nat.le_of_ble_eq_true rfl) dX10_standing_5 (As := [.int (M 740 0 0)]) rfl (c_X10_standsOn (M 740 0 0)  _ _ hw)) (fun r2 M1 hw => ?_)
  exact ret_I C HT hw dX10_standing_8
set_option maxRecDepth 100000 in
set_option maxHeartbeats 4000000 in
theorem c_X10_falling {G : GG} {n : Nat} {l : Launch} (x1 : Int32)  (M : Mem) (Q : Int32 → Mem → Prop) (hw : wp_X10_falling x1 M Q) : Ct G n l yX10_falling cX10_falling 2 (some .int) 1 25 [.ref (gad G 10 0), .int x1] M (Qi G n Q) := by
  refine ct_of (by decide) (Nat.le_of_ble_eq_true rfl) (lv := [(0, .ref (gad G 10 0)), (1, .int x1)]) rfl (fun E C HR HT hE => ?_)
  replace C : Cx G n E RX10 cX10_falling 2 := C
  refine w_iload_n C 1 dX10_falling_0 rfl rfl ?_
  refine w_iconst C dX10_falling_1 kc_i_0 ?_
  refine w_bipush C dX10_falling_2 kc_b_7 ?_
  refine back_I (run_S C HR mt_X10_in gw1179 gw1178 (by decide) rfl (Nat.le_of_ble_eq_true rfl) dX10_falling_4 (As := [.int x1, .int 0, .int 7]) rfl (c_X10_in x1 0 7  _ _ hw)) (fun r2 M1 hw => ?_)
  refine w_if_eq C dX10_falling_7 (tgt := 38) rfl (fun c3 => ?_) (fun c3 => ?_)
  · replace hw := hw.1 c3
    refine w_bipush C dX10_falling_38 kc_b_m2 ?_
    exact ret_I C HT hw dX10_falling_40
  · replace hw := hw.2 c3
    refine w_aload_n C 0 dX10_falling_10 rfl rfl ?_
    refine w_aload_n C 0 dX10_falling_11 rfl rfl ?_
    refine gf_X10_96 C (Nat.le_of_ble_eq_true rfl) dX10_falling_12 ?_
    refine back_I (run_V C HR mt_X10_standsOn (ci := 10) rfl (by decide) (Nat.le_of_ble_eq_true rfl) gw1430 gw70 gw1428 (by decide) rfl (Nat.le_of_ble_eq_true rfl) dX10_falling_15 (As := [.int (M1 740 0 0)]) rfl (c_X10_standsOn (M1 740 0 0)  _ _ hw)) (fun r5 M4 hw => ?_)
    refine w_aload_n C 0 dX10_falling_18 rfl rfl ?_
    refine w_aload_n C 0 dX10_falling_19 rfl rfl ?_
    refine gf_X10_96 C (Nat.le_of_ble_eq_true rfl) dX10_falling_20 ?_
    refine w_iconst C dX10_falling_23 kc_i_1 ?_
    refine w_iload_n C 1 dX10_falling_24 rfl rfl ?_
    refine w_ishl C dX10_falling_25 ?_
    refine w_iconst C dX10_falling_26 kc_i_m1 ?_
    refine w_ixor C dX10_falling_27 ?_
    refine w_iand C dX10_falling_28 ?_
    refine back_I (run_V C HR mt_X10_standsOn (ci := 10) rfl (by decide) (Nat.le_of_ble_eq_true rfl) gw1430 gw70 gw1428 (by decide) rfl (Nat.le_of_ble_eq_true rfl) dX10_falling_29 (As := [.int ((M4 740 0 0) &&& ((1 <<< (x1 &&& 31)) ^^^ (-1)))]) rfl (c_X10_standsOn ((M4 740 0 0) &&& ((1 <<< (x1 &&& 31)) ^^^ (-1)))  _ _ hw)) (fun r7 M6 hw => ?_)
    refine w_iconst C dX10_falling_32 kc_i_m1 ?_
    refine w_ixor C dX10_falling_33 ?_
    refine w_iand C dX10_falling_34 ?_
    refine w_goto C dX10_falling_35 (tgt := 40) rfl ?_
    exact ret_I C HT hw dX10_falling_40
set_option maxRecDepth 100000 in
set_option maxHeartbeats 4000000 in
theorem s_X10_daysOfSet_32 {G : GG} {n : Nat} {E : EE} (C : Cx G n E RX10 cX10_daysOfSet 4) (HR : RM E 0 0) (HT : RT E (some .int)) {Q : Int32 → Mem → Prop} {K4 : Int32 → Int32 → Int32 → Mem → Prop} (g4 : ∀ (x1 : Int32) (x2 : Int32) (x3 : Int32)  (M : Mem), K4 x1 x2 x3 M → WW G n E 4 (QE G E (Qi G n Q)) 4 [(0, .ref (gad G 10 0)), (1, .int x1), (2, .int x2), (3, .int x3)] [] M) : ∀ (x1 : Int32) (x3 : Int32) (y0 : Int32) (y1 : Int32)  (M : Mem), w_X10_daysOfSet_32 Q K4 x1 x3 y0 y1 M → WW G n E 4 (QE G E (Qi G n Q)) 32 [(0, .ref (gad G 10 0)), (1, .int x1), (3, .int x3)] [.int y0, .int y1] M := by
  intro x1 x3 y0 y1 M hw
  refine w_iadd C dX10_daysOfSet_32 ?_
  refine w_istore_nV C dX10_daysOfSet_33 rfl (by decide) (fun a4 ea4 => w_lv (lv' := [(2, .int a4), (0, .ref (gad G 10 0)), (1, .int x1), (3, .int x3)]) rfl ?_)
  replace hw := hw a4 ea4
  refine w_iincV C (lv' := [(3, .int (x3 + 1)), (2, .int a4), (0, .ref (gad G 10 0)), (1, .int x1)]) 3 dX10_daysOfSet_34 kc_i_1 rfl (by decide) rfl ?_
  refine w_goto C dX10_daysOfSet_37 (tgt := 4) rfl ?_
  exact w_sub [2, 3, 1, 0] rfl (g4 x1 a4 (x3 + 1)  _ hw)
set_option maxRecDepth 100000 in
set_option maxHeartbeats 4000000 in
theorem s_X10_daysOfSet_4 {G : GG} {n : Nat} {E : EE} (C : Cx G n E RX10 cX10_daysOfSet 4) (HR : RM E 0 0) (HT : RT E (some .int)) {Q : Int32 → Mem → Prop}  : ∀ (f : Nat) (x1 : Int32) (x2 : Int32) (x3 : Int32)  (M : Mem), w_X10_daysOfSet_4 Q  f x1 x2 x3 M → WW G n E 4 (QE G E (Qi G n Q)) 4 [(0, .ref (gad G 10 0)), (1, .int x1), (2, .int x2), (3, .int x3)] [] M := by
  intro f
  induction f with
  | zero => intro x1 x2 x3 M hw; exact hw.elim
  | succ f ih =>
    intro x1 x2 x3 M hw
    refine w_iload_n C 3 dX10_daysOfSet_4 rfl rfl ?_
    refine w_aload_n C 0 dX10_daysOfSet_5 rfl rfl ?_
    refine gf_X10_229 C (Nat.le_of_ble_eq_true rfl) dX10_daysOfSet_6 ?_
    refine w_icmp_ge C dX10_daysOfSet_9 (tgt := 40) rfl (fun c2 => ?_) (fun c2 => ?_)
    · replace hw := hw.1 c2
      refine w_iload_n C 2 dX10_daysOfSet_40 rfl rfl ?_
      exact ret_I C HT hw dX10_daysOfSet_41
    · replace hw := hw.2 c2
      refine w_iload_n C 2 dX10_daysOfSet_12 rfl rfl ?_
      refine w_iload_n C 1 dX10_daysOfSet_13 rfl rfl ?_
      refine w_iload_n C 3 dX10_daysOfSet_14 rfl rfl ?_
      refine w_ishr C dX10_daysOfSet_15 ?_
      refine w_iconst C dX10_daysOfSet_16 kc_i_1 ?_
      refine w_iand C dX10_daysOfSet_17 ?_
      refine w_iconst C dX10_daysOfSet_18 kc_i_1 ?_
      refine w_icmp_ne C dX10_daysOfSet_19 (tgt := 31) rfl (fun c3 => ?_) (fun c3 => ?_)
      · replace hw := hw.2 c3
        refine w_iconst C dX10_daysOfSet_31 kc_i_0 ?_
        exact w_sub [0, 1, 3] rfl (s_X10_daysOfSet_32 C HR HT ih x1 x3 0 x2  _ hw)
      · replace hw := hw.1 c3
        refine w_aload_n C 0 dX10_daysOfSet_22 rfl rfl ?_
        refine gf_X10_62 C (Nat.le_of_ble_eq_true rfl) dX10_daysOfSet_23 ?_
        refine w_iload_n C 3 dX10_daysOfSet_26 rfl rfl ?_
        obtain ⟨b5, hw⟩ := hw
        refine v_iald C ak_70 rfl (Nat.le_of_ble_eq_true rfl) b5 dX10_daysOfSet_27 ?_
        refine w_goto C dX10_daysOfSet_28 (tgt := 32) rfl ?_
        exact w_sub [0, 1, 3] rfl (s_X10_daysOfSet_32 C HR HT ih x1 x3 (M 70 0 x3.toNatClampNeg) x2  _ hw)
set_option maxRecDepth 100000 in
set_option maxHeartbeats 4000000 in
theorem c_X10_daysOfSet {G : GG} {n : Nat} {l : Launch} (x1 : Int32)  (M : Mem) (Q : Int32 → Mem → Prop) (hw : wp_X10_daysOfSet x1 M Q) : Ct G n l yX10_daysOfSet cX10_daysOfSet 4 (some .int) 0 0 [.ref (gad G 10 0), .int x1] M (Qi G n Q) := by
  refine ct_of (by decide) (Nat.le_of_ble_eq_true rfl) (lv := [(0, .ref (gad G 10 0)), (1, .int x1)]) rfl (fun E C HR HT hE => ?_)
  replace C : Cx G n E RX10 cX10_daysOfSet 4 := C
  refine w_iconst C dX10_daysOfSet_0 kc_i_0 ?_
  refine w_istore_n C (lv' := [(2, .int 0), (0, .ref (gad G 10 0)), (1, .int x1)]) dX10_daysOfSet_1 rfl (by decide) rfl ?_
  refine w_iconst C dX10_daysOfSet_2 kc_i_0 ?_
  refine w_istore_n C (lv' := [(3, .int 0), (2, .int 0), (0, .ref (gad G 10 0)), (1, .int x1)]) dX10_daysOfSet_3 rfl (by decide) rfl ?_
  obtain ⟨f1, hw⟩ := hw
  exact w_sub [2, 3, 1, 0] rfl (s_X10_daysOfSet_4 C HR HT  f1 x1 0 0  _ hw)
set_option maxRecDepth 100000 in
set_option maxHeartbeats 4000000 in
theorem c_X10_costBy {G : GG} {n : Nat} {l : Launch} (x1 : Int32) (x2 : Int32) (x3 : Int32)  (M : Mem) (Q : Int32 → Mem → Prop) (hw : wp_X10_costBy x1 x2 x3 M Q) : Ct G n l yX10_costBy cX10_costBy 4 (some .int) 1 23 [.ref (gad G 10 0), .int x1, .int x2, .int x3] M (Qi G n Q) := by
  refine ct_of (by decide) (Nat.le_of_ble_eq_true rfl) (lv := [(0, .ref (gad G 10 0)), (1, .int x1), (2, .int x2), (3, .int x3)]) rfl (fun E C HR HT hE => ?_)
  replace C : Cx G n E RX10 cX10_costBy 4 := C
  refine w_aload_n C 0 dX10_costBy_0 rfl rfl ?_
  refine gf_X10_65 C (Nat.le_of_ble_eq_true rfl) dX10_costBy_1 ?_
  refine w_iload_n C 2 dX10_costBy_4 rfl rfl ?_
  obtain ⟨b1, hw⟩ := hw
  refine v_iald C ak_71 rfl (Nat.le_of_ble_eq_true rfl) b1 dX10_costBy_5 ?_
  refine w_iload_n C 3 dX10_costBy_6 rfl rfl ?_
  refine w_aload_n C 0 dX10_costBy_7 rfl rfl ?_
  refine w_iload_n C 1 dX10_costBy_8 rfl rfl ?_
  refine back_I (run_V C HR mt_X10_daysOfSet (ci := 10) rfl (by decide) (Nat.le_of_ble_eq_true rfl) gw1442 gw71 gw1440 (by decide) rfl (Nat.le_of_ble_eq_true rfl) dX10_costBy_9 (As := [.int x1]) rfl (c_X10_daysOfSet x1  _ _ hw)) (fun r3 M2 hw => ?_)
  refine w_isub C dX10_costBy_12 ?_
  refine w_aload_n C 0 dX10_costBy_13 rfl rfl ?_
  refine gf_X10_62 C (Nat.le_of_ble_eq_true rfl) dX10_costBy_14 ?_
  refine w_iload_n C 2 dX10_costBy_17 rfl rfl ?_
  obtain ⟨b4, hw⟩ := hw
  refine v_iald C ak_70 rfl (Nat.le_of_ble_eq_true rfl) b4 dX10_costBy_18 ?_
  refine w_iadd C dX10_costBy_19 ?_
  refine w_imul C dX10_costBy_20 ?_
  refine w_aload_n C 0 dX10_costBy_21 rfl rfl ?_
  refine gf_X10_99 C (Nat.le_of_ble_eq_true rfl) dX10_costBy_22 ?_
  refine w_iload_n C 1 dX10_costBy_25 rfl rfl ?_
  refine w_iconst C dX10_costBy_26 kc_i_1 ?_
  refine w_iload_n C 2 dX10_costBy_27 rfl rfl ?_
  refine w_ishl C dX10_costBy_28 ?_
  refine w_iconst C dX10_costBy_29 kc_i_m1 ?_
  refine w_ixor C dX10_costBy_30 ?_
  refine w_iand C dX10_costBy_31 ?_
  obtain ⟨b5, hw⟩ := hw
  refine v_iald C ak_80 rfl (Nat.le_of_ble_eq_true rfl) b5 dX10_costBy_32 ?_
  refine w_iadd C dX10_costBy_33 ?_
  exact ret_I C HT hw dX10_costBy_34
set_option maxRecDepth 100000 in
set_option maxHeartbeats 4000000 in
theorem s_X10_order_227 {G : GG} {n : Nat} {E : EE} (C : Cx G n E RX10 cX10_order 8) (HR : RM E 2 46) (HT : RT E (some .int)) {Q : Int32 → Mem → Prop} {K189 : Int32 → Int32 → Int32 → Int32 → Int32 → Mem → Prop} (g189 : ∀ (x2 : Int32) (x3 : Int32) (x4 : Int32) (x5 : Int32) (x6 : Int32)  (M : Mem), K189 x2 x3 x4 x5 x6 M → WW G n E 8 (QE G E (Qi G n Q)) 189 [(0, .ref (gad G 10 0)), (2, .int x2), (3, .int x3), (4, .int x4), (5, .int x5), (6, .int x6)] [] M) {K198 : Int32 → Int32 → Int32 → Int32 → Int32 → Mem → Prop} (g198 : ∀ (x2 : Int32) (x3 : Int32) (x4 : Int32) (x5 : Int32) (x6 : Int32)  (M : Mem), K198 x2 x3 x4 x5 x6 M → WW G n E 8 (QE G E (Qi G n Q)) 198 [(0, .ref (gad G 10 0)), (2, .int x2), (3, .int x3), (4, .int x4), (5, .int x5), (6, .int x6)] [] M) : ∀ (x2 : Int32) (x3 : Int32) (x4 : Int32) (x5 : Int32) (x6 : Int32)  (M : Mem), w_X10_order_227 Q K189 K198 x2 x3 x4 x5 x6 M → WW G n E 8 (QE G E (Qi G n Q)) 227 [(0, .ref (gad G 10 0)), (2, .int x2), (3, .int x3), (4, .int x4), (5, .int x5), (6, .int x6)] [] M := by
  intro x2 x3 x4 x5 x6 M hw
  refine w_iincV C (lv' := [(5, .int (x5 + 1)), (0, .ref (gad G 10 0)), (2, .int x2), (3, .int x3), (4, .int x4), (6, .int x6)]) 4 dX10_order_227 kc_i_1 rfl (by decide) rfl ?_
  refine w_goto C dX10_order_230 (tgt := 198) rfl ?_
  exact w_sub [1, 2, 3, 4, 0, 5] rfl (g198 x2 x3 x4 (x5 + 1) x6  _ hw)
set_option maxRecDepth 100000 in
set_option maxHeartbeats 4000000 in
theorem s_X10_order_198 {G : GG} {n : Nat} {E : EE} (C : Cx G n E RX10 cX10_order 8) (HR : RM E 2 46) (HT : RT E (some .int)) {Q : Int32 → Mem → Prop} {K189 : Int32 → Int32 → Int32 → Int32 → Int32 → Mem → Prop} (g189 : ∀ (x2 : Int32) (x3 : Int32) (x4 : Int32) (x5 : Int32) (x6 : Int32)  (M : Mem), K189 x2 x3 x4 x5 x6 M → WW G n E 8 (QE G E (Qi G n Q)) 189 [(0, .ref (gad G 10 0)), (2, .int x2), (3, .int x3), (4, .int x4), (5, .int x5), (6, .int x6)] [] M) : ∀ (f : Nat) (x2 : Int32) (x3 : Int32) (x4 : Int32) (x5 : Int32) (x6 : Int32)  (M : Mem), w_X10_order_198 Q K189 f x2 x3 x4 x5 x6 M → WW G n E 8 (QE G E (Qi G n Q)) 198 [(0, .ref (gad G 10 0)), (2, .int x2), (3, .int x3), (4, .int x4), (5, .int x5), (6, .int x6)] [] M := by
  intro f
  induction f with
  | zero => intro x2 x3 x4 x5 x6 M hw; exact hw.elim
  | succ f ih =>
    intro x2 x3 x4 x5 x6 M hw
    refine w_iload C 3 dX10_order_198 rfl ?_
    refine w_iload C 4 dX10_order_200 rfl ?_
    refine w_ishr C dX10_order_202 ?_
    refine w_iconst C dX10_order_203 kc_i_1 ?_
    refine w_iand C dX10_order_204 ?_
    refine w_if_eq C dX10_order_205 (tgt := 227) rfl (fun c18 => ?_) (fun c18 => ?_)
    · replace hw := hw.1 c18
      exact w_sub [0, 1, 2, 3, 4, 5] rfl (s_X10_order_227 C HR HT g189 ih x2 x3 x4 x5 x6  _ hw)
    · replace hw := hw.2 c18
      refine w_aload_n C 0 dX10_order_208 rfl rfl ?_
      refine w_iload C 3 dX10_order_209 rfl ?_
      refine w_iload C 4 dX10_order_211 rfl ?_
      refine w_iload_n C 2 dX10_order_213 rfl rfl ?_
      refine back_I (run_V C HR mt_X10_costBy (ci := 10) rfl (by decide) (Nat.le_of_ble_eq_true rfl) gw1446 gw72 gw1444 (by decide) rfl (Nat.le_of_ble_eq_true rfl) dX10_order_214 (As := [.int x4, .int x5, .int x3]) rfl (c_X10_costBy x4 x5 x3  _ _ hw)) (fun r20 M19 hw => ?_)
      refine w_aload_n C 0 dX10_order_217 rfl rfl ?_
      refine gf_X10_99 C (Nat.le_of_ble_eq_true rfl) dX10_order_218 ?_
      refine w_iload C 3 dX10_order_221 rfl ?_
      obtain ⟨b21, hw⟩ := hw
      refine v_iald C ak_80 rfl (Nat.le_of_ble_eq_true rfl) b21 dX10_order_223 ?_
      refine w_icmp_eq C dX10_order_224 (tgt := 233) rfl (fun c22 => ?_) (fun c22 => ?_)
      · replace hw := hw.1 c22
        refine w_iload C 3 dX10_order_233 rfl ?_
        refine w_iconst C dX10_order_235 kc_i_1 ?_
        refine w_iload C 4 dX10_order_236 rfl ?_
        refine w_ishl C dX10_order_238 ?_
        refine w_iconst C dX10_order_239 kc_i_m1 ?_
        refine w_ixor C dX10_order_240 ?_
        refine w_iand C dX10_order_241 ?_
        refine w_istoreV C dX10_order_242 (by decide) (fun a23 ea23 => w_lv (lv' := [(4, .int a23), (0, .ref (gad G 10 0)), (2, .int x2), (3, .int x3), (5, .int x5), (6, .int x6)]) rfl ?_)
        replace hw := hw a23 ea23
        refine w_iincV C (lv' := [(6, .int (x6 + 1)), (4, .int a23), (0, .ref (gad G 10 0)), (2, .int x2), (3, .int x3), (5, .int x5)]) 5 dX10_order_244 kc_i_1 rfl (by decide) rfl ?_
        refine w_goto C dX10_order_247 (tgt := 189) rfl ?_
        exact w_sub [2, 3, 4, 1, 5, 0] rfl (g189 x2 x3 a23 x5 (x6 + 1)  _ hw)
      · replace hw := hw.2 c22
        exact w_sub [0, 1, 2, 3, 4, 5] rfl (s_X10_order_227 C HR HT g189 ih x2 x3 x4 x5 x6  _ hw)
set_option maxRecDepth 100000 in
set_option maxHeartbeats 4000000 in
theorem s_X10_order_189 {G : GG} {n : Nat} {E : EE} (C : Cx G n E RX10 cX10_order 8) (HR : RM E 2 46) (HT : RT E (some .int)) {Q : Int32 → Mem → Prop}  : ∀ (f : Nat) (x2 : Int32) (x3 : Int32) (x4 : Int32) (x5 : Int32) (x6 : Int32)  (M : Mem), w_X10_order_189 Q  f x2 x3 x4 x5 x6 M → WW G n E 8 (QE G E (Qi G n Q)) 189 [(0, .ref (gad G 10 0)), (2, .int x2), (3, .int x3), (4, .int x4), (5, .int x5), (6, .int x6)] [] M := by
  intro f
  induction f with
  | zero => intro x2 x3 x4 x5 x6 M hw; exact hw.elim
  | succ f ih =>
    intro x2 x3 x4 x5 x6 M hw
    refine w_iload C 5 dX10_order_189 rfl ?_
    refine w_iload_n C 1 dX10_order_191 rfl rfl ?_
    refine w_icmp_gt C dX10_order_192 (tgt := 250) rfl (fun c16 => ?_) (fun c16 => ?_)
    · replace hw := hw.1 c16
      refine w_iload C 4 dX10_order_250 rfl ?_
      exact ret_I C HT hw dX10_order_252
    · replace hw := hw.2 c16
      refine w_iconst C dX10_order_195 kc_i_0 ?_
      refine w_istore C (lv' := [(5, .int 0), (0, .ref (gad G 10 0)), (2, .int x2), (3, .int x3), (4, .int x4), (6, .int x6)]) dX10_order_196 (by decide) rfl ?_
      obtain ⟨f17, hw⟩ := hw
      exact w_sub [1, 2, 3, 4, 0, 5] rfl (s_X10_order_198 C HR HT ih f17 x2 x3 x4 0 x6  _ hw)
set_option maxRecDepth 100000 in
set_option maxHeartbeats 4000000 in
theorem s_X10_order_162 {G : GG} {n : Nat} {E : EE} (C : Cx G n E RX10 cX10_order 8) (HR : RM E 2 46) (HT : RT E (some .int)) {Q : Int32 → Mem → Prop} {K63 : Int32 → Int32 → Int32 → Int32 → Mem → Prop} (g63 : ∀ (x1 : Int32) (x2 : Int32) (x3 : Int32) (x4 : Int32)  (M : Mem), K63 x1 x2 x3 x4 M → WW G n E 8 (QE G E (Qi G n Q)) 63 [(0, .ref (gad G 10 0)), (1, .int x1), (2, .int x2), (3, .int x3), (4, .int x4)] [] M) : ∀ (x1 : Int32) (x2 : Int32) (x3 : Int32) (x4 : Int32)  (M : Mem), w_X10_order_162 Q K63 x1 x2 x3 x4 M → WW G n E 8 (QE G E (Qi G n Q)) 162 [(0, .ref (gad G 10 0)), (1, .int x1), (2, .int x2), (3, .int x3), (4, .int x4)] [] M := by
  intro x1 x2 x3 x4 M hw
  refine w_iincV C (lv' := [(4, .int (x4 + 1)), (0, .ref (gad G 10 0)), (1, .int x1), (2, .int x2), (3, .int x3)]) 4 dX10_order_162 kc_i_1 rfl (by decide) rfl ?_
  refine w_goto C dX10_order_165 (tgt := 63) rfl ?_
  exact w_sub [1, 2, 3, 4, 0] rfl (g63 x1 x2 x3 (x4 + 1)  _ hw)
set_option maxRecDepth 100000 in
set_option maxHeartbeats 4000000 in
theorem s_X10_order_145 {G : GG} {n : Nat} {E : EE} (C : Cx G n E RX10 cX10_order 8) (HR : RM E 2 46) (HT : RT E (some .int)) {Q : Int32 → Mem → Prop} {K63 : Int32 → Int32 → Int32 → Int32 → Mem → Prop} (g63 : ∀ (x1 : Int32) (x2 : Int32) (x3 : Int32) (x4 : Int32)  (M : Mem), K63 x1 x2 x3 x4 M → WW G n E 8 (QE G E (Qi G n Q)) 63 [(0, .ref (gad G 10 0)), (1, .int x1), (2, .int x2), (3, .int x3), (4, .int x4)] [] M) {K84 : Int32 → Int32 → Int32 → Int32 → Int32 → Int32 → Mem → Prop} (g84 : ∀ (x1 : Int32) (x2 : Int32) (x3 : Int32) (x4 : Int32) (x5 : Int32) (x6 : Int32)  (M : Mem), K84 x1 x2 x3 x4 x5 x6 M → WW G n E 8 (QE G E (Qi G n Q)) 84 [(0, .ref (gad G 10 0)), (1, .int x1), (2, .int x2), (3, .int x3), (4, .int x4), (5, .int x5), (6, .int x6)] [] M) : ∀ (x1 : Int32) (x2 : Int32) (x3 : Int32) (x4 : Int32) (x6 : Int32) (y0 : Int32)  (M : Mem), w_X10_order_145 Q K63 K84 x1 x2 x3 x4 x6 y0 M → WW G n E 8 (QE G E (Qi G n Q)) 145 [(0, .ref (gad G 10 0)), (1, .int x1), (2, .int x2), (3, .int x3), (4, .int x4), (6, .int x6)] [.int y0] M := by
  intro x1 x2 x3 x4 x6 y0 M hw
  refine w_istore C (lv' := [(5, .int y0), (0, .ref (gad G 10 0)), (1, .int x1), (2, .int x2), (3, .int x3), (4, .int x4), (6, .int x6)]) dX10_order_145 (by decide) rfl ?_
  refine w_iincV C (lv' := [(6, .int (x6 + 1)), (5, .int y0), (0, .ref (gad G 10 0)), (1, .int x1), (2, .int x2), (3, .int x3), (4, .int x4)]) 6 dX10_order_147 kc_i_1 rfl (by decide) rfl ?_
  refine w_goto C dX10_order_150 (tgt := 84) rfl ?_
  exact w_sub [2, 3, 4, 5, 6, 1, 0] rfl (g84 x1 x2 x3 x4 y0 (x6 + 1)  _ hw)
set_option maxRecDepth 100000 in
set_option maxHeartbeats 4000000 in
theorem s_X10_order_143 {G : GG} {n : Nat} {E : EE} (C : Cx G n E RX10 cX10_order 8) (HR : RM E 2 46) (HT : RT E (some .int)) {Q : Int32 → Mem → Prop} {K63 : Int32 → Int32 → Int32 → Int32 → Mem → Prop} (g63 : ∀ (x1 : Int32) (x2 : Int32) (x3 : Int32) (x4 : Int32)  (M : Mem), K63 x1 x2 x3 x4 M → WW G n E 8 (QE G E (Qi G n Q)) 63 [(0, .ref (gad G 10 0)), (1, .int x1), (2, .int x2), (3, .int x3), (4, .int x4)] [] M) {K84 : Int32 → Int32 → Int32 → Int32 → Int32 → Int32 → Mem → Prop} (g84 : ∀ (x1 : Int32) (x2 : Int32) (x3 : Int32) (x4 : Int32) (x5 : Int32) (x6 : Int32)  (M : Mem), K84 x1 x2 x3 x4 x5 x6 M → WW G n E 8 (QE G E (Qi G n Q)) 84 [(0, .ref (gad G 10 0)), (1, .int x1), (2, .int x2), (3, .int x3), (4, .int x4), (5, .int x5), (6, .int x6)] [] M) : ∀ (x1 : Int32) (x2 : Int32) (x3 : Int32) (x4 : Int32) (x5 : Int32) (x6 : Int32)  (M : Mem), w_X10_order_143 Q K63 K84 x1 x2 x3 x4 x5 x6 M → WW G n E 8 (QE G E (Qi G n Q)) 143 [(0, .ref (gad G 10 0)), (1, .int x1), (2, .int x2), (3, .int x3), (4, .int x4), (5, .int x5), (6, .int x6)] [] M := by
  intro x1 x2 x3 x4 x5 x6 M hw
  refine w_iload C 5 dX10_order_143 rfl ?_
  exact w_sub [0, 1, 2, 3, 4, 6] rfl (s_X10_order_145 C HR HT g63 g84 x1 x2 x3 x4 x6 x5  _ hw)
set_option maxRecDepth 100000 in
set_option maxHeartbeats 4000000 in
theorem s_X10_order_138 {G : GG} {n : Nat} {E : EE} (C : Cx G n E RX10 cX10_order 8) (HR : RM E 2 46) (HT : RT E (some .int)) {Q : Int32 → Mem → Prop} {K63 : Int32 → Int32 → Int32 → Int32 → Mem → Prop} (g63 : ∀ (x1 : Int32) (x2 : Int32) (x3 : Int32) (x4 : Int32)  (M : Mem), K63 x1 x2 x3 x4 M → WW G n E 8 (QE G E (Qi G n Q)) 63 [(0, .ref (gad G 10 0)), (1, .int x1), (2, .int x2), (3, .int x3), (4, .int x4)] [] M) {K84 : Int32 → Int32 → Int32 → Int32 → Int32 → Int32 → Mem → Prop} (g84 : ∀ (x1 : Int32) (x2 : Int32) (x3 : Int32) (x4 : Int32) (x5 : Int32) (x6 : Int32)  (M : Mem), K84 x1 x2 x3 x4 x5 x6 M → WW G n E 8 (QE G E (Qi G n Q)) 84 [(0, .ref (gad G 10 0)), (1, .int x1), (2, .int x2), (3, .int x3), (4, .int x4), (5, .int x5), (6, .int x6)] [] M) : ∀ (x1 : Int32) (x2 : Int32) (x3 : Int32) (x4 : Int32) (x6 : Int32) (x7 : Int32)  (M : Mem), w_X10_order_138 Q K63 K84 x1 x2 x3 x4 x6 x7 M → WW G n E 8 (QE G E (Qi G n Q)) 138 [(0, .ref (gad G 10 0)), (1, .int x1), (2, .int x2), (3, .int x3), (4, .int x4), (6, .int x6), (7, .int x7)] [] M := by
  intro x1 x2 x3 x4 x6 x7 M hw
  refine w_iload C 6 dX10_order_138 rfl ?_
  refine w_goto C dX10_order_140 (tgt := 145) rfl ?_
  exact w_sub [0, 1, 2, 3, 4, 5] rfl (s_X10_order_145 C HR HT g63 g84 x1 x2 x3 x4 x6 x7  _ hw)
set_option maxRecDepth 100000 in
set_option maxHeartbeats 4000000 in
theorem s_X10_order_117 {G : GG} {n : Nat} {E : EE} (C : Cx G n E RX10 cX10_order 8) (HR : RM E 2 46) (HT : RT E (some .int)) {Q : Int32 → Mem → Prop} {K63 : Int32 → Int32 → Int32 → Int32 → Mem → Prop} (g63 : ∀ (x1 : Int32) (x2 : Int32) (x3 : Int32) (x4 : Int32)  (M : Mem), K63 x1 x2 x3 x4 M → WW G n E 8 (QE G E (Qi G n Q)) 63 [(0, .ref (gad G 10 0)), (1, .int x1), (2, .int x2), (3, .int x3), (4, .int x4)] [] M) {K84 : Int32 → Int32 → Int32 → Int32 → Int32 → Int32 → Mem → Prop} (g84 : ∀ (x1 : Int32) (x2 : Int32) (x3 : Int32) (x4 : Int32) (x5 : Int32) (x6 : Int32)  (M : Mem), K84 x1 x2 x3 x4 x5 x6 M → WW G n E 8 (QE G E (Qi G n Q)) 84 [(0, .ref (gad G 10 0)), (1, .int x1), (2, .int x2), (3, .int x3), (4, .int x4), (5, .int x5), (6, .int x6)] [] M) : ∀ (x1 : Int32) (x2 : Int32) (x3 : Int32) (x4 : Int32) (x5 : Int32) (x6 : Int32) (y0 : Int32)  (M : Mem), w_X10_order_117 Q K63 K84 x1 x2 x3 x4 x5 x6 y0 M → WW G n E 8 (QE G E (Qi G n Q)) 117 [(0, .ref (gad G 10 0)), (1, .int x1), (2, .int x2), (3, .int x3), (4, .int x4), (5, .int x5), (6, .int x6)] [.int y0] M := by
  intro x1 x2 x3 x4 x5 x6 y0 M hw
  refine w_istore C (lv' := [(7, .int y0), (0, .ref (gad G 10 0)), (1, .int x1), (2, .int x2), (3, .int x3), (4, .int x4), (5, .int x5), (6, .int x6)]) dX10_order_117 (by decide) rfl ?_
  refine w_iload C 0 dX10_order_119 rfl ?_
  refine w_iconst C dX10_order_121 kc_i_m1 ?_
  refine w_icmp_eq C dX10_order_122 (tgt := 143) rfl (fun c31 => ?_) (fun c31 => ?_)
  · replace hw := hw.1 c31
    exact w_sub [1, 2, 3, 4, 5, 6, 7] rfl (s_X10_order_143 C HR HT g63 g84 x1 x2 x3 x4 x5 x6  _ hw)
  · replace hw := hw.2 c31
    refine w_iload C 6 dX10_order_125 rfl ?_
    refine w_iconst C dX10_order_127 kc_i_m1 ?_
    refine w_icmp_eq C dX10_order_128 (tgt := 138) rfl (fun c32 => ?_) (fun c32 => ?_)
    · replace hw := hw.1 c32
      exact w_sub [1, 2, 3, 4, 5, 7, 0] rfl (s_X10_order_138 C HR HT g63 g84 x1 x2 x3 x4 x6 y0  _ hw)
    · replace hw := hw.2 c32
      refine w_iload C 0 dX10_order_131 rfl ?_
      refine w_iload C 6 dX10_order_133 rfl ?_
      refine w_icmp_ge C dX10_order_135 (tgt := 143) rfl (fun c33 => ?_) (fun c33 => ?_)
      · replace hw := hw.1 c33
        exact w_sub [1, 2, 3, 4, 5, 6, 7] rfl (s_X10_order_143 C HR HT g63 g84 x1 x2 x3 x4 x5 x6  _ hw)
      · replace hw := hw.2 c33
        exact w_sub [1, 2, 3, 4, 5, 7, 0] rfl (s_X10_order_138 C HR HT g63 g84 x1 x2 x3 x4 x6 y0  _ hw)
set_option maxRecDepth 100000 in
set_option maxHeartbeats 4000000 in
theorem s_X10_order_84 {G : GG} {n : Nat} {E : EE} (C : Cx G n E RX10 cX10_order 8) (HR : RM E 2 46) (HT : RT E (some .int)) {Q : Int32 → Mem → Prop} {K63 : Int32 → Int32 → Int32 → Int32 → Mem → Prop} (g63 : ∀ (x1 : Int32) (x2 : Int32) (x3 : Int32) (x4 : Int32)  (M : Mem), K63 x1 x2 x3 x4 M → WW G n E 8 (QE G E (Qi G n Q)) 63 [(0, .ref (gad G 10 0)), (1, .int x1), (2, .int x2), (3, .int x3), (4, .int x4)] [] M) : ∀ (f : Nat) (x1 : Int32) (x2 : Int32) (x3 : Int32) (x4 : Int32) (x5 : Int32) (x6 : Int32)  (M : Mem), w_X10_order_84 Q K63 f x1 x2 x3 x4 x5 x6 M → WW G n E 8 (QE G E (Qi G n Q)) 84 [(0, .ref (gad G 10 0)), (1, .int x1), (2, .int x2), (3, .int x3), (4, .int x4), (5, .int x5), (6, .int x6)] [] M := by
  intro f
  induction f with
  | zero => intro x1 x2 x3 x4 x5 x6 M hw; exact hw.elim
  | succ f ih =>
    intro x1 x2 x3 x4 x5 x6 M hw
    refine w_iload C 6 dX10_order_84 rfl ?_
    refine w_aload_n C 0 dX10_order_86 rfl rfl ?_
    refine gf_X10_229 C (Nat.le_of_ble_eq_true rfl) dX10_order_87 ?_
    refine w_icmp_ge C dX10_order_90 (tgt := 153) rfl (fun c27 => ?_) (fun c27 => ?_)
    · replace hw := hw.1 c27
      refine w_aload_n C 0 dX10_order_153 rfl rfl ?_
      refine gf_X10_99 C (Nat.le_of_ble_eq_true rfl) dX10_order_154 ?_
      refine w_iload C 4 dX10_order_157 rfl ?_
      refine w_iload C 5 dX10_order_159 rfl ?_
      obtain ⟨b28, hw⟩ := hw
      refine v_iast C ak_80 rfl (Nat.le_of_ble_eq_true rfl) b28 dX10_order_161 (w_mem fun M29 eM29 => ?_)
      replace hw := hw M29 eM29
      exact w_sub [0, 1, 2, 3, 4] rfl (s_X10_order_162 C HR HT g63 x1 x2 x3 x4  _ hw)
    · replace hw := hw.2 c27
      refine w_iload C 4 dX10_order_93 rfl ?_
      refine w_iload C 6 dX10_order_95 rfl ?_
      refine w_ishr C dX10_order_97 ?_
      refine w_iconst C dX10_order_98 kc_i_1 ?_
      refine w_iand C dX10_order_99 ?_
      refine w_iconst C dX10_order_100 kc_i_1 ?_
      refine w_icmp_ne C dX10_order_101 (tgt := 116) rfl (fun c30 => ?_) (fun c30 => ?_)
      · replace hw := hw.2 c30
        refine w_iconst C dX10_order_116 kc_i_m1 ?_
        exact w_sub [0, 1, 2, 3, 4, 5, 6] rfl (s_X10_order_117 C HR HT g63 ih x1 x2 x3 x4 x5 x6 (-1)  _ hw)
      · replace hw := hw.1 c30
        refine w_aload_n C 0 dX10_order_104 rfl rfl ?_
        refine w_iload C 4 dX10_order_105 rfl ?_
        refine w_iload C 6 dX10_order_107 rfl ?_
        refine w_iload_n C 3 dX10_order_109 rfl rfl ?_
        refine back_I (run_V C HR mt_X10_costBy (ci := 10) rfl (by decide) (Nat.le_of_ble_eq_true rfl) gw1446 gw72 gw1444 (by decide) rfl (Nat.le_of_ble_eq_true rfl) dX10_order_110 (As := [.int x4, .int x6, .int x3]) rfl (c_X10_costBy x4 x6 x3  _ _ hw)) (fun r35 M34 hw => ?_)
        refine w_goto C dX10_order_113 (tgt := 117) rfl ?_
        exact w_sub [0, 1, 2, 3, 4, 5, 6] rfl (s_X10_order_117 C HR HT g63 ih x1 x2 x3 x4 x5 x6 r35  _ hw)
set_option maxRecDepth 100000 in
set_option maxHeartbeats 4000000 in
theorem s_X10_order_63 {G : GG} {n : Nat} {E : EE} (C : Cx G n E RX10 cX10_order 8) (HR : RM E 2 46) (HT : RT E (some .int)) {Q : Int32 → Mem → Prop}  : ∀ (f : Nat) (x1 : Int32) (x2 : Int32) (x3 : Int32) (x4 : Int32)  (M : Mem), w_X10_order_63 Q  f x1 x2 x3 x4 M → WW G n E 8 (QE G E (Qi G n Q)) 63 [(0, .ref (gad G 10 0)), (1, .int x1), (2, .int x2), (3, .int x3), (4, .int x4)] [] M := by
  intro f
  induction f with
  | zero => intro x1 x2 x3 x4 M hw; exact hw.elim
  | succ f ih =>
    intro x1 x2 x3 x4 M hw
    refine w_iload C 4 dX10_order_63 rfl ?_
    refine w_iload_n C 1 dX10_order_65 rfl rfl ?_
    refine w_icmp_gt C dX10_order_66 (tgt := 168) rfl (fun c13 => ?_) (fun c13 => ?_)
    · replace hw := hw.1 c13
      refine w_iload_n C 2 dX10_order_168 rfl rfl ?_
      refine w_iconst C dX10_order_169 kc_i_m1 ?_
      refine w_icmp_ne C dX10_order_170 (tgt := 180) rfl (fun c14 => ?_) (fun c14 => ?_)
      · replace hw := hw.2 c14
        refine w_iload_n C 1 dX10_order_180 rfl rfl ?_
        refine w_istore C (lv' := [(4, .int x1), (0, .ref (gad G 10 0)), (1, .int x1), (2, .int x2), (3, .int x3)]) dX10_order_181 (by decide) rfl ?_
        refine w_iconst C dX10_order_183 kc_i_0 ?_
        refine w_istore C (lv' := [(5, .int 0), (4, .int x1), (0, .ref (gad G 10 0)), (1, .int x1), (2, .int x2), (3, .int x3)]) dX10_order_184 (by decide) rfl ?_
        refine w_iconst C dX10_order_186 kc_i_0 ?_
        refine w_istore C (lv' := [(6, .int 0), (5, .int 0), (4, .int x1), (0, .ref (gad G 10 0)), (1, .int x1), (2, .int x2), (3, .int x3)]) dX10_order_187 (by decide) rfl ?_
        obtain ⟨f15, hw⟩ := hw
        exact w_sub [3, 5, 6, 2, 1, 0] rfl (s_X10_order_189 C HR HT  f15 x2 x3 x1 0 0  _ hw)
      · replace hw := hw.1 c14
        refine w_aload_n C 0 dX10_order_173 rfl rfl ?_
        refine gf_X10_99 C (Nat.le_of_ble_eq_true rfl) dX10_order_174 ?_
        refine w_iload_n C 1 dX10_order_177 rfl rfl ?_
        obtain ⟨b24, hw⟩ := hw
        refine v_iald C ak_80 rfl (Nat.le_of_ble_eq_true rfl) b24 dX10_order_178 ?_
        exact ret_I C HT hw dX10_order_179
    · replace hw := hw.2 c13
      refine w_iload C 4 dX10_order_69 rfl ?_
      refine w_iload_n C 1 dX10_order_71 rfl rfl ?_
      refine w_iconst C dX10_order_72 kc_i_m1 ?_
      refine w_ixor C dX10_order_73 ?_
      refine w_iand C dX10_order_74 ?_
      refine w_if_ne C dX10_order_75 (tgt := 162) rfl (fun c25 => ?_) (fun c25 => ?_)
      · replace hw := hw.2 c25
        exact w_sub [0, 1, 2, 3, 4] rfl (s_X10_order_162 C HR HT ih x1 x2 x3 x4  _ hw)
      · replace hw := hw.1 c25
        refine w_iconst C dX10_order_78 kc_i_m1 ?_
        refine w_istore C (lv' := [(5, .int (-1)), (0, .ref (gad G 10 0)), (1, .int x1), (2, .int x2), (3, .int x3), (4, .int x4)]) dX10_order_79 (by decide) rfl ?_
        refine w_iconst C dX10_order_81 kc_i_0 ?_
        refine w_istore C (lv' := [(6, .int 0), (5, .int (-1)), (0, .ref (gad G 10 0)), (1, .int x1), (2, .int x2), (3, .int x3), (4, .int x4)]) dX10_order_82 (by decide) rfl ?_
        obtain ⟨f26, hw⟩ := hw
        exact w_sub [2, 3, 4, 5, 6, 1, 0] rfl (s_X10_order_84 C HR HT ih f26 x1 x2 x3 x4 (-1) 0  _ hw)
set_option maxRecDepth 100000 in
set_option maxHeartbeats 4000000 in
theorem s_X10_order_47 {G : GG} {n : Nat} {E : EE} (C : Cx G n E RX10 cX10_order 8) (HR : RM E 2 46) (HT : RT E (some .int)) {Q : Int32 → Mem → Prop}  : ∀ (x1 : Int32) (x2 : Int32)  (M : Mem), w_X10_order_47 Q  x1 x2 M → WW G n E 8 (QE G E (Qi G n Q)) 47 [(0, .ref (gad G 10 0)), (1, .int x1), (2, .int x2)] [] M := by
  intro x1 x2 M hw
  refine w_aload_n C 0 dX10_order_47 rfl rfl ?_
  refine w_iload_n C 1 dX10_order_48 rfl rfl ?_
  refine back_I (run_V C HR mt_X10_daysOfSet (ci := 10) rfl (by decide) (Nat.le_of_ble_eq_true rfl) gw1442 gw71 gw1440 (by decide) rfl (Nat.le_of_ble_eq_true rfl) dX10_order_49 (As := [.int x1]) rfl (c_X10_daysOfSet x1  _ _ hw)) (fun r9 M8 hw => ?_)
  refine w_istore_n C (lv' := [(3, .int r9), (0, .ref (gad G 10 0)), (1, .int x1), (2, .int x2)]) dX10_order_52 rfl (by decide) rfl ?_
  refine w_aload_n C 1 dX10_order_53 rfl rfl ?_
  refine gf_X10_99 C (Nat.le_of_ble_eq_true rfl) dX10_order_54 ?_
  refine w_iconst C dX10_order_57 kc_i_0 ?_
  refine w_iconst C dX10_order_58 kc_i_0 ?_
  obtain ⟨b10, hw⟩ := hw
  refine v_iast C ak_80 rfl (Nat.le_of_ble_eq_true rfl) b10 dX10_order_59 (w_mem fun M11 eM11 => ?_)
  replace hw := hw M11 eM11
  refine w_iconst C dX10_order_60 kc_i_1 ?_
  refine w_istore C (lv' := [(4, .int 1), (3, .int r9), (0, .ref (gad G 10 0)), (1, .int x1), (2, .int x2)]) dX10_order_61 (by decide) rfl ?_
  obtain ⟨f12, hw⟩ := hw
  exact w_sub [2, 3, 4, 1, 0] rfl (s_X10_order_63 C HR HT  f12 x1 x2 r9 1  _ hw)
set_option maxRecDepth 100000 in
set_option maxHeartbeats 4000000 in
theorem c_X10_order {G : GG} {n : Nat} {l : Launch} (x1 : Int32) (x2 : Int32)  (M : Mem) (Q : Int32 → Mem → Prop) (hw : wp_X10_order x1 x2 M Q) : Ct G n l yX10_order cX10_order 8 (some .int) 2 46 [.ref (gad G 10 0), .int x1, .int x2] M (Qi G n Q) := by
  refine ct_of (by decide) (Nat.le_of_ble_eq_true rfl) (lv := [(0, .ref (gad G 10 0)), (1, .int x1), (2, .int x2)]) rfl (fun E C HR HT hE => ?_)
  replace C : Cx G n E RX10 cX10_order 8 := C
  refine w_iload_n C 1 dX10_order_0 rfl rfl ?_
  refine w_iconst C dX10_order_1 kc_i_0 ?_
  refine w_iconst C dX10_order_2 kc_i_1 ?_
  refine w_aload_n C 0 dX10_order_3 rfl rfl ?_
  refine gf_X10_229 C (Nat.le_of_ble_eq_true rfl) dX10_order_4 ?_
  refine w_ishl C dX10_order_7 ?_
  refine w_iconst C dX10_order_8 kc_i_1 ?_
  refine w_isub C dX10_order_9 ?_
  refine back_I (run_S C HR mt_X10_in gw1179 gw1178 (by decide) rfl (Nat.le_of_ble_eq_true rfl) dX10_order_10 (As := [.int x1, .int 0, .int ((1 <<< ((M 720 0 0) &&& 31)) - 1)]) rfl (c_X10_in x1 0 ((1 <<< ((M 720 0 0) &&& 31)) - 1)  _ _ hw)) (fun r2 M1 hw => ?_)
  refine w_if_eq C dX10_order_13 (tgt := 44) rfl (fun c3 => ?_) (fun c3 => ?_)
  · replace hw := hw.1 c3
    refine w_bipush C dX10_order_44 kc_b_m2 ?_
    exact ret_I C HT hw dX10_order_46
  · replace hw := hw.2 c3
    refine w_iload_n C 1 dX10_order_16 rfl rfl ?_
    refine back_I (run_S C HR mt_X10_ones gw1294 gw1293 (by decide) rfl (Nat.le_of_ble_eq_true rfl) dX10_order_17 (As := [.int x1]) rfl (c_X10_ones x1  _ _ hw)) (fun r5 M4 hw => ?_)
    refine w_bipush C dX10_order_20 kc_b_8 ?_
    refine w_icmp_gt C dX10_order_22 (tgt := 44) rfl (fun c6 => ?_) (fun c6 => ?_)
    · replace hw := hw.1 c6
      refine w_bipush C dX10_order_44 kc_b_m2 ?_
      exact ret_I C HT hw dX10_order_46
    · replace hw := hw.2 c6
      refine w_iload_n C 2 dX10_order_25 rfl rfl ?_
      refine w_iconst C dX10_order_26 kc_i_m1 ?_
      refine w_icmp_eq C dX10_order_27 (tgt := 47) rfl (fun c7 => ?_) (fun c7 => ?_)
      · replace hw := hw.1 c7
        exact w_sub [0, 1, 2] rfl (s_X10_order_47 C HR HT  x1 x2  _ hw)
      · replace hw := hw.2 c7
        refine w_iload_n C 2 dX10_order_30 rfl rfl ?_
        refine w_iconst C dX10_order_31 kc_i_0 ?_
        refine w_iload_n C 1 dX10_order_32 rfl rfl ?_
        refine back_I (run_S C HR mt_X10_ones gw1294 gw1293 (by decide) rfl (Nat.le_of_ble_eq_true rfl) dX10_order_33 (As := [.int x1]) rfl (c_X10_ones x1  _ _ hw)) (fun r37 M36 hw => ?_)
        refine w_iconst C dX10_order_36 kc_i_1 ?_
        refine w_isub C dX10_order_37 ?_
        refine back_I (run_S C HR mt_X10_in gw1179 gw1178 (by decide) rfl (Nat.le_of_ble_eq_true rfl) dX10_order_38 (As := [.int x2, .int 0, .int (r37 - 1)]) rfl (c_X10_in x2 0 (r37 - 1)  _ _ hw)) (fun r39 M38 hw => ?_)
        refine w_if_ne C dX10_order_41 (tgt := 47) rfl (fun c40 => ?_) (fun c40 => ?_)
        · replace hw := hw.2 c40
          exact w_sub [0, 1, 2] rfl (s_X10_order_47 C HR HT  x1 x2  _ hw)
        · replace hw := hw.1 c40
          refine w_bipush C dX10_order_44 kc_b_m2 ?_
          exact ret_I C HT hw dX10_order_46
set_option maxRecDepth 100000 in
set_option maxHeartbeats 4000000 in
theorem s_X10_sheet_59 {G : GG} {n : Nat} {E : EE} (C : Cx G n E RX10 cX10_sheet 5) (HR : RM E 2 42) (HT : RT E (some .int)) {Q : Int32 → Mem → Prop}  : ∀ (f : Nat) (x1 : Int32) (x3 : Int32) (x4 : Int32)  (M : Mem), w_X10_sheet_59 Q  f x1 x3 x4 M → WW G n E 5 (QE G E (Qi G n Q)) 59 [(0, .ref (gad G 10 0)), (1, .int x1), (3, .int x3), (4, .int x4)] [] M := by
  intro f
  induction f with
  | zero => intro x1 x3 x4 M hw; exact hw.elim
  | succ f ih =>
    intro x1 x3 x4 M hw
    refine w_iload C 3 dX10_sheet_59 rfl ?_
    refine w_bipush C dX10_sheet_61 kc_b_40 ?_
    refine w_icmp_ge C dX10_sheet_63 (tgt := 85) rfl (fun c16 => ?_) (fun c16 => ?_)
    · replace hw := hw.1 c16
      refine w_iload_n C 2 dX10_sheet_85 rfl rfl ?_
      exact ret_I C HT hw dX10_sheet_86
    · replace hw := hw.2 c16
      refine w_aload_n C 0 dX10_sheet_66 rfl rfl ?_
      refine gf_X10_111 C (Nat.le_of_ble_eq_true rfl) dX10_sheet_67 ?_
      refine w_bipush C dX10_sheet_70 kc_b_40 ?_
      refine w_iload_n C 1 dX10_sheet_72 rfl rfl ?_
      refine w_imul C dX10_sheet_73 ?_
      refine w_iload C 3 dX10_sheet_74 rfl ?_
      refine w_iadd C dX10_sheet_76 ?_
      refine w_iconst C dX10_sheet_77 kc_i_0 ?_
      obtain ⟨b17, hw⟩ := hw
      refine v_iast C ak_84 rfl (Nat.le_of_ble_eq_true rfl) b17 dX10_sheet_78 (w_mem fun M18 eM18 => ?_)
      replace hw := hw M18 eM18
      refine w_iincV C (lv' := [(4, .int (x4 + 1)), (0, .ref (gad G 10 0)), (1, .int x1), (3, .int x3)]) 3 dX10_sheet_79 kc_i_1 rfl (by decide) rfl ?_
      refine w_goto C dX10_sheet_82 (tgt := 59) rfl ?_
      exact w_sub [1, 2, 3, 0] rfl (ih x1 x3 (x4 + 1)  _ hw)
set_option maxRecDepth 100000 in
set_option maxHeartbeats 4000000 in
theorem c_X10_sheet {G : GG} {n : Nat} {l : Launch} (x1 : Int32) (x2 : Int32) (x3 : Int32)  (M : Mem) (Q : Int32 → Mem → Prop) (hw : wp_X10_sheet x1 x2 x3 M Q) : Ct G n l yX10_sheet cX10_sheet 5 (some .int) 2 42 [.ref (gad G 10 0), .int x1, .int x2, .int x3] M (Qi G n Q) := by
  refine ct_of (by decide) (Nat.le_of_ble_eq_true rfl) (lv := [(0, .ref (gad G 10 0)), (1, .int x1), (2, .int x2), (3, .int x3)]) rfl (fun E C HR HT hE => ?_)
  replace C : Cx G n E RX10 cX10_sheet 5 := C
  refine w_iload_n C 1 dX10_sheet_0 rfl rfl ?_
  refine back_I (run_S C HR mt_X10_isSheet gw1252 gw1251 (by decide) rfl (Nat.le_of_ble_eq_true rfl) dX10_sheet_1 (As := [.int x1]) rfl (c_X10_isSheet x1  _ _ hw)) (fun r2 M1 hw => ?_)
  refine w_if_eq C dX10_sheet_4 (tgt := 22) rfl (fun c3 => ?_) (fun c3 => ?_)
  · replace hw := hw.1 c3
    refine w_bipush C dX10_sheet_22 kc_b_m2 ?_
    exact ret_I C HT hw dX10_sheet_24
  · replace hw := hw.2 c3
    refine w_iload_n C 2 dX10_sheet_7 rfl rfl ?_
    refine w_iconst C dX10_sheet_8 kc_i_0 ?_
    refine w_iconst C dX10_sheet_9 kc_i_2 ?_
    refine back_I (run_S C HR mt_X10_in gw1179 gw1178 (by decide) rfl (Nat.le_of_ble_eq_true rfl) dX10_sheet_10 (As := [.int x2, .int 0, .int 2]) rfl (c_X10_in x2 0 2  _ _ hw)) (fun r5 M4 hw => ?_)
    refine w_if_eq C dX10_sheet_13 (tgt := 22) rfl (fun c6 => ?_) (fun c6 => ?_)
    · replace hw := hw.1 c6
      refine w_bipush C dX10_sheet_22 kc_b_m2 ?_
      exact ret_I C HT hw dX10_sheet_24
    · replace hw := hw.2 c6
      refine w_iload_n C 3 dX10_sheet_16 rfl rfl ?_
      refine w_bipush C dX10_sheet_17 kc_b_40 ?_
      refine w_icmp_le C dX10_sheet_19 (tgt := 25) rfl (fun c7 => ?_) (fun c7 => ?_)
      · replace hw := hw.1 c7
        refine w_iload_n C 3 dX10_sheet_25 rfl rfl ?_
        refine w_if_ge C dX10_sheet_26 (tgt := 35) rfl (fun c8 => ?_) (fun c8 => ?_)
        · replace hw := hw.1 c8
          refine w_aload_n C 0 dX10_sheet_35 rfl rfl ?_
          refine gf_X10_102 C (Nat.le_of_ble_eq_true rfl) dX10_sheet_36 ?_
          refine w_iload_n C 1 dX10_sheet_39 rfl rfl ?_
          refine w_iconst C dX10_sheet_40 kc_i_1 ?_
          obtain ⟨b9, hw⟩ := hw
          refine v_zast C ak_81 rfl (Nat.le_of_ble_eq_true rfl) b9 rfl dX10_sheet_41 (w_mem fun M10 eM10 => ?_)
          replace hw := hw M10 eM10
          refine w_aload_n C 0 dX10_sheet_42 rfl rfl ?_
          refine gf_X10_105 C (Nat.le_of_ble_eq_true rfl) dX10_sheet_43 ?_
          refine w_iload_n C 1 dX10_sheet_46 rfl rfl ?_
          refine w_iload_n C 2 dX10_sheet_47 rfl rfl ?_
          obtain ⟨b11, hw⟩ := hw
          refine v_iast C ak_82 rfl (Nat.le_of_ble_eq_true rfl) b11 dX10_sheet_48 (w_mem fun M12 eM12 => ?_)
          replace hw := hw M12 eM12
          refine w_aload_n C 0 dX10_sheet_49 rfl rfl ?_
          refine gf_X10_108 C (Nat.le_of_ble_eq_true rfl) dX10_sheet_50 ?_
          refine w_iload_n C 1 dX10_sheet_53 rfl rfl ?_
          refine w_iload_n C 3 dX10_sheet_54 rfl rfl ?_
          obtain ⟨b13, hw⟩ := hw
          refine v_iast C ak_83 rfl (Nat.le_of_ble_eq_true rfl) b13 dX10_sheet_55 (w_mem fun M14 eM14 => ?_)
          replace hw := hw M14 eM14
          refine w_iconst C dX10_sheet_56 kc_i_0 ?_
          refine w_istore C (lv' := [(4, .int 0), (0, .ref (gad G 10 0)), (1, .int x1), (2, .int x2), (3, .int x3)]) dX10_sheet_57 (by decide) rfl ?_
          obtain ⟨f15, hw⟩ := hw
          exact w_sub [1, 2, 4, 0] rfl (s_X10_sheet_59 C HR HT  f15 x1 x3 0  _ hw)
        · replace hw := hw.2 c8
          refine w_aload_n C 0 dX10_sheet_29 rfl rfl ?_
          refine w_iconst C dX10_sheet_30 kc_i_5 ?_
          refine back_I (run_V C HR mt_X10_meets (ci := 10) rfl (by decide) (Nat.le_of_ble_eq_true rfl) gw1310 gw55 gw1308 (by decide) rfl (Nat.le_of_ble_eq_true rfl) dX10_sheet_31 (As := [.int 5]) rfl (c_X10_meets 5  _ _ hw)) (fun r20 M19 hw => ?_)
          exact ret_I C HT hw dX10_sheet_34
      · replace hw := hw.2 c7
        refine w_bipush C dX10_sheet_22 kc_b_m2 ?_
        exact ret_I C HT hw dX10_sheet_24
set_option maxRecDepth 100000 in
set_option maxHeartbeats 4000000 in
theorem c_X10_lose {G : GG} {n : Nat} {l : Launch} (x1 : Int32)  (M : Mem) (Q : Int32 → Mem → Prop) (hw : wp_X10_lose x1 M Q) : Ct G n l yX10_lose cX10_lose 2 (some .int) 2 42 [.ref (gad G 10 0), .int x1] M (Qi G n Q) := by
  refine ct_of (by decide) (Nat.le_of_ble_eq_true rfl) (lv := [(0, .ref (gad G 10 0)), (1, .int x1)]) rfl (fun E C HR HT hE => ?_)
  replace C : Cx G n E RX10 cX10_lose 2 := C
  refine w_iload_n C 1 dX10_lose_0 rfl rfl ?_
  refine back_I (run_S C HR mt_X10_isSheet gw1252 gw1251 (by decide) rfl (Nat.le_of_ble_eq_true rfl) dX10_lose_1 (As := [.int x1]) rfl (c_X10_isSheet x1  _ _ hw)) (fun r2 M1 hw => ?_)
  refine w_if_ne C dX10_lose_4 (tgt := 10) rfl (fun c3 => ?_) (fun c3 => ?_)
  · replace hw := hw.2 c3
    refine w_aload_n C 0 dX10_lose_10 rfl rfl ?_
    refine gf_X10_102 C (Nat.le_of_ble_eq_true rfl) dX10_lose_11 ?_
    refine w_iload_n C 1 dX10_lose_14 rfl rfl ?_
    obtain ⟨b4, hw⟩ := hw
    refine v_zald C ak_81 rfl (Nat.le_of_ble_eq_true rfl) b4 dX10_lose_15 ?_
    refine w_if_ne C dX10_lose_16 (tgt := 25) rfl (fun c5 => ?_) (fun c5 => ?_)
    · replace hw := hw.2 c5
      refine w_aload_n C 0 dX10_lose_25 rfl rfl ?_
      refine gf_X10_102 C (Nat.le_of_ble_eq_true rfl) dX10_lose_26 ?_
      refine w_iload_n C 1 dX10_lose_29 rfl rfl ?_
      refine w_iconst C dX10_lose_30 kc_i_0 ?_
      obtain ⟨b6, hw⟩ := hw
      refine v_zast C ak_81 rfl (Nat.le_of_ble_eq_true rfl) b6 rfl dX10_lose_31 (w_mem fun M7 eM7 => ?_)
      replace hw := hw M7 eM7
      refine w_aload_n C 0 dX10_lose_32 rfl rfl ?_
      refine gf_X10_108 C (Nat.le_of_ble_eq_true rfl) dX10_lose_33 ?_
      refine w_iload_n C 1 dX10_lose_36 rfl rfl ?_
      obtain ⟨b8, hw⟩ := hw
      refine v_iald C ak_83 rfl (Nat.le_of_ble_eq_true rfl) b8 dX10_lose_37 ?_
      exact ret_I C HT hw dX10_lose_38
    · replace hw := hw.1 c5
      refine w_aload_n C 0 dX10_lose_19 rfl rfl ?_
      refine w_iconst C dX10_lose_20 kc_i_1 ?_
      refine back_I (run_V C HR mt_X10_meets (ci := 10) rfl (by decide) (Nat.le_of_ble_eq_true rfl) gw1310 gw55 gw1308 (by decide) rfl (Nat.le_of_ble_eq_true rfl) dX10_lose_21 (As := [.int 1]) rfl (c_X10_meets 1  _ _ hw)) (fun r10 M9 hw => ?_)
      exact ret_I C HT hw dX10_lose_24
  · replace hw := hw.1 c3
    refine w_bipush C dX10_lose_7 kc_b_m2 ?_
    exact ret_I C HT hw dX10_lose_9
set_option maxRecDepth 100000 in
set_option maxHeartbeats 4000000 in
theorem c_X10_lacks {G : GG} {n : Nat} {l : Launch} (x1 : Int32) (x2 : Int32) (x3 : Int32)  (M : Mem) (Q : Int32 → Mem → Prop) (hw : wp_X10_lacks x1 x2 x3 M Q) : Ct G n l yX10_lacks cX10_lacks 4 (some .int) 1 22 [.ref (gad G 10 0), .int x1, .int x2, .int x3] M (Qi G n Q) := by
  refine ct_of (by decide) (Nat.le_of_ble_eq_true rfl) (lv := [(0, .ref (gad G 10 0)), (1, .int x1), (2, .int x2), (3, .int x3)]) rfl (fun E C HR HT hE => ?_)
  replace C : Cx G n E RX10 cX10_lacks 4 := C
  refine w_aload_n C 0 dX10_lacks_0 rfl rfl ?_
  refine gf_X10_102 C (Nat.le_of_ble_eq_true rfl) dX10_lacks_1 ?_
  refine w_iload_n C 1 dX10_lacks_4 rfl rfl ?_
  obtain ⟨b1, hw⟩ := hw
  refine v_zald C ak_81 rfl (Nat.le_of_ble_eq_true rfl) b1 dX10_lacks_5 ?_
  refine w_if_ne C dX10_lacks_6 (tgt := 13) rfl (fun c2 => ?_) (fun c2 => ?_)
  · replace hw := hw.2 c2
    refine w_aload_n C 0 dX10_lacks_13 rfl rfl ?_
    refine gf_X10_105 C (Nat.le_of_ble_eq_true rfl) dX10_lacks_14 ?_
    refine w_iload_n C 1 dX10_lacks_17 rfl rfl ?_
    obtain ⟨b3, hw⟩ := hw
    refine v_iald C ak_82 rfl (Nat.le_of_ble_eq_true rfl) b3 dX10_lacks_18 ?_
    refine w_iload_n C 2 dX10_lacks_19 rfl rfl ?_
    refine w_icmp_eq C dX10_lacks_20 (tgt := 27) rfl (fun c4 => ?_) (fun c4 => ?_)
    · replace hw := hw.1 c4
      refine w_iload_n C 3 dX10_lacks_27 rfl rfl ?_
      refine w_iconst C dX10_lacks_28 kc_i_0 ?_
      refine w_aload_n C 0 dX10_lacks_29 rfl rfl ?_
      refine gf_X10_108 C (Nat.le_of_ble_eq_true rfl) dX10_lacks_30 ?_
      refine w_iload_n C 1 dX10_lacks_33 rfl rfl ?_
      obtain ⟨b5, hw⟩ := hw
      refine v_iald C ak_83 rfl (Nat.le_of_ble_eq_true rfl) b5 dX10_lacks_34 ?_
      refine w_iconst C dX10_lacks_35 kc_i_1 ?_
      refine w_isub C dX10_lacks_36 ?_
      refine back_I (run_S C HR mt_X10_in gw1179 gw1178 (by decide) rfl (Nat.le_of_ble_eq_true rfl) dX10_lacks_37 (As := [.int x3, .int 0, .int ((M 83 0 x1.toNatClampNeg) - 1)]) rfl (c_X10_in x3 0 ((M 83 0 x1.toNatClampNeg) - 1)  _ _ hw)) (fun r7 M6 hw => ?_)
      refine w_if_eq C dX10_lacks_40 (tgt := 47) rfl (fun c8 => ?_) (fun c8 => ?_)
      · replace hw := hw.1 c8
        refine w_iconst C dX10_lacks_47 kc_i_2 ?_
        exact ret_I C HT hw dX10_lacks_48
      · replace hw := hw.2 c8
        refine w_iconst C dX10_lacks_43 kc_i_0 ?_
        refine w_goto C dX10_lacks_44 (tgt := 48) rfl ?_
        exact ret_I C HT hw dX10_lacks_48
    · replace hw := hw.2 c4
      refine w_iconst C dX10_lacks_23 kc_i_3 ?_
      refine w_goto C dX10_lacks_24 (tgt := 48) rfl ?_
      exact ret_I C HT hw dX10_lacks_48
  · replace hw := hw.1 c2
    refine w_iconst C dX10_lacks_9 kc_i_1 ?_
    refine w_goto C dX10_lacks_10 (tgt := 48) rfl ?_
    exact ret_I C HT hw dX10_lacks_48
set_option maxRecDepth 100000 in
set_option maxHeartbeats 4000000 in
theorem s_X10_lay_40 {G : GG} {n : Nat} {E : EE} (C : Cx G n E RX10 cX10_lay 4) (HR : RM E 0 0) (HT : RT E none) {Q : Mem → Prop}  : ∀ (y0 : Int32) (y1 : Int32)  (M : Mem), w_X10_lay_40 Q  y0 y1 M → WW G n E 4 (QE G E (Qv G n Q)) 40 [] [.int y0, .int y1, .ref (gad G 84 0)] M := by
  intro y0 y1 M hw
  obtain ⟨b5, hw⟩ := hw
  refine v_iast C ak_84 rfl (Nat.le_of_ble_eq_true rfl) b5 dX10_lay_40 (w_mem fun M6 eM6 => ?_)
  replace hw := hw M6 eM6
  exact ret_V C HT hw dX10_lay_41
set_option maxRecDepth 100000 in
set_option maxHeartbeats 4000000 in
theorem c_X10_lay {G : GG} {n : Nat} {l : Launch} (x1 : Int32) (x2 : Int32) (x3 : Int32)  (M : Mem) (Q : Mem → Prop) (hw : wp_X10_lay x1 x2 x3 M Q) : Ct G n l yX10_lay cX10_lay 4 none 0 0 [.ref (gad G 10 0), .int x1, .int x2, .int x3] M (Qv G n Q) := by
  refine ct_of (by decide) (Nat.le_of_ble_eq_true rfl) (lv := [(0, .ref (gad G 10 0)), (1, .int x1), (2, .int x2), (3, .int x3)]) rfl (fun E C HR HT hE => ?_)
  replace C : Cx G n E RX10 cX10_lay 4 := C
  refine w_aload_n C 0 dX10_lay_0 rfl rfl ?_
  refine gf_X10_111 C (Nat.le_of_ble_eq_true rfl) dX10_lay_1 ?_
  refine w_bipush C dX10_lay_4 kc_b_40 ?_
  refine w_iload_n C 1 dX10_lay_6 rfl rfl ?_
  refine w_imul C dX10_lay_7 ?_
  refine w_iload_n C 2 dX10_lay_8 rfl rfl ?_
  refine w_iadd C dX10_lay_9 ?_
  refine w_aload_n C 0 dX10_lay_10 rfl rfl ?_
  refine gf_X10_105 C (Nat.le_of_ble_eq_true rfl) dX10_lay_11 ?_
  refine w_iload_n C 1 dX10_lay_14 rfl rfl ?_
  obtain ⟨b1, hw⟩ := hw
  refine v_iald C ak_82 rfl (Nat.le_of_ble_eq_true rfl) b1 dX10_lay_15 ?_
  refine w_if_ne C dX10_lay_16 (tgt := 24) rfl (fun c2 => ?_) (fun c2 => ?_)
  · replace hw := hw.2 c2
    refine w_aload_n C 0 dX10_lay_24 rfl rfl ?_
    refine gf_X10_105 C (Nat.le_of_ble_eq_true rfl) dX10_lay_25 ?_
    refine w_iload_n C 1 dX10_lay_28 rfl rfl ?_
    obtain ⟨b3, hw⟩ := hw
    refine v_iald C ak_82 rfl (Nat.le_of_ble_eq_true rfl) b3 dX10_lay_29 ?_
    refine w_iconst C dX10_lay_30 kc_i_1 ?_
    refine w_icmp_ne C dX10_lay_31 (tgt := 39) rfl (fun c4 => ?_) (fun c4 => ?_)
    · replace hw := hw.2 c4
      refine w_iload_n C 3 dX10_lay_39 rfl rfl ?_
      exact w_sub [] rfl (s_X10_lay_40 C HR HT  x3 ((40 * x1) + x2)  _ hw)
    · replace hw := hw.1 c4
      refine w_iload_n C 3 dX10_lay_34 rfl rfl ?_
      refine w_i2s C dX10_lay_35 ?_
      refine w_goto C dX10_lay_36 (tgt := 40) rfl ?_
      exact w_sub [] rfl (s_X10_lay_40 C HR HT  ((x3 : Int32).toInt16.toInt32) ((40 * x1) + x2)  _ hw)
  · replace hw := hw.1 c2
    refine w_iload_n C 3 dX10_lay_19 rfl rfl ?_
    refine w_i2b C dX10_lay_20 ?_
    refine w_goto C dX10_lay_21 (tgt := 40) rfl ?_
    exact w_sub [] rfl (s_X10_lay_40 C HR HT  ((x3 : Int32).toInt8.toInt32) ((40 * x1) + x2)  _ hw)
set_option maxRecDepth 100000 in
set_option maxHeartbeats 4000000 in
theorem c_X10_put {G : GG} {n : Nat} {l : Launch} (x1 : Int32) (x2 : Int32) (x3 : Int32) (x4 : Int32)  (M : Mem) (Q : Int32 → Mem → Prop) (hw : wp_X10_put x1 x2 x3 x4 M Q) : Ct G n l yX10_put cX10_put 6 (some .int) 2 45 [.ref (gad G 10 0), .int x1, .int x2, .int x3, .int x4] M (Qi G n Q) := by
  refine ct_of (by decide) (Nat.le_of_ble_eq_true rfl) (lv := [(0, .ref (gad G 10 0)), (1, .int x1), (2, .int x2), (3, .int x3), (4, .int x4)]) rfl (fun E C HR HT hE => ?_)
  replace C : Cx G n E RX10 cX10_put 6 := C
  refine w_iload_n C 1 dX10_put_0 rfl rfl ?_
  refine back_I (run_S C HR mt_X10_isSheet gw1252 gw1251 (by decide) rfl (Nat.le_of_ble_eq_true rfl) dX10_put_1 (As := [.int x1]) rfl (c_X10_isSheet x1  _ _ hw)) (fun r2 M1 hw => ?_)
  refine w_if_eq C dX10_put_4 (tgt := 16) rfl (fun c3 => ?_) (fun c3 => ?_)
  · replace hw := hw.1 c3
    refine w_bipush C dX10_put_16 kc_b_m2 ?_
    exact ret_I C HT hw dX10_put_18
  · replace hw := hw.2 c3
    refine w_iload_n C 2 dX10_put_7 rfl rfl ?_
    refine w_iconst C dX10_put_8 kc_i_0 ?_
    refine w_iconst C dX10_put_9 kc_i_2 ?_
    refine back_I (run_S C HR mt_X10_in gw1179 gw1178 (by decide) rfl (Nat.le_of_ble_eq_true rfl) dX10_put_10 (As := [.int x2, .int 0, .int 2]) rfl (c_X10_in x2 0 2  _ _ hw)) (fun r5 M4 hw => ?_)
    refine w_if_ne C dX10_put_13 (tgt := 19) rfl (fun c6 => ?_) (fun c6 => ?_)
    · replace hw := hw.2 c6
      refine w_aload_n C 0 dX10_put_19 rfl rfl ?_
      refine w_iload_n C 1 dX10_put_20 rfl rfl ?_
      refine w_iload_n C 2 dX10_put_21 rfl rfl ?_
      refine w_iload_n C 3 dX10_put_22 rfl rfl ?_
      refine back_I (run_V C HR mt_X10_lacks (ci := 10) rfl (by decide) (Nat.le_of_ble_eq_true rfl) gw1462 gw73 gw1460 (by decide) rfl (Nat.le_of_ble_eq_true rfl) dX10_put_23 (As := [.int x1, .int x2, .int x3]) rfl (c_X10_lacks x1 x2 x3  _ _ hw)) (fun r8 M7 hw => ?_)
      refine w_istore C (lv' := [(5, .int r8), (0, .ref (gad G 10 0)), (1, .int x1), (2, .int x2), (3, .int x3), (4, .int x4)]) dX10_put_26 (by decide) rfl ?_
      refine w_iload C 0 dX10_put_28 rfl ?_
      refine w_if_le C dX10_put_30 (tgt := 40) rfl (fun c9 => ?_) (fun c9 => ?_)
      · replace hw := hw.1 c9
        refine w_aload_n C 1 dX10_put_40 rfl rfl ?_
        refine w_iload_n C 2 dX10_put_41 rfl rfl ?_
        refine w_iload_n C 4 dX10_put_42 rfl rfl ?_
        refine w_iload C 5 dX10_put_43 rfl ?_
        refine back_V (run_V C HR mt_X10_lay (ci := 10) rfl (by decide) (Nat.le_of_ble_eq_true rfl) gw1466 gw74 gw1464 (by decide) rfl (Nat.le_of_ble_eq_true rfl) dX10_put_45 (As := [.int x1, .int x3, .int x4]) rfl (c_X10_lay x1 x3 x4  _ _ hw)) (fun M10 hw => ?_)
        refine w_iconst C dX10_put_48 kc_i_1 ?_
        exact ret_I C HT hw dX10_put_49
      · replace hw := hw.2 c9
        refine w_aload_n C 1 dX10_put_33 rfl rfl ?_
        refine w_iload C 0 dX10_put_34 rfl ?_
        refine back_I (run_V C HR mt_X10_meets (ci := 10) rfl (by decide) (Nat.le_of_ble_eq_true rfl) gw1310 gw55 gw1308 (by decide) rfl (Nat.le_of_ble_eq_true rfl) dX10_put_36 (As := [.int r8]) rfl (c_X10_meets r8  _ _ hw)) (fun r12 M11 hw => ?_)
        exact ret_I C HT hw dX10_put_39
    · replace hw := hw.1 c6
      refine w_bipush C dX10_put_16 kc_b_m2 ?_
      exact ret_I C HT hw dX10_put_18
set_option maxRecDepth 100000 in
set_option maxHeartbeats 4000000 in
theorem c_X10_get {G : GG} {n : Nat} {l : Launch} (x1 : Int32) (x2 : Int32) (x3 : Int32)  (M : Mem) (Q : Int32 → Mem → Prop) (hw : wp_X10_get x1 x2 x3 M Q) : Ct G n l yX10_get cX10_get 5 (some .int) 2 45 [.ref (gad G 10 0), .int x1, .int x2, .int x3] M (Qi G n Q) := by
  refine ct_of (by decide) (Nat.le_of_ble_eq_true rfl) (lv := [(0, .ref (gad G 10 0)), (1, .int x1), (2, .int x2), (3, .int x3)]) rfl (fun E C HR HT hE => ?_)
  replace C : Cx G n E RX10 cX10_get 5 := C
  refine w_iload_n C 1 dX10_get_0 rfl rfl ?_
  refine back_I (run_S C HR mt_X10_isSheet gw1252 gw1251 (by decide) rfl (Nat.le_of_ble_eq_true rfl) dX10_get_1 (As := [.int x1]) rfl (c_X10_isSheet x1  _ _ hw)) (fun r2 M1 hw => ?_)
  refine w_if_eq C dX10_get_4 (tgt := 16) rfl (fun c3 => ?_) (fun c3 => ?_)
  · replace hw := hw.1 c3
    refine w_ldcw C dX10_get_16 gw1472 ?_
    exact ret_I C HT hw dX10_get_19
  · replace hw := hw.2 c3
    refine w_iload_n C 2 dX10_get_7 rfl rfl ?_
    refine w_iconst C dX10_get_8 kc_i_0 ?_
    refine w_iconst C dX10_get_9 kc_i_2 ?_
    refine back_I (run_S C HR mt_X10_in gw1179 gw1178 (by decide) rfl (Nat.le_of_ble_eq_true rfl) dX10_get_10 (As := [.int x2, .int 0, .int 2]) rfl (c_X10_in x2 0 2  _ _ hw)) (fun r5 M4 hw => ?_)
    refine w_if_ne C dX10_get_13 (tgt := 20) rfl (fun c6 => ?_) (fun c6 => ?_)
    · replace hw := hw.2 c6
      refine w_aload_n C 0 dX10_get_20 rfl rfl ?_
      refine w_iload_n C 1 dX10_get_21 rfl rfl ?_
      refine w_iload_n C 2 dX10_get_22 rfl rfl ?_
      refine w_iload_n C 3 dX10_get_23 rfl rfl ?_
      refine back_I (run_V C HR mt_X10_lacks (ci := 10) rfl (by decide) (Nat.le_of_ble_eq_true rfl) gw1462 gw73 gw1460 (by decide) rfl (Nat.le_of_ble_eq_true rfl) dX10_get_24 (As := [.int x1, .int x2, .int x3]) rfl (c_X10_lacks x1 x2 x3  _ _ hw)) (fun r8 M7 hw => ?_)
      refine w_istore C (lv' := [(4, .int r8), (0, .ref (gad G 10 0)), (1, .int x1), (2, .int x2), (3, .int x3)]) dX10_get_27 (by decide) rfl ?_
      refine w_iload C 0 dX10_get_29 rfl ?_
      refine w_if_le C dX10_get_31 (tgt := 44) rfl (fun c9 => ?_) (fun c9 => ?_)
      · replace hw := hw.1 c9
        refine w_aload_n C 1 dX10_get_44 rfl rfl ?_
        refine gf_X10_111 C (Nat.le_of_ble_eq_true rfl) dX10_get_45 ?_
        refine w_bipush C dX10_get_48 kc_b_40 ?_
        refine w_iload_n C 2 dX10_get_50 rfl rfl ?_
        refine w_imul C dX10_get_51 ?_
        refine w_iload_n C 4 dX10_get_52 rfl rfl ?_
        refine w_iadd C dX10_get_53 ?_
        obtain ⟨b10, hw⟩ := hw
        refine v_iald C ak_84 rfl (Nat.le_of_ble_eq_true rfl) b10 dX10_get_54 ?_
        exact ret_I C HT hw dX10_get_55
      · replace hw := hw.2 c9
        refine w_aload_n C 1 dX10_get_34 rfl rfl ?_
        refine w_iload C 0 dX10_get_35 rfl ?_
        refine pf_X10_203 C (Nat.le_of_ble_eq_true rfl) dX10_get_37 (w_mem fun M11 eM11 => ?_)
        replace hw := hw M11 eM11
        refine w_ldcw C dX10_get_40 gw1472 ?_
        exact ret_I C HT hw dX10_get_43
    · replace hw := hw.1 c6
      refine w_ldcw C dX10_get_16 gw1472 ?_
      exact ret_I C HT hw dX10_get_19
set_option maxRecDepth 100000 in
set_option maxHeartbeats 4000000 in
theorem s_X10_copy_35 {G : GG} {n : Nat} {E : EE} (C : Cx G n E RX10 cX10_copy 7) (HR : RM E 2 42) (HT : RT E (some .int)) {Q : Int32 → Mem → Prop}  : ∀   (M : Mem), w_X10_copy_35 Q   M → WW G n E 7 (QE G E (Qi G n Q)) 35 [(0, .ref (gad G 10 0))] [] M := by
  intro  M hw
  refine w_aload_n C 0 dX10_copy_35 rfl rfl ?_
  refine w_iconst C dX10_copy_36 kc_i_1 ?_
  refine back_I (run_V C HR mt_X10_meets (ci := 10) rfl (by decide) (Nat.le_of_ble_eq_true rfl) gw1310 gw55 gw1308 (by decide) rfl (Nat.le_of_ble_eq_true rfl) dX10_copy_37 (As := [.int 1]) rfl (c_X10_meets 1  _ _ hw)) (fun r10 M9 hw => ?_)
  exact ret_I C HT hw dX10_copy_40
set_option maxRecDepth 100000 in
set_option maxHeartbeats 4000000 in
theorem s_X10_copy_111 {G : GG} {n : Nat} {E : EE} (C : Cx G n E RX10 cX10_copy 7) (HR : RM E 2 42) (HT : RT E (some .int)) {Q : Int32 → Mem → Prop}  : ∀   (M : Mem), w_X10_copy_111 Q   M → WW G n E 7 (QE G E (Qi G n Q)) 111 [(0, .ref (gad G 10 0))] [] M := by
  intro  M hw
  refine w_aload_n C 0 dX10_copy_111 rfl rfl ?_
  refine w_iconst C dX10_copy_112 kc_i_2 ?_
  refine back_I (run_V C HR mt_X10_meets (ci := 10) rfl (by decide) (Nat.le_of_ble_eq_true rfl) gw1310 gw55 gw1308 (by decide) rfl (Nat.le_of_ble_eq_true rfl) dX10_copy_113 (As := [.int 2]) rfl (c_X10_meets 2  _ _ hw)) (fun r18 M17 hw => ?_)
  exact ret_I C HT hw dX10_copy_116
set_option maxRecDepth 100000 in
set_option maxHeartbeats 4000000 in
theorem s_X10_copy_157 {G : GG} {n : Nat} {E : EE} (C : Cx G n E RX10 cX10_copy 7) (HR : RM E 2 42) (HT : RT E (some .int)) {Q : Int32 → Mem → Prop}  : ∀ (f : Nat) (x3 : Int32) (x4 : Int32) (x5 : Int32) (x6 : Int32)  (M : Mem), w_X10_copy_157 Q  f x3 x4 x5 x6 M → WW G n E 7 (QE G E (Qi G n Q)) 157 [(0, .ref (gad G 10 0)), (3, .int x3), (4, .int x4), (5, .int x5), (6, .int x6)] [] M := by
  intro f
  induction f with
  | zero => intro x3 x4 x5 x6 M hw; exact hw.elim
  | succ f ih =>
    intro x3 x4 x5 x6 M hw
    refine w_iload C 4 dX10_copy_157 rfl ?_
    refine w_iload C 3 dX10_copy_159 rfl ?_
    refine w_icmp_ge C dX10_copy_161 (tgt := 192) rfl (fun c28 => ?_) (fun c28 => ?_)
    · replace hw := hw.1 c28
      refine w_iconst C dX10_copy_192 kc_i_1 ?_
      exact ret_I C HT hw dX10_copy_193
    · replace hw := hw.2 c28
      refine w_aload_n C 0 dX10_copy_164 rfl rfl ?_
      refine gf_X10_111 C (Nat.le_of_ble_eq_true rfl) dX10_copy_165 ?_
      refine w_bipush C dX10_copy_168 kc_b_40 ?_
      refine w_iload_n C 1 dX10_copy_170 rfl rfl ?_
      refine w_imul C dX10_copy_171 ?_
      refine w_iload C 2 dX10_copy_172 rfl ?_
      refine w_iadd C dX10_copy_174 ?_
      refine w_iload C 4 dX10_copy_175 rfl ?_
      refine w_iadd C dX10_copy_177 ?_
      refine w_aload_n C 0 dX10_copy_178 rfl rfl ?_
      refine gf_X10_114 C (Nat.le_of_ble_eq_true rfl) dX10_copy_179 ?_
      refine w_iload C 4 dX10_copy_182 rfl ?_
      obtain ⟨b29, hw⟩ := hw
      refine v_iald C ak_85 rfl (Nat.le_of_ble_eq_true rfl) b29 dX10_copy_184 ?_
      obtain ⟨b30, hw⟩ := hw
      refine v_iast C ak_84 rfl (Nat.le_of_ble_eq_true rfl) b30 dX10_copy_185 (w_mem fun M31 eM31 => ?_)
      replace hw := hw M31 eM31
      refine w_iincV C (lv' := [(6, .int (x6 + 1)), (0, .ref (gad G 10 0)), (3, .int x3), (4, .int x4), (5, .int x5)]) 4 dX10_copy_186 kc_i_1 rfl (by decide) rfl ?_
      refine w_goto C dX10_copy_189 (tgt := 157) rfl ?_
      exact w_sub [1, 2, 3, 4, 0] rfl (ih x3 x4 x5 (x6 + 1)  _ hw)
set_option maxRecDepth 100000 in
set_option maxHeartbeats 4000000 in
theorem s_X10_copy_120 {G : GG} {n : Nat} {E : EE} (C : Cx G n E RX10 cX10_copy 7) (HR : RM E 2 42) (HT : RT E (some .int)) {Q : Int32 → Mem → Prop}  : ∀ (f : Nat) (x1 : Int32) (x2 : Int32) (x3 : Int32) (x4 : Int32) (x5 : Int32) (x6 : Int32)  (M : Mem), w_X10_copy_120 Q  f x1 x2 x3 x4 x5 x6 M → WW G n E 7 (QE G E (Qi G n Q)) 120 [(0, .ref (gad G 10 0)), (1, .int x1), (2, .int x2), (3, .int x3), (4, .int x4), (5, .int x5), (6, .int x6)] [] M := by
  intro f
  induction f with
  | zero => intro x1 x2 x3 x4 x5 x6 M hw; exact hw.elim
  | succ f ih =>
    intro x1 x2 x3 x4 x5 x6 M hw
    refine w_iload C 6 dX10_copy_120 rfl ?_
    refine w_iload C 5 dX10_copy_122 rfl ?_
    refine w_icmp_ge C dX10_copy_124 (tgt := 154) rfl (fun c26 => ?_) (fun c26 => ?_)
    · replace hw := hw.1 c26
      refine w_iconst C dX10_copy_154 kc_i_0 ?_
      refine w_istore C (lv' := [(6, .int 0), (0, .ref (gad G 10 0)), (1, .int x1), (2, .int x2), (3, .int x3), (4, .int x4), (5, .int x5)]) dX10_copy_155 (by decide) rfl ?_
      obtain ⟨f27, hw⟩ := hw
      exact w_sub [1, 4, 5, 6, 0] rfl (s_X10_copy_157 C HR HT  f27 x3 x4 x5 0  _ hw)
    · replace hw := hw.2 c26
      refine w_aload_n C 0 dX10_copy_127 rfl rfl ?_
      refine gf_X10_114 C (Nat.le_of_ble_eq_true rfl) dX10_copy_128 ?_
      refine w_iload C 6 dX10_copy_131 rfl ?_
      refine w_aload_n C 0 dX10_copy_133 rfl rfl ?_
      refine gf_X10_111 C (Nat.le_of_ble_eq_true rfl) dX10_copy_134 ?_
      refine w_bipush C dX10_copy_137 kc_b_40 ?_
      refine w_iload_n C 1 dX10_copy_139 rfl rfl ?_
      refine w_imul C dX10_copy_140 ?_
      refine w_iload_n C 2 dX10_copy_141 rfl rfl ?_
      refine w_iadd C dX10_copy_142 ?_
      refine w_iload C 6 dX10_copy_143 rfl ?_
      refine w_iadd C dX10_copy_145 ?_
      obtain ⟨b32, hw⟩ := hw
      refine v_iald C ak_84 rfl (Nat.le_of_ble_eq_true rfl) b32 dX10_copy_146 ?_
      obtain ⟨b33, hw⟩ := hw
      refine v_iast C ak_85 rfl (Nat.le_of_ble_eq_true rfl) b33 dX10_copy_147 (w_mem fun M34 eM34 => ?_)
      replace hw := hw M34 eM34
      refine w_iincV C (lv' := [(6, .int (x6 + 1)), (0, .ref (gad G 10 0)), (1, .int x1), (2, .int x2), (3, .int x3), (4, .int x4), (5, .int x5)]) 6 dX10_copy_148 kc_i_1 rfl (by decide) rfl ?_
      refine w_goto C dX10_copy_151 (tgt := 120) rfl ?_
      exact w_sub [1, 2, 3, 4, 5, 6, 0] rfl (ih x1 x2 x3 x4 x5 (x6 + 1)  _ hw)
set_option maxRecDepth 100000 in
set_option maxHeartbeats 4000000 in
theorem c_X10_copy {G : GG} {n : Nat} {l : Launch} (x1 : Int32) (x2 : Int32) (x3 : Int32) (x4 : Int32) (x5 : Int32)  (M : Mem) (Q : Int32 → Mem → Prop) (hw : wp_X10_copy x1 x2 x3 x4 x5 M Q) : Ct G n l yX10_copy cX10_copy 7 (some .int) 2 42 [.ref (gad G 10 0), .int x1, .int x2, .int x3, .int x4, .int x5] M (Qi G n Q) := by
  refine ct_of (by decide) (Nat.le_of_ble_eq_true rfl) (lv := [(0, .ref (gad G 10 0)), (1, .int x1), (2, .int x2), (3, .int x3), (4, .int x4), (5, .int x5)]) rfl (fun E C HR HT hE => ?_)
  replace C : Cx G n E RX10 cX10_copy 7 := C
  refine w_iload_n C 1 dX10_copy_0 rfl rfl ?_
  refine back_I (run_S C HR mt_X10_isSheet gw1252 gw1251 (by decide) rfl (Nat.le_of_ble_eq_true rfl) dX10_copy_1 (As := [.int x1]) rfl (c_X10_isSheet x1  _ _ hw)) (fun r2 M1 hw => ?_)
  refine w_if_eq C dX10_copy_4 (tgt := 14) rfl (fun c3 => ?_) (fun c3 => ?_)
  · replace hw := hw.1 c3
    refine w_bipush C dX10_copy_14 kc_b_m2 ?_
    exact ret_I C HT hw dX10_copy_16
  · replace hw := hw.2 c3
    refine w_iload_n C 3 dX10_copy_7 rfl rfl ?_
    refine back_I (run_S C HR mt_X10_isSheet gw1252 gw1251 (by decide) rfl (Nat.le_of_ble_eq_true rfl) dX10_copy_8 (As := [.int x3]) rfl (c_X10_isSheet x3  _ _ hw)) (fun r5 M4 hw => ?_)
    refine w_if_ne C dX10_copy_11 (tgt := 17) rfl (fun c6 => ?_) (fun c6 => ?_)
    · replace hw := hw.2 c6
      refine w_aload_n C 0 dX10_copy_17 rfl rfl ?_
      refine gf_X10_102 C (Nat.le_of_ble_eq_true rfl) dX10_copy_18 ?_
      refine w_iload_n C 1 dX10_copy_21 rfl rfl ?_
      obtain ⟨b7, hw⟩ := hw
      refine v_zald C ak_81 rfl (Nat.le_of_ble_eq_true rfl) b7 dX10_copy_22 ?_
      refine w_if_eq C dX10_copy_23 (tgt := 35) rfl (fun c8 => ?_) (fun c8 => ?_)
      · replace hw := hw.1 c8
        exact w_sub [0] rfl (s_X10_copy_35 C HR HT    _ hw)
      · replace hw := hw.2 c8
        refine w_aload_n C 0 dX10_copy_26 rfl rfl ?_
        refine gf_X10_102 C (Nat.le_of_ble_eq_true rfl) dX10_copy_27 ?_
        refine w_iload_n C 3 dX10_copy_30 rfl rfl ?_
        obtain ⟨b11, hw⟩ := hw
        refine v_zald C ak_81 rfl (Nat.le_of_ble_eq_true rfl) b11 dX10_copy_31 ?_
        refine w_if_ne C dX10_copy_32 (tgt := 41) rfl (fun c12 => ?_) (fun c12 => ?_)
        · replace hw := hw.2 c12
          refine w_aload_n C 0 dX10_copy_41 rfl rfl ?_
          refine gf_X10_105 C (Nat.le_of_ble_eq_true rfl) dX10_copy_42 ?_
          refine w_iload_n C 1 dX10_copy_45 rfl rfl ?_
          obtain ⟨b13, hw⟩ := hw
          refine v_iald C ak_82 rfl (Nat.le_of_ble_eq_true rfl) b13 dX10_copy_46 ?_
          refine w_aload_n C 0 dX10_copy_47 rfl rfl ?_
          refine gf_X10_105 C (Nat.le_of_ble_eq_true rfl) dX10_copy_48 ?_
          refine w_iload_n C 3 dX10_copy_51 rfl rfl ?_
          obtain ⟨b14, hw⟩ := hw
          refine v_iald C ak_82 rfl (Nat.le_of_ble_eq_true rfl) b14 dX10_copy_52 ?_
          refine w_icmp_eq C dX10_copy_53 (tgt := 62) rfl (fun c15 => ?_) (fun c15 => ?_)
          · replace hw := hw.1 c15
            refine w_iload_n C 2 dX10_copy_62 rfl rfl ?_
            refine w_if_lt C dX10_copy_63 (tgt := 111) rfl (fun c16 => ?_) (fun c16 => ?_)
            · replace hw := hw.1 c16
              exact w_sub [0] rfl (s_X10_copy_111 C HR HT    _ hw)
            · replace hw := hw.2 c16
              refine w_iload C 4 dX10_copy_66 rfl ?_
              refine w_if_lt C dX10_copy_68 (tgt := 111) rfl (fun c19 => ?_) (fun c19 => ?_)
              · replace hw := hw.1 c19
                exact w_sub [0] rfl (s_X10_copy_111 C HR HT    _ hw)
              · replace hw := hw.2 c19
                refine w_iload C 5 dX10_copy_71 rfl ?_
                refine w_if_lt C dX10_copy_73 (tgt := 111) rfl (fun c20 => ?_) (fun c20 => ?_)
                · replace hw := hw.1 c20
                  exact w_sub [0] rfl (s_X10_copy_111 C HR HT    _ hw)
                · replace hw := hw.2 c20
                  refine w_iload_n C 2 dX10_copy_76 rfl rfl ?_
                  refine w_i2l C dX10_copy_77 ?_
                  refine w_iload C 5 dX10_copy_78 rfl ?_
                  refine w_i2l C dX10_copy_80 ?_
                  refine w_ladd C dX10_copy_81 ?_
                  refine w_aload_n C 0 dX10_copy_82 rfl rfl ?_
                  refine gf_X10_108 C (Nat.le_of_ble_eq_true rfl) dX10_copy_83 ?_
                  refine w_iload_n C 1 dX10_copy_86 rfl rfl ?_
                  obtain ⟨b21, hw⟩ := hw
                  refine v_iald C ak_83 rfl (Nat.le_of_ble_eq_true rfl) b21 dX10_copy_87 ?_
                  refine w_i2l C dX10_copy_88 ?_
                  refine w_lcmp C dX10_copy_89 ?_
                  refine w_if_gt C dX10_copy_90 (tgt := 111) rfl (fun c22 => ?_) (fun c22 => ?_)
                  · replace hw := hw.1 c22
                    exact w_sub [0] rfl (s_X10_copy_111 C HR HT    _ hw)
                  · replace hw := hw.2 c22
                    refine w_iload C 4 dX10_copy_93 rfl ?_
                    refine w_i2l C dX10_copy_95 ?_
                    refine w_iload C 5 dX10_copy_96 rfl ?_
                    refine w_i2l C dX10_copy_98 ?_
                    refine w_ladd C dX10_copy_99 ?_
                    refine w_aload_n C 0 dX10_copy_100 rfl rfl ?_
                    refine gf_X10_108 C (Nat.le_of_ble_eq_true rfl) dX10_copy_101 ?_
                    refine w_iload_n C 3 dX10_copy_104 rfl rfl ?_
                    obtain ⟨b23, hw⟩ := hw
                    refine v_iald C ak_83 rfl (Nat.le_of_ble_eq_true rfl) b23 dX10_copy_105 ?_
                    refine w_i2l C dX10_copy_106 ?_
                    refine w_lcmp C dX10_copy_107 ?_
                    refine w_if_le C dX10_copy_108 (tgt := 117) rfl (fun c24 => ?_) (fun c24 => ?_)
                    · replace hw := hw.1 c24
                      refine w_iconst C dX10_copy_117 kc_i_0 ?_
                      refine w_istore C (lv' := [(6, .int 0), (0, .ref (gad G 10 0)), (1, .int x1), (2, .int x2), (3, .int x3), (4, .int x4), (5, .int x5)]) dX10_copy_118 (by decide) rfl ?_
                      obtain ⟨f25, hw⟩ := hw
                      exact w_sub [1, 2, 3, 4, 5, 6, 0] rfl (s_X10_copy_120 C HR HT  f25 x1 x2 x3 x4 x5 0  _ hw)
                    · replace hw := hw.2 c24
                      exact w_sub [0] rfl (s_X10_copy_111 C HR HT    _ hw)
          · replace hw := hw.2 c15
            refine w_aload_n C 0 dX10_copy_56 rfl rfl ?_
            refine w_iconst C dX10_copy_57 kc_i_4 ?_
            refine back_I (run_V C HR mt_X10_meets (ci := 10) rfl (by decide) (Nat.le_of_ble_eq_true rfl) gw1310 gw55 gw1308 (by decide) rfl (Nat.le_of_ble_eq_true rfl) dX10_copy_58 (As := [.int 4]) rfl (c_X10_meets 4  _ _ hw)) (fun r36 M35 hw => ?_)
            exact ret_I C HT hw dX10_copy_61
        · replace hw := hw.1 c12
          exact w_sub [0] rfl (s_X10_copy_35 C HR HT    _ hw)
    · replace hw := hw.1 c6
      refine w_bipush C dX10_copy_14 kc_b_m2 ?_
      exact ret_I C HT hw dX10_copy_16
set_option maxRecDepth 100000 in
set_option maxHeartbeats 4000000 in
theorem s_X10_write_35 {G : GG} {n : Nat} {E : EE} (C : Cx G n E RX10 cX10_write 4) (HR : RM E 2 43) (HT : RT E (some .int)) {Q : Int32 → Mem → Prop}  : ∀ (f : Nat) (x1 : Int32) (x2 : Int32) (x3 : Int32)  (M : Mem), w_X10_write_35 Q  f x1 x2 x3 M → WW G n E 4 (QE G E (Qi G n Q)) 35 [(0, .ref (gad G 10 0)), (1, .int x1), (2, .int x2), (3, .int x3)] [] M := by
  intro f
  induction f with
  | zero => intro x1 x2 x3 M hw; exact hw.elim
  | succ f ih =>
    intro x1 x2 x3 M hw
    refine w_iload_n C 3 dX10_write_35 rfl rfl ?_
    refine w_aload_n C 0 dX10_write_36 rfl rfl ?_
    refine gf_X10_47 C (Nat.le_of_ble_eq_true rfl) dX10_write_37 ?_
    refine w_iload_n C 1 dX10_write_40 rfl rfl ?_
    obtain ⟨b10, hw⟩ := hw
    refine v_iald C ak_65 rfl (Nat.le_of_ble_eq_true rfl) b10 dX10_write_41 ?_
    refine w_icmp_ge C dX10_write_42 (tgt := 78) rfl (fun c11 => ?_) (fun c11 => ?_)
    · replace hw := hw.1 c11
      refine w_iload_n C 3 dX10_write_78 rfl rfl ?_
      exact ret_I C HT hw dX10_write_79
    · replace hw := hw.2 c11
      refine w_iload_n C 3 dX10_write_45 rfl rfl ?_
      refine w_aload_n C 0 dX10_write_46 rfl rfl ?_
      refine gf_X10_108 C (Nat.le_of_ble_eq_true rfl) dX10_write_47 ?_
      refine w_iload_n C 2 dX10_write_50 rfl rfl ?_
      obtain ⟨b12, hw⟩ := hw
      refine v_iald C ak_83 rfl (Nat.le_of_ble_eq_true rfl) b12 dX10_write_51 ?_
      refine w_icmp_ge C dX10_write_52 (tgt := 78) rfl (fun c13 => ?_) (fun c13 => ?_)
      · replace hw := hw.1 c13
        refine w_iload_n C 3 dX10_write_78 rfl rfl ?_
        exact ret_I C HT hw dX10_write_79
      · replace hw := hw.2 c13
        refine w_aload_n C 0 dX10_write_55 rfl rfl ?_
        refine w_iload_n C 2 dX10_write_56 rfl rfl ?_
        refine w_iload_n C 3 dX10_write_57 rfl rfl ?_
        refine w_aload_n C 0 dX10_write_58 rfl rfl ?_
        refine gf_X10_50 C (Nat.le_of_ble_eq_true rfl) dX10_write_59 ?_
        refine w_bipush C dX10_write_62 kc_b_12 ?_
        refine w_iload_n C 1 dX10_write_64 rfl rfl ?_
        refine w_imul C dX10_write_65 ?_
        refine w_iload_n C 3 dX10_write_66 rfl rfl ?_
        refine w_iadd C dX10_write_67 ?_
        obtain ⟨b14, hw⟩ := hw
        refine v_iald C ak_66 rfl (Nat.le_of_ble_eq_true rfl) b14 dX10_write_68 ?_
        refine back_V (run_V C HR mt_X10_lay (ci := 10) rfl (by decide) (Nat.le_of_ble_eq_true rfl) gw1466 gw74 gw1464 (by decide) rfl (Nat.le_of_ble_eq_true rfl) dX10_write_69 (As := [.int x2, .int x3, .int (M 66 0 ((12 * x1) + x3).toNatClampNeg)]) rfl (c_X10_lay x2 x3 (M 66 0 ((12 * x1) + x3).toNatClampNeg)  _ _ hw)) (fun M15 hw => ?_)
        refine w_iincV C (lv' := [(3, .int (x3 + 1)), (0, .ref (gad G 10 0)), (1, .int x1), (2, .int x2)]) 3 dX10_write_72 kc_i_1 rfl (by decide) rfl ?_
        refine w_goto C dX10_write_75 (tgt := 35) rfl ?_
        exact w_sub [1, 2, 3, 0] rfl (ih x1 x2 (x3 + 1)  _ hw)
set_option maxRecDepth 100000 in
set_option maxHeartbeats 4000000 in
theorem c_X10_write {G : GG} {n : Nat} {l : Launch} (x1 : Int32) (x2 : Int32)  (M : Mem) (Q : Int32 → Mem → Prop) (hw : wp_X10_write x1 x2 M Q) : Ct G n l yX10_write cX10_write 4 (some .int) 2 43 [.ref (gad G 10 0), .int x1, .int x2] M (Qi G n Q) := by
  refine ct_of (by decide) (Nat.le_of_ble_eq_true rfl) (lv := [(0, .ref (gad G 10 0)), (1, .int x1), (2, .int x2)]) rfl (fun E C HR HT hE => ?_)
  replace C : Cx G n E RX10 cX10_write 4 := C
  refine w_aload_n C 0 dX10_write_0 rfl rfl ?_
  refine w_iload_n C 1 dX10_write_1 rfl rfl ?_
  refine back_I (run_V C HR mt_X10_isCounter (ci := 10) rfl (by decide) (Nat.le_of_ble_eq_true rfl) gw1306 gw54 gw1304 (by decide) rfl (Nat.le_of_ble_eq_true rfl) dX10_write_2 (As := [.int x1]) rfl (c_X10_isCounter x1  _ _ hw)) (fun r2 M1 hw => ?_)
  refine w_if_eq C dX10_write_5 (tgt := 15) rfl (fun c3 => ?_) (fun c3 => ?_)
  · replace hw := hw.1 c3
    refine w_bipush C dX10_write_15 kc_b_m2 ?_
    exact ret_I C HT hw dX10_write_17
  · replace hw := hw.2 c3
    refine w_iload_n C 2 dX10_write_8 rfl rfl ?_
    refine back_I (run_S C HR mt_X10_isSheet gw1252 gw1251 (by decide) rfl (Nat.le_of_ble_eq_true rfl) dX10_write_9 (As := [.int x2]) rfl (c_X10_isSheet x2  _ _ hw)) (fun r5 M4 hw => ?_)
    refine w_if_ne C dX10_write_12 (tgt := 18) rfl (fun c6 => ?_) (fun c6 => ?_)
    · replace hw := hw.2 c6
      refine w_aload_n C 0 dX10_write_18 rfl rfl ?_
      refine gf_X10_102 C (Nat.le_of_ble_eq_true rfl) dX10_write_19 ?_
      refine w_iload_n C 2 dX10_write_22 rfl rfl ?_
      obtain ⟨b7, hw⟩ := hw
      refine v_zald C ak_81 rfl (Nat.le_of_ble_eq_true rfl) b7 dX10_write_23 ?_
      refine w_if_ne C dX10_write_24 (tgt := 33) rfl (fun c8 => ?_) (fun c8 => ?_)
      · replace hw := hw.2 c8
        refine w_iconst C dX10_write_33 kc_i_0 ?_
        refine w_istore_n C (lv' := [(3, .int 0), (0, .ref (gad G 10 0)), (1, .int x1), (2, .int x2)]) dX10_write_34 rfl (by decide) rfl ?_
        obtain ⟨f9, hw⟩ := hw
        exact w_sub [1, 2, 3, 0] rfl (s_X10_write_35 C HR HT  f9 x1 x2 0  _ hw)
      · replace hw := hw.1 c8
        refine w_aload_n C 0 dX10_write_27 rfl rfl ?_
        refine w_iconst C dX10_write_28 kc_i_1 ?_
        refine back_I (run_V C HR mt_X10_meets (ci := 10) rfl (by decide) (Nat.le_of_ble_eq_true rfl) gw1310 gw55 gw1308 (by decide) rfl (Nat.le_of_ble_eq_true rfl) dX10_write_29 (As := [.int 1]) rfl (c_X10_meets 1  _ _ hw)) (fun r17 M16 hw => ?_)
        exact ret_I C HT hw dX10_write_32
    · replace hw := hw.1 c6
      refine w_bipush C dX10_write_15 kc_b_m2 ?_
      exact ret_I C HT hw dX10_write_17
set_option maxRecDepth 100000 in
set_option maxHeartbeats 4000000 in
theorem s_X10_count_87 {G : GG} {n : Nat} {E : EE} (C : Cx G n E RX10 cX10_count 4) (HR : RM E 1 22) (HT : RT E (some .int)) {Q : Int32 → Mem → Prop}  : ∀ (f : Nat) (x2 : Int32) (x3 : Int32)  (M : Mem), w_X10_count_87 Q  f x2 x3 M → WW G n E 4 (QE G E (Qi G n Q)) 87 [(0, .ref (gad G 10 0)), (2, .int x2), (3, .int x3)] [] M := by
  intro f
  induction f with
  | zero => intro x2 x3 M hw; exact hw.elim
  | succ f ih =>
    intro x2 x3 M hw
    refine w_iload_n C 2 dX10_count_87 rfl rfl ?_
    refine w_aload_n C 0 dX10_count_88 rfl rfl ?_
    refine gf_X10_229 C (Nat.le_of_ble_eq_true rfl) dX10_count_89 ?_
    refine w_icmp_ge C dX10_count_92 (tgt := 110) rfl (fun c9 => ?_) (fun c9 => ?_)
    · replace hw := hw.1 c9
      refine w_iload_n C 1 dX10_count_110 rfl rfl ?_
      exact ret_I C HT hw dX10_count_111
    · replace hw := hw.2 c9
      refine w_iload_n C 1 dX10_count_95 rfl rfl ?_
      refine w_aload_n C 0 dX10_count_96 rfl rfl ?_
      refine gf_X10_47 C (Nat.le_of_ble_eq_true rfl) dX10_count_97 ?_
      refine w_iload_n C 2 dX10_count_100 rfl rfl ?_
      obtain ⟨b10, hw⟩ := hw
      refine v_iald C ak_65 rfl (Nat.le_of_ble_eq_true rfl) b10 dX10_count_101 ?_
      refine w_iadd C dX10_count_102 ?_
      refine w_istore_nV C dX10_count_103 rfl (by decide) (fun a11 ea11 => w_lv (lv' := [(2, .int a11), (0, .ref (gad G 10 0)), (3, .int x3)]) rfl ?_)
      replace hw := hw a11 ea11
      refine w_iincV C (lv' := [(3, .int (x3 + 1)), (2, .int a11), (0, .ref (gad G 10 0))]) 2 dX10_count_104 kc_i_1 rfl (by decide) rfl ?_
      refine w_goto C dX10_count_107 (tgt := 87) rfl ?_
      exact w_sub [2, 1, 0] rfl (ih a11 (x3 + 1)  _ hw)
set_option maxRecDepth 100000 in
set_option maxHeartbeats 4000000 in
theorem s_X10_count_136 {G : GG} {n : Nat} {E : EE} (C : Cx G n E RX10 cX10_count 4) (HR : RM E 1 22) (HT : RT E (some .int)) {Q : Int32 → Mem → Prop} {K114 : Int32 → Int32 → Mem → Prop} (g114 : ∀ (x2 : Int32) (x3 : Int32)  (M : Mem), K114 x2 x3 M → WW G n E 4 (QE G E (Qi G n Q)) 114 [(0, .ref (gad G 10 0)), (2, .int x2), (3, .int x3)] [] M) : ∀ (x3 : Int32) (y0 : Int32) (y1 : Int32)  (M : Mem), w_X10_count_136 Q K114 x3 y0 y1 M → WW G n E 4 (QE G E (Qi G n Q)) 136 [(0, .ref (gad G 10 0)), (3, .int x3)] [.int y0, .int y1] M := by
  intro x3 y0 y1 M hw
  refine w_iadd C dX10_count_136 ?_
  refine w_istore_nV C dX10_count_137 rfl (by decide) (fun a18 ea18 => w_lv (lv' := [(2, .int a18), (0, .ref (gad G 10 0)), (3, .int x3)]) rfl ?_)
  replace hw := hw a18 ea18
  refine w_iincV C (lv' := [(3, .int (x3 + 1)), (2, .int a18), (0, .ref (gad G 10 0))]) 2 dX10_count_138 kc_i_1 rfl (by decide) rfl ?_
  refine w_goto C dX10_count_141 (tgt := 114) rfl ?_
  exact w_sub [2, 1, 0] rfl (g114 a18 (x3 + 1)  _ hw)
set_option maxRecDepth 100000 in
set_option maxHeartbeats 4000000 in
theorem s_X10_count_114 {G : GG} {n : Nat} {E : EE} (C : Cx G n E RX10 cX10_count 4) (HR : RM E 1 22) (HT : RT E (some .int)) {Q : Int32 → Mem → Prop}  : ∀ (f : Nat) (x2 : Int32) (x3 : Int32)  (M : Mem), w_X10_count_114 Q  f x2 x3 M → WW G n E 4 (QE G E (Qi G n Q)) 114 [(0, .ref (gad G 10 0)), (2, .int x2), (3, .int x3)] [] M := by
  intro f
  induction f with
  | zero => intro x2 x3 M hw; exact hw.elim
  | succ f ih =>
    intro x2 x3 M hw
    refine w_iload_n C 2 dX10_count_114 rfl rfl ?_
    refine w_aload_n C 0 dX10_count_115 rfl rfl ?_
    refine gf_X10_229 C (Nat.le_of_ble_eq_true rfl) dX10_count_116 ?_
    refine w_icmp_ge C dX10_count_119 (tgt := 144) rfl (fun c14 => ?_) (fun c14 => ?_)
    · replace hw := hw.1 c14
      refine w_iload_n C 1 dX10_count_144 rfl rfl ?_
      exact ret_I C HT hw dX10_count_145
    · replace hw := hw.2 c14
      refine w_iload_n C 1 dX10_count_122 rfl rfl ?_
      refine w_aload_n C 0 dX10_count_123 rfl rfl ?_
      refine w_iload_n C 2 dX10_count_124 rfl rfl ?_
      refine back_I (run_V C HR mt_X10_isShort (ci := 10) rfl (by decide) (Nat.le_of_ble_eq_true rfl) gw1330 gw58 gw1328 (by decide) rfl (Nat.le_of_ble_eq_true rfl) dX10_count_125 (As := [.int x3]) rfl (c_X10_isShort x3  _ _ hw)) (fun r16 M15 hw => ?_)
      refine w_if_eq C dX10_count_128 (tgt := 135) rfl (fun c17 => ?_) (fun c17 => ?_)
      · replace hw := hw.1 c17
        refine w_iconst C dX10_count_135 kc_i_0 ?_
        exact w_sub [0, 2] rfl (s_X10_count_136 C HR HT ih x3 0 x2  _ hw)
      · replace hw := hw.2 c17
        refine w_iconst C dX10_count_131 kc_i_1 ?_
        refine w_goto C dX10_count_132 (tgt := 136) rfl ?_
        exact w_sub [0, 2] rfl (s_X10_count_136 C HR HT ih x3 1 x2  _ hw)
set_option maxRecDepth 100000 in
set_option maxHeartbeats 4000000 in
theorem c_X10_count {G : GG} {n : Nat} {l : Launch} (x1 : Int32)  (M : Mem) (Q : Int32 → Mem → Prop) (hw : wp_X10_count x1 M Q) : Ct G n l yX10_count cX10_count 4 (some .int) 1 22 [.ref (gad G 10 0), .int x1] M (Qi G n Q) := by
  refine ct_of (by decide) (Nat.le_of_ble_eq_true rfl) (lv := [(0, .ref (gad G 10 0)), (1, .int x1)]) rfl (fun E C HR HT hE => ?_)
  replace C : Cx G n E RX10 cX10_count 4 := C
  refine w_iconst C dX10_count_0 kc_i_0 ?_
  refine w_istore_n C (lv' := [(2, .int 0), (0, .ref (gad G 10 0)), (1, .int x1)]) dX10_count_1 rfl (by decide) rfl ?_
  refine w_iload_n C 2 dX10_count_2 rfl rfl ?_
  by_cases c1 : x1 = (0 : Int32)
  · replace hw := hw.1 c1
    refine w_swAt C c1 dX10_count_3 (off := 49) (tgt := 52) (by decide) rfl ?_
    refine w_aload_n C 1 dX10_count_52 rfl rfl ?_
    refine gf_X10_7 C (Nat.le_of_ble_eq_true rfl) dX10_count_53 ?_
    refine w_iconst C dX10_count_56 kc_i_0 ?_
    obtain ⟨b2, hw⟩ := hw
    refine v_iald C ak_53 rfl (Nat.le_of_ble_eq_true rfl) b2 dX10_count_57 ?_
    refine w_aload_n C 1 dX10_count_58 rfl rfl ?_
    refine gf_X10_7 C (Nat.le_of_ble_eq_true rfl) dX10_count_59 ?_
    refine w_iconst C dX10_count_62 kc_i_1 ?_
    obtain ⟨b3, hw⟩ := hw
    refine v_iald C ak_53 rfl (Nat.le_of_ble_eq_true rfl) b3 dX10_count_63 ?_
    refine w_iadd C dX10_count_64 ?_
    refine w_aload_n C 1 dX10_count_65 rfl rfl ?_
    refine gf_X10_7 C (Nat.le_of_ble_eq_true rfl) dX10_count_66 ?_
    refine w_iconst C dX10_count_69 kc_i_2 ?_
    obtain ⟨b4, hw⟩ := hw
    refine v_iald C ak_53 rfl (Nat.le_of_ble_eq_true rfl) b4 dX10_count_70 ?_
    refine w_iadd C dX10_count_71 ?_
    refine w_aload_n C 1 dX10_count_72 rfl rfl ?_
    refine gf_X10_7 C (Nat.le_of_ble_eq_true rfl) dX10_count_73 ?_
    refine w_iconst C dX10_count_76 kc_i_3 ?_
    obtain ⟨b5, hw⟩ := hw
    refine v_iald C ak_53 rfl (Nat.le_of_ble_eq_true rfl) b5 dX10_count_77 ?_
    refine w_iadd C dX10_count_78 ?_
    exact ret_I C HT hw dX10_count_79
  replace hw := hw.2
  by_cases c6 : x1 = (1 : Int32)
  · replace hw := hw.1 c6
    refine w_swAt C c6 dX10_count_3 (off := 77) (tgt := 80) (by decide) rfl ?_
    refine w_aload_n C 1 dX10_count_80 rfl rfl ?_
    refine gf_X10_229 C (Nat.le_of_ble_eq_true rfl) dX10_count_81 ?_
    exact ret_I C HT hw dX10_count_84
  replace hw := hw.2
  by_cases c7 : x1 = (2 : Int32)
  · replace hw := hw.1 c7
    refine w_swAt C c7 dX10_count_3 (off := 82) (tgt := 85) (by decide) rfl ?_
    refine w_iconst C dX10_count_85 kc_i_0 ?_
    refine w_istore_n C (lv' := [(3, .int 0), (2, .int 0), (0, .ref (gad G 10 0)), (1, .int x1)]) dX10_count_86 rfl (by decide) rfl ?_
    obtain ⟨f8, hw⟩ := hw
    exact w_sub [2, 1, 0] rfl (s_X10_count_87 C HR HT  f8 0 0  _ hw)
  replace hw := hw.2
  by_cases c12 : x1 = (3 : Int32)
  · replace hw := hw.1 c12
    refine w_swAt C c12 dX10_count_3 (off := 109) (tgt := 112) (by decide) rfl ?_
    refine w_iconst C dX10_count_112 kc_i_0 ?_
    refine w_istore_n C (lv' := [(3, .int 0), (2, .int 0), (0, .ref (gad G 10 0)), (1, .int x1)]) dX10_count_113 rfl (by decide) rfl ?_
    obtain ⟨f13, hw⟩ := hw
    exact w_sub [2, 1, 0] rfl (s_X10_count_114 C HR HT  f13 0 0  _ hw)
  replace hw := hw.2
  by_cases c19 : x1 = (4 : Int32)
  · replace hw := hw.1 c19
    refine w_swAt C c19 dX10_count_3 (off := 143) (tgt := 146) (by decide) rfl ?_
    refine w_aload_n C 1 dX10_count_146 rfl rfl ?_
    refine gf_X10_274 C (Nat.le_of_ble_eq_true rfl) dX10_count_147 ?_
    exact ret_I C HT hw dX10_count_150
  replace hw := hw.2
  by_cases c20 : x1 = (5 : Int32)
  · replace hw := hw.1 c20
    refine w_swAt C c20 dX10_count_3 (off := 148) (tgt := 151) (by decide) rfl ?_
    refine w_aload_n C 1 dX10_count_151 rfl rfl ?_
    refine gf_X10_287 C (Nat.le_of_ble_eq_true rfl) dX10_count_152 ?_
    exact ret_I C HT hw dX10_count_155
  replace hw := hw.2
  by_cases c21 : x1 = (6 : Int32)
  · replace hw := hw.1 c21
    refine w_swAt C c21 dX10_count_3 (off := 153) (tgt := 156) (by decide) rfl ?_
    refine w_aload_n C 1 dX10_count_156 rfl rfl ?_
    refine gf_X10_96 C (Nat.le_of_ble_eq_true rfl) dX10_count_157 ?_
    refine back_I (run_S C HR mt_X10_ones gw1294 gw1293 (by decide) rfl (Nat.le_of_ble_eq_true rfl) dX10_count_160 (As := [.int (M 740 0 0)]) rfl (c_X10_ones (M 740 0 0)  _ _ hw)) (fun r23 M22 hw => ?_)
    exact ret_I C HT hw dX10_count_163
  replace hw := hw.2
  by_cases c24 : x1 = (7 : Int32)
  · replace hw := hw.1 c24
    refine w_swAt C c24 dX10_count_3 (off := 161) (tgt := 164) (by decide) rfl ?_
    refine w_aload_n C 1 dX10_count_164 rfl rfl ?_
    refine gf_X10_86 C (Nat.le_of_ble_eq_true rfl) dX10_count_165 ?_
    exact ret_I C HT hw dX10_count_168
  replace hw := hw.2
  by_cases c25 : x1 = (8 : Int32)
  · replace hw := hw.1 c25
    refine w_swAt C c25 dX10_count_3 (off := 166) (tgt := 169) (by decide) rfl ?_
    refine w_aload_n C 1 dX10_count_169 rfl rfl ?_
    refine gf_X10_203 C (Nat.le_of_ble_eq_true rfl) dX10_count_170 ?_
    exact ret_I C HT hw dX10_count_173
  replace hw := hw.2
  replace hw := hw c1 c6 c7 c12 c19 c20 c21 c24 c25
  refine w_swOut C dX10_count_3 (sw_out (N := 8) (by decide) (fun v hv => by
    match v, hv with
    | 0, _ => exact c1
    | 1, _ => exact c6
    | 2, _ => exact c7
    | 3, _ => exact c12
    | 4, _ => exact c19
    | 5, _ => exact c20
    | 6, _ => exact c21
    | 7, _ => exact c24
    | 8, _ => exact c25
    | w + 9, hv => exact absurd hv (by omega))) (tgt := 174) rfl ?_
  refine w_bipush C dX10_count_174 kc_b_m2 ?_
  exact ret_I C HT hw dX10_count_176
set_option maxRecDepth 100000 in
set_option maxHeartbeats 4000000 in
theorem s_X10_digest_101 {G : GG} {n : Nat} {E : EE} (C : Cx G n E RX10 cX10_digest 5) (HR : RM E 11 250) (HT : RT E (some .long)) {Q : Int64 → Mem → Prop} {K90 : Int64 → Int32 → Mem → Prop} (g90 : ∀ (x1 : Int64) (x3 : Int32)  (M : Mem), K90 x1 x3 M → WW G n E 5 (QE G E (Ql G n Q)) 90 [(0, .ref (gad G 10 0)), (1, .long x1), (3, .int x3)] [] M) : ∀ (f : Nat) (x1 : Int64) (x3 : Int32) (x4 : Int32)  (M : Mem), w_X10_digest_101 Q K90 f x1 x3 x4 M → WW G n E 5 (QE G E (Ql G n Q)) 101 [(0, .ref (gad G 10 0)), (1, .long x1), (3, .int x3), (4, .int x4)] [] M := by
  intro f
  induction f with
  | zero => intro x1 x3 x4 M hw; exact hw.elim
  | succ f ih =>
    intro x1 x3 x4 M hw
    refine w_iload C 3 dX10_digest_101 rfl ?_
    refine w_bipush C dX10_digest_103 kc_b_9 ?_
    refine w_icmp_ge C dX10_digest_105 (tgt := 129) rfl (fun c13 => ?_) (fun c13 => ?_)
    · replace hw := hw.1 c13
      refine w_iincV C (lv' := [(3, .int (x3 + 1)), (0, .ref (gad G 10 0)), (1, .long x1), (4, .int x4)]) 2 dX10_digest_129 kc_i_1 rfl (by decide) rfl ?_
      refine w_goto C dX10_digest_132 (tgt := 90) rfl ?_
      exact w_sub [1, 2, 0] rfl (g90 x1 (x3 + 1)  _ hw)
    · replace hw := hw.2 c13
      refine w_ldc2 C dX10_digest_108 gw1490 ?_
      refine w_lload_n C 1 dX10_digest_111 rfl rfl ?_
      refine w_lmul C dX10_digest_112 ?_
      refine w_aload_n C 0 dX10_digest_113 rfl rfl ?_
      refine w_iload_n C 2 dX10_digest_114 rfl rfl ?_
      refine w_iload C 3 dX10_digest_115 rfl ?_
      refine back_I (run_V C HR mt_X10_aboutOf (ci := 10) rfl (by decide) (Nat.le_of_ble_eq_true rfl) gw1322 gw56 gw1320 (by decide) rfl (Nat.le_of_ble_eq_true rfl) dX10_digest_117 (As := [.int x3, .int x4]) rfl (c_X10_aboutOf x3 x4  _ _ hw)) (fun r15 M14 hw => ?_)
      refine w_i2l C dX10_digest_120 ?_
      refine w_ladd C dX10_digest_121 ?_
      refine w_lstore_nV C dX10_digest_122 rfl (by decide) (fun a16 ea16 => w_lv (lv' := [(1, .long a16), (0, .ref (gad G 10 0)), (3, .int x3), (4, .int x4)]) rfl ?_)
      replace hw := hw a16 ea16
      refine w_iincV C (lv' := [(4, .int (x4 + 1)), (1, .long a16), (0, .ref (gad G 10 0)), (3, .int x3)]) 3 dX10_digest_123 kc_i_1 rfl (by decide) rfl ?_
      refine w_goto C dX10_digest_126 (tgt := 101) rfl ?_
      exact w_sub [2, 1, 3, 0] rfl (ih a16 x3 (x4 + 1)  _ hw)
set_option maxRecDepth 100000 in
set_option maxHeartbeats 4000000 in
theorem s_X10_digest_90 {G : GG} {n : Nat} {E : EE} (C : Cx G n E RX10 cX10_digest 5) (HR : RM E 11 250) (HT : RT E (some .long)) {Q : Int64 → Mem → Prop}  : ∀ (f : Nat) (x1 : Int64) (x3 : Int32)  (M : Mem), w_X10_digest_90 Q  f x1 x3 M → WW G n E 5 (QE G E (Ql G n Q)) 90 [(0, .ref (gad G 10 0)), (1, .long x1), (3, .int x3)] [] M := by
  intro f
  induction f with
  | zero => intro x1 x3 M hw; exact hw.elim
  | succ f ih =>
    intro x1 x3 M hw
    refine w_iload_n C 2 dX10_digest_90 rfl rfl ?_
    refine w_aload_n C 0 dX10_digest_91 rfl rfl ?_
    refine gf_X10_229 C (Nat.le_of_ble_eq_true rfl) dX10_digest_92 ?_
    refine w_icmp_ge C dX10_digest_95 (tgt := 135) rfl (fun c6 => ?_) (fun c6 => ?_)
    · replace hw := hw.1 c6
      refine w_ldc2 C dX10_digest_135 gw1490 ?_
      refine w_lload_n C 1 dX10_digest_138 rfl rfl ?_
      refine w_lmul C dX10_digest_139 ?_
      refine w_aload_n C 0 dX10_digest_140 rfl rfl ?_
      refine w_aload_n C 0 dX10_digest_141 rfl rfl ?_
      refine gf_X10_96 C (Nat.le_of_ble_eq_true rfl) dX10_digest_142 ?_
      refine back_I (run_V C HR mt_X10_standsOn (ci := 10) rfl (by decide) (Nat.le_of_ble_eq_true rfl) gw1430 gw70 gw1428 (by decide) rfl (Nat.le_of_ble_eq_true rfl) dX10_digest_145 (As := [.int (M 740 0 0)]) rfl (c_X10_standsOn (M 740 0 0)  _ _ hw)) (fun r8 M7 hw => ?_)
      refine w_i2l C dX10_digest_148 ?_
      refine w_ladd C dX10_digest_149 ?_
      refine w_lstore_nV C dX10_digest_150 rfl (by decide) (fun a9 ea9 => w_lv (lv' := [(1, .long a9), (0, .ref (gad G 10 0)), (3, .int x3)]) rfl ?_)
      replace hw := hw a9 ea9
      refine w_ldc2 C dX10_digest_151 gw1490 ?_
      refine w_lload_n C 0 dX10_digest_154 rfl rfl ?_
      refine w_lmul C dX10_digest_155 ?_
      refine w_aload_n C 1 dX10_digest_156 rfl rfl ?_
      refine w_sipush C dX10_digest_157 kc_s_399 ?_
      refine back_I (run_V C HR mt_X10_owedAll (ci := 10) rfl (by decide) (Nat.le_of_ble_eq_true rfl) gw1405 gw67 gw1403 (by decide) rfl (Nat.le_of_ble_eq_true rfl) dX10_digest_160 (As := [.int 399]) rfl (c_X10_owedAll 399  _ _ hw)) (fun r11 M10 hw => ?_)
      refine w_i2l C dX10_digest_163 ?_
      refine w_ladd C dX10_digest_164 ?_
      exact ret_L C HT hw dX10_digest_165
    · replace hw := hw.2 c6
      refine w_iconst C dX10_digest_98 kc_i_0 ?_
      refine w_istore C (lv' := [(4, .int 0), (0, .ref (gad G 10 0)), (1, .long x1), (3, .int x3)]) dX10_digest_99 (by decide) rfl ?_
      obtain ⟨f12, hw⟩ := hw
      exact w_sub [1, 2, 3, 0] rfl (s_X10_digest_101 C HR HT ih f12 x1 x3 0  _ hw)
set_option maxRecDepth 100000 in
set_option maxHeartbeats 4000000 in
theorem s_X10_digest_54 {G : GG} {n : Nat} {E : EE} (C : Cx G n E RX10 cX10_digest 5) (HR : RM E 11 250) (HT : RT E (some .long)) {Q : Int64 → Mem → Prop} {K33 : Int64 → Int32 → Mem → Prop} (g33 : ∀ (x1 : Int64) (x3 : Int32)  (M : Mem), K33 x1 x3 M → WW G n E 5 (QE G E (Ql G n Q)) 33 [(0, .ref (gad G 10 0)), (1, .long x1), (3, .int x3)] [] M) : ∀ (f : Nat) (x1 : Int64) (x3 : Int32) (x4 : Int32)  (M : Mem), w_X10_digest_54 Q K33 f x1 x3 x4 M → WW G n E 5 (QE G E (Ql G n Q)) 54 [(0, .ref (gad G 10 0)), (1, .long x1), (3, .int x3), (4, .int x4)] [] M := by
  intro f
  induction f with
  | zero => intro x1 x3 x4 M hw; exact hw.elim
  | succ f ih =>
    intro x1 x3 x4 M hw
    refine w_iload C 3 dX10_digest_54 rfl ?_
    refine w_bipush C dX10_digest_56 kc_b_16 ?_
    refine w_icmp_ge C dX10_digest_58 (tgt := 82) rfl (fun c21 => ?_) (fun c21 => ?_)
    · replace hw := hw.1 c21
      refine w_iincV C (lv' := [(3, .int (x3 + 1)), (0, .ref (gad G 10 0)), (1, .long x1), (4, .int x4)]) 2 dX10_digest_82 kc_i_1 rfl (by decide) rfl ?_
      refine w_goto C dX10_digest_85 (tgt := 33) rfl ?_
      exact w_sub [1, 2, 0] rfl (g33 x1 (x3 + 1)  _ hw)
    · replace hw := hw.2 c21
      refine w_ldc2 C dX10_digest_61 gw1490 ?_
      refine w_lload_n C 1 dX10_digest_64 rfl rfl ?_
      refine w_lmul C dX10_digest_65 ?_
      refine w_aload_n C 0 dX10_digest_66 rfl rfl ?_
      refine w_iload_n C 2 dX10_digest_67 rfl rfl ?_
      refine w_iload C 3 dX10_digest_68 rfl ?_
      refine back_I (run_V C HR mt_X10_actsOf (ci := 10) rfl (by decide) (Nat.le_of_ble_eq_true rfl) gw1229 gw45 gw1227 (by decide) rfl (Nat.le_of_ble_eq_true rfl) dX10_digest_70 (As := [.int x3, .int x4]) rfl (c_X10_actsOf x3 x4  _ _ hw)) (fun r23 M22 hw => ?_)
      refine w_i2l C dX10_digest_73 ?_
      refine w_ladd C dX10_digest_74 ?_
      refine w_lstore_nV C dX10_digest_75 rfl (by decide) (fun a24 ea24 => w_lv (lv' := [(1, .long a24), (0, .ref (gad G 10 0)), (3, .int x3), (4, .int x4)]) rfl ?_)
      replace hw := hw a24 ea24
      refine w_iincV C (lv' := [(4, .int (x4 + 1)), (1, .long a24), (0, .ref (gad G 10 0)), (3, .int x3)]) 3 dX10_digest_76 kc_i_1 rfl (by decide) rfl ?_
      refine w_goto C dX10_digest_79 (tgt := 54) rfl ?_
      exact w_sub [2, 1, 3, 0] rfl (ih a24 x3 (x4 + 1)  _ hw)
set_option maxRecDepth 100000 in
set_option maxHeartbeats 4000000 in
theorem s_X10_digest_33 {G : GG} {n : Nat} {E : EE} (C : Cx G n E RX10 cX10_digest 5) (HR : RM E 11 250) (HT : RT E (some .long)) {Q : Int64 → Mem → Prop}  : ∀ (f : Nat) (x1 : Int64) (x3 : Int32)  (M : Mem), w_X10_digest_33 Q  f x1 x3 M → WW G n E 5 (QE G E (Ql G n Q)) 33 [(0, .ref (gad G 10 0)), (1, .long x1), (3, .int x3)] [] M := by
  intro f
  induction f with
  | zero => intro x1 x3 M hw; exact hw.elim
  | succ f ih =>
    intro x1 x3 M hw
    refine w_iload_n C 2 dX10_digest_33 rfl rfl ?_
    refine w_iconst C dX10_digest_34 kc_i_4 ?_
    refine w_icmp_ge C dX10_digest_35 (tgt := 88) rfl (fun c4 => ?_) (fun c4 => ?_)
    · replace hw := hw.1 c4
      refine w_iconst C dX10_digest_88 kc_i_0 ?_
      refine w_istore_n C (lv' := [(3, .int 0), (0, .ref (gad G 10 0)), (1, .long x1)]) dX10_digest_89 rfl (by decide) rfl ?_
      obtain ⟨f5, hw⟩ := hw
      exact w_sub [1, 2, 0] rfl (s_X10_digest_90 C HR HT  f5 x1 0  _ hw)
    · replace hw := hw.2 c4
      refine w_ldc2 C dX10_digest_38 gw1490 ?_
      refine w_lload_n C 1 dX10_digest_41 rfl rfl ?_
      refine w_lmul C dX10_digest_42 ?_
      refine w_aload_n C 0 dX10_digest_43 rfl rfl ?_
      refine w_iload_n C 2 dX10_digest_44 rfl rfl ?_
      refine back_I (run_V C HR mt_X10_faultOf (ci := 10) rfl (by decide) (Nat.le_of_ble_eq_true rfl) gw1191 gw38 gw1189 (by decide) rfl (Nat.le_of_ble_eq_true rfl) dX10_digest_45 (As := [.int x3]) rfl (c_X10_faultOf x3  _ _ hw)) (fun r18 M17 hw => ?_)
      refine w_i2l C dX10_digest_48 ?_
      refine w_ladd C dX10_digest_49 ?_
      refine w_lstore_nV C dX10_digest_50 rfl (by decide) (fun a19 ea19 => w_lv (lv' := [(1, .long a19), (0, .ref (gad G 10 0)), (3, .int x3)]) rfl ?_)
      replace hw := hw a19 ea19
      refine w_iconst C dX10_digest_51 kc_i_0 ?_
      refine w_istore C (lv' := [(4, .int 0), (1, .long a19), (0, .ref (gad G 10 0)), (3, .int x3)]) dX10_digest_52 (by decide) rfl ?_
      obtain ⟨f20, hw⟩ := hw
      exact w_sub [2, 1, 3, 0] rfl (s_X10_digest_54 C HR HT ih f20 a19 x3 0  _ hw)
set_option maxRecDepth 100000 in
set_option maxHeartbeats 4000000 in
theorem s_X10_digest_6 {G : GG} {n : Nat} {E : EE} (C : Cx G n E RX10 cX10_digest 5) (HR : RM E 11 250) (HT : RT E (some .long)) {Q : Int64 → Mem → Prop}  : ∀ (f : Nat) (x1 : Int64) (x3 : Int32)  (M : Mem), w_X10_digest_6 Q  f x1 x3 M → WW G n E 5 (QE G E (Ql G n Q)) 6 [(0, .ref (gad G 10 0)), (1, .long x1), (3, .int x3)] [] M := by
  intro f
  induction f with
  | zero => intro x1 x3 M hw; exact hw.elim
  | succ f ih =>
    intro x1 x3 M hw
    refine w_iload_n C 2 dX10_digest_6 rfl rfl ?_
    refine w_bipush C dX10_digest_7 kc_b_8 ?_
    refine w_icmp_ge C dX10_digest_9 (tgt := 31) rfl (fun c2 => ?_) (fun c2 => ?_)
    · replace hw := hw.1 c2
      refine w_iconst C dX10_digest_31 kc_i_0 ?_
      refine w_istore_n C (lv' := [(3, .int 0), (0, .ref (gad G 10 0)), (1, .long x1)]) dX10_digest_32 rfl (by decide) rfl ?_
      obtain ⟨f3, hw⟩ := hw
      exact w_sub [1, 2, 0] rfl (s_X10_digest_33 C HR HT  f3 x1 0  _ hw)
    · replace hw := hw.2 c2
      refine w_ldc2 C dX10_digest_12 gw1490 ?_
      refine w_lload_n C 1 dX10_digest_15 rfl rfl ?_
      refine w_lmul C dX10_digest_16 ?_
      refine w_aload_n C 0 dX10_digest_17 rfl rfl ?_
      refine w_iload_n C 2 dX10_digest_18 rfl rfl ?_
      refine back_I (run_V C HR mt_X10_count (ci := 10) rfl (by decide) (Nat.le_of_ble_eq_true rfl) gw1482 gw1483 gw1491 (by decide) rfl (Nat.le_of_ble_eq_true rfl) dX10_digest_19 (As := [.int x3]) rfl (c_X10_count x3  _ _ hw)) (fun r26 M25 hw => ?_)
      refine w_i2l C dX10_digest_22 ?_
      refine w_ladd C dX10_digest_23 ?_
      refine w_lstore_nV C dX10_digest_24 rfl (by decide) (fun a27 ea27 => w_lv (lv' := [(1, .long a27), (0, .ref (gad G 10 0)), (3, .int x3)]) rfl ?_)
      replace hw := hw a27 ea27
      refine w_iincV C (lv' := [(3, .int (x3 + 1)), (1, .long a27), (0, .ref (gad G 10 0))]) 2 dX10_digest_25 kc_i_1 rfl (by decide) rfl ?_
      refine w_goto C dX10_digest_28 (tgt := 6) rfl ?_
      exact w_sub [2, 1, 0] rfl (ih a27 (x3 + 1)  _ hw)
set_option maxRecDepth 100000 in
set_option maxHeartbeats 4000000 in
theorem c_X10_digest {G : GG} {n : Nat} {l : Launch}   (M : Mem) (Q : Int64 → Mem → Prop) (hw : wp_X10_digest  M Q) : Ct G n l yX10_digest cX10_digest 5 (some .long) 11 250 [.ref (gad G 10 0)] M (Ql G n Q) := by
  refine ct_of (by decide) (Nat.le_of_ble_eq_true rfl) (lv := [(0, .ref (gad G 10 0))]) rfl (fun E C HR HT hE => ?_)
  replace C : Cx G n E RX10 cX10_digest 5 := C
  refine w_ldc2 C dX10_digest_0 gw1489 ?_
  refine w_lstore_n C (lv' := [(1, .long 17), (0, .ref (gad G 10 0))]) dX10_digest_3 rfl (by decide) rfl ?_
  refine w_iconst C dX10_digest_4 kc_i_0 ?_
  refine w_istore_n C (lv' := [(3, .int 0), (1, .long 17), (0, .ref (gad G 10 0))]) dX10_digest_5 rfl (by decide) rfl ?_
  obtain ⟨f1, hw⟩ := hw
  exact w_sub [2, 1, 0] rfl (s_X10_digest_6 C HR HT  f1 17 0  _ hw)
