set_option maxRecDepth 100000 in
set_option maxHeartbeats 4000000 in
theorem c_X10_run {G : GG} {n : Nat} {l : Launch} (x1 : Int32) (x2 : Int32) (x3 : Int32) (x4 : Int32) (x5 : Int32) (x6 : Int32)  (M : Mem) (Q : Int32 → Mem → Prop) (hw : wp_X10_run x1 x2 x3 x4 x5 x6 M Q) : Ct G n l yX10_run cX10_run 8 (some .int) 6 135 [.ref (gad G 10 0), .int x1, .int x2, .int x3, .int x4, .int x5, .int x6] M (Qi G n Q) := by
  refine ct_of (by decide) (Nat.le_of_ble_eq_true rfl) (lv := [(0, .ref (gad G 10 0)), (1, .int x1), (2, .int x2), (3, .int x3), (4, .int x4), (5, .int x5), (6, .int x6)]) rfl (fun E C HR HT hE => ?_)
  replace C : Cx G n E RX10 cX10_run 8 := C
  refine w_iload_n C 1 dX10_run_0 rfl rfl ?_
  refine w_iload_n C 2 dX10_run_1 rfl rfl ?_
  refine w_iload_n C 3 dX10_run_2 rfl rfl ?_
  refine back_I (run_S C HR mt_X10_isMix gw1248 gw1247 (by decide) rfl (Nat.le_of_ble_eq_true rfl) dX10_run_3 (As := [.int x1, .int x2, .int x3]) rfl (c_X10_isMix x1 x2 x3  _ _ hw)) (fun r2 M1 hw => ?_)
  refine w_if_eq C dX10_run_6 (tgt := 38) rfl (fun c3 => ?_) (fun c3 => ?_)
  · replace hw := hw.1 c3
    refine w_sipush C dX10_run_38 kc_s_m1000 ?_
    exact ret_I C HT hw dX10_run_41
  · replace hw := hw.2 c3
    refine w_iload C 4 dX10_run_9 rfl ?_
    refine back_I (run_S C HR mt_X10_isSheet gw1252 gw1251 (by decide) rfl (Nat.le_of_ble_eq_true rfl) dX10_run_11 (As := [.int x4]) rfl (c_X10_isSheet x4  _ _ hw)) (fun r5 M4 hw => ?_)
    refine w_if_eq C dX10_run_14 (tgt := 38) rfl (fun c6 => ?_) (fun c6 => ?_)
    · replace hw := hw.1 c6
      refine w_sipush C dX10_run_38 kc_s_m1000 ?_
      exact ret_I C HT hw dX10_run_41
    · replace hw := hw.2 c6
      refine w_iload C 5 dX10_run_17 rfl ?_
      refine w_iconst C dX10_run_19 kc_i_0 ?_
      refine w_bipush C dX10_run_20 kc_b_40 ?_
      refine back_I (run_S C HR mt_X10_in gw1179 gw1178 (by decide) rfl (Nat.le_of_ble_eq_true rfl) dX10_run_22 (As := [.int x5, .int 0, .int 40]) rfl (c_X10_in x5 0 40  _ _ hw)) (fun r8 M7 hw => ?_)
      refine w_if_eq C dX10_run_25 (tgt := 38) rfl (fun c9 => ?_) (fun c9 => ?_)
      · replace hw := hw.1 c9
        refine w_sipush C dX10_run_38 kc_s_m1000 ?_
        exact ret_I C HT hw dX10_run_41
      · replace hw := hw.2 c9
        refine w_iload C 6 dX10_run_28 rfl ?_
        refine w_iconst C dX10_run_30 kc_i_0 ?_
        refine w_iconst C dX10_run_31 kc_i_5 ?_
        refine back_I (run_S C HR mt_X10_in gw1179 gw1178 (by decide) rfl (Nat.le_of_ble_eq_true rfl) dX10_run_32 (As := [.int x6, .int 0, .int 5]) rfl (c_X10_in x6 0 5  _ _ hw)) (fun r11 M10 hw => ?_)
        refine w_if_ne C dX10_run_35 (tgt := 42) rfl (fun c12 => ?_) (fun c12 => ?_)
        · replace hw := hw.2 c12
          refine w_aload_n C 0 dX10_run_42 rfl rfl ?_
          refine gf_X10_102 C (Nat.le_of_ble_eq_true rfl) dX10_run_43 ?_
          refine w_iload C 4 dX10_run_46 rfl ?_
          obtain ⟨b13, hw⟩ := hw
          refine v_zald C ak_81 rfl (Nat.le_of_ble_eq_true rfl) b13 dX10_run_48 ?_
          refine w_if_eq C dX10_run_49 (tgt := 64) rfl (fun c14 => ?_) (fun c14 => ?_)
          · replace hw := hw.1 c14
            exact w_sub [0, 4] rfl (s_X10_run_64 C HR HT  x4  _ hw)
          · replace hw := hw.2 c14
            refine w_aload_n C 0 dX10_run_52 rfl rfl ?_
            refine gf_X10_108 C (Nat.le_of_ble_eq_true rfl) dX10_run_53 ?_
            refine w_iload C 4 dX10_run_56 rfl ?_
            obtain ⟨b18, hw⟩ := hw
            refine v_iald C ak_83 rfl (Nat.le_of_ble_eq_true rfl) b18 dX10_run_58 ?_
            refine w_iload C 5 dX10_run_59 rfl ?_
            refine w_icmp_ge C dX10_run_61 (tgt := 87) rfl (fun c19 => ?_) (fun c19 => ?_)
            · replace hw := hw.1 c19
              refine w_iconst C dX10_run_87 kc_i_0 ?_
              refine w_istore C (lv' := [(7, .int 0), (0, .ref (gad G 10 0)), (1, .int x1), (2, .int x2), (3, .int x3), (4, .int x4), (5, .int x5), (6, .int x6)]) dX10_run_88 (by decide) rfl ?_
              obtain ⟨f20, hw⟩ := hw
              exact w_sub [1, 2, 3, 4, 5, 6, 7, 0] rfl (s_X10_run_90 C HR HT  f20 x1 x2 x3 x4 x5 x6 0  _ hw)
            · replace hw := hw.2 c19
              exact w_sub [0, 4] rfl (s_X10_run_64 C HR HT  x4  _ hw)
        · replace hw := hw.1 c12
          refine w_sipush C dX10_run_38 kc_s_m1000 ?_
          exact ret_I C HT hw dX10_run_41
set_option maxRecDepth 100000 in
set_option maxHeartbeats 4000000 in
theorem s_X10_doesPart_6 {G : GG} {n : Nat} {E : EE} (C : Cx G n E RX10 cX10_doesPart 4) (HR : RM E 2 50) (HT : RT E (some .boolean)) {Q : Int32 → Mem → Prop}  : ∀ (f : Nat) (x1 : Int32) (x2 : Int32) (x3 : Int32)  (M : Mem), w_X10_doesPart_6 Q  f x1 x2 x3 M → WW G n E 4 (QE G E (Qi G n Q)) 6 [(0, .ref (gad G 10 0)), (1, .int x1), (2, .int x2), (3, .int x3)] [] M := by
  intro f
  induction f with
  | zero => intro x1 x2 x3 M hw; exact hw.elim
  | succ f ih =>
    intro x1 x2 x3 M hw
    refine w_iload_n C 3 dX10_doesPart_6 rfl rfl ?_
    refine w_iload_n C 1 dX10_doesPart_7 rfl rfl ?_
    refine w_iconst C dX10_doesPart_8 kc_i_1 ?_
    refine w_isub C dX10_doesPart_9 ?_
    refine w_icmp_ge C dX10_doesPart_10 (tgt := 47) rfl (fun c3 => ?_) (fun c3 => ?_)
    · replace hw := hw.1 c3
      refine w_aload_n C 0 dX10_doesPart_47 rfl rfl ?_
      refine gf_X10_41 C (Nat.le_of_ble_eq_true rfl) dX10_doesPart_48 ?_
      refine w_iload_n C 1 dX10_doesPart_51 rfl rfl ?_
      refine w_iconst C dX10_doesPart_52 kc_i_1 ?_
      refine w_isub C dX10_doesPart_53 ?_
      refine w_bipush C dX10_doesPart_54 kc_b_7 ?_
      obtain ⟨b4, hw⟩ := hw
      refine v_iast C ak_63 rfl (Nat.le_of_ble_eq_true rfl) b4 dX10_doesPart_56 (w_mem fun M5 eM5 => ?_)
      replace hw := hw M5 eM5
      refine w_aload_n C 0 dX10_doesPart_57 rfl rfl ?_
      refine w_bipush C dX10_doesPart_58 kc_b_7 ?_
      refine back_V (run_V C HR mt_X10_goes (ci := 10) rfl (by decide) (Nat.le_of_ble_eq_true rfl) gw1267 gw50 gw1265 (by decide) rfl (Nat.le_of_ble_eq_true rfl) dX10_doesPart_60 (As := [.int 7]) rfl (c_X10_goes 7  _ _ hw)) (fun M6 hw => ?_)
      refine w_aload_n C 0 dX10_doesPart_63 rfl rfl ?_
      refine gf_X10_38 C (Nat.le_of_ble_eq_true rfl) dX10_doesPart_64 ?_
      refine w_iconst C dX10_doesPart_67 kc_i_2 ?_
      obtain ⟨b7, hw⟩ := hw
      refine v_iald C ak_62 rfl (Nat.le_of_ble_eq_true rfl) b7 dX10_doesPart_68 ?_
      refine w_aload_n C 0 dX10_doesPart_69 rfl rfl ?_
      refine gf_X10_189 C (Nat.le_of_ble_eq_true rfl) dX10_doesPart_70 ?_
      refine w_icmp_eq C dX10_doesPart_73 (tgt := 80) rfl (fun c8 => ?_) (fun c8 => ?_)
      · replace hw := hw.1 c8
        refine w_iconst C dX10_doesPart_80 kc_i_0 ?_
        exact ret_Z C HT rfl hw dX10_doesPart_81
      · replace hw := hw.2 c8
        refine w_iconst C dX10_doesPart_76 kc_i_1 ?_
        refine w_goto C dX10_doesPart_77 (tgt := 81) rfl ?_
        exact ret_Z C HT rfl hw dX10_doesPart_81
    · replace hw := hw.2 c3
      refine w_aload_n C 0 dX10_doesPart_13 rfl rfl ?_
      refine gf_X10_41 C (Nat.le_of_ble_eq_true rfl) dX10_doesPart_14 ?_
      refine w_iload_n C 3 dX10_doesPart_17 rfl rfl ?_
      refine w_iload_n C 2 dX10_doesPart_18 rfl rfl ?_
      refine w_iconst C dX10_doesPart_19 kc_i_3 ?_
      refine w_iload_n C 1 dX10_doesPart_20 rfl rfl ?_
      refine w_iconst C dX10_doesPart_21 kc_i_2 ?_
      refine w_isub C dX10_doesPart_22 ?_
      refine w_iload_n C 3 dX10_doesPart_23 rfl rfl ?_
      refine w_isub C dX10_doesPart_24 ?_
      refine w_imul C dX10_doesPart_25 ?_
      refine w_ishr C dX10_doesPart_26 ?_
      refine w_bipush C dX10_doesPart_27 kc_b_7 ?_
      refine w_iand C dX10_doesPart_29 ?_
      obtain ⟨b9, hw⟩ := hw
      refine v_iast C ak_63 rfl (Nat.le_of_ble_eq_true rfl) b9 dX10_doesPart_30 (w_mem fun M10 eM10 => ?_)
      replace hw := hw M10 eM10
      refine w_aload_n C 0 dX10_doesPart_31 rfl rfl ?_
      refine w_aload_n C 0 dX10_doesPart_32 rfl rfl ?_
      refine gf_X10_41 C (Nat.le_of_ble_eq_true rfl) dX10_doesPart_33 ?_
      refine w_iload_n C 3 dX10_doesPart_36 rfl rfl ?_
      obtain ⟨b11, hw⟩ := hw
      refine v_iald C ak_63 rfl (Nat.le_of_ble_eq_true rfl) b11 dX10_doesPart_37 ?_
      refine back_V (run_V C HR mt_X10_goes (ci := 10) rfl (by decide) (Nat.le_of_ble_eq_true rfl) gw1267 gw50 gw1265 (by decide) rfl (Nat.le_of_ble_eq_true rfl) dX10_doesPart_38 (As := [.int (M10 63 0 x3.toNatClampNeg)]) rfl (c_X10_goes (M10 63 0 x3.toNatClampNeg)  _ _ hw)) (fun M12 hw => ?_)
      refine w_iincV C (lv' := [(3, .int (x3 + 1)), (0, .ref (gad G 10 0)), (1, .int x1), (2, .int x2)]) 3 dX10_doesPart_41 kc_i_1 rfl (by decide) rfl ?_
      refine w_goto C dX10_doesPart_44 (tgt := 6) rfl ?_
      exact w_sub [1, 2, 3, 0] rfl (ih x1 x2 (x3 + 1)  _ hw)
set_option maxRecDepth 100000 in
set_option maxHeartbeats 4000000 in
theorem c_X10_doesPart {G : GG} {n : Nat} {l : Launch} (x1 : Int32) (x2 : Int32)  (M : Mem) (Q : Int32 → Mem → Prop) (hw : wp_X10_doesPart x1 x2 M Q) : Ct G n l yX10_doesPart cX10_doesPart 4 (some .boolean) 2 50 [.ref (gad G 10 0), .int x1, .int x2] M (Qi G n Q) := by
  refine ct_of (by decide) (Nat.le_of_ble_eq_true rfl) (lv := [(0, .ref (gad G 10 0)), (1, .int x1), (2, .int x2)]) rfl (fun E C HR HT hE => ?_)
  replace C : Cx G n E RX10 cX10_doesPart 4 := C
  refine w_aload_n C 0 dX10_doesPart_0 rfl rfl ?_
  refine back_V (run_V C HR mt_X10_begins (ci := 10) rfl (by decide) (Nat.le_of_ble_eq_true rfl) gw1263 gw49 gw1261 (by decide) rfl (Nat.le_of_ble_eq_true rfl) dX10_doesPart_1 (As := []) rfl (c_X10_begins   _ _ hw)) (fun M1 hw => ?_)
  refine w_iconst C dX10_doesPart_4 kc_i_0 ?_
  refine w_istore_n C (lv' := [(3, .int 0), (0, .ref (gad G 10 0)), (1, .int x1), (2, .int x2)]) dX10_doesPart_5 rfl (by decide) rfl ?_
  obtain ⟨f2, hw⟩ := hw
  exact w_sub [1, 2, 3, 0] rfl (s_X10_doesPart_6 C HR HT  f2 x1 x2 0  _ hw)
set_option maxRecDepth 100000 in
set_option maxHeartbeats 4000000 in
theorem s_X10_partsBy_9 {G : GG} {n : Nat} {E : EE} (C : Cx G n E RX10 cX10_partsBy 4) (HR : RM E 3 73) (HT : RT E (some .int)) {Q : Int32 → Mem → Prop} {K2 : Int32 → Int32 → Mem → Prop} (g2 : ∀ (x1 : Int32) (x2 : Int32)  (M : Mem), K2 x1 x2 M → WW G n E 4 (QE G E (Qi G n Q)) 2 [(0, .ref (gad G 10 0)), (1, .int x1), (2, .int x2)] [] M) : ∀ (f : Nat) (x1 : Int32) (x2 : Int32) (x3 : Int32)  (M : Mem), w_X10_partsBy_9 Q K2 f x1 x2 x3 M → WW G n E 4 (QE G E (Qi G n Q)) 9 [(0, .ref (gad G 10 0)), (1, .int x1), (2, .int x2), (3, .int x3)] [] M := by
  intro f
  induction f with
  | zero => intro x1 x2 x3 M hw; exact hw.elim
  | succ f ih =>
    intro x1 x2 x3 M hw
    refine w_iload_n C 3 dX10_partsBy_9 rfl rfl ?_
    refine w_iconst C dX10_partsBy_10 kc_i_1 ?_
    refine w_iconst C dX10_partsBy_11 kc_i_3 ?_
    refine w_iload_n C 2 dX10_partsBy_12 rfl rfl ?_
    refine w_iconst C dX10_partsBy_13 kc_i_1 ?_
    refine w_isub C dX10_partsBy_14 ?_
    refine w_imul C dX10_partsBy_15 ?_
    refine w_ishl C dX10_partsBy_16 ?_
    refine w_icmp_ge C dX10_partsBy_17 (tgt := 37) rfl (fun c4 => ?_) (fun c4 => ?_)
    · replace hw := hw.1 c4
      refine w_iincV C (lv' := [(2, .int (x2 + 1)), (0, .ref (gad G 10 0)), (1, .int x1), (3, .int x3)]) 2 dX10_partsBy_37 kc_i_1 rfl (by decide) rfl ?_
      refine w_goto C dX10_partsBy_40 (tgt := 2) rfl ?_
      exact w_sub [1, 2, 0] rfl (g2 x1 (x2 + 1)  _ hw)
    · replace hw := hw.2 c4
      refine w_aload_n C 0 dX10_partsBy_20 rfl rfl ?_
      refine w_iload_n C 2 dX10_partsBy_21 rfl rfl ?_
      refine w_iload_n C 3 dX10_partsBy_22 rfl rfl ?_
      refine back_I (run_V C HR mt_X10_doesPart (ci := 10) rfl (by decide) (Nat.le_of_ble_eq_true rfl) gw1283 gw53 gw1281 (by decide) rfl (Nat.le_of_ble_eq_true rfl) dX10_partsBy_23 (As := [.int x2, .int x3]) rfl (c_X10_doesPart x2 x3  _ _ hw)) (fun r6 M5 hw => ?_)
      refine w_if_eq C dX10_partsBy_26 (tgt := 31) rfl (fun c7 => ?_) (fun c7 => ?_)
      · replace hw := hw.1 c7
        refine w_iincV C (lv' := [(3, .int (x3 + 1)), (0, .ref (gad G 10 0)), (1, .int x1), (2, .int x2)]) 3 dX10_partsBy_31 kc_i_1 rfl (by decide) rfl ?_
        refine w_goto C dX10_partsBy_34 (tgt := 9) rfl ?_
        exact w_sub [1, 2, 3, 0] rfl (ih x1 x2 (x3 + 1)  _ hw)
      · replace hw := hw.2 c7
        refine w_iload_n C 2 dX10_partsBy_29 rfl rfl ?_
        exact ret_I C HT hw dX10_partsBy_30
set_option maxRecDepth 100000 in
set_option maxHeartbeats 4000000 in
theorem s_X10_partsBy_2 {G : GG} {n : Nat} {E : EE} (C : Cx G n E RX10 cX10_partsBy 4) (HR : RM E 3 73) (HT : RT E (some .int)) {Q : Int32 → Mem → Prop}  : ∀ (f : Nat) (x1 : Int32) (x2 : Int32)  (M : Mem), w_X10_partsBy_2 Q  f x1 x2 M → WW G n E 4 (QE G E (Qi G n Q)) 2 [(0, .ref (gad G 10 0)), (1, .int x1), (2, .int x2)] [] M := by
  intro f
  induction f with
  | zero => intro x1 x2 M hw; exact hw.elim
  | succ f ih =>
    intro x1 x2 M hw
    refine w_iload_n C 2 dX10_partsBy_2 rfl rfl ?_
    refine w_iload_n C 1 dX10_partsBy_3 rfl rfl ?_
    refine w_icmp_gt C dX10_partsBy_4 (tgt := 43) rfl (fun c2 => ?_) (fun c2 => ?_)
    · replace hw := hw.1 c2
      refine w_iconst C dX10_partsBy_43 kc_i_m1 ?_
      exact ret_I C HT hw dX10_partsBy_44
    · replace hw := hw.2 c2
      refine w_iconst C dX10_partsBy_7 kc_i_0 ?_
      refine w_istore_n C (lv' := [(3, .int 0), (0, .ref (gad G 10 0)), (1, .int x1), (2, .int x2)]) dX10_partsBy_8 rfl (by decide) rfl ?_
      obtain ⟨f3, hw⟩ := hw
      exact w_sub [1, 2, 3, 0] rfl (s_X10_partsBy_9 C HR HT ih f3 x1 x2 0  _ hw)
set_option maxRecDepth 100000 in
set_option maxHeartbeats 4000000 in
theorem c_X10_partsBy {G : GG} {n : Nat} {l : Launch} (x1 : Int32)  (M : Mem) (Q : Int32 → Mem → Prop) (hw : wp_X10_partsBy x1 M Q) : Ct G n l yX10_partsBy cX10_partsBy 4 (some .int) 3 73 [.ref (gad G 10 0), .int x1] M (Qi G n Q) := by
  refine ct_of (by decide) (Nat.le_of_ble_eq_true rfl) (lv := [(0, .ref (gad G 10 0)), (1, .int x1)]) rfl (fun E C HR HT hE => ?_)
  replace C : Cx G n E RX10 cX10_partsBy 4 := C
  refine w_iconst C dX10_partsBy_0 kc_i_1 ?_
  refine w_istore_n C (lv' := [(2, .int 1), (0, .ref (gad G 10 0)), (1, .int x1)]) dX10_partsBy_1 rfl (by decide) rfl ?_
  obtain ⟨f1, hw⟩ := hw
  exact w_sub [1, 2, 0] rfl (s_X10_partsBy_2 C HR HT  f1 x1 1  _ hw)
set_option maxRecDepth 100000 in
set_option maxHeartbeats 4000000 in
theorem c_X10_parting {G : GG} {n : Nat} {l : Launch} (x1 : Int32) (x2 : Int32) (x3 : Int32)  (M : Mem) (Q : Int32 → Mem → Prop) (hw : wp_X10_parting x1 x2 x3 M Q) : Ct G n l yX10_parting cX10_parting 4 (some .int) 6 135 [.ref (gad G 10 0), .int x1, .int x2, .int x3] M (Qi G n Q) := by
  refine ct_of (by decide) (Nat.le_of_ble_eq_true rfl) (lv := [(0, .ref (gad G 10 0)), (1, .int x1), (2, .int x2), (3, .int x3)]) rfl (fun E C HR HT hE => ?_)
  replace C : Cx G n E RX10 cX10_parting 4 := C
  refine w_iload_n C 1 dX10_parting_0 rfl rfl ?_
  refine w_iload_n C 2 dX10_parting_1 rfl rfl ?_
  refine w_iload_n C 3 dX10_parting_2 rfl rfl ?_
  refine back_I (run_S C HR mt_X10_isMix gw1248 gw1247 (by decide) rfl (Nat.le_of_ble_eq_true rfl) dX10_parting_3 (As := [.int x1, .int x2, .int x3]) rfl (c_X10_isMix x1 x2 x3  _ _ hw)) (fun r2 M1 hw => ?_)
  refine w_if_ne C dX10_parting_6 (tgt := 12) rfl (fun c3 => ?_) (fun c3 => ?_)
  · replace hw := hw.2 c3
    refine w_aload_n C 0 dX10_parting_12 rfl rfl ?_
    refine w_iload_n C 1 dX10_parting_13 rfl rfl ?_
    refine w_iload_n C 2 dX10_parting_14 rfl rfl ?_
    refine w_iload_n C 3 dX10_parting_15 rfl rfl ?_
    refine back_V (run_V C HR mt_X10_mixes (ci := 10) rfl (by decide) (Nat.le_of_ble_eq_true rfl) gw1259 gw48 gw1257 (by decide) rfl (Nat.le_of_ble_eq_true rfl) dX10_parting_16 (As := [.int x1, .int x2, .int x3]) rfl (c_X10_mixes x1 x2 x3  _ _ hw)) (fun M4 hw => ?_)
    refine w_aload_n C 0 dX10_parting_19 rfl rfl ?_
    refine w_iconst C dX10_parting_20 kc_i_5 ?_
    refine back_I (run_V C HR mt_X10_partsBy (ci := 10) rfl (by decide) (Nat.le_of_ble_eq_true rfl) gw1279 gw52 gw1277 (by decide) rfl (Nat.le_of_ble_eq_true rfl) dX10_parting_21 (As := [.int 5]) rfl (c_X10_partsBy 5  _ _ hw)) (fun r6 M5 hw => ?_)
    exact ret_I C HT hw dX10_parting_24
  · replace hw := hw.1 c3
    refine w_bipush C dX10_parting_9 kc_b_m2 ?_
    exact ret_I C HT hw dX10_parting_11
set_option maxRecDepth 100000 in
set_option maxHeartbeats 4000000 in
theorem c_X10_event {G : GG} {n : Nat} {l : Launch} (x1 : Int32) (x2 : Int32) (x3 : Int32) (x4 : Int32)  (M : Mem) (Q : Int32 → Mem → Prop) (hw : wp_X10_event x1 x2 x3 x4 M Q) : Ct G n l yX10_event cX10_event 6 (some .int) 6 135 [.ref (gad G 10 0), .int x1, .int x2, .int x3, .int x4] M (Qi G n Q) := by
  refine ct_of (by decide) (Nat.le_of_ble_eq_true rfl) (lv := [(0, .ref (gad G 10 0)), (1, .int x1), (2, .int x2), (3, .int x3), (4, .int x4)]) rfl (fun E C HR HT hE => ?_)
  replace C : Cx G n E RX10 cX10_event 6 := C
  refine w_iload_n C 1 dX10_event_0 rfl rfl ?_
  refine w_iload_n C 2 dX10_event_1 rfl rfl ?_
  refine w_iload_n C 3 dX10_event_2 rfl rfl ?_
  refine back_I (run_S C HR mt_X10_isMix gw1248 gw1247 (by decide) rfl (Nat.le_of_ble_eq_true rfl) dX10_event_3 (As := [.int x1, .int x2, .int x3]) rfl (c_X10_isMix x1 x2 x3  _ _ hw)) (fun r2 M1 hw => ?_)
  refine w_if_eq C dX10_event_6 (tgt := 14) rfl (fun c3 => ?_) (fun c3 => ?_)
  · replace hw := hw.1 c3
    refine w_bipush C dX10_event_14 kc_b_m2 ?_
    exact ret_I C HT hw dX10_event_16
  · replace hw := hw.2 c3
    refine w_iload C 4 dX10_event_9 rfl ?_
    refine w_if_ge C dX10_event_11 (tgt := 17) rfl (fun c4 => ?_) (fun c4 => ?_)
    · replace hw := hw.1 c4
      refine w_aload_n C 0 dX10_event_17 rfl rfl ?_
      refine w_iload_n C 1 dX10_event_18 rfl rfl ?_
      refine w_iload_n C 2 dX10_event_19 rfl rfl ?_
      refine w_iload_n C 3 dX10_event_20 rfl rfl ?_
      refine back_V (run_V C HR mt_X10_mixes (ci := 10) rfl (by decide) (Nat.le_of_ble_eq_true rfl) gw1259 gw48 gw1257 (by decide) rfl (Nat.le_of_ble_eq_true rfl) dX10_event_21 (As := [.int x1, .int x2, .int x3]) rfl (c_X10_mixes x1 x2 x3  _ _ hw)) (fun M5 hw => ?_)
      refine w_aload_n C 0 dX10_event_24 rfl rfl ?_
      refine w_iconst C dX10_event_25 kc_i_5 ?_
      refine back_I (run_V C HR mt_X10_partsBy (ci := 10) rfl (by decide) (Nat.le_of_ble_eq_true rfl) gw1279 gw52 gw1277 (by decide) rfl (Nat.le_of_ble_eq_true rfl) dX10_event_26 (As := [.int 5]) rfl (c_X10_partsBy 5  _ _ hw)) (fun r7 M6 hw => ?_)
      refine w_istore C (lv' := [(5, .int r7), (0, .ref (gad G 10 0)), (1, .int x1), (2, .int x2), (3, .int x3), (4, .int x4)]) dX10_event_29 (by decide) rfl ?_
      refine w_iload C 5 dX10_event_31 rfl ?_
      refine w_iload C 0 dX10_event_33 rfl ?_
      refine w_icmp_ge C dX10_event_35 (tgt := 48) rfl (fun c8 => ?_) (fun c8 => ?_)
      · replace hw := hw.1 c8
        refine w_iconst C dX10_event_48 kc_i_m1 ?_
        exact ret_I C HT hw dX10_event_49
      · replace hw := hw.2 c8
        refine w_aload_n C 1 dX10_event_38 rfl rfl ?_
        refine gf_X10_41 C (Nat.le_of_ble_eq_true rfl) dX10_event_39 ?_
        refine w_iload C 5 dX10_event_42 rfl ?_
        obtain ⟨b9, hw⟩ := hw
        refine v_iald C ak_63 rfl (Nat.le_of_ble_eq_true rfl) b9 dX10_event_44 ?_
        refine w_goto C dX10_event_45 (tgt := 49) rfl ?_
        exact ret_I C HT hw dX10_event_49
    · replace hw := hw.2 c4
      refine w_bipush C dX10_event_14 kc_b_m2 ?_
      exact ret_I C HT hw dX10_event_16
set_option maxRecDepth 100000 in
set_option maxHeartbeats 4000000 in
theorem s_X10_mended_113 {G : GG} {n : Nat} {E : EE} (C : Cx G n E RX10 cX10_mended 7) (HR : RM E 8 185) (HT : RT E (some .int)) {Q : Int32 → Mem → Prop} {K45 : Int32 → Int32 → Int32 → Int32 → Int32 → Int32 → Mem → Prop} (g45 : ∀ (x1 : Int32) (x2 : Int32) (x3 : Int32) (x4 : Int32) (x5 : Int32) (x6 : Int32)  (M : Mem), K45 x1 x2 x3 x4 x5 x6 M → WW G n E 7 (QE G E (Qi G n Q)) 45 [(0, .ref (gad G 10 0)), (1, .int x1), (2, .int x2), (3, .int x3), (4, .int x4), (5, .int x5), (6, .int x6)] [] M) : ∀ (x1 : Int32) (x2 : Int32) (x3 : Int32) (x4 : Int32) (x5 : Int32) (y0 : Int32)  (M : Mem), w_X10_mended_113 Q K45 x1 x2 x3 x4 x5 y0 M → WW G n E 7 (QE G E (Qi G n Q)) 113 [(0, .ref (gad G 10 0)), (1, .int x1), (2, .int x2), (3, .int x3), (4, .int x4), (5, .int x5)] [.int y0] M := by
  intro x1 x2 x3 x4 x5 y0 M hw
  refine w_istore C (lv' := [(6, .int y0), (0, .ref (gad G 10 0)), (1, .int x1), (2, .int x2), (3, .int x3), (4, .int x4), (5, .int x5)]) dX10_mended_113 (by decide) rfl ?_
  refine w_goto C dX10_mended_115 (tgt := 45) rfl ?_
  exact w_sub [1, 2, 3, 4, 5, 6, 0] rfl (g45 x1 x2 x3 x4 x5 y0  _ hw)
set_option maxRecDepth 100000 in
set_option maxHeartbeats 4000000 in
theorem s_X10_mended_95 {G : GG} {n : Nat} {E : EE} (C : Cx G n E RX10 cX10_mended 7) (HR : RM E 8 185) (HT : RT E (some .int)) {Q : Int32 → Mem → Prop} {K45 : Int32 → Int32 → Int32 → Int32 → Int32 → Int32 → Mem → Prop} (g45 : ∀ (x1 : Int32) (x2 : Int32) (x3 : Int32) (x4 : Int32) (x5 : Int32) (x6 : Int32)  (M : Mem), K45 x1 x2 x3 x4 x5 x6 M → WW G n E 7 (QE G E (Qi G n Q)) 45 [(0, .ref (gad G 10 0)), (1, .int x1), (2, .int x2), (3, .int x3), (4, .int x4), (5, .int x5), (6, .int x6)] [] M) : ∀ (x1 : Int32) (x2 : Int32) (x3 : Int32) (x4 : Int32) (x5 : Int32)  (M : Mem), w_X10_mended_95 Q K45 x1 x2 x3 x4 x5 M → WW G n E 7 (QE G E (Qi G n Q)) 95 [(0, .ref (gad G 10 0)), (1, .int x1), (2, .int x2), (3, .int x3), (4, .int x4), (5, .int x5)] [] M := by
  intro x1 x2 x3 x4 x5 M hw
  refine w_iload C 5 dX10_mended_95 rfl ?_
  refine w_iload_n C 3 dX10_mended_97 rfl rfl ?_
  refine w_isub C dX10_mended_98 ?_
  refine w_iload_n C 3 dX10_mended_99 rfl rfl ?_
  refine w_iand C dX10_mended_100 ?_
  refine w_istoreV C dX10_mended_101 (by decide) (fun a19 ea19 => w_lv (lv' := [(5, .int a19), (0, .ref (gad G 10 0)), (1, .int x1), (2, .int x2), (3, .int x3), (4, .int x4)]) rfl ?_)
  replace hw := hw a19 ea19
  refine w_iload C 0 dX10_mended_103 rfl ?_
  refine w_if_eq C dX10_mended_105 (tgt := 112) rfl (fun c20 => ?_) (fun c20 => ?_)
  · replace hw := hw.1 c20
    refine w_iconst C dX10_mended_112 kc_i_0 ?_
    exact w_sub [1, 2, 3, 4, 5, 0] rfl (s_X10_mended_113 C HR HT g45 x1 x2 x3 x4 a19 0  _ hw)
  · replace hw := hw.2 c20
    refine w_iconst C dX10_mended_108 kc_i_1 ?_
    refine w_goto C dX10_mended_109 (tgt := 113) rfl ?_
    exact w_sub [1, 2, 3, 4, 5, 0] rfl (s_X10_mended_113 C HR HT g45 x1 x2 x3 x4 a19 1  _ hw)
set_option maxRecDepth 100000 in
set_option maxHeartbeats 4000000 in
theorem s_X10_mended_93 {G : GG} {n : Nat} {E : EE} (C : Cx G n E RX10 cX10_mended 7) (HR : RM E 8 185) (HT : RT E (some .int)) {Q : Int32 → Mem → Prop} {K45 : Int32 → Int32 → Int32 → Int32 → Int32 → Int32 → Mem → Prop} (g45 : ∀ (x1 : Int32) (x2 : Int32) (x3 : Int32) (x4 : Int32) (x5 : Int32) (x6 : Int32)  (M : Mem), K45 x1 x2 x3 x4 x5 x6 M → WW G n E 7 (QE G E (Qi G n Q)) 45 [(0, .ref (gad G 10 0)), (1, .int x1), (2, .int x2), (3, .int x3), (4, .int x4), (5, .int x5), (6, .int x6)] [] M) : ∀ (x1 : Int32) (x2 : Int32) (x3 : Int32) (x5 : Int32) (y0 : Int32)  (M : Mem), w_X10_mended_93 Q K45 x1 x2 x3 x5 y0 M → WW G n E 7 (QE G E (Qi G n Q)) 93 [(0, .ref (gad G 10 0)), (1, .int x1), (2, .int x2), (3, .int x3), (5, .int x5)] [.int y0] M := by
  intro x1 x2 x3 x5 y0 M hw
  refine w_istore C (lv' := [(4, .int y0), (0, .ref (gad G 10 0)), (1, .int x1), (2, .int x2), (3, .int x3), (5, .int x5)]) dX10_mended_93 (by decide) rfl ?_
  exact w_sub [1, 2, 3, 4, 0, 5] rfl (s_X10_mended_95 C HR HT g45 x1 x2 x3 y0 x5  _ hw)
set_option maxRecDepth 100000 in
set_option maxHeartbeats 4000000 in
theorem s_X10_mended_69 {G : GG} {n : Nat} {E : EE} (C : Cx G n E RX10 cX10_mended 7) (HR : RM E 8 185) (HT : RT E (some .int)) {Q : Int32 → Mem → Prop} {K45 : Int32 → Int32 → Int32 → Int32 → Int32 → Int32 → Mem → Prop} (g45 : ∀ (x1 : Int32) (x2 : Int32) (x3 : Int32) (x4 : Int32) (x5 : Int32) (x6 : Int32)  (M : Mem), K45 x1 x2 x3 x4 x5 x6 M → WW G n E 7 (QE G E (Qi G n Q)) 45 [(0, .ref (gad G 10 0)), (1, .int x1), (2, .int x2), (3, .int x3), (4, .int x4), (5, .int x5), (6, .int x6)] [] M) : ∀ (x1 : Int32) (x2 : Int32) (x3 : Int32) (x4 : Int32) (x5 : Int32)  (M : Mem), w_X10_mended_69 Q K45 x1 x2 x3 x4 x5 M → WW G n E 7 (QE G E (Qi G n Q)) 69 [(0, .ref (gad G 10 0)), (1, .int x1), (2, .int x2), (3, .int x3), (4, .int x4), (5, .int x5)] [] M := by
  intro x1 x2 x3 x4 x5 M hw
  refine w_aload_n C 0 dX10_mended_69 rfl rfl ?_
  refine w_iload_n C 1 dX10_mended_70 rfl rfl ?_
  refine w_iload_n C 2 dX10_mended_71 rfl rfl ?_
  refine w_iload C 5 dX10_mended_72 rfl ?_
  refine back_V (run_V C HR mt_X10_mixes (ci := 10) rfl (by decide) (Nat.le_of_ble_eq_true rfl) gw1259 gw48 gw1257 (by decide) rfl (Nat.le_of_ble_eq_true rfl) dX10_mended_74 (As := [.int x1, .int x2, .int x5]) rfl (c_X10_mixes x1 x2 x5  _ _ hw)) (fun M15 hw => ?_)
  refine w_aload_n C 0 dX10_mended_77 rfl rfl ?_
  refine w_iconst C dX10_mended_78 kc_i_4 ?_
  refine back_I (run_V C HR mt_X10_partsBy (ci := 10) rfl (by decide) (Nat.le_of_ble_eq_true rfl) gw1279 gw52 gw1277 (by decide) rfl (Nat.le_of_ble_eq_true rfl) dX10_mended_79 (As := [.int 4]) rfl (c_X10_partsBy 4  _ _ hw)) (fun r17 M16 hw => ?_)
  refine w_iconst C dX10_mended_82 kc_i_m1 ?_
  refine w_icmp_ne C dX10_mended_83 (tgt := 91) rfl (fun c18 => ?_) (fun c18 => ?_)
  · replace hw := hw.2 c18
    refine w_iload C 4 dX10_mended_91 rfl ?_
    exact w_sub [0, 1, 2, 3, 5] rfl (s_X10_mended_93 C HR HT g45 x1 x2 x3 x5 x4  _ hw)
  · replace hw := hw.1 c18
    refine w_iload C 5 dX10_mended_86 rfl ?_
    refine w_goto C dX10_mended_88 (tgt := 93) rfl ?_
    exact w_sub [0, 1, 2, 3, 5] rfl (s_X10_mended_93 C HR HT g45 x1 x2 x3 x5 x5  _ hw)
set_option maxRecDepth 100000 in
set_option maxHeartbeats 4000000 in
theorem s_X10_mended_45 {G : GG} {n : Nat} {E : EE} (C : Cx G n E RX10 cX10_mended 7) (HR : RM E 8 185) (HT : RT E (some .int)) {Q : Int32 → Mem → Prop}  : ∀ (f : Nat) (x1 : Int32) (x2 : Int32) (x3 : Int32) (x4 : Int32) (x5 : Int32) (x6 : Int32)  (M : Mem), w_X10_mended_45 Q  f x1 x2 x3 x4 x5 x6 M → WW G n E 7 (QE G E (Qi G n Q)) 45 [(0, .ref (gad G 10 0)), (1, .int x1), (2, .int x2), (3, .int x3), (4, .int x4), (5, .int x5), (6, .int x6)] [] M := by
  intro f
  induction f with
  | zero => intro x1 x2 x3 x4 x5 x6 M hw; exact hw.elim
  | succ f ih =>
    intro x1 x2 x3 x4 x5 x6 M hw
    refine w_iload C 6 dX10_mended_45 rfl ?_
    refine w_if_eq C dX10_mended_47 (tgt := 118) rfl (fun c13 => ?_) (fun c13 => ?_)
    · replace hw := hw.1 c13
      refine w_iload C 4 dX10_mended_118 rfl ?_
      exact ret_I C HT hw dX10_mended_120
    · replace hw := hw.2 c13
      refine w_iload C 4 dX10_mended_50 rfl ?_
      refine w_iconst C dX10_mended_52 kc_i_m1 ?_
      refine w_icmp_eq C dX10_mended_53 (tgt := 69) rfl (fun c14 => ?_) (fun c14 => ?_)
      · replace hw := hw.1 c14
        exact w_sub [0, 1, 2, 3, 4, 5] rfl (s_X10_mended_69 C HR HT ih x1 x2 x3 x4 x5  _ hw)
      · replace hw := hw.2 c14
        refine w_iload C 5 dX10_mended_56 rfl ?_
        refine back_I (run_S C HR mt_X10_ones gw1294 gw1293 (by decide) rfl (Nat.le_of_ble_eq_true rfl) dX10_mended_58 (As := [.int x5]) rfl (c_X10_ones x5  _ _ hw)) (fun r22 M21 hw => ?_)
        refine w_iload C 4 dX10_mended_61 rfl ?_
        refine back_I (run_S C HR mt_X10_ones gw1294 gw1293 (by decide) rfl (Nat.le_of_ble_eq_true rfl) dX10_mended_63 (As := [.int x4]) rfl (c_X10_ones x4  _ _ hw)) (fun r24 M23 hw => ?_)
        refine w_icmp_ge C dX10_mended_66 (tgt := 95) rfl (fun c25 => ?_) (fun c25 => ?_)
        · replace hw := hw.1 c25
          exact w_sub [0, 1, 2, 3, 4, 5] rfl (s_X10_mended_95 C HR HT ih x1 x2 x3 x4 x5  _ hw)
        · replace hw := hw.2 c25
          exact w_sub [0, 1, 2, 3, 4, 5] rfl (s_X10_mended_69 C HR HT ih x1 x2 x3 x4 x5  _ hw)
set_option maxRecDepth 100000 in
set_option maxHeartbeats 4000000 in
theorem c_X10_mended {G : GG} {n : Nat} {l : Launch} (x1 : Int32) (x2 : Int32)  (M : Mem) (Q : Int32 → Mem → Prop) (hw : wp_X10_mended x1 x2 M Q) : Ct G n l yX10_mended cX10_mended 7 (some .int) 8 185 [.ref (gad G 10 0), .int x1, .int x2] M (Qi G n Q) := by
  refine ct_of (by decide) (Nat.le_of_ble_eq_true rfl) (lv := [(0, .ref (gad G 10 0)), (1, .int x1), (2, .int x2)]) rfl (fun E C HR HT hE => ?_)
  replace C : Cx G n E RX10 cX10_mended 7 := C
  refine w_iload_n C 1 dX10_mended_0 rfl rfl ?_
  refine back_I (run_S C HR mt_X10_isVersion gw1176 gw1175 (by decide) rfl (Nat.le_of_ble_eq_true rfl) dX10_mended_1 (As := [.int x1]) rfl (c_X10_isVersion x1  _ _ hw)) (fun r2 M1 hw => ?_)
  refine w_if_eq C dX10_mended_4 (tgt := 14) rfl (fun c3 => ?_) (fun c3 => ?_)
  · replace hw := hw.1 c3
    refine w_bipush C dX10_mended_14 kc_b_m2 ?_
    exact ret_I C HT hw dX10_mended_16
  · replace hw := hw.2 c3
    refine w_iload_n C 2 dX10_mended_7 rfl rfl ?_
    refine back_I (run_S C HR mt_X10_isVersion gw1176 gw1175 (by decide) rfl (Nat.le_of_ble_eq_true rfl) dX10_mended_8 (As := [.int x2]) rfl (c_X10_isVersion x2  _ _ hw)) (fun r5 M4 hw => ?_)
    refine w_if_ne C dX10_mended_11 (tgt := 17) rfl (fun c6 => ?_) (fun c6 => ?_)
    · replace hw := hw.2 c6
      refine w_aload_n C 0 dX10_mended_17 rfl rfl ?_
      refine w_iload_n C 1 dX10_mended_18 rfl rfl ?_
      refine w_iload_n C 2 dX10_mended_19 rfl rfl ?_
      refine back_I (run_V C HR mt_X10_differOf (ci := 10) rfl (by decide) (Nat.le_of_ble_eq_true rfl) gw1237 gw46 gw1235 (by decide) rfl (Nat.le_of_ble_eq_true rfl) dX10_mended_20 (As := [.int x1, .int x2]) rfl (c_X10_differOf x1 x2  _ _ hw)) (fun r8 M7 hw => ?_)
      refine w_istore_n C (lv' := [(3, .int r8), (0, .ref (gad G 10 0)), (1, .int x1), (2, .int x2)]) dX10_mended_23 rfl (by decide) rfl ?_
      refine w_iload_n C 0 dX10_mended_24 rfl rfl ?_
      refine back_I (run_S C HR mt_X10_ones gw1294 gw1293 (by decide) rfl (Nat.le_of_ble_eq_true rfl) dX10_mended_25 (As := [.int r8]) rfl (c_X10_ones r8  _ _ hw)) (fun r10 M9 hw => ?_)
      refine w_bipush C dX10_mended_28 kc_b_8 ?_
      refine w_icmp_le C dX10_mended_30 (tgt := 36) rfl (fun c11 => ?_) (fun c11 => ?_)
      · replace hw := hw.1 c11
        refine w_iconst C dX10_mended_36 kc_i_m1 ?_
        refine w_istore C (lv' := [(4, .int (-1)), (3, .int r8), (0, .ref (gad G 10 0)), (1, .int x1), (2, .int x2)]) dX10_mended_37 (by decide) rfl ?_
        refine w_iconst C dX10_mended_39 kc_i_0 ?_
        refine w_istore C (lv' := [(5, .int 0), (4, .int (-1)), (3, .int r8), (0, .ref (gad G 10 0)), (1, .int x1), (2, .int x2)]) dX10_mended_40 (by decide) rfl ?_
        refine w_iconst C dX10_mended_42 kc_i_1 ?_
        refine w_istore C (lv' := [(6, .int 1), (5, .int 0), (4, .int (-1)), (3, .int r8), (0, .ref (gad G 10 0)), (1, .int x1), (2, .int x2)]) dX10_mended_43 (by decide) rfl ?_
        obtain ⟨f12, hw⟩ := hw
        exact w_sub [4, 5, 6, 3, 2, 1, 0] rfl (s_X10_mended_45 C HR HT  f12 x1 x2 r8 (-1) 0 1  _ hw)
      · replace hw := hw.2 c11
        refine w_bipush C dX10_mended_33 kc_b_m4 ?_
        exact ret_I C HT hw dX10_mended_35
    · replace hw := hw.1 c6
      refine w_bipush C dX10_mended_14 kc_b_m2 ?_
      exact ret_I C HT hw dX10_mended_16
set_option maxRecDepth 100000 in
set_option maxHeartbeats 4000000 in
theorem c_X10_isCounter {G : GG} {n : Nat} {l : Launch} (x1 : Int32)  (M : Mem) (Q : Int32 → Mem → Prop) (hw : wp_X10_isCounter x1 M Q) : Ct G n l yX10_isCounter cX10_isCounter 2 (some .boolean) 1 22 [.ref (gad G 10 0), .int x1] M (Qi G n Q) := by
  refine ct_of (by decide) (Nat.le_of_ble_eq_true rfl) (lv := [(0, .ref (gad G 10 0)), (1, .int x1)]) rfl (fun E C HR HT hE => ?_)
  replace C : Cx G n E RX10 cX10_isCounter 2 := C
  refine w_iload_n C 1 dX10_isCounter_0 rfl rfl ?_
  refine w_iconst C dX10_isCounter_1 kc_i_0 ?_
  refine w_aload_n C 0 dX10_isCounter_2 rfl rfl ?_
  refine gf_X10_229 C (Nat.le_of_ble_eq_true rfl) dX10_isCounter_3 ?_
  refine w_iconst C dX10_isCounter_6 kc_i_1 ?_
  refine w_isub C dX10_isCounter_7 ?_
  refine back_I (run_S C HR mt_X10_in gw1179 gw1178 (by decide) rfl (Nat.le_of_ble_eq_true rfl) dX10_isCounter_8 (As := [.int x1, .int 0, .int ((M 720 0 0) - 1)]) rfl (c_X10_in x1 0 ((M 720 0 0) - 1)  _ _ hw)) (fun r2 M1 hw => ?_)
  exact ret_Z C HT hw.1 hw.2 dX10_isCounter_11
set_option maxRecDepth 100000 in
set_option maxHeartbeats 4000000 in
theorem c_X10_counter {G : GG} {n : Nat} {l : Launch} (x1 : Int32)  (M : Mem) (Q : Int32 → Mem → Prop) (hw : wp_X10_counter x1 M Q) : Ct G n l yX10_counter cX10_counter 2 (some .int) 2 42 [.ref (gad G 10 0), .int x1] M (Qi G n Q) := by
  refine ct_of (by decide) (Nat.le_of_ble_eq_true rfl) (lv := [(0, .ref (gad G 10 0)), (1, .int x1)]) rfl (fun E C HR HT hE => ?_)
  replace C : Cx G n E RX10 cX10_counter 2 := C
  refine w_iload_n C 1 dX10_counter_0 rfl rfl ?_
  refine back_I (run_S C HR mt_X10_isVersion gw1176 gw1175 (by decide) rfl (Nat.le_of_ble_eq_true rfl) dX10_counter_1 (As := [.int x1]) rfl (c_X10_isVersion x1  _ _ hw)) (fun r2 M1 hw => ?_)
  refine w_if_ne C dX10_counter_4 (tgt := 10) rfl (fun c3 => ?_) (fun c3 => ?_)
  · replace hw := hw.2 c3
    refine w_aload_n C 0 dX10_counter_10 rfl rfl ?_
    refine gf_X10_229 C (Nat.le_of_ble_eq_true rfl) dX10_counter_11 ?_
    refine w_bipush C dX10_counter_14 kc_b_12 ?_
    refine w_icmp_ne C dX10_counter_16 (tgt := 22) rfl (fun c4 => ?_) (fun c4 => ?_)
    · replace hw := hw.2 c4
      refine w_aload_n C 0 dX10_counter_22 rfl rfl ?_
      refine gf_X10_44 C (Nat.le_of_ble_eq_true rfl) dX10_counter_23 ?_
      refine w_aload_n C 0 dX10_counter_26 rfl rfl ?_
      refine gf_X10_229 C (Nat.le_of_ble_eq_true rfl) dX10_counter_27 ?_
      refine w_iload_n C 1 dX10_counter_30 rfl rfl ?_
      obtain ⟨b5, hw⟩ := hw
      refine v_iast C ak_64 rfl (Nat.le_of_ble_eq_true rfl) b5 dX10_counter_31 (w_mem fun M6 eM6 => ?_)
      replace hw := hw M6 eM6
      refine w_aload_n C 0 dX10_counter_32 rfl rfl ?_
      refine gf_X10_47 C (Nat.le_of_ble_eq_true rfl) dX10_counter_33 ?_
      refine w_aload_n C 0 dX10_counter_36 rfl rfl ?_
      refine gf_X10_229 C (Nat.le_of_ble_eq_true rfl) dX10_counter_37 ?_
      refine w_iconst C dX10_counter_40 kc_i_0 ?_
      obtain ⟨b7, hw⟩ := hw
      refine v_iast C ak_65 rfl (Nat.le_of_ble_eq_true rfl) b7 dX10_counter_41 (w_mem fun M8 eM8 => ?_)
      replace hw := hw M8 eM8
      refine w_aload_n C 0 dX10_counter_42 rfl rfl ?_
      refine gf_X10_53 C (Nat.le_of_ble_eq_true rfl) dX10_counter_43 ?_
      refine w_aload_n C 0 dX10_counter_46 rfl rfl ?_
      refine gf_X10_229 C (Nat.le_of_ble_eq_true rfl) dX10_counter_47 ?_
      refine w_iconst C dX10_counter_50 kc_i_0 ?_
      obtain ⟨b9, hw⟩ := hw
      refine v_iast C ak_67 rfl (Nat.le_of_ble_eq_true rfl) b9 dX10_counter_51 (w_mem fun M10 eM10 => ?_)
      replace hw := hw M10 eM10
      refine w_aload_n C 0 dX10_counter_52 rfl rfl ?_
      refine gf_X10_56 C (Nat.le_of_ble_eq_true rfl) dX10_counter_53 ?_
      refine w_aload_n C 0 dX10_counter_56 rfl rfl ?_
      refine gf_X10_229 C (Nat.le_of_ble_eq_true rfl) dX10_counter_57 ?_
      refine w_iconst C dX10_counter_60 kc_i_0 ?_
      obtain ⟨b11, hw⟩ := hw
      refine v_iast C ak_68 rfl (Nat.le_of_ble_eq_true rfl) b11 dX10_counter_61 (w_mem fun M12 eM12 => ?_)
      replace hw := hw M12 eM12
      refine w_aload_n C 0 dX10_counter_62 rfl rfl ?_
      refine gf_X10_59 C (Nat.le_of_ble_eq_true rfl) dX10_counter_63 ?_
      refine w_aload_n C 0 dX10_counter_66 rfl rfl ?_
      refine gf_X10_229 C (Nat.le_of_ble_eq_true rfl) dX10_counter_67 ?_
      refine w_bipush C dX10_counter_70 kc_b_10 ?_
      obtain ⟨b13, hw⟩ := hw
      refine v_iast C ak_69 rfl (Nat.le_of_ble_eq_true rfl) b13 dX10_counter_72 (w_mem fun M14 eM14 => ?_)
      replace hw := hw M14 eM14
      refine w_aload_n C 0 dX10_counter_73 rfl rfl ?_
      refine gf_X10_62 C (Nat.le_of_ble_eq_true rfl) dX10_counter_74 ?_
      refine w_aload_n C 0 dX10_counter_77 rfl rfl ?_
      refine gf_X10_229 C (Nat.le_of_ble_eq_true rfl) dX10_counter_78 ?_
      refine w_iconst C dX10_counter_81 kc_i_5 ?_
      obtain ⟨b15, hw⟩ := hw
      refine v_iast C ak_70 rfl (Nat.le_of_ble_eq_true rfl) b15 dX10_counter_82 (w_mem fun M16 eM16 => ?_)
      replace hw := hw M16 eM16
      refine w_aload_n C 0 dX10_counter_83 rfl rfl ?_
      refine gf_X10_65 C (Nat.le_of_ble_eq_true rfl) dX10_counter_84 ?_
      refine w_aload_n C 0 dX10_counter_87 rfl rfl ?_
      refine gf_X10_229 C (Nat.le_of_ble_eq_true rfl) dX10_counter_88 ?_
      refine w_iconst C dX10_counter_91 kc_i_1 ?_
      obtain ⟨b17, hw⟩ := hw
      refine v_iast C ak_71 rfl (Nat.le_of_ble_eq_true rfl) b17 dX10_counter_92 (w_mem fun M18 eM18 => ?_)
      replace hw := hw M18 eM18
      refine w_aload_n C 0 dX10_counter_93 rfl rfl ?_
      refine w_dup C dX10_counter_94 rfl ?_
      refine gf_X10_229 C (Nat.le_of_ble_eq_true rfl) dX10_counter_95 ?_
      refine w_iconst C dX10_counter_98 kc_i_1 ?_
      refine w_iadd C dX10_counter_99 ?_
      refine pf_X10_229 C (Nat.le_of_ble_eq_true rfl) dX10_counter_100 (w_mem fun M19 eM19 => ?_)
      replace hw := hw M19 eM19
      refine w_aload_n C 0 dX10_counter_103 rfl rfl ?_
      refine gf_X10_229 C (Nat.le_of_ble_eq_true rfl) dX10_counter_104 ?_
      refine w_iconst C dX10_counter_107 kc_i_1 ?_
      refine w_isub C dX10_counter_108 ?_
      exact ret_I C HT hw dX10_counter_109
    · replace hw := hw.1 c4
      refine w_bipush C dX10_counter_19 kc_b_m4 ?_
      exact ret_I C HT hw dX10_counter_21
  · replace hw := hw.1 c3
    refine w_bipush C dX10_counter_7 kc_b_m2 ?_
    exact ret_I C HT hw dX10_counter_9
set_option maxRecDepth 100000 in
set_option maxHeartbeats 4000000 in
theorem c_X10_meets {G : GG} {n : Nat} {l : Launch} (x1 : Int32)  (M : Mem) (Q : Int32 → Mem → Prop) (hw : wp_X10_meets x1 M Q) : Ct G n l yX10_meets cX10_meets 2 (some .int) 0 0 [.ref (gad G 10 0), .int x1] M (Qi G n Q) := by
  refine ct_of (by decide) (Nat.le_of_ble_eq_true rfl) (lv := [(0, .ref (gad G 10 0)), (1, .int x1)]) rfl (fun E C HR HT hE => ?_)
  replace C : Cx G n E RX10 cX10_meets 2 := C
  refine w_aload_n C 0 dX10_meets_0 rfl rfl ?_
  refine w_iload_n C 1 dX10_meets_1 rfl rfl ?_
  refine pf_X10_203 C (Nat.le_of_ble_eq_true rfl) dX10_meets_2 (w_mem fun M1 eM1 => ?_)
  replace hw := hw M1 eM1
  refine w_bipush C dX10_meets_5 kc_b_m10 ?_
  refine w_iload_n C 1 dX10_meets_7 rfl rfl ?_
  refine w_isub C dX10_meets_8 ?_
  exact ret_I C HT hw dX10_meets_9
set_option maxRecDepth 100000 in
set_option maxHeartbeats 4000000 in
theorem s_X10_log_170 {G : GG} {n : Nat} {E : EE} (C : Cx G n E RX10 cX10_log 8) (HR : RM E 2 43) (HT : RT E (some .int)) {Q : Int32 → Mem → Prop} {K125 : Int32 → Int32 → Int32 → Int32 → Int32 → Mem → Prop} (g125 : ∀ (x1 : Int32) (x2 : Int32) (x3 : Int32) (x5 : Int32) (x6 : Int32)  (M : Mem), K125 x1 x2 x3 x5 x6 M → WW G n E 8 (QE G E (Qi G n Q)) 125 [(0, .ref (gad G 10 0)), (1, .int x1), (2, .int x2), (3, .int x3), (5, .int x5), (6, .int x6)] [] M) : ∀ (x1 : Int32) (x2 : Int32) (x3 : Int32) (x5 : Int32) (x6 : Int32) (y0 : Int32) (y1 : Int32)  (M : Mem), w_X10_log_170 Q K125 x1 x2 x3 x5 x6 y0 y1 M → WW G n E 8 (QE G E (Qi G n Q)) 170 [(0, .ref (gad G 10 0)), (1, .int x1), (2, .int x2), (3, .int x3), (5, .int x5), (6, .int x6)] [.int y0, .int y1, .ref (gad G 66 0)] M := by
  intro x1 x2 x3 x5 x6 y0 y1 M hw
  obtain ⟨b28, hw⟩ := hw
  refine v_iast C ak_66 rfl (Nat.le_of_ble_eq_true rfl) b28 dX10_log_170 (w_mem fun M29 eM29 => ?_)
  replace hw := hw M29 eM29
  refine w_iincV C (lv' := [(6, .int (x6 + 1)), (0, .ref (gad G 10 0)), (1, .int x1), (2, .int x2), (3, .int x3), (5, .int x5)]) 5 dX10_log_171 kc_i_1 rfl (by decide) rfl ?_
  refine w_goto C dX10_log_174 (tgt := 125) rfl ?_
  exact w_sub [1, 2, 3, 4, 5, 0] rfl (g125 x1 x2 x3 x5 (x6 + 1)  _ hw)
set_option maxRecDepth 100000 in
set_option maxHeartbeats 4000000 in
theorem s_X10_log_125 {G : GG} {n : Nat} {E : EE} (C : Cx G n E RX10 cX10_log 8) (HR : RM E 2 43) (HT : RT E (some .int)) {Q : Int32 → Mem → Prop}  : ∀ (f : Nat) (x1 : Int32) (x2 : Int32) (x3 : Int32) (x5 : Int32) (x6 : Int32)  (M : Mem), w_X10_log_125 Q  f x1 x2 x3 x5 x6 M → WW G n E 8 (QE G E (Qi G n Q)) 125 [(0, .ref (gad G 10 0)), (1, .int x1), (2, .int x2), (3, .int x3), (5, .int x5), (6, .int x6)] [] M := by
  intro f
  induction f with
  | zero => intro x1 x2 x3 x5 x6 M hw; exact hw.elim
  | succ f ih =>
    intro x1 x2 x3 x5 x6 M hw
    refine w_iload C 5 dX10_log_125 rfl ?_
    refine w_iload_n C 3 dX10_log_127 rfl rfl ?_
    refine w_icmp_ge C dX10_log_128 (tgt := 177) rfl (fun c20 => ?_) (fun c20 => ?_)
    · replace hw := hw.1 c20
      refine w_aload_n C 0 dX10_log_177 rfl rfl ?_
      refine gf_X10_47 C (Nat.le_of_ble_eq_true rfl) dX10_log_178 ?_
      refine w_iload_n C 1 dX10_log_181 rfl rfl ?_
      refine w_iload_n C 3 dX10_log_182 rfl rfl ?_
      obtain ⟨b21, hw⟩ := hw
      refine v_iast C ak_65 rfl (Nat.le_of_ble_eq_true rfl) b21 dX10_log_183 (w_mem fun M22 eM22 => ?_)
      replace hw := hw M22 eM22
      refine w_iload C 4 dX10_log_184 rfl ?_
      exact ret_I C HT hw dX10_log_186
    · replace hw := hw.2 c20
      refine w_aload_n C 0 dX10_log_131 rfl rfl ?_
      refine gf_X10_111 C (Nat.le_of_ble_eq_true rfl) dX10_log_132 ?_
      refine w_bipush C dX10_log_135 kc_b_40 ?_
      refine w_iload_n C 2 dX10_log_137 rfl rfl ?_
      refine w_imul C dX10_log_138 ?_
      refine w_iload C 5 dX10_log_139 rfl ?_
      refine w_iadd C dX10_log_141 ?_
      obtain ⟨b23, hw⟩ := hw
      refine v_iald C ak_84 rfl (Nat.le_of_ble_eq_true rfl) b23 dX10_log_142 ?_
      refine w_istoreV C dX10_log_143 (by decide) (fun a24 ea24 => w_lv (lv' := [(7, .int a24), (0, .ref (gad G 10 0)), (1, .int x1), (2, .int x2), (3, .int x3), (5, .int x5), (6, .int x6)]) rfl ?_)
      replace hw := hw a24 ea24
      refine w_aload_n C 1 dX10_log_145 rfl rfl ?_
      refine gf_X10_50 C (Nat.le_of_ble_eq_true rfl) dX10_log_146 ?_
      refine w_bipush C dX10_log_149 kc_b_12 ?_
      refine w_iload_n C 2 dX10_log_151 rfl rfl ?_
      refine w_imul C dX10_log_152 ?_
      refine w_iload C 6 dX10_log_153 rfl ?_
      refine w_iadd C dX10_log_155 ?_
      refine w_iload C 0 dX10_log_156 rfl ?_
      refine back_I (run_S C HR mt_X10_isEvent gw1255 gw1254 (by decide) rfl (Nat.le_of_ble_eq_true rfl) dX10_log_158 (As := [.int a24]) rfl (c_X10_isEvent a24  _ _ hw)) (fun r26 M25 hw => ?_)
      refine w_if_eq C dX10_log_161 (tgt := 169) rfl (fun c27 => ?_) (fun c27 => ?_)
      · replace hw := hw.1 c27
        refine w_iconst C dX10_log_169 kc_i_m1 ?_
        exact w_sub [1, 2, 3, 4, 5, 6] rfl (s_X10_log_170 C HR HT ih x1 x2 x3 x5 x6 (-1) ((12 * x1) + x6)  _ hw)
      · replace hw := hw.2 c27
        refine w_iload C 0 dX10_log_164 rfl ?_
        refine w_goto C dX10_log_166 (tgt := 170) rfl ?_
        exact w_sub [1, 2, 3, 4, 5, 6] rfl (s_X10_log_170 C HR HT ih x1 x2 x3 x5 x6 a24 ((12 * x1) + x6)  _ hw)
set_option maxRecDepth 100000 in
set_option maxHeartbeats 4000000 in
theorem s_X10_log_96 {G : GG} {n : Nat} {E : EE} (C : Cx G n E RX10 cX10_log 8) (HR : RM E 2 43) (HT : RT E (some .int)) {Q : Int32 → Mem → Prop} {K65 : Int32 → Int32 → Int32 → Int32 → Int32 → Mem → Prop} (g65 : ∀ (x1 : Int32) (x2 : Int32) (x3 : Int32) (x4 : Int32) (x5 : Int32)  (M : Mem), K65 x1 x2 x3 x4 x5 M → WW G n E 8 (QE G E (Qi G n Q)) 65 [(0, .ref (gad G 10 0)), (1, .int x1), (2, .int x2), (3, .int x3), (4, .int x4), (5, .int x5)] [] M) : ∀ (x1 : Int32) (x2 : Int32) (x3 : Int32) (x5 : Int32) (y0 : Int32) (y1 : Int32)  (M : Mem), w_X10_log_96 Q K65 x1 x2 x3 x5 y0 y1 M → WW G n E 8 (QE G E (Qi G n Q)) 96 [(0, .ref (gad G 10 0)), (1, .int x1), (2, .int x2), (3, .int x3), (5, .int x5)] [.int y0, .int y1] M := by
  intro x1 x2 x3 x5 y0 y1 M hw
  refine w_iadd C dX10_log_96 ?_
  refine w_istoreV C dX10_log_97 (by decide) (fun a34 ea34 => w_lv (lv' := [(4, .int a34), (0, .ref (gad G 10 0)), (1, .int x1), (2, .int x2), (3, .int x3), (5, .int x5)]) rfl ?_)
  replace hw := hw a34 ea34
  refine w_iincV C (lv' := [(5, .int (x5 + 1)), (4, .int a34), (0, .ref (gad G 10 0)), (1, .int x1), (2, .int x2), (3, .int x3)]) 5 dX10_log_99 kc_i_1 rfl (by decide) rfl ?_
  refine w_goto C dX10_log_102 (tgt := 65) rfl ?_
  exact w_sub [2, 3, 4, 5, 1, 0] rfl (g65 x1 x2 x3 a34 (x5 + 1)  _ hw)
set_option maxRecDepth 100000 in
set_option maxHeartbeats 4000000 in
theorem s_X10_log_65 {G : GG} {n : Nat} {E : EE} (C : Cx G n E RX10 cX10_log 8) (HR : RM E 2 43) (HT : RT E (some .int)) {Q : Int32 → Mem → Prop}  : ∀ (f : Nat) (x1 : Int32) (x2 : Int32) (x3 : Int32) (x4 : Int32) (x5 : Int32)  (M : Mem), w_X10_log_65 Q  f x1 x2 x3 x4 x5 M → WW G n E 8 (QE G E (Qi G n Q)) 65 [(0, .ref (gad G 10 0)), (1, .int x1), (2, .int x2), (3, .int x3), (4, .int x4), (5, .int x5)] [] M := by
  intro f
  induction f with
  | zero => intro x1 x2 x3 x4 x5 M hw; exact hw.elim
  | succ f ih =>
    intro x1 x2 x3 x4 x5 M hw
    refine w_iload C 5 dX10_log_65 rfl ?_
    refine w_iload_n C 3 dX10_log_67 rfl rfl ?_
    refine w_icmp_ge C dX10_log_68 (tgt := 105) rfl (fun c15 => ?_) (fun c15 => ?_)
    · replace hw := hw.1 c15
      refine w_iload C 4 dX10_log_105 rfl ?_
      refine w_iconst C dX10_log_107 kc_i_3 ?_
      refine w_icmp_le C dX10_log_108 (tgt := 114) rfl (fun c16 => ?_) (fun c16 => ?_)
      · replace hw := hw.1 c16
        refine w_aload_n C 0 dX10_log_114 rfl rfl ?_
        refine gf_X10_47 C (Nat.le_of_ble_eq_true rfl) dX10_log_115 ?_
        refine w_iload_n C 1 dX10_log_118 rfl rfl ?_
        obtain ⟨b17, hw⟩ := hw
        refine v_iald C ak_65 rfl (Nat.le_of_ble_eq_true rfl) b17 dX10_log_119 ?_
        refine w_istoreV C dX10_log_120 (by decide) (fun a18 ea18 => w_lv (lv' := [(5, .int a18), (0, .ref (gad G 10 0)), (1, .int x1), (2, .int x2), (3, .int x3), (4, .int x4)]) rfl ?_)
        replace hw := hw a18 ea18
        refine w_iconst C dX10_log_122 kc_i_0 ?_
        refine w_istore C (lv' := [(6, .int 0), (5, .int a18), (0, .ref (gad G 10 0)), (1, .int x1), (2, .int x2), (3, .int x3), (4, .int x4)]) dX10_log_123 (by decide) rfl ?_
        obtain ⟨f19, hw⟩ := hw
        exact w_sub [2, 3, 4, 5, 1, 0] rfl (s_X10_log_125 C HR HT  f19 x1 x2 x3 a18 0  _ hw)
      · replace hw := hw.2 c16
        refine w_bipush C dX10_log_111 kc_b_m3 ?_
        exact ret_I C HT hw dX10_log_113
    · replace hw := hw.2 c15
      refine w_iload C 4 dX10_log_71 rfl ?_
      refine w_aload_n C 0 dX10_log_73 rfl rfl ?_
      refine gf_X10_111 C (Nat.le_of_ble_eq_true rfl) dX10_log_74 ?_
      refine w_bipush C dX10_log_77 kc_b_40 ?_
      refine w_iload_n C 2 dX10_log_79 rfl rfl ?_
      refine w_imul C dX10_log_80 ?_
      refine w_iload C 5 dX10_log_81 rfl ?_
      refine w_iadd C dX10_log_83 ?_
      obtain ⟨b30, hw⟩ := hw
      refine v_iald C ak_84 rfl (Nat.le_of_ble_eq_true rfl) b30 dX10_log_84 ?_
      refine back_I (run_S C HR mt_X10_isEvent gw1255 gw1254 (by decide) rfl (Nat.le_of_ble_eq_true rfl) dX10_log_85 (As := [.int (M 84 0 ((40 * x2) + x5).toNatClampNeg)]) rfl (c_X10_isEvent (M 84 0 ((40 * x2) + x5).toNatClampNeg)  _ _ hw)) (fun r32 M31 hw => ?_)
      refine w_if_eq C dX10_log_88 (tgt := 95) rfl (fun c33 => ?_) (fun c33 => ?_)
      · replace hw := hw.1 c33
        refine w_iconst C dX10_log_95 kc_i_1 ?_
        exact w_sub [0, 1, 2, 3, 5] rfl (s_X10_log_96 C HR HT ih x1 x2 x3 x5 1 x4  _ hw)
      · replace hw := hw.2 c33
        refine w_iconst C dX10_log_91 kc_i_0 ?_
        refine w_goto C dX10_log_92 (tgt := 96) rfl ?_
        exact w_sub [0, 1, 2, 3, 5] rfl (s_X10_log_96 C HR HT ih x1 x2 x3 x5 0 x4  _ hw)
set_option maxRecDepth 100000 in
set_option maxHeartbeats 4000000 in
theorem c_X10_log {G : GG} {n : Nat} {l : Launch} (x1 : Int32) (x2 : Int32) (x3 : Int32)  (M : Mem) (Q : Int32 → Mem → Prop) (hw : wp_X10_log x1 x2 x3 M Q) : Ct G n l yX10_log cX10_log 8 (some .int) 2 43 [.ref (gad G 10 0), .int x1, .int x2, .int x3] M (Qi G n Q) := by
  refine ct_of (by decide) (Nat.le_of_ble_eq_true rfl) (lv := [(0, .ref (gad G 10 0)), (1, .int x1), (2, .int x2), (3, .int x3)]) rfl (fun E C HR HT hE => ?_)
  replace C : Cx G n E RX10 cX10_log 8 := C
  refine w_aload_n C 0 dX10_log_0 rfl rfl ?_
  refine w_iload_n C 1 dX10_log_1 rfl rfl ?_
  refine back_I (run_V C HR mt_X10_isCounter (ci := 10) rfl (by decide) (Nat.le_of_ble_eq_true rfl) gw1306 gw54 gw1304 (by decide) rfl (Nat.le_of_ble_eq_true rfl) dX10_log_2 (As := [.int x1]) rfl (c_X10_isCounter x1  _ _ hw)) (fun r2 M1 hw => ?_)
  refine w_if_eq C dX10_log_5 (tgt := 25) rfl (fun c3 => ?_) (fun c3 => ?_)
  · replace hw := hw.1 c3
    refine w_bipush C dX10_log_25 kc_b_m2 ?_
    exact ret_I C HT hw dX10_log_27
  · replace hw := hw.2 c3
    refine w_iload_n C 2 dX10_log_8 rfl rfl ?_
    refine back_I (run_S C HR mt_X10_isSheet gw1252 gw1251 (by decide) rfl (Nat.le_of_ble_eq_true rfl) dX10_log_9 (As := [.int x2]) rfl (c_X10_isSheet x2  _ _ hw)) (fun r5 M4 hw => ?_)
    refine w_if_eq C dX10_log_12 (tgt := 25) rfl (fun c6 => ?_) (fun c6 => ?_)
    · replace hw := hw.1 c6
      refine w_bipush C dX10_log_25 kc_b_m2 ?_
      exact ret_I C HT hw dX10_log_27
    · replace hw := hw.2 c6
      refine w_iload_n C 3 dX10_log_15 rfl rfl ?_
      refine w_iconst C dX10_log_16 kc_i_0 ?_
      refine w_bipush C dX10_log_17 kc_b_12 ?_
      refine back_I (run_S C HR mt_X10_in gw1179 gw1178 (by decide) rfl (Nat.le_of_ble_eq_true rfl) dX10_log_19 (As := [.int x3, .int 0, .int 12]) rfl (c_X10_in x3 0 12  _ _ hw)) (fun r8 M7 hw => ?_)
      refine w_if_ne C dX10_log_22 (tgt := 28) rfl (fun c9 => ?_) (fun c9 => ?_)
      · replace hw := hw.2 c9
        refine w_aload_n C 0 dX10_log_28 rfl rfl ?_
        refine gf_X10_102 C (Nat.le_of_ble_eq_true rfl) dX10_log_29 ?_
        refine w_iload_n C 2 dX10_log_32 rfl rfl ?_
        obtain ⟨b10, hw⟩ := hw
        refine v_zald C ak_81 rfl (Nat.le_of_ble_eq_true rfl) b10 dX10_log_33 ?_
        refine w_if_ne C dX10_log_34 (tgt := 43) rfl (fun c11 => ?_) (fun c11 => ?_)
        · replace hw := hw.2 c11
          refine w_aload_n C 0 dX10_log_43 rfl rfl ?_
          refine gf_X10_108 C (Nat.le_of_ble_eq_true rfl) dX10_log_44 ?_
          refine w_iload_n C 2 dX10_log_47 rfl rfl ?_
          obtain ⟨b12, hw⟩ := hw
          refine v_iald C ak_83 rfl (Nat.le_of_ble_eq_true rfl) b12 dX10_log_48 ?_
          refine w_iload_n C 3 dX10_log_49 rfl rfl ?_
          refine w_icmp_ge C dX10_log_50 (tgt := 59) rfl (fun c13 => ?_) (fun c13 => ?_)
          · replace hw := hw.1 c13
            refine w_iconst C dX10_log_59 kc_i_0 ?_
            refine w_istore C (lv' := [(4, .int 0), (0, .ref (gad G 10 0)), (1, .int x1), (2, .int x2), (3, .int x3)]) dX10_log_60 (by decide) rfl ?_
            refine w_iconst C dX10_log_62 kc_i_0 ?_
            refine w_istore C (lv' := [(5, .int 0), (4, .int 0), (0, .ref (gad G 10 0)), (1, .int x1), (2, .int x2), (3, .int x3)]) dX10_log_63 (by decide) rfl ?_
            obtain ⟨f14, hw⟩ := hw
            exact w_sub [2, 3, 4, 5, 1, 0] rfl (s_X10_log_65 C HR HT  f14 x1 x2 x3 0 0  _ hw)
          · replace hw := hw.2 c13
            refine w_aload_n C 0 dX10_log_53 rfl rfl ?_
            refine w_iconst C dX10_log_54 kc_i_2 ?_
            refine back_I (run_V C HR mt_X10_meets (ci := 10) rfl (by decide) (Nat.le_of_ble_eq_true rfl) gw1310 gw55 gw1308 (by decide) rfl (Nat.le_of_ble_eq_true rfl) dX10_log_55 (As := [.int 2]) rfl (c_X10_meets 2  _ _ hw)) (fun r36 M35 hw => ?_)
            exact ret_I C HT hw dX10_log_58
        · replace hw := hw.1 c11
          refine w_aload_n C 0 dX10_log_37 rfl rfl ?_
          refine w_iconst C dX10_log_38 kc_i_1 ?_
          refine back_I (run_V C HR mt_X10_meets (ci := 10) rfl (by decide) (Nat.le_of_ble_eq_true rfl) gw1310 gw55 gw1308 (by decide) rfl (Nat.le_of_ble_eq_true rfl) dX10_log_39 (As := [.int 1]) rfl (c_X10_meets 1  _ _ hw)) (fun r38 M37 hw => ?_)
          exact ret_I C HT hw dX10_log_42
      · replace hw := hw.1 c9
        refine w_bipush C dX10_log_25 kc_b_m2 ?_
        exact ret_I C HT hw dX10_log_27
set_option maxRecDepth 100000 in
set_option maxHeartbeats 4000000 in
theorem c_X10_claim {G : GG} {n : Nat} {l : Launch} (x1 : Int32) (x2 : Int32) (x3 : Int32)  (M : Mem) (Q : Int32 → Mem → Prop) (hw : wp_X10_claim x1 x2 x3 M Q) : Ct G n l yX10_claim cX10_claim 4 (some .int) 2 43 [.ref (gad G 10 0), .int x1, .int x2, .int x3] M (Qi G n Q) := by
  refine ct_of (by decide) (Nat.le_of_ble_eq_true rfl) (lv := [(0, .ref (gad G 10 0)), (1, .int x1), (2, .int x2), (3, .int x3)]) rfl (fun E C HR HT hE => ?_)
  replace C : Cx G n E RX10 cX10_claim 4 := C
  refine w_aload_n C 0 dX10_claim_0 rfl rfl ?_
  refine w_iload_n C 1 dX10_claim_1 rfl rfl ?_
  refine back_I (run_V C HR mt_X10_isCounter (ci := 10) rfl (by decide) (Nat.le_of_ble_eq_true rfl) gw1306 gw54 gw1304 (by decide) rfl (Nat.le_of_ble_eq_true rfl) dX10_claim_2 (As := [.int x1]) rfl (c_X10_isCounter x1  _ _ hw)) (fun r2 M1 hw => ?_)
  refine w_if_eq C dX10_claim_5 (tgt := 30) rfl (fun c3 => ?_) (fun c3 => ?_)
  · replace hw := hw.1 c3
    refine w_bipush C dX10_claim_30 kc_b_m2 ?_
    exact ret_I C HT hw dX10_claim_32
  · replace hw := hw.2 c3
    refine w_iload_n C 2 dX10_claim_8 rfl rfl ?_
    refine w_bipush C dX10_claim_9 kc_b_m99 ?_
    refine w_bipush C dX10_claim_11 kc_b_99 ?_
    refine back_I (run_S C HR mt_X10_in gw1179 gw1178 (by decide) rfl (Nat.le_of_ble_eq_true rfl) dX10_claim_13 (As := [.int x2, .int (-99), .int 99]) rfl (c_X10_in x2 (-99) 99  _ _ hw)) (fun r5 M4 hw => ?_)
    refine w_if_eq C dX10_claim_16 (tgt := 30) rfl (fun c6 => ?_) (fun c6 => ?_)
    · replace hw := hw.1 c6
      refine w_bipush C dX10_claim_30 kc_b_m2 ?_
      exact ret_I C HT hw dX10_claim_32
    · replace hw := hw.2 c6
      refine w_iload_n C 3 dX10_claim_19 rfl rfl ?_
      refine w_bipush C dX10_claim_20 kc_b_m99 ?_
      refine w_bipush C dX10_claim_22 kc_b_99 ?_
      refine back_I (run_S C HR mt_X10_in gw1179 gw1178 (by decide) rfl (Nat.le_of_ble_eq_true rfl) dX10_claim_24 (As := [.int x3, .int (-99), .int 99]) rfl (c_X10_in x3 (-99) 99  _ _ hw)) (fun r8 M7 hw => ?_)
      refine w_if_ne C dX10_claim_27 (tgt := 33) rfl (fun c9 => ?_) (fun c9 => ?_)
      · replace hw := hw.2 c9
        refine w_aload_n C 0 dX10_claim_33 rfl rfl ?_
        refine gf_X10_53 C (Nat.le_of_ble_eq_true rfl) dX10_claim_34 ?_
        refine w_iload_n C 1 dX10_claim_37 rfl rfl ?_
        refine w_iload_n C 2 dX10_claim_38 rfl rfl ?_
        obtain ⟨b10, hw⟩ := hw
        refine v_iast C ak_67 rfl (Nat.le_of_ble_eq_true rfl) b10 dX10_claim_39 (w_mem fun M11 eM11 => ?_)
        replace hw := hw M11 eM11
        refine w_aload_n C 0 dX10_claim_40 rfl rfl ?_
        refine gf_X10_56 C (Nat.le_of_ble_eq_true rfl) dX10_claim_41 ?_
        refine w_iload_n C 1 dX10_claim_44 rfl rfl ?_
        refine w_iload_n C 3 dX10_claim_45 rfl rfl ?_
        obtain ⟨b12, hw⟩ := hw
        refine v_iast C ak_68 rfl (Nat.le_of_ble_eq_true rfl) b12 dX10_claim_46 (w_mem fun M13 eM13 => ?_)
        replace hw := hw M13 eM13
        refine w_iconst C dX10_claim_47 kc_i_1 ?_
        exact ret_I C HT hw dX10_claim_48
      · replace hw := hw.1 c9
        refine w_bipush C dX10_claim_30 kc_b_m2 ?_
        exact ret_I C HT hw dX10_claim_32
set_option maxRecDepth 100000 in
set_option maxHeartbeats 4000000 in
theorem s_X10_lostMany_35 {G : GG} {n : Nat} {E : EE} (C : Cx G n E RX10 cX10_lostMany 4) (HR : RM E 0 0) (HT : RT E (some .int)) {Q : Int32 → Mem → Prop} {K4 : Int32 → Int32 → Int32 → Mem → Prop} (g4 : ∀ (x1 : Int32) (x2 : Int32) (x3 : Int32)  (M : Mem), K4 x1 x2 x3 M → WW G n E 4 (QE G E (Qi G n Q)) 4 [(0, .ref (gad G 10 0)), (1, .int x1), (2, .int x2), (3, .int x3)] [] M) : ∀ (x1 : Int32) (x3 : Int32) (y0 : Int32) (y1 : Int32)  (M : Mem), w_X10_lostMany_35 Q K4 x1 x3 y0 y1 M → WW G n E 4 (QE G E (Qi G n Q)) 35 [(0, .ref (gad G 10 0)), (1, .int x1), (3, .int x3)] [.int y0, .int y1] M := by
  intro x1 x3 y0 y1 M hw
  refine w_iadd C dX10_lostMany_35 ?_
  refine w_istore_nV C dX10_lostMany_36 rfl (by decide) (fun a6 ea6 => w_lv (lv' := [(2, .int a6), (0, .ref (gad G 10 0)), (1, .int x1), (3, .int x3)]) rfl ?_)
  replace hw := hw a6 ea6
  refine w_iincV C (lv' := [(3, .int (x3 + 1)), (2, .int a6), (0, .ref (gad G 10 0)), (1, .int x1)]) 3 dX10_lostMany_37 kc_i_1 rfl (by decide) rfl ?_
  refine w_goto C dX10_lostMany_40 (tgt := 4) rfl ?_
  exact w_sub [2, 3, 1, 0] rfl (g4 x1 a6 (x3 + 1)  _ hw)
set_option maxRecDepth 100000 in
set_option maxHeartbeats 4000000 in
theorem s_X10_lostMany_4 {G : GG} {n : Nat} {E : EE} (C : Cx G n E RX10 cX10_lostMany 4) (HR : RM E 0 0) (HT : RT E (some .int)) {Q : Int32 → Mem → Prop}  : ∀ (f : Nat) (x1 : Int32) (x2 : Int32) (x3 : Int32)  (M : Mem), w_X10_lostMany_4 Q  f x1 x2 x3 M → WW G n E 4 (QE G E (Qi G n Q)) 4 [(0, .ref (gad G 10 0)), (1, .int x1), (2, .int x2), (3, .int x3)] [] M := by
  intro f
  induction f with
  | zero => intro x1 x2 x3 M hw; exact hw.elim
  | succ f ih =>
    intro x1 x2 x3 M hw
    refine w_iload_n C 3 dX10_lostMany_4 rfl rfl ?_
    refine w_aload_n C 0 dX10_lostMany_5 rfl rfl ?_
    refine gf_X10_47 C (Nat.le_of_ble_eq_true rfl) dX10_lostMany_6 ?_
    refine w_iload_n C 1 dX10_lostMany_9 rfl rfl ?_
    obtain ⟨b2, hw⟩ := hw
    refine v_iald C ak_65 rfl (Nat.le_of_ble_eq_true rfl) b2 dX10_lostMany_10 ?_
    refine w_icmp_ge C dX10_lostMany_11 (tgt := 43) rfl (fun c3 => ?_) (fun c3 => ?_)
    · replace hw := hw.1 c3
      refine w_iload_n C 2 dX10_lostMany_43 rfl rfl ?_
      exact ret_I C HT hw dX10_lostMany_44
    · replace hw := hw.2 c3
      refine w_iload_n C 2 dX10_lostMany_14 rfl rfl ?_
      refine w_aload_n C 0 dX10_lostMany_15 rfl rfl ?_
      refine gf_X10_50 C (Nat.le_of_ble_eq_true rfl) dX10_lostMany_16 ?_
      refine w_bipush C dX10_lostMany_19 kc_b_12 ?_
      refine w_iload_n C 1 dX10_lostMany_21 rfl rfl ?_
      refine w_imul C dX10_lostMany_22 ?_
      refine w_iload_n C 3 dX10_lostMany_23 rfl rfl ?_
      refine w_iadd C dX10_lostMany_24 ?_
      obtain ⟨b4, hw⟩ := hw
      refine v_iald C ak_66 rfl (Nat.le_of_ble_eq_true rfl) b4 dX10_lostMany_25 ?_
      refine w_iconst C dX10_lostMany_26 kc_i_m1 ?_
      refine w_icmp_ne C dX10_lostMany_27 (tgt := 34) rfl (fun c5 => ?_) (fun c5 => ?_)
      · replace hw := hw.2 c5
        refine w_iconst C dX10_lostMany_34 kc_i_0 ?_
        exact w_sub [0, 1, 3] rfl (s_X10_lostMany_35 C HR HT ih x1 x3 0 x2  _ hw)
      · replace hw := hw.1 c5
        refine w_iconst C dX10_lostMany_30 kc_i_1 ?_
        refine w_goto C dX10_lostMany_31 (tgt := 35) rfl ?_
        exact w_sub [0, 1, 3] rfl (s_X10_lostMany_35 C HR HT ih x1 x3 1 x2  _ hw)
set_option maxRecDepth 100000 in
set_option maxHeartbeats 4000000 in
theorem c_X10_lostMany {G : GG} {n : Nat} {l : Launch} (x1 : Int32)  (M : Mem) (Q : Int32 → Mem → Prop) (hw : wp_X10_lostMany x1 M Q) : Ct G n l yX10_lostMany cX10_lostMany 4 (some .int) 0 0 [.ref (gad G 10 0), .int x1] M (Qi G n Q) := by
  refine ct_of (by decide) (Nat.le_of_ble_eq_true rfl) (lv := [(0, .ref (gad G 10 0)), (1, .int x1)]) rfl (fun E C HR HT hE => ?_)
  replace C : Cx G n E RX10 cX10_lostMany 4 := C
  refine w_iconst C dX10_lostMany_0 kc_i_0 ?_
  refine w_istore_n C (lv' := [(2, .int 0), (0, .ref (gad G 10 0)), (1, .int x1)]) dX10_lostMany_1 rfl (by decide) rfl ?_
  refine w_iconst C dX10_lostMany_2 kc_i_0 ?_
  refine w_istore_n C (lv' := [(3, .int 0), (2, .int 0), (0, .ref (gad G 10 0)), (1, .int x1)]) dX10_lostMany_3 rfl (by decide) rfl ?_
  obtain ⟨f1, hw⟩ := hw
  exact w_sub [2, 3, 1, 0] rfl (s_X10_lostMany_4 C HR HT  f1 x1 0 0  _ hw)
set_option maxRecDepth 100000 in
set_option maxHeartbeats 4000000 in
theorem c_X10_isShort {G : GG} {n : Nat} {l : Launch} (x1 : Int32)  (M : Mem) (Q : Int32 → Mem → Prop) (hw : wp_X10_isShort x1 M Q) : Ct G n l yX10_isShort cX10_isShort 2 (some .boolean) 0 0 [.ref (gad G 10 0), .int x1] M (Qi G n Q) := by
  refine ct_of (by decide) (Nat.le_of_ble_eq_true rfl) (lv := [(0, .ref (gad G 10 0)), (1, .int x1)]) rfl (fun E C HR HT hE => ?_)
  replace C : Cx G n E RX10 cX10_isShort 2 := C
  refine w_aload_n C 0 dX10_isShort_0 rfl rfl ?_
  refine gf_X10_56 C (Nat.le_of_ble_eq_true rfl) dX10_isShort_1 ?_
  refine w_iload_n C 1 dX10_isShort_4 rfl rfl ?_
  obtain ⟨b1, hw⟩ := hw
  refine v_iald C ak_68 rfl (Nat.le_of_ble_eq_true rfl) b1 dX10_isShort_5 ?_
  refine w_aload_n C 0 dX10_isShort_6 rfl rfl ?_
  refine gf_X10_53 C (Nat.le_of_ble_eq_true rfl) dX10_isShort_7 ?_
  refine w_iload_n C 1 dX10_isShort_10 rfl rfl ?_
  obtain ⟨b2, hw⟩ := hw
  refine v_iald C ak_67 rfl (Nat.le_of_ble_eq_true rfl) b2 dX10_isShort_11 ?_
  refine w_icmp_le C dX10_isShort_12 (tgt := 19) rfl (fun c3 => ?_) (fun c3 => ?_)
  · replace hw := hw.1 c3
    refine w_iconst C dX10_isShort_19 kc_i_0 ?_
    exact ret_Z C HT rfl hw dX10_isShort_20
  · replace hw := hw.2 c3
    refine w_iconst C dX10_isShort_15 kc_i_1 ?_
    refine w_goto C dX10_isShort_16 (tgt := 20) rfl ?_
    exact ret_Z C HT rfl hw dX10_isShort_20
set_option maxRecDepth 100000 in
set_option maxHeartbeats 4000000 in
theorem c_X10_aboutOf {G : GG} {n : Nat} {l : Launch} (x1 : Int32) (x2 : Int32)  (M : Mem) (Q : Int32 → Mem → Prop) (hw : wp_X10_aboutOf x1 x2 M Q) : Ct G n l yX10_aboutOf cX10_aboutOf 3 (some .int) 1 23 [.ref (gad G 10 0), .int x1, .int x2] M (Qi G n Q) := by
  refine ct_of (by decide) (Nat.le_of_ble_eq_true rfl) (lv := [(0, .ref (gad G 10 0)), (1, .int x1), (2, .int x2)]) rfl (fun E C HR HT hE => ?_)
  replace C : Cx G n E RX10 cX10_aboutOf 3 := C
  refine w_iload_n C 2 dX10_aboutOf_0 rfl rfl ?_
  by_cases c1 : x2 = (0 : Int32)
  · replace hw := hw.1 c1
    refine w_swAt C c1 dX10_aboutOf_1 (off := 51) (tgt := 52) (by decide) rfl ?_
    refine w_aload_n C 0 dX10_aboutOf_52 rfl rfl ?_
    refine gf_X10_44 C (Nat.le_of_ble_eq_true rfl) dX10_aboutOf_53 ?_
    refine w_iload_n C 1 dX10_aboutOf_56 rfl rfl ?_
    obtain ⟨b2, hw⟩ := hw
    refine v_iald C ak_64 rfl (Nat.le_of_ble_eq_true rfl) b2 dX10_aboutOf_57 ?_
    exact ret_I C HT hw dX10_aboutOf_58
  replace hw := hw.2
  by_cases c3 : x2 = (1 : Int32)
  · replace hw := hw.1 c3
    refine w_swAt C c3 dX10_aboutOf_1 (off := 58) (tgt := 59) (by decide) rfl ?_
    refine w_aload_n C 0 dX10_aboutOf_59 rfl rfl ?_
    refine gf_X10_47 C (Nat.le_of_ble_eq_true rfl) dX10_aboutOf_60 ?_
    refine w_iload_n C 1 dX10_aboutOf_63 rfl rfl ?_
    obtain ⟨b4, hw⟩ := hw
    refine v_iald C ak_65 rfl (Nat.le_of_ble_eq_true rfl) b4 dX10_aboutOf_64 ?_
    exact ret_I C HT hw dX10_aboutOf_65
  replace hw := hw.2
  by_cases c5 : x2 = (2 : Int32)
  · replace hw := hw.1 c5
    refine w_swAt C c5 dX10_aboutOf_1 (off := 65) (tgt := 66) (by decide) rfl ?_
    refine w_aload_n C 0 dX10_aboutOf_66 rfl rfl ?_
    refine w_iload_n C 1 dX10_aboutOf_67 rfl rfl ?_
    refine back_I (run_V C HR mt_X10_lostMany (ci := 10) rfl (by decide) (Nat.le_of_ble_eq_true rfl) gw1326 gw57 gw1324 (by decide) rfl (Nat.le_of_ble_eq_true rfl) dX10_aboutOf_68 (As := [.int x1]) rfl (c_X10_lostMany x1  _ _ hw)) (fun r7 M6 hw => ?_)
    exact ret_I C HT hw dX10_aboutOf_71
  replace hw := hw.2
  by_cases c8 : x2 = (3 : Int32)
  · replace hw := hw.1 c8
    refine w_swAt C c8 dX10_aboutOf_1 (off := 71) (tgt := 72) (by decide) rfl ?_
    refine w_aload_n C 0 dX10_aboutOf_72 rfl rfl ?_
    refine gf_X10_53 C (Nat.le_of_ble_eq_true rfl) dX10_aboutOf_73 ?_
    refine w_iload_n C 1 dX10_aboutOf_76 rfl rfl ?_
    obtain ⟨b9, hw⟩ := hw
    refine v_iald C ak_67 rfl (Nat.le_of_ble_eq_true rfl) b9 dX10_aboutOf_77 ?_
    exact ret_I C HT hw dX10_aboutOf_78
  replace hw := hw.2
  by_cases c10 : x2 = (4 : Int32)
  · replace hw := hw.1 c10
    refine w_swAt C c10 dX10_aboutOf_1 (off := 78) (tgt := 79) (by decide) rfl ?_
    refine w_aload_n C 0 dX10_aboutOf_79 rfl rfl ?_
    refine gf_X10_56 C (Nat.le_of_ble_eq_true rfl) dX10_aboutOf_80 ?_
    refine w_iload_n C 1 dX10_aboutOf_83 rfl rfl ?_
    obtain ⟨b11, hw⟩ := hw
    refine v_iald C ak_68 rfl (Nat.le_of_ble_eq_true rfl) b11 dX10_aboutOf_84 ?_
    exact ret_I C HT hw dX10_aboutOf_85
  replace hw := hw.2
  by_cases c12 : x2 = (5 : Int32)
  · replace hw := hw.1 c12
    refine w_swAt C c12 dX10_aboutOf_1 (off := 85) (tgt := 86) (by decide) rfl ?_
    refine w_aload_n C 0 dX10_aboutOf_86 rfl rfl ?_
    refine w_iload_n C 1 dX10_aboutOf_87 rfl rfl ?_
    refine back_I (run_V C HR mt_X10_isShort (ci := 10) rfl (by decide) (Nat.le_of_ble_eq_true rfl) gw1330 gw58 gw1328 (by decide) rfl (Nat.le_of_ble_eq_true rfl) dX10_aboutOf_88 (As := [.int x1]) rfl (c_X10_isShort x1  _ _ hw)) (fun r14 M13 hw => ?_)
    refine w_if_eq C dX10_aboutOf_91 (tgt := 98) rfl (fun c15 => ?_) (fun c15 => ?_)
    · replace hw := hw.1 c15
      refine w_iconst C dX10_aboutOf_98 kc_i_0 ?_
      exact ret_I C HT hw dX10_aboutOf_99
    · replace hw := hw.2 c15
      refine w_iconst C dX10_aboutOf_94 kc_i_1 ?_
      refine w_goto C dX10_aboutOf_95 (tgt := 99) rfl ?_
      exact ret_I C HT hw dX10_aboutOf_99
  replace hw := hw.2
  by_cases c16 : x2 = (6 : Int32)
  · replace hw := hw.1 c16
    refine w_swAt C c16 dX10_aboutOf_1 (off := 99) (tgt := 100) (by decide) rfl ?_
    refine w_aload_n C 0 dX10_aboutOf_100 rfl rfl ?_
    refine gf_X10_59 C (Nat.le_of_ble_eq_true rfl) dX10_aboutOf_101 ?_
    refine w_iload_n C 1 dX10_aboutOf_104 rfl rfl ?_
    obtain ⟨b17, hw⟩ := hw
    refine v_iald C ak_69 rfl (Nat.le_of_ble_eq_true rfl) b17 dX10_aboutOf_105 ?_
    exact ret_I C HT hw dX10_aboutOf_106
  replace hw := hw.2
  by_cases c18 : x2 = (7 : Int32)
  · replace hw := hw.1 c18
    refine w_swAt C c18 dX10_aboutOf_1 (off := 106) (tgt := 107) (by decide) rfl ?_
    refine w_aload_n C 0 dX10_aboutOf_107 rfl rfl ?_
    refine gf_X10_62 C (Nat.le_of_ble_eq_true rfl) dX10_aboutOf_108 ?_
    refine w_iload_n C 1 dX10_aboutOf_111 rfl rfl ?_
    obtain ⟨b19, hw⟩ := hw
    refine v_iald C ak_70 rfl (Nat.le_of_ble_eq_true rfl) b19 dX10_aboutOf_112 ?_
    exact ret_I C HT hw dX10_aboutOf_113
  replace hw := hw.2
  by_cases c20 : x2 = (8 : Int32)
  · replace hw := hw.1 c20
    refine w_swAt C c20 dX10_aboutOf_1 (off := 113) (tgt := 114) (by decide) rfl ?_
    refine w_aload_n C 0 dX10_aboutOf_114 rfl rfl ?_
    refine gf_X10_65 C (Nat.le_of_ble_eq_true rfl) dX10_aboutOf_115 ?_
    refine w_iload_n C 1 dX10_aboutOf_118 rfl rfl ?_
    obtain ⟨b21, hw⟩ := hw
    refine v_iald C ak_71 rfl (Nat.le_of_ble_eq_true rfl) b21 dX10_aboutOf_119 ?_
    exact ret_I C HT hw dX10_aboutOf_120
  replace hw := hw.2
  replace hw := hw c1 c3 c5 c8 c10 c12 c16 c18 c20
  refine w_swOut C dX10_aboutOf_1 (sw_out (N := 8) (by decide) (fun v hv => by
    match v, hv with
    | 0, _ => exact c1
    | 1, _ => exact c3
    | 2, _ => exact c5
    | 3, _ => exact c8
    | 4, _ => exact c10
    | 5, _ => exact c12
    | 6, _ => exact c16
    | 7, _ => exact c18
    | 8, _ => exact c20
    | w + 9, hv => exact absurd hv (by omega))) (tgt := 121) rfl ?_
  refine w_sipush C dX10_aboutOf_121 kc_s_m1000 ?_
  exact ret_I C HT hw dX10_aboutOf_124
set_option maxRecDepth 100000 in
set_option maxHeartbeats 4000000 in
theorem c_X10_about {G : GG} {n : Nat} {l : Launch} (x1 : Int32) (x2 : Int32)  (M : Mem) (Q : Int32 → Mem → Prop) (hw : wp_X10_about x1 x2 M Q) : Ct G n l yX10_about cX10_about 3 (some .int) 2 45 [.ref (gad G 10 0), .int x1, .int x2] M (Qi G n Q) := by
  refine ct_of (by decide) (Nat.le_of_ble_eq_true rfl) (lv := [(0, .ref (gad G 10 0)), (1, .int x1), (2, .int x2)]) rfl (fun E C HR HT hE => ?_)
  replace C : Cx G n E RX10 cX10_about 3 := C
  refine w_aload_n C 0 dX10_about_0 rfl rfl ?_
  refine w_iload_n C 1 dX10_about_1 rfl rfl ?_
  refine back_I (run_V C HR mt_X10_isCounter (ci := 10) rfl (by decide) (Nat.le_of_ble_eq_true rfl) gw1306 gw54 gw1304 (by decide) rfl (Nat.le_of_ble_eq_true rfl) dX10_about_2 (As := [.int x1]) rfl (c_X10_isCounter x1  _ _ hw)) (fun r2 M1 hw => ?_)
  refine w_if_eq C dX10_about_5 (tgt := 17) rfl (fun c3 => ?_) (fun c3 => ?_)
  · replace hw := hw.1 c3
    refine w_sipush C dX10_about_17 kc_s_m1000 ?_
    exact ret_I C HT hw dX10_about_20
  · replace hw := hw.2 c3
    refine w_aload_n C 0 dX10_about_8 rfl rfl ?_
    refine w_iload_n C 1 dX10_about_9 rfl rfl ?_
    refine w_iload_n C 2 dX10_about_10 rfl rfl ?_
    refine back_I (run_V C HR mt_X10_aboutOf (ci := 10) rfl (by decide) (Nat.le_of_ble_eq_true rfl) gw1322 gw56 gw1320 (by decide) rfl (Nat.le_of_ble_eq_true rfl) dX10_about_11 (As := [.int x1, .int x2]) rfl (c_X10_aboutOf x1 x2  _ _ hw)) (fun r5 M4 hw => ?_)
    refine w_goto C dX10_about_14 (tgt := 20) rfl ?_
    exact ret_I C HT hw dX10_about_20
set_option maxRecDepth 100000 in
set_option maxHeartbeats 4000000 in
theorem s_X10_tell_120 {G : GG} {n : Nat} {E : EE} (C : Cx G n E RX10 cX10_tell 5) (HR : RM E 2 45) (HT : RT E (some .int)) {Q : Int32 → Mem → Prop}  : ∀ (x4 : Int32) (y0 : Int32) (y1 : Int32)  (M : Mem), w_X10_tell_120 Q  x4 y0 y1 M → WW G n E 5 (QE G E (Qi G n Q)) 120 [(4, .int x4)] [.int y0, .int y1, .ref (gad G 71 0)] M := by
  intro x4 y0 y1 M hw
  obtain ⟨b24, hw⟩ := hw
  refine v_iast C ak_71 rfl (Nat.le_of_ble_eq_true rfl) b24 dX10_tell_120 (w_mem fun M25 eM25 => ?_)
  replace hw := hw M25 eM25
  refine w_iload C 0 dX10_tell_121 rfl ?_
  exact ret_I C HT hw dX10_tell_123
set_option maxRecDepth 100000 in
set_option maxHeartbeats 4000000 in
theorem s_X10_tell_99 {G : GG} {n : Nat} {E : EE} (C : Cx G n E RX10 cX10_tell 5) (HR : RM E 2 45) (HT : RT E (some .int)) {Q : Int32 → Mem → Prop}  : ∀ (x1 : Int32) (x2 : Int32) (x3 : Int32) (x4 : Int32) (y0 : Int32) (y1 : Int32)  (M : Mem), w_X10_tell_99 Q  x1 x2 x3 x4 y0 y1 M → WW G n E 5 (QE G E (Qi G n Q)) 99 [(0, .ref (gad G 10 0)), (1, .int x1), (2, .int x2), (3, .int x3), (4, .int x4)] [.int y0, .int y1, .ref (gad G 70 0)] M := by
  intro x1 x2 x3 x4 y0 y1 M hw
  obtain ⟨b20, hw⟩ := hw
  refine v_iast C ak_70 rfl (Nat.le_of_ble_eq_true rfl) b20 dX10_tell_99 (w_mem fun M21 eM21 => ?_)
  replace hw := hw M21 eM21
  refine w_aload_n C 0 dX10_tell_100 rfl rfl ?_
  refine gf_X10_65 C (Nat.le_of_ble_eq_true rfl) dX10_tell_101 ?_
  refine w_iload_n C 1 dX10_tell_104 rfl rfl ?_
  refine w_iload_n C 2 dX10_tell_105 rfl rfl ?_
  refine w_iconst C dX10_tell_106 kc_i_2 ?_
  refine w_icmp_ne C dX10_tell_107 (tgt := 114) rfl (fun c22 => ?_) (fun c22 => ?_)
  · replace hw := hw.2 c22
    refine w_aload_n C 0 dX10_tell_114 rfl rfl ?_
    refine gf_X10_65 C (Nat.le_of_ble_eq_true rfl) dX10_tell_115 ?_
    refine w_iload_n C 1 dX10_tell_118 rfl rfl ?_
    obtain ⟨b23, hw⟩ := hw
    refine v_iald C ak_71 rfl (Nat.le_of_ble_eq_true rfl) b23 dX10_tell_119 ?_
    exact w_sub [4] rfl (s_X10_tell_120 C HR HT  x4 (M21 71 0 x1.toNatClampNeg) x1  _ hw)
  · replace hw := hw.1 c22
    refine w_iload_n C 3 dX10_tell_110 rfl rfl ?_
    refine w_goto C dX10_tell_111 (tgt := 120) rfl ?_
    exact w_sub [4] rfl (s_X10_tell_120 C HR HT  x4 x3 x1  _ hw)
set_option maxRecDepth 100000 in
set_option maxHeartbeats 4000000 in
theorem s_X10_tell_78 {G : GG} {n : Nat} {E : EE} (C : Cx G n E RX10 cX10_tell 5) (HR : RM E 2 45) (HT : RT E (some .int)) {Q : Int32 → Mem → Prop}  : ∀ (x1 : Int32) (x2 : Int32) (x3 : Int32) (x4 : Int32) (y0 : Int32) (y1 : Int32)  (M : Mem), w_X10_tell_78 Q  x1 x2 x3 x4 y0 y1 M → WW G n E 5 (QE G E (Qi G n Q)) 78 [(0, .ref (gad G 10 0)), (1, .int x1), (2, .int x2), (3, .int x3), (4, .int x4)] [.int y0, .int y1, .ref (gad G 69 0)] M := by
  intro x1 x2 x3 x4 y0 y1 M hw
  obtain ⟨b16, hw⟩ := hw
  refine v_iast C ak_69 rfl (Nat.le_of_ble_eq_true rfl) b16 dX10_tell_78 (w_mem fun M17 eM17 => ?_)
  replace hw := hw M17 eM17
  refine w_aload_n C 0 dX10_tell_79 rfl rfl ?_
  refine gf_X10_62 C (Nat.le_of_ble_eq_true rfl) dX10_tell_80 ?_
  refine w_iload_n C 1 dX10_tell_83 rfl rfl ?_
  refine w_iload_n C 2 dX10_tell_84 rfl rfl ?_
  refine w_iconst C dX10_tell_85 kc_i_1 ?_
  refine w_icmp_ne C dX10_tell_86 (tgt := 93) rfl (fun c18 => ?_) (fun c18 => ?_)
  · replace hw := hw.2 c18
    refine w_aload_n C 0 dX10_tell_93 rfl rfl ?_
    refine gf_X10_62 C (Nat.le_of_ble_eq_true rfl) dX10_tell_94 ?_
    refine w_iload_n C 1 dX10_tell_97 rfl rfl ?_
    obtain ⟨b19, hw⟩ := hw
    refine v_iald C ak_70 rfl (Nat.le_of_ble_eq_true rfl) b19 dX10_tell_98 ?_
    exact w_sub [0, 1, 2, 3, 4] rfl (s_X10_tell_99 C HR HT  x1 x2 x3 x4 (M17 70 0 x1.toNatClampNeg) x1  _ hw)
  · replace hw := hw.1 c18
    refine w_iload_n C 3 dX10_tell_89 rfl rfl ?_
    refine w_goto C dX10_tell_90 (tgt := 99) rfl ?_
    exact w_sub [0, 1, 2, 3, 4] rfl (s_X10_tell_99 C HR HT  x1 x2 x3 x4 x3 x1  _ hw)
set_option maxRecDepth 100000 in
set_option maxHeartbeats 4000000 in
theorem s_X10_tell_39 {G : GG} {n : Nat} {E : EE} (C : Cx G n E RX10 cX10_tell 5) (HR : RM E 2 45) (HT : RT E (some .int)) {Q : Int32 → Mem → Prop}  : ∀ (x1 : Int32) (x2 : Int32) (x3 : Int32) (y0 : Int32) (y1 : Int32) (y2 : Int32)  (M : Mem), w_X10_tell_39 Q  x1 x2 x3 y0 y1 y2 M → WW G n E 5 (QE G E (Qi G n Q)) 39 [(0, .ref (gad G 10 0)), (1, .int x1), (2, .int x2), (3, .int x3)] [.int y0, .int y1, .int y2] M := by
  intro x1 x2 x3 y0 y1 y2 M hw
  refine back_I (run_S C HR mt_X10_in gw1179 gw1178 (by decide) rfl (Nat.le_of_ble_eq_true rfl) dX10_tell_39 (As := [.int y2, .int y1, .int y0]) rfl (c_X10_in y2 y1 y0  _ _ hw)) (fun r10 M9 hw => ?_)
  refine w_if_ne C dX10_tell_42 (tgt := 48) rfl (fun c11 => ?_) (fun c11 => ?_)
  · replace hw := hw.2 c11
    refine w_aload_n C 0 dX10_tell_48 rfl rfl ?_
    refine w_iload_n C 1 dX10_tell_49 rfl rfl ?_
    refine w_bipush C dX10_tell_50 kc_b_6 ?_
    refine w_iload_n C 2 dX10_tell_52 rfl rfl ?_
    refine w_iadd C dX10_tell_53 ?_
    refine back_I (run_V C HR mt_X10_aboutOf (ci := 10) rfl (by decide) (Nat.le_of_ble_eq_true rfl) gw1322 gw56 gw1320 (by decide) rfl (Nat.le_of_ble_eq_true rfl) dX10_tell_54 (As := [.int x1, .int (6 + x2)]) rfl (c_X10_aboutOf x1 (6 + x2)  _ _ hw)) (fun r13 M12 hw => ?_)
    refine w_istore C (lv' := [(4, .int r13), (0, .ref (gad G 10 0)), (1, .int x1), (2, .int x2), (3, .int x3)]) dX10_tell_57 (by decide) rfl ?_
    refine w_aload_n C 1 dX10_tell_59 rfl rfl ?_
    refine gf_X10_59 C (Nat.le_of_ble_eq_true rfl) dX10_tell_60 ?_
    refine w_iload_n C 2 dX10_tell_63 rfl rfl ?_
    refine w_iload_n C 3 dX10_tell_64 rfl rfl ?_
    refine w_if_ne C dX10_tell_65 (tgt := 72) rfl (fun c14 => ?_) (fun c14 => ?_)
    · replace hw := hw.2 c14
      refine w_aload_n C 1 dX10_tell_72 rfl rfl ?_
      refine gf_X10_59 C (Nat.le_of_ble_eq_true rfl) dX10_tell_73 ?_
      refine w_iload_n C 2 dX10_tell_76 rfl rfl ?_
      obtain ⟨b15, hw⟩ := hw
      refine v_iald C ak_69 rfl (Nat.le_of_ble_eq_true rfl) b15 dX10_tell_77 ?_
      exact w_sub [1, 2, 3, 4, 0] rfl (s_X10_tell_78 C HR HT  x1 x2 x3 r13 (M12 69 0 x1.toNatClampNeg) x1  _ hw)
    · replace hw := hw.1 c14
      refine w_iload_n C 4 dX10_tell_68 rfl rfl ?_
      refine w_goto C dX10_tell_69 (tgt := 78) rfl ?_
      exact w_sub [1, 2, 3, 4, 0] rfl (s_X10_tell_78 C HR HT  x1 x2 x3 r13 x3 x1  _ hw)
  · replace hw := hw.1 c11
    refine w_bipush C dX10_tell_45 kc_b_m2 ?_
    exact ret_I C HT hw dX10_tell_47
set_option maxRecDepth 100000 in
set_option maxHeartbeats 4000000 in
theorem s_X10_tell_28 {G : GG} {n : Nat} {E : EE} (C : Cx G n E RX10 cX10_tell 5) (HR : RM E 2 45) (HT : RT E (some .int)) {Q : Int32 → Mem → Prop}  : ∀ (x1 : Int32) (x2 : Int32) (x3 : Int32) (y0 : Int32) (y1 : Int32)  (M : Mem), w_X10_tell_28 Q  x1 x2 x3 y0 y1 M → WW G n E 5 (QE G E (Qi G n Q)) 28 [(0, .ref (gad G 10 0)), (1, .int x1), (2, .int x2), (3, .int x3)] [.int y0, .int y1] M := by
  intro x1 x2 x3 y0 y1 M hw
  refine w_iload_n C 2 dX10_tell_28 rfl rfl ?_
  refine w_if_ne C dX10_tell_29 (tgt := 37) rfl (fun c8 => ?_) (fun c8 => ?_)
  · replace hw := hw.2 c8
    refine w_bipush C dX10_tell_37 kc_b_50 ?_
    exact w_sub [0, 1, 2, 3] rfl (s_X10_tell_39 C HR HT  x1 x2 x3 50 y0 y1  _ hw)
  · replace hw := hw.1 c8
    refine w_bipush C dX10_tell_32 kc_b_99 ?_
    refine w_goto C dX10_tell_34 (tgt := 39) rfl ?_
    exact w_sub [0, 1, 2, 3] rfl (s_X10_tell_39 C HR HT  x1 x2 x3 99 y0 y1  _ hw)
set_option maxRecDepth 100000 in
set_option maxHeartbeats 4000000 in
theorem c_X10_tell {G : GG} {n : Nat} {l : Launch} (x1 : Int32) (x2 : Int32) (x3 : Int32)  (M : Mem) (Q : Int32 → Mem → Prop) (hw : wp_X10_tell x1 x2 x3 M Q) : Ct G n l yX10_tell cX10_tell 5 (some .int) 2 45 [.ref (gad G 10 0), .int x1, .int x2, .int x3] M (Qi G n Q) := by
  refine ct_of (by decide) (Nat.le_of_ble_eq_true rfl) (lv := [(0, .ref (gad G 10 0)), (1, .int x1), (2, .int x2), (3, .int x3)]) rfl (fun E C HR HT hE => ?_)
  replace C : Cx G n E RX10 cX10_tell 5 := C
  refine w_aload_n C 0 dX10_tell_0 rfl rfl ?_
  refine w_iload_n C 1 dX10_tell_1 rfl rfl ?_
  refine back_I (run_V C HR mt_X10_isCounter (ci := 10) rfl (by decide) (Nat.le_of_ble_eq_true rfl) gw1306 gw54 gw1304 (by decide) rfl (Nat.le_of_ble_eq_true rfl) dX10_tell_2 (As := [.int x1]) rfl (c_X10_isCounter x1  _ _ hw)) (fun r2 M1 hw => ?_)
  refine w_if_eq C dX10_tell_5 (tgt := 45) rfl (fun c3 => ?_) (fun c3 => ?_)
  · replace hw := hw.1 c3
    refine w_bipush C dX10_tell_45 kc_b_m2 ?_
    exact ret_I C HT hw dX10_tell_47
  · replace hw := hw.2 c3
    refine w_iload_n C 2 dX10_tell_8 rfl rfl ?_
    refine w_iconst C dX10_tell_9 kc_i_0 ?_
    refine w_iconst C dX10_tell_10 kc_i_2 ?_
    refine back_I (run_S C HR mt_X10_in gw1179 gw1178 (by decide) rfl (Nat.le_of_ble_eq_true rfl) dX10_tell_11 (As := [.int x2, .int 0, .int 2]) rfl (c_X10_in x2 0 2  _ _ hw)) (fun r5 M4 hw => ?_)
    refine w_if_eq C dX10_tell_14 (tgt := 45) rfl (fun c6 => ?_) (fun c6 => ?_)
    · replace hw := hw.1 c6
      refine w_bipush C dX10_tell_45 kc_b_m2 ?_
      exact ret_I C HT hw dX10_tell_47
    · replace hw := hw.2 c6
      refine w_iload_n C 3 dX10_tell_17 rfl rfl ?_
      refine w_iload_n C 2 dX10_tell_18 rfl rfl ?_
      refine w_iconst C dX10_tell_19 kc_i_1 ?_
      refine w_icmp_ne C dX10_tell_20 (tgt := 27) rfl (fun c7 => ?_) (fun c7 => ?_)
      · replace hw := hw.2 c7
        refine w_iconst C dX10_tell_27 kc_i_0 ?_
        exact w_sub [0, 1, 2, 3] rfl (s_X10_tell_28 C HR HT  x1 x2 x3 0 x3  _ hw)
      · replace hw := hw.1 c7
        refine w_iconst C dX10_tell_23 kc_i_1 ?_
        refine w_goto C dX10_tell_24 (tgt := 28) rfl ?_
        exact w_sub [0, 1, 2, 3] rfl (s_X10_tell_28 C HR HT  x1 x2 x3 1 x3  _ hw)
set_option maxRecDepth 100000 in
set_option maxHeartbeats 4000000 in
theorem c_X10_logged {G : GG} {n : Nat} {l : Launch} (x1 : Int32) (x2 : Int32)  (M : Mem) (Q : Int32 → Mem → Prop) (hw : wp_X10_logged x1 x2 M Q) : Ct G n l yX10_logged cX10_logged 3 (some .int) 2 43 [.ref (gad G 10 0), .int x1, .int x2] M (Qi G n Q) := by
  refine ct_of (by decide) (Nat.le_of_ble_eq_true rfl) (lv := [(0, .ref (gad G 10 0)), (1, .int x1), (2, .int x2)]) rfl (fun E C HR HT hE => ?_)
  replace C : Cx G n E RX10 cX10_logged 3 := C
  refine w_aload_n C 0 dX10_logged_0 rfl rfl ?_
  refine w_iload_n C 1 dX10_logged_1 rfl rfl ?_
  refine back_I (run_V C HR mt_X10_isCounter (ci := 10) rfl (by decide) (Nat.le_of_ble_eq_true rfl) gw1306 gw54 gw1304 (by decide) rfl (Nat.le_of_ble_eq_true rfl) dX10_logged_2 (As := [.int x1]) rfl (c_X10_isCounter x1  _ _ hw)) (fun r2 M1 hw => ?_)
  refine w_if_eq C dX10_logged_5 (tgt := 38) rfl (fun c3 => ?_) (fun c3 => ?_)
  · replace hw := hw.1 c3
    refine w_bipush C dX10_logged_38 kc_b_m2 ?_
    exact ret_I C HT hw dX10_logged_40
  · replace hw := hw.2 c3
    refine w_iload_n C 2 dX10_logged_8 rfl rfl ?_
    refine w_iconst C dX10_logged_9 kc_i_0 ?_
    refine w_aload_n C 0 dX10_logged_10 rfl rfl ?_
    refine gf_X10_47 C (Nat.le_of_ble_eq_true rfl) dX10_logged_11 ?_
    refine w_iload_n C 1 dX10_logged_14 rfl rfl ?_
    obtain ⟨b4, hw⟩ := hw
    refine v_iald C ak_65 rfl (Nat.le_of_ble_eq_true rfl) b4 dX10_logged_15 ?_
    refine w_iconst C dX10_logged_16 kc_i_1 ?_
    refine w_isub C dX10_logged_17 ?_
    refine back_I (run_S C HR mt_X10_in gw1179 gw1178 (by decide) rfl (Nat.le_of_ble_eq_true rfl) dX10_logged_18 (As := [.int x2, .int 0, .int ((M1 65 0 x1.toNatClampNeg) - 1)]) rfl (c_X10_in x2 0 ((M1 65 0 x1.toNatClampNeg) - 1)  _ _ hw)) (fun r6 M5 hw => ?_)
    refine w_if_eq C dX10_logged_21 (tgt := 38) rfl (fun c7 => ?_) (fun c7 => ?_)
    · replace hw := hw.1 c7
      refine w_bipush C dX10_logged_38 kc_b_m2 ?_
      exact ret_I C HT hw dX10_logged_40
    · replace hw := hw.2 c7
      refine w_aload_n C 0 dX10_logged_24 rfl rfl ?_
      refine gf_X10_50 C (Nat.le_of_ble_eq_true rfl) dX10_logged_25 ?_
      refine w_bipush C dX10_logged_28 kc_b_12 ?_
      refine w_iload_n C 1 dX10_logged_30 rfl rfl ?_
      refine w_imul C dX10_logged_31 ?_
      refine w_iload_n C 2 dX10_logged_32 rfl rfl ?_
      refine w_iadd C dX10_logged_33 ?_
      obtain ⟨b8, hw⟩ := hw
      refine v_iald C ak_66 rfl (Nat.le_of_ble_eq_true rfl) b8 dX10_logged_34 ?_
      refine w_goto C dX10_logged_35 (tgt := 40) rfl ?_
      exact ret_I C HT hw dX10_logged_40
set_option maxRecDepth 100000 in
set_option maxHeartbeats 4000000 in
theorem s_X10_filledBy_83 {G : GG} {n : Nat} {E : EE} (C : Cx G n E RX10 cX10_filledBy 6) (HR : RM E 0 0) (HT : RT E none) {Q : Mem → Prop} {K5 : Int32 → Int32 → Int32 → Mem → Prop} (g5 : ∀ (x1 : Int32) (x3 : Int32) (x4 : Int32)  (M : Mem), K5 x1 x3 x4 M → WW G n E 6 (QE G E (Qv G n Q)) 5 [(0, .ref (gad G 10 0)), (1, .int x1), (3, .int x3), (4, .int x4)] [] M) : ∀ (x1 : Int32) (x4 : Int32) (y0 : Int32)  (M : Mem), w_X10_filledBy_83 Q K5 x1 x4 y0 M → WW G n E 6 (QE G E (Qv G n Q)) 83 [(0, .ref (gad G 10 0)), (1, .int x1), (4, .int x4)] [.int y0] M := by
  intro x1 x4 y0 M hw
  refine w_istore_n C (lv' := [(3, .int y0), (0, .ref (gad G 10 0)), (1, .int x1), (4, .int x4)]) dX10_filledBy_83 rfl (by decide) rfl ?_
  refine w_iincV C (lv' := [(4, .int (x4 + 1)), (3, .int y0), (0, .ref (gad G 10 0)), (1, .int x1)]) 3 dX10_filledBy_84 kc_i_1 rfl (by decide) rfl ?_
  refine w_goto C dX10_filledBy_87 (tgt := 5) rfl ?_
  exact w_sub [2, 3, 1, 0] rfl (g5 x1 y0 (x4 + 1)  _ hw)
set_option maxRecDepth 100000 in
set_option maxHeartbeats 4000000 in
theorem s_X10_filledBy_69 {G : GG} {n : Nat} {E : EE} (C : Cx G n E RX10 cX10_filledBy 6) (HR : RM E 0 0) (HT : RT E none) {Q : Mem → Prop} {K5 : Int32 → Int32 → Int32 → Mem → Prop} (g5 : ∀ (x1 : Int32) (x3 : Int32) (x4 : Int32)  (M : Mem), K5 x1 x3 x4 M → WW G n E 6 (QE G E (Qv G n Q)) 5 [(0, .ref (gad G 10 0)), (1, .int x1), (3, .int x3), (4, .int x4)] [] M) : ∀ (x1 : Int32) (x3 : Int32) (x4 : Int32) (x5 : Int32) (y0 : Int32) (y1 : Int32)  (M : Mem), w_X10_filledBy_69 Q K5 x1 x3 x4 x5 y0 y1 M → WW G n E 6 (QE G E (Qv G n Q)) 69 [(0, .ref (gad G 10 0)), (1, .int x1), (3, .int x3), (4, .int x4), (5, .int x5)] [.int y0, .int y1, .ref (gad G 72 0)] M := by
  intro x1 x3 x4 x5 y0 y1 M hw
  obtain ⟨b8, hw⟩ := hw
  refine v_iast C ak_72 rfl (Nat.le_of_ble_eq_true rfl) b8 dX10_filledBy_69 (w_mem fun M9 eM9 => ?_)
  replace hw := hw M9 eM9
  refine w_iload C 4 dX10_filledBy_70 rfl ?_
  refine w_if_eq C dX10_filledBy_72 (tgt := 82) rfl (fun c10 => ?_) (fun c10 => ?_)
  · replace hw := hw.1 c10
    refine w_iload_n C 2 dX10_filledBy_82 rfl rfl ?_
    exact w_sub [0, 1, 3] rfl (s_X10_filledBy_83 C HR HT g5 x1 x4 x3  _ hw)
  · replace hw := hw.2 c10
    refine w_iload_n C 2 dX10_filledBy_75 rfl rfl ?_
    refine w_bipush C dX10_filledBy_76 kc_b_8 ?_
    obtain ⟨b11, hw⟩ := hw
    refine w_idiv C dX10_filledBy_78 b11 ?_
    refine w_goto C dX10_filledBy_79 (tgt := 83) rfl ?_
    exact w_sub [0, 1, 3] rfl (s_X10_filledBy_83 C HR HT g5 x1 x4 (x3 / 8)  _ hw)
set_option maxRecDepth 100000 in
set_option maxHeartbeats 4000000 in
theorem s_X10_filledBy_37 {G : GG} {n : Nat} {E : EE} (C : Cx G n E RX10 cX10_filledBy 6) (HR : RM E 0 0) (HT : RT E none) {Q : Mem → Prop} {K5 : Int32 → Int32 → Int32 → Mem → Prop} (g5 : ∀ (x1 : Int32) (x3 : Int32) (x4 : Int32)  (M : Mem), K5 x1 x3 x4 M → WW G n E 6 (QE G E (Qv G n Q)) 5 [(0, .ref (gad G 10 0)), (1, .int x1), (3, .int x3), (4, .int x4)] [] M) : ∀ (x1 : Int32) (x3 : Int32) (x4 : Int32) (y0 : Int32)  (M : Mem), w_X10_filledBy_37 Q K5 x1 x3 x4 y0 M → WW G n E 6 (QE G E (Qv G n Q)) 37 [(0, .ref (gad G 10 0)), (1, .int x1), (3, .int x3), (4, .int x4)] [.int y0] M := by
  intro x1 x3 x4 y0 M hw
  refine w_istore C (lv' := [(5, .int y0), (0, .ref (gad G 10 0)), (1, .int x1), (3, .int x3), (4, .int x4)]) dX10_filledBy_37 (by decide) rfl ?_
  refine w_aload_n C 1 dX10_filledBy_39 rfl rfl ?_
  refine gf_X10_68 C (Nat.le_of_ble_eq_true rfl) dX10_filledBy_40 ?_
  refine w_iload C 4 dX10_filledBy_43 rfl ?_
  refine w_iload C 0 dX10_filledBy_45 rfl ?_
  refine w_if_eq C dX10_filledBy_47 (tgt := 57) rfl (fun c6 => ?_) (fun c6 => ?_)
  · replace hw := hw.1 c6
    refine w_aload_n C 1 dX10_filledBy_57 rfl rfl ?_
    refine gf_X10_50 C (Nat.le_of_ble_eq_true rfl) dX10_filledBy_58 ?_
    refine w_bipush C dX10_filledBy_61 kc_b_12 ?_
    refine w_iload_n C 2 dX10_filledBy_63 rfl rfl ?_
    refine w_imul C dX10_filledBy_64 ?_
    refine w_iload C 4 dX10_filledBy_65 rfl ?_
    refine w_iadd C dX10_filledBy_67 ?_
    obtain ⟨b7, hw⟩ := hw
    refine v_iald C ak_66 rfl (Nat.le_of_ble_eq_true rfl) b7 dX10_filledBy_68 ?_
    exact w_sub [1, 2, 3, 4, 0] rfl (s_X10_filledBy_69 C HR HT g5 x1 x3 x4 y0 (M 66 0 ((12 * x1) + x4).toNatClampNeg) x4  _ hw)
  · replace hw := hw.2 c6
    refine w_iload_n C 3 dX10_filledBy_50 rfl rfl ?_
    refine w_bipush C dX10_filledBy_51 kc_b_8 ?_
    obtain ⟨b12, hw⟩ := hw
    refine w_irem C dX10_filledBy_53 b12 ?_
    refine w_goto C dX10_filledBy_54 (tgt := 69) rfl ?_
    exact w_sub [1, 2, 3, 4, 0] rfl (s_X10_filledBy_69 C HR HT g5 x1 x3 x4 y0 (x3 - x3 / 8 * 8) x4  _ hw)
set_option maxRecDepth 100000 in
set_option maxHeartbeats 4000000 in
theorem s_X10_filledBy_5 {G : GG} {n : Nat} {E : EE} (C : Cx G n E RX10 cX10_filledBy 6) (HR : RM E 0 0) (HT : RT E none) {Q : Mem → Prop}  : ∀ (f : Nat) (x1 : Int32) (x3 : Int32) (x4 : Int32)  (M : Mem), w_X10_filledBy_5 Q  f x1 x3 x4 M → WW G n E 6 (QE G E (Qv G n Q)) 5 [(0, .ref (gad G 10 0)), (1, .int x1), (3, .int x3), (4, .int x4)] [] M := by
  intro f
  induction f with
  | zero => intro x1 x3 x4 M hw; exact hw.elim
  | succ f ih =>
    intro x1 x3 x4 M hw
    refine w_iload C 3 dX10_filledBy_5 rfl ?_
    refine w_aload_n C 0 dX10_filledBy_7 rfl rfl ?_
    refine gf_X10_47 C (Nat.le_of_ble_eq_true rfl) dX10_filledBy_8 ?_
    refine w_iload_n C 1 dX10_filledBy_11 rfl rfl ?_
    obtain ⟨b2, hw⟩ := hw
    refine v_iald C ak_65 rfl (Nat.le_of_ble_eq_true rfl) b2 dX10_filledBy_12 ?_
    refine w_icmp_ge C dX10_filledBy_13 (tgt := 90) rfl (fun c3 => ?_) (fun c3 => ?_)
    · replace hw := hw.1 c3
      exact ret_V C HT hw dX10_filledBy_90
    · replace hw := hw.2 c3
      refine w_aload_n C 0 dX10_filledBy_16 rfl rfl ?_
      refine gf_X10_50 C (Nat.le_of_ble_eq_true rfl) dX10_filledBy_17 ?_
      refine w_bipush C dX10_filledBy_20 kc_b_12 ?_
      refine w_iload_n C 1 dX10_filledBy_22 rfl rfl ?_
      refine w_imul C dX10_filledBy_23 ?_
      refine w_iload C 3 dX10_filledBy_24 rfl ?_
      refine w_iadd C dX10_filledBy_26 ?_
      obtain ⟨b4, hw⟩ := hw
      refine v_iald C ak_66 rfl (Nat.le_of_ble_eq_true rfl) b4 dX10_filledBy_27 ?_
      refine w_iconst C dX10_filledBy_28 kc_i_m1 ?_
      refine w_icmp_ne C dX10_filledBy_29 (tgt := 36) rfl (fun c5 => ?_) (fun c5 => ?_)
      · replace hw := hw.2 c5
        refine w_iconst C dX10_filledBy_36 kc_i_0 ?_
        exact w_sub [0, 1, 2, 3] rfl (s_X10_filledBy_37 C HR HT ih x1 x3 x4 0  _ hw)
      · replace hw := hw.1 c5
        refine w_iconst C dX10_filledBy_32 kc_i_1 ?_
        refine w_goto C dX10_filledBy_33 (tgt := 37) rfl ?_
        exact w_sub [0, 1, 2, 3] rfl (s_X10_filledBy_37 C HR HT ih x1 x3 x4 1  _ hw)
set_option maxRecDepth 100000 in
set_option maxHeartbeats 4000000 in
theorem c_X10_filledBy {G : GG} {n : Nat} {l : Launch} (x1 : Int32) (x2 : Int32)  (M : Mem) (Q : Mem → Prop) (hw : wp_X10_filledBy x1 x2 M Q) : Ct G n l yX10_filledBy cX10_filledBy 6 none 0 0 [.ref (gad G 10 0), .int x1, .int x2] M (Qv G n Q) := by
  refine ct_of (by decide) (Nat.le_of_ble_eq_true rfl) (lv := [(0, .ref (gad G 10 0)), (1, .int x1), (2, .int x2)]) rfl (fun E C HR HT hE => ?_)
  replace C : Cx G n E RX10 cX10_filledBy 6 := C
  refine w_iload_n C 2 dX10_filledBy_0 rfl rfl ?_
  refine w_istore_n C (lv' := [(3, .int x2), (0, .ref (gad G 10 0)), (1, .int x1), (2, .int x2)]) dX10_filledBy_1 rfl (by decide) rfl ?_
  refine w_iconst C dX10_filledBy_2 kc_i_0 ?_
  refine w_istore C (lv' := [(4, .int 0), (3, .int x2), (0, .ref (gad G 10 0)), (1, .int x1), (2, .int x2)]) dX10_filledBy_3 (by decide) rfl ?_
  obtain ⟨f1, hw⟩ := hw
  exact w_sub [2, 3, 1, 0] rfl (s_X10_filledBy_5 C HR HT  f1 x1 x2 0  _ hw)
set_option maxRecDepth 100000 in
set_option maxHeartbeats 4000000 in
theorem s_X10_goesAll_76 {G : GG} {n : Nat} {E : EE} (C : Cx G n E RX10 cX10_goesAll 5) (HR : RM E 6 135) (HT : RT E none) {Q : Mem → Prop} {K24 : Int32 → Int32 → Int32 → Int32 → Mem → Prop} (g24 : ∀ (x1 : Int32) (x2 : Int32) (x3 : Int32) (x4 : Int32)  (M : Mem), K24 x1 x2 x3 x4 M → WW G n E 5 (QE G E (Qv G n Q)) 24 [(0, .ref (gad G 10 0)), (1, .int x1), (2, .int x2), (3, .int x3), (4, .int x4)] [] M) : ∀ (x1 : Int32) (x2 : Int32) (x3 : Int32) (x4 : Int32)  (M : Mem), w_X10_goesAll_76 Q K24 x1 x2 x3 x4 M → WW G n E 5 (QE G E (Qv G n Q)) 76 [(0, .ref (gad G 10 0)), (1, .int x1), (2, .int x2), (3, .int x3), (4, .int x4)] [] M := by
  intro x1 x2 x3 x4 M hw
  refine w_iincV C (lv' := [(4, .int (x4 + 1)), (0, .ref (gad G 10 0)), (1, .int x1), (2, .int x2), (3, .int x3)]) 4 dX10_goesAll_76 kc_i_1 rfl (by decide) rfl ?_
  refine w_goto C dX10_goesAll_79 (tgt := 24) rfl ?_
  exact w_sub [1, 2, 3, 4, 0] rfl (g24 x1 x2 x3 (x4 + 1)  _ hw)
set_option maxRecDepth 100000 in
set_option maxHeartbeats 4000000 in
theorem s_X10_goesAll_54 {G : GG} {n : Nat} {E : EE} (C : Cx G n E RX10 cX10_goesAll 5) (HR : RM E 6 135) (HT : RT E none) {Q : Mem → Prop} {K24 : Int32 → Int32 → Int32 → Int32 → Mem → Prop} (g24 : ∀ (x1 : Int32) (x2 : Int32) (x3 : Int32) (x4 : Int32)  (M : Mem), K24 x1 x2 x3 x4 M → WW G n E 5 (QE G E (Qv G n Q)) 24 [(0, .ref (gad G 10 0)), (1, .int x1), (2, .int x2), (3, .int x3), (4, .int x4)] [] M) : ∀ (x1 : Int32) (x2 : Int32) (x3 : Int32) (x4 : Int32)  (M : Mem), w_X10_goesAll_54 Q K24 x1 x2 x3 x4 M → WW G n E 5 (QE G E (Qv G n Q)) 54 [(0, .ref (gad G 10 0)), (1, .int x1), (2, .int x2), (3, .int x3), (4, .int x4)] [] M := by
  intro x1 x2 x3 x4 M hw
  refine w_iload C 4 dX10_goesAll_54 rfl ?_
  refine w_aload_n C 0 dX10_goesAll_56 rfl rfl ?_
  refine gf_X10_47 C (Nat.le_of_ble_eq_true rfl) dX10_goesAll_57 ?_
  refine w_iload_n C 1 dX10_goesAll_60 rfl rfl ?_
  obtain ⟨b9, hw⟩ := hw
  refine v_iald C ak_65 rfl (Nat.le_of_ble_eq_true rfl) b9 dX10_goesAll_61 ?_
  refine w_icmp_ge C dX10_goesAll_62 (tgt := 76) rfl (fun c10 => ?_) (fun c10 => ?_)
  · replace hw := hw.1 c10
    exact w_sub [0, 1, 2, 3, 4] rfl (s_X10_goesAll_76 C HR HT g24 x1 x2 x3 x4  _ hw)
  · replace hw := hw.2 c10
    refine w_aload_n C 0 dX10_goesAll_65 rfl rfl ?_
    refine w_aload_n C 0 dX10_goesAll_66 rfl rfl ?_
    refine gf_X10_68 C (Nat.le_of_ble_eq_true rfl) dX10_goesAll_67 ?_
    refine w_iload C 4 dX10_goesAll_70 rfl ?_
    obtain ⟨b11, hw⟩ := hw
    refine v_iald C ak_72 rfl (Nat.le_of_ble_eq_true rfl) b11 dX10_goesAll_72 ?_
    refine back_V (run_V C HR mt_X10_goes (ci := 10) rfl (by decide) (Nat.le_of_ble_eq_true rfl) gw1267 gw50 gw1265 (by decide) rfl (Nat.le_of_ble_eq_true rfl) dX10_goesAll_73 (As := [.int (M 72 0 x4.toNatClampNeg)]) rfl (c_X10_goes (M 72 0 x4.toNatClampNeg)  _ _ hw)) (fun M12 hw => ?_)
    exact w_sub [0, 1, 2, 3, 4] rfl (s_X10_goesAll_76 C HR HT g24 x1 x2 x3 x4  _ hw)
set_option maxRecDepth 100000 in
set_option maxHeartbeats 4000000 in
theorem s_X10_goesAll_24 {G : GG} {n : Nat} {E : EE} (C : Cx G n E RX10 cX10_goesAll 5) (HR : RM E 6 135) (HT : RT E none) {Q : Mem → Prop}  : ∀ (f : Nat) (x1 : Int32) (x2 : Int32) (x3 : Int32) (x4 : Int32)  (M : Mem), w_X10_goesAll_24 Q  f x1 x2 x3 x4 M → WW G n E 5 (QE G E (Qv G n Q)) 24 [(0, .ref (gad G 10 0)), (1, .int x1), (2, .int x2), (3, .int x3), (4, .int x4)] [] M := by
  intro f
  induction f with
  | zero => intro x1 x2 x3 x4 M hw; exact hw.elim
  | succ f ih =>
    intro x1 x2 x3 x4 M hw
    refine w_iload C 4 dX10_goesAll_24 rfl ?_
    refine w_aload_n C 0 dX10_goesAll_26 rfl rfl ?_
    refine gf_X10_47 C (Nat.le_of_ble_eq_true rfl) dX10_goesAll_27 ?_
    refine w_iload_n C 1 dX10_goesAll_30 rfl rfl ?_
    obtain ⟨b6, hw⟩ := hw
    refine v_iald C ak_65 rfl (Nat.le_of_ble_eq_true rfl) b6 dX10_goesAll_31 ?_
    refine w_icmp_gt C dX10_goesAll_32 (tgt := 82) rfl (fun c7 => ?_) (fun c7 => ?_)
    · replace hw := hw.1 c7
      exact ret_V C HT hw dX10_goesAll_82
    · replace hw := hw.2 c7
      refine w_iload C 4 dX10_goesAll_35 rfl ?_
      refine w_iload_n C 2 dX10_goesAll_37 rfl rfl ?_
      refine w_icmp_ne C dX10_goesAll_38 (tgt := 54) rfl (fun c8 => ?_) (fun c8 => ?_)
      · replace hw := hw.2 c8
        exact w_sub [0, 1, 2, 3, 4] rfl (s_X10_goesAll_54 C HR HT ih x1 x2 x3 x4  _ hw)
      · replace hw := hw.1 c8
        refine w_aload_n C 0 dX10_goesAll_41 rfl rfl ?_
        refine w_iconst C dX10_goesAll_42 kc_i_2 ?_
        refine w_aload_n C 0 dX10_goesAll_43 rfl rfl ?_
        refine gf_X10_38 C (Nat.le_of_ble_eq_true rfl) dX10_goesAll_44 ?_
        refine w_iconst C dX10_goesAll_47 kc_i_2 ?_
        obtain ⟨b13, hw⟩ := hw
        refine v_iald C ak_62 rfl (Nat.le_of_ble_eq_true rfl) b13 dX10_goesAll_48 ?_
        refine w_iload_n C 3 dX10_goesAll_49 rfl rfl ?_
        refine w_iadd C dX10_goesAll_50 ?_
        refine back_V (run_V C HR mt_X10_sets (ci := 10) rfl (by decide) (Nat.le_of_ble_eq_true rfl) gw1271 gw51 gw1269 (by decide) rfl (Nat.le_of_ble_eq_true rfl) dX10_goesAll_51 (As := [.int 2, .int ((M 62 0 (2 : Int32).toNatClampNeg) + x3)]) rfl (c_X10_sets 2 ((M 62 0 (2 : Int32).toNatClampNeg) + x3)  _ _ hw)) (fun M14 hw => ?_)
        exact w_sub [0, 1, 2, 3, 4] rfl (s_X10_goesAll_54 C HR HT ih x1 x2 x3 x4  _ hw)
set_option maxRecDepth 100000 in
set_option maxHeartbeats 4000000 in
theorem c_X10_goesAll {G : GG} {n : Nat} {l : Launch} (x1 : Int32) (x2 : Int32) (x3 : Int32)  (M : Mem) (Q : Mem → Prop) (hw : wp_X10_goesAll x1 x2 x3 M Q) : Ct G n l yX10_goesAll cX10_goesAll 5 none 6 135 [.ref (gad G 10 0), .int x1, .int x2, .int x3] M (Qv G n Q) := by
  refine ct_of (by decide) (Nat.le_of_ble_eq_true rfl) (lv := [(0, .ref (gad G 10 0)), (1, .int x1), (2, .int x2), (3, .int x3)]) rfl (fun E C HR HT hE => ?_)
  replace C : Cx G n E RX10 cX10_goesAll 5 := C
  refine w_aload_n C 0 dX10_goesAll_0 rfl rfl ?_
  refine w_aload_n C 0 dX10_goesAll_1 rfl rfl ?_
  refine gf_X10_44 C (Nat.le_of_ble_eq_true rfl) dX10_goesAll_2 ?_
  refine w_iload_n C 1 dX10_goesAll_5 rfl rfl ?_
  obtain ⟨b1, hw⟩ := hw
  refine v_iald C ak_64 rfl (Nat.le_of_ble_eq_true rfl) b1 dX10_goesAll_6 ?_
  refine w_aload_n C 0 dX10_goesAll_7 rfl rfl ?_
  refine gf_X10_44 C (Nat.le_of_ble_eq_true rfl) dX10_goesAll_8 ?_
  refine w_iload_n C 1 dX10_goesAll_11 rfl rfl ?_
  obtain ⟨b2, hw⟩ := hw
  refine v_iald C ak_64 rfl (Nat.le_of_ble_eq_true rfl) b2 dX10_goesAll_12 ?_
  refine w_iconst C dX10_goesAll_13 kc_i_0 ?_
  refine back_V (run_V C HR mt_X10_mixes (ci := 10) rfl (by decide) (Nat.le_of_ble_eq_true rfl) gw1259 gw48 gw1257 (by decide) rfl (Nat.le_of_ble_eq_true rfl) dX10_goesAll_14 (As := [.int (M 64 0 x1.toNatClampNeg), .int (M 64 0 x1.toNatClampNeg), .int 0]) rfl (c_X10_mixes (M 64 0 x1.toNatClampNeg) (M 64 0 x1.toNatClampNeg) 0  _ _ hw)) (fun M3 hw => ?_)
  refine w_aload_n C 0 dX10_goesAll_17 rfl rfl ?_
  refine back_V (run_V C HR mt_X10_begins (ci := 10) rfl (by decide) (Nat.le_of_ble_eq_true rfl) gw1263 gw49 gw1261 (by decide) rfl (Nat.le_of_ble_eq_true rfl) dX10_goesAll_18 (As := []) rfl (c_X10_begins   _ _ hw)) (fun M4 hw => ?_)
  refine w_iconst C dX10_goesAll_21 kc_i_0 ?_
  refine w_istore C (lv' := [(4, .int 0), (0, .ref (gad G 10 0)), (1, .int x1), (2, .int x2), (3, .int x3)]) dX10_goesAll_22 (by decide) rfl ?_
  obtain ⟨f5, hw⟩ := hw
  exact w_sub [1, 2, 3, 4, 0] rfl (s_X10_goesAll_24 C HR HT  f5 x1 x2 x3 0  _ hw)
set_option maxRecDepth 100000 in
set_option maxHeartbeats 4000000 in
theorem s_X10_isFromAfar_61 {G : GG} {n : Nat} {E : EE} (C : Cx G n E RX10 cX10_isFromAfar 4) (HR : RM E 7 159) (HT : RT E (some .boolean)) {Q : Int32 → Mem → Prop} {K2 : Int32 → Int32 → Mem → Prop} (g2 : ∀ (x1 : Int32) (x2 : Int32)  (M : Mem), K2 x1 x2 M → WW G n E 4 (QE G E (Qi G n Q)) 2 [(0, .ref (gad G 10 0)), (1, .int x1), (2, .int x2)] [] M) {K15 : Int32 → Int32 → Int32 → Mem → Prop} (g15 : ∀ (x1 : Int32) (x2 : Int32) (x3 : Int32)  (M : Mem), K15 x1 x2 x3 M → WW G n E 4 (QE G E (Qi G n Q)) 15 [(0, .ref (gad G 10 0)), (1, .int x1), (2, .int x2), (3, .int x3)] [] M) : ∀ (x1 : Int32) (x2 : Int32) (x3 : Int32)  (M : Mem), w_X10_isFromAfar_61 Q K2 K15 x1 x2 x3 M → WW G n E 4 (QE G E (Qi G n Q)) 61 [(0, .ref (gad G 10 0)), (1, .int x1), (2, .int x2), (3, .int x3)] [] M := by
  intro x1 x2 x3 M hw
  refine w_iincV C (lv' := [(3, .int (x3 + 1)), (0, .ref (gad G 10 0)), (1, .int x1), (2, .int x2)]) 3 dX10_isFromAfar_61 kc_i_1 rfl (by decide) rfl ?_
  refine w_goto C dX10_isFromAfar_64 (tgt := 15) rfl ?_
  exact w_sub [1, 2, 3, 0] rfl (g15 x1 x2 (x3 + 1)  _ hw)
set_option maxRecDepth 100000 in
set_option maxHeartbeats 4000000 in
theorem s_X10_isFromAfar_15 {G : GG} {n : Nat} {E : EE} (C : Cx G n E RX10 cX10_isFromAfar 4) (HR : RM E 7 159) (HT : RT E (some .boolean)) {Q : Int32 → Mem → Prop} {K2 : Int32 → Int32 → Mem → Prop} (g2 : ∀ (x1 : Int32) (x2 : Int32)  (M : Mem), K2 x1 x2 M → WW G n E 4 (QE G E (Qi G n Q)) 2 [(0, .ref (gad G 10 0)), (1, .int x1), (2, .int x2)] [] M) : ∀ (f : Nat) (x1 : Int32) (x2 : Int32) (x3 : Int32)  (M : Mem), w_X10_isFromAfar_15 Q K2 f x1 x2 x3 M → WW G n E 4 (QE G E (Qi G n Q)) 15 [(0, .ref (gad G 10 0)), (1, .int x1), (2, .int x2), (3, .int x3)] [] M := by
  intro f
  induction f with
  | zero => intro x1 x2 x3 M hw; exact hw.elim
  | succ f ih =>
    intro x1 x2 x3 M hw
    refine w_iload_n C 3 dX10_isFromAfar_15 rfl rfl ?_
    refine w_iconst C dX10_isFromAfar_16 kc_i_4 ?_
    refine w_icmp_ge C dX10_isFromAfar_17 (tgt := 67) rfl (fun c5 => ?_) (fun c5 => ?_)
    · replace hw := hw.1 c5
      refine w_iincV C (lv' := [(2, .int (x2 + 1)), (0, .ref (gad G 10 0)), (1, .int x1), (3, .int x3)]) 2 dX10_isFromAfar_67 kc_i_1 rfl (by decide) rfl ?_
      refine w_goto C dX10_isFromAfar_70 (tgt := 2) rfl ?_
      exact w_sub [1, 2, 0] rfl (g2 x1 (x2 + 1)  _ hw)
    · replace hw := hw.2 c5
      refine w_iload_n C 3 dX10_isFromAfar_20 rfl rfl ?_
      refine w_if_eq C dX10_isFromAfar_21 (tgt := 61) rfl (fun c6 => ?_) (fun c6 => ?_)
      · replace hw := hw.1 c6
        exact w_sub [0, 1, 2, 3] rfl (s_X10_isFromAfar_61 C HR HT g2 ih x1 x2 x3  _ hw)
      · replace hw := hw.2 c6
        refine w_aload_n C 0 dX10_isFromAfar_24 rfl rfl ?_
        refine w_iload_n C 1 dX10_isFromAfar_25 rfl rfl ?_
        refine w_iload_n C 2 dX10_isFromAfar_26 rfl rfl ?_
        refine w_iload_n C 3 dX10_isFromAfar_27 rfl rfl ?_
        refine back_V (run_V C HR mt_X10_goesAll (ci := 10) rfl (by decide) (Nat.le_of_ble_eq_true rfl) gw1362 gw63 gw1360 (by decide) rfl (Nat.le_of_ble_eq_true rfl) dX10_isFromAfar_28 (As := [.int x1, .int x2, .int x3]) rfl (c_X10_goesAll x1 x2 x3  _ _ hw)) (fun M7 hw => ?_)
        refine w_aload_n C 0 dX10_isFromAfar_31 rfl rfl ?_
        refine gf_X10_38 C (Nat.le_of_ble_eq_true rfl) dX10_isFromAfar_32 ?_
        refine w_iconst C dX10_isFromAfar_35 kc_i_2 ?_
        obtain ⟨b8, hw⟩ := hw
        refine v_iald C ak_62 rfl (Nat.le_of_ble_eq_true rfl) b8 dX10_isFromAfar_36 ?_
        refine w_aload_n C 0 dX10_isFromAfar_37 rfl rfl ?_
        refine gf_X10_56 C (Nat.le_of_ble_eq_true rfl) dX10_isFromAfar_38 ?_
        refine w_iload_n C 1 dX10_isFromAfar_41 rfl rfl ?_
        obtain ⟨b9, hw⟩ := hw
        refine v_iald C ak_68 rfl (Nat.le_of_ble_eq_true rfl) b9 dX10_isFromAfar_42 ?_
        refine w_icmp_ne C dX10_isFromAfar_43 (tgt := 61) rfl (fun c10 => ?_) (fun c10 => ?_)
        · replace hw := hw.2 c10
          exact w_sub [0, 1, 2, 3] rfl (s_X10_isFromAfar_61 C HR HT g2 ih x1 x2 x3  _ hw)
        · replace hw := hw.1 c10
          refine w_aload_n C 0 dX10_isFromAfar_46 rfl rfl ?_
          refine gf_X10_189 C (Nat.le_of_ble_eq_true rfl) dX10_isFromAfar_47 ?_
          refine w_aload_n C 0 dX10_isFromAfar_50 rfl rfl ?_
          refine gf_X10_53 C (Nat.le_of_ble_eq_true rfl) dX10_isFromAfar_51 ?_
          refine w_iload_n C 1 dX10_isFromAfar_54 rfl rfl ?_
          obtain ⟨b11, hw⟩ := hw
          refine v_iald C ak_67 rfl (Nat.le_of_ble_eq_true rfl) b11 dX10_isFromAfar_55 ?_
          refine w_icmp_ne C dX10_isFromAfar_56 (tgt := 61) rfl (fun c12 => ?_) (fun c12 => ?_)
          · replace hw := hw.2 c12
            exact w_sub [0, 1, 2, 3] rfl (s_X10_isFromAfar_61 C HR HT g2 ih x1 x2 x3  _ hw)
          · replace hw := hw.1 c12
            refine w_iconst C dX10_isFromAfar_59 kc_i_1 ?_
            exact ret_Z C HT rfl hw dX10_isFromAfar_60
set_option maxRecDepth 100000 in
set_option maxHeartbeats 4000000 in
theorem s_X10_isFromAfar_2 {G : GG} {n : Nat} {E : EE} (C : Cx G n E RX10 cX10_isFromAfar 4) (HR : RM E 7 159) (HT : RT E (some .boolean)) {Q : Int32 → Mem → Prop}  : ∀ (f : Nat) (x1 : Int32) (x2 : Int32)  (M : Mem), w_X10_isFromAfar_2 Q  f x1 x2 M → WW G n E 4 (QE G E (Qi G n Q)) 2 [(0, .ref (gad G 10 0)), (1, .int x1), (2, .int x2)] [] M := by
  intro f
  induction f with
  | zero => intro x1 x2 M hw; exact hw.elim
  | succ f ih =>
    intro x1 x2 M hw
    refine w_iload_n C 2 dX10_isFromAfar_2 rfl rfl ?_
    refine w_aload_n C 0 dX10_isFromAfar_3 rfl rfl ?_
    refine gf_X10_47 C (Nat.le_of_ble_eq_true rfl) dX10_isFromAfar_4 ?_
    refine w_iload_n C 1 dX10_isFromAfar_7 rfl rfl ?_
    obtain ⟨b2, hw⟩ := hw
    refine v_iald C ak_65 rfl (Nat.le_of_ble_eq_true rfl) b2 dX10_isFromAfar_8 ?_
    refine w_icmp_gt C dX10_isFromAfar_9 (tgt := 73) rfl (fun c3 => ?_) (fun c3 => ?_)
    · replace hw := hw.1 c3
      refine w_iconst C dX10_isFromAfar_73 kc_i_0 ?_
      exact ret_Z C HT rfl hw dX10_isFromAfar_74
    · replace hw := hw.2 c3
      refine w_bipush C dX10_isFromAfar_12 kc_b_m3 ?_
      refine w_istore_n C (lv' := [(3, .int (-3)), (0, .ref (gad G 10 0)), (1, .int x1), (2, .int x2)]) dX10_isFromAfar_14 rfl (by decide) rfl ?_
      obtain ⟨f4, hw⟩ := hw
      exact w_sub [1, 2, 3, 0] rfl (s_X10_isFromAfar_15 C HR HT ih f4 x1 x2 (-3)  _ hw)
set_option maxRecDepth 100000 in
set_option maxHeartbeats 4000000 in
theorem c_X10_isFromAfar {G : GG} {n : Nat} {l : Launch} (x1 : Int32)  (M : Mem) (Q : Int32 → Mem → Prop) (hw : wp_X10_isFromAfar x1 M Q) : Ct G n l yX10_isFromAfar cX10_isFromAfar 4 (some .boolean) 7 159 [.ref (gad G 10 0), .int x1] M (Qi G n Q) := by
  refine ct_of (by decide) (Nat.le_of_ble_eq_true rfl) (lv := [(0, .ref (gad G 10 0)), (1, .int x1)]) rfl (fun E C HR HT hE => ?_)
  replace C : Cx G n E RX10 cX10_isFromAfar 4 := C
  refine w_iconst C dX10_isFromAfar_0 kc_i_0 ?_
  refine w_istore_n C (lv' := [(2, .int 0), (0, .ref (gad G 10 0)), (1, .int x1)]) dX10_isFromAfar_1 rfl (by decide) rfl ?_
  obtain ⟨f1, hw⟩ := hw
  exact w_sub [1, 2, 0] rfl (s_X10_isFromAfar_2 C HR HT  f1 x1 0  _ hw)
set_option maxRecDepth 100000 in
set_option maxHeartbeats 4000000 in
theorem c_X10_isClear {G : GG} {n : Nat} {l : Launch} (x1 : Int32) (x2 : Int32)  (M : Mem) (Q : Int32 → Mem → Prop) (hw : wp_X10_isClear x1 x2 M Q) : Ct G n l yX10_isClear cX10_isClear 3 (some .boolean) 7 159 [.ref (gad G 10 0), .int x1, .int x2] M (Qi G n Q) := by
  refine ct_of (by decide) (Nat.le_of_ble_eq_true rfl) (lv := [(0, .ref (gad G 10 0)), (1, .int x1), (2, .int x2)]) rfl (fun E C HR HT hE => ?_)
  replace C : Cx G n E RX10 cX10_isClear 3 := C
  refine w_aload_n C 0 dX10_isClear_0 rfl rfl ?_
  refine w_iload_n C 1 dX10_isClear_1 rfl rfl ?_
  refine w_iload_n C 2 dX10_isClear_2 rfl rfl ?_
  refine back_V (run_V C HR mt_X10_filledBy (ci := 10) rfl (by decide) (Nat.le_of_ble_eq_true rfl) gw1358 gw62 gw1356 (by decide) rfl (Nat.le_of_ble_eq_true rfl) dX10_isClear_3 (As := [.int x1, .int x2]) rfl (c_X10_filledBy x1 x2  _ _ hw)) (fun M1 hw => ?_)
  refine w_aload_n C 0 dX10_isClear_6 rfl rfl ?_
  refine w_iload_n C 1 dX10_isClear_7 rfl rfl ?_
  refine w_iconst C dX10_isClear_8 kc_i_m1 ?_
  refine w_iconst C dX10_isClear_9 kc_i_0 ?_
  refine back_V (run_V C HR mt_X10_goesAll (ci := 10) rfl (by decide) (Nat.le_of_ble_eq_true rfl) gw1362 gw63 gw1360 (by decide) rfl (Nat.le_of_ble_eq_true rfl) dX10_isClear_10 (As := [.int x1, .int (-1), .int 0]) rfl (c_X10_goesAll x1 (-1) 0  _ _ hw)) (fun M2 hw => ?_)
  refine w_aload_n C 0 dX10_isClear_13 rfl rfl ?_
  refine gf_X10_38 C (Nat.le_of_ble_eq_true rfl) dX10_isClear_14 ?_
  refine w_iconst C dX10_isClear_17 kc_i_2 ?_
  obtain ⟨b3, hw⟩ := hw
  refine v_iald C ak_62 rfl (Nat.le_of_ble_eq_true rfl) b3 dX10_isClear_18 ?_
  refine w_aload_n C 0 dX10_isClear_19 rfl rfl ?_
  refine gf_X10_56 C (Nat.le_of_ble_eq_true rfl) dX10_isClear_20 ?_
  refine w_iload_n C 1 dX10_isClear_23 rfl rfl ?_
  obtain ⟨b4, hw⟩ := hw
  refine v_iald C ak_68 rfl (Nat.le_of_ble_eq_true rfl) b4 dX10_isClear_24 ?_
  refine w_icmp_ne C dX10_isClear_25 (tgt := 45) rfl (fun c5 => ?_) (fun c5 => ?_)
  · replace hw := hw.2 c5
    refine w_iconst C dX10_isClear_45 kc_i_0 ?_
    exact ret_Z C HT rfl hw dX10_isClear_46
  · replace hw := hw.1 c5
    refine w_aload_n C 0 dX10_isClear_28 rfl rfl ?_
    refine gf_X10_189 C (Nat.le_of_ble_eq_true rfl) dX10_isClear_29 ?_
    refine w_aload_n C 0 dX10_isClear_32 rfl rfl ?_
    refine gf_X10_53 C (Nat.le_of_ble_eq_true rfl) dX10_isClear_33 ?_
    refine w_iload_n C 1 dX10_isClear_36 rfl rfl ?_
    obtain ⟨b6, hw⟩ := hw
    refine v_iald C ak_67 rfl (Nat.le_of_ble_eq_true rfl) b6 dX10_isClear_37 ?_
    refine w_icmp_ne C dX10_isClear_38 (tgt := 45) rfl (fun c7 => ?_) (fun c7 => ?_)
    · replace hw := hw.2 c7
      refine w_iconst C dX10_isClear_45 kc_i_0 ?_
      exact ret_Z C HT rfl hw dX10_isClear_46
    · replace hw := hw.1 c7
      refine w_iconst C dX10_isClear_41 kc_i_1 ?_
      refine w_goto C dX10_isClear_42 (tgt := 46) rfl ?_
      exact ret_Z C HT rfl hw dX10_isClear_46
set_option maxRecDepth 100000 in
set_option maxHeartbeats 4000000 in
theorem s_X10_causesBy_66 {G : GG} {n : Nat} {E : EE} (C : Cx G n E RX10 cX10_causesBy 5) (HR : RM E 8 182) (HT : RT E (some .int)) {Q : Int32 → Mem → Prop}  : ∀ (x1 : Int32) (y0 : Int32) (y1 : Int32)  (M : Mem), w_X10_causesBy_66 Q  x1 y0 y1 M → WW G n E 5 (QE G E (Qi G n Q)) 66 [(0, .ref (gad G 10 0)), (1, .int x1)] [.int y0, .int y1] M := by
  intro x1 y0 y1 M hw
  refine w_iadd C dX10_causesBy_66 ?_
  refine w_aload_n C 0 dX10_causesBy_67 rfl rfl ?_
  refine w_iload_n C 1 dX10_causesBy_68 rfl rfl ?_
  refine back_I (run_V C HR mt_X10_isFromAfar (ci := 10) rfl (by decide) (Nat.le_of_ble_eq_true rfl) gw1369 gw64 gw1367 (by decide) rfl (Nat.le_of_ble_eq_true rfl) dX10_causesBy_69 (As := [.int x1]) rfl (c_X10_isFromAfar x1  _ _ hw)) (fun r9 M8 hw => ?_)
  refine w_if_eq C dX10_causesBy_72 (tgt := 79) rfl (fun c10 => ?_) (fun c10 => ?_)
  · replace hw := hw.1 c10
    refine w_iconst C dX10_causesBy_79 kc_i_0 ?_
    refine w_iadd C dX10_causesBy_80 ?_
    exact ret_I C HT hw dX10_causesBy_81
  · replace hw := hw.2 c10
    refine w_iconst C dX10_causesBy_75 kc_i_4 ?_
    refine w_goto C dX10_causesBy_76 (tgt := 80) rfl ?_
    refine w_iadd C dX10_causesBy_80 ?_
    exact ret_I C HT hw dX10_causesBy_81
set_option maxRecDepth 100000 in
set_option maxHeartbeats 4000000 in
theorem s_X10_causesBy_56 {G : GG} {n : Nat} {E : EE} (C : Cx G n E RX10 cX10_causesBy 5) (HR : RM E 8 182) (HT : RT E (some .int)) {Q : Int32 → Mem → Prop}  : ∀ (x1 : Int32) (x4 : Int32) (y0 : Int32)  (M : Mem), w_X10_causesBy_56 Q  x1 x4 y0 M → WW G n E 5 (QE G E (Qi G n Q)) 56 [(0, .ref (gad G 10 0)), (1, .int x1), (4, .int x4)] [.int y0] M := by
  intro x1 x4 y0 M hw
  refine w_iload C 2 dX10_causesBy_56 rfl ?_
  refine w_if_eq C dX10_causesBy_58 (tgt := 65) rfl (fun c7 => ?_) (fun c7 => ?_)
  · replace hw := hw.1 c7
    refine w_iconst C dX10_causesBy_65 kc_i_0 ?_
    exact w_sub [0, 1] rfl (s_X10_causesBy_66 C HR HT  x1 0 y0  _ hw)
  · replace hw := hw.2 c7
    refine w_iconst C dX10_causesBy_61 kc_i_2 ?_
    refine w_goto C dX10_causesBy_62 (tgt := 66) rfl ?_
    exact w_sub [0, 1] rfl (s_X10_causesBy_66 C HR HT  x1 2 y0  _ hw)
set_option maxRecDepth 100000 in
set_option maxHeartbeats 4000000 in
theorem s_X10_causesBy_45 {G : GG} {n : Nat} {E : EE} (C : Cx G n E RX10 cX10_causesBy 5) (HR : RM E 8 182) (HT : RT E (some .int)) {Q : Int32 → Mem → Prop}  : ∀ (x1 : Int32) (x3 : Int32) (y0 : Int32)  (M : Mem), w_X10_causesBy_45 Q  x1 x3 y0 M → WW G n E 5 (QE G E (Qi G n Q)) 45 [(0, .ref (gad G 10 0)), (1, .int x1), (3, .int x3)] [.int y0] M := by
  intro x1 x3 y0 M hw
  refine w_istore C (lv' := [(4, .int y0), (0, .ref (gad G 10 0)), (1, .int x1), (3, .int x3)]) dX10_causesBy_45 (by decide) rfl ?_
  refine w_iload_n C 3 dX10_causesBy_47 rfl rfl ?_
  refine w_if_eq C dX10_causesBy_48 (tgt := 55) rfl (fun c6 => ?_) (fun c6 => ?_)
  · replace hw := hw.1 c6
    refine w_iconst C dX10_causesBy_55 kc_i_0 ?_
    exact w_sub [1, 2, 0] rfl (s_X10_causesBy_56 C HR HT  x1 y0 0  _ hw)
  · replace hw := hw.2 c6
    refine w_iconst C dX10_causesBy_51 kc_i_1 ?_
    refine w_goto C dX10_causesBy_52 (tgt := 56) rfl ?_
    exact w_sub [1, 2, 0] rfl (s_X10_causesBy_56 C HR HT  x1 y0 1  _ hw)
set_option maxRecDepth 100000 in
set_option maxHeartbeats 4000000 in
theorem s_X10_causesBy_44 {G : GG} {n : Nat} {E : EE} (C : Cx G n E RX10 cX10_causesBy 5) (HR : RM E 8 182) (HT : RT E (some .int)) {Q : Int32 → Mem → Prop}  : ∀ (x1 : Int32) (x3 : Int32)  (M : Mem), w_X10_causesBy_44 Q  x1 x3 M → WW G n E 5 (QE G E (Qi G n Q)) 44 [(0, .ref (gad G 10 0)), (1, .int x1), (3, .int x3)] [] M := by
  intro x1 x3 M hw
  refine w_iconst C dX10_causesBy_44 kc_i_0 ?_
  exact w_sub [0, 1, 2] rfl (s_X10_causesBy_45 C HR HT  x1 x3 0  _ hw)
set_option maxRecDepth 100000 in
set_option maxHeartbeats 4000000 in
theorem c_X10_causesBy {G : GG} {n : Nat} {l : Launch} (x1 : Int32) (x2 : Int32)  (M : Mem) (Q : Int32 → Mem → Prop) (hw : wp_X10_causesBy x1 x2 M Q) : Ct G n l yX10_causesBy cX10_causesBy 5 (some .int) 8 182 [.ref (gad G 10 0), .int x1, .int x2] M (Qi G n Q) := by
  refine ct_of (by decide) (Nat.le_of_ble_eq_true rfl) (lv := [(0, .ref (gad G 10 0)), (1, .int x1), (2, .int x2)]) rfl (fun E C HR HT hE => ?_)
  replace C : Cx G n E RX10 cX10_causesBy 5 := C
  refine w_aload_n C 0 dX10_causesBy_0 rfl rfl ?_
  refine w_iload_n C 1 dX10_causesBy_1 rfl rfl ?_
  refine w_iload_n C 2 dX10_causesBy_2 rfl rfl ?_
  refine back_I (run_V C HR mt_X10_isClear (ci := 10) rfl (by decide) (Nat.le_of_ble_eq_true rfl) gw1354 gw61 gw1352 (by decide) rfl (Nat.le_of_ble_eq_true rfl) dX10_causesBy_3 (As := [.int x1, .int x2]) rfl (c_X10_isClear x1 x2  _ _ hw)) (fun r2 M1 hw => ?_)
  refine w_istore_n C (lv' := [(3, .int r2), (0, .ref (gad G 10 0)), (1, .int x1), (2, .int x2)]) dX10_causesBy_6 rfl (by decide) rfl ?_
  refine w_aload_n C 1 dX10_causesBy_7 rfl rfl ?_
  refine gf_X10_38 C (Nat.le_of_ble_eq_true rfl) dX10_causesBy_8 ?_
  refine w_iconst C dX10_causesBy_11 kc_i_2 ?_
  obtain ⟨b3, hw⟩ := hw
  refine v_iald C ak_62 rfl (Nat.le_of_ble_eq_true rfl) b3 dX10_causesBy_12 ?_
  refine w_aload_n C 1 dX10_causesBy_13 rfl rfl ?_
  refine gf_X10_56 C (Nat.le_of_ble_eq_true rfl) dX10_causesBy_14 ?_
  refine w_iload_n C 2 dX10_causesBy_17 rfl rfl ?_
  obtain ⟨b4, hw⟩ := hw
  refine v_iald C ak_68 rfl (Nat.le_of_ble_eq_true rfl) b4 dX10_causesBy_18 ?_
  refine w_icmp_ne C dX10_causesBy_19 (tgt := 44) rfl (fun c5 => ?_) (fun c5 => ?_)
  · replace hw := hw.2 c5
    exact w_sub [1, 2, 0] rfl (s_X10_causesBy_44 C HR HT  x1 r2  _ hw)
  · replace hw := hw.1 c5
    refine w_aload_n C 1 dX10_causesBy_22 rfl rfl ?_
    refine gf_X10_189 C (Nat.le_of_ble_eq_true rfl) dX10_causesBy_23 ?_
    refine w_aload_n C 1 dX10_causesBy_26 rfl rfl ?_
    refine gf_X10_53 C (Nat.le_of_ble_eq_true rfl) dX10_causesBy_27 ?_
    refine w_iload_n C 2 dX10_causesBy_30 rfl rfl ?_
    obtain ⟨b11, hw⟩ := hw
    refine v_iald C ak_67 rfl (Nat.le_of_ble_eq_true rfl) b11 dX10_causesBy_31 ?_
    refine w_isub C dX10_causesBy_32 ?_
    refine back_I (run_S C HR mt_X10_amount gw1365 gw1364 (by decide) rfl (Nat.le_of_ble_eq_true rfl) dX10_causesBy_33 (As := [.int ((M1 715 0 0) - (M1 67 0 x1.toNatClampNeg))]) rfl (c_X10_amount ((M1 715 0 0) - (M1 67 0 x1.toNatClampNeg))  _ _ hw)) (fun r13 M12 hw => ?_)
    refine w_iconst C dX10_causesBy_36 kc_i_1 ?_
    refine w_icmp_ne C dX10_causesBy_37 (tgt := 44) rfl (fun c14 => ?_) (fun c14 => ?_)
    · replace hw := hw.2 c14
      exact w_sub [1, 2, 0] rfl (s_X10_causesBy_44 C HR HT  x1 r2  _ hw)
    · replace hw := hw.1 c14
      refine w_iconst C dX10_causesBy_40 kc_i_1 ?_
      refine w_goto C dX10_causesBy_41 (tgt := 45) rfl ?_
      exact w_sub [1, 2, 0] rfl (s_X10_causesBy_45 C HR HT  x1 r2 1  _ hw)
set_option maxRecDepth 100000 in
set_option maxHeartbeats 4000000 in
theorem c_X10_fillMany {G : GG} {n : Nat} {l : Launch} (x1 : Int32)  (M : Mem) (Q : Int32 → Mem → Prop) (hw : wp_X10_fillMany x1 M Q) : Ct G n l yX10_fillMany cX10_fillMany 2 (some .int) 1 23 [.ref (gad G 10 0), .int x1] M (Qi G n Q) := by
  refine ct_of (by decide) (Nat.le_of_ble_eq_true rfl) (lv := [(0, .ref (gad G 10 0)), (1, .int x1)]) rfl (fun E C HR HT hE => ?_)
  replace C : Cx G n E RX10 cX10_fillMany 2 := C
  refine w_iconst C dX10_fillMany_0 kc_i_1 ?_
  refine w_iconst C dX10_fillMany_1 kc_i_3 ?_
  refine w_aload_n C 0 dX10_fillMany_2 rfl rfl ?_
  refine w_iload_n C 1 dX10_fillMany_3 rfl rfl ?_
  refine back_I (run_V C HR mt_X10_lostMany (ci := 10) rfl (by decide) (Nat.le_of_ble_eq_true rfl) gw1326 gw57 gw1324 (by decide) rfl (Nat.le_of_ble_eq_true rfl) dX10_fillMany_4 (As := [.int x1]) rfl (c_X10_lostMany x1  _ _ hw)) (fun r2 M1 hw => ?_)
  refine w_imul C dX10_fillMany_7 ?_
  refine w_ishl C dX10_fillMany_8 ?_
  exact ret_I C HT hw dX10_fillMany_9
set_option maxRecDepth 100000 in
set_option maxHeartbeats 4000000 in
theorem s_X10_fills_66 {G : GG} {n : Nat} {E : EE} (C : Cx G n E RX10 cX10_fills 6) (HR : RM E 9 206) (HT : RT E (some .int)) {Q : Int32 → Mem → Prop}  : ∀ (x2 : Int32) (x3 : Int32) (x4 : Int32)  (M : Mem), w_X10_fills_66 Q  x2 x3 x4 M → WW G n E 6 (QE G E (Qi G n Q)) 66 [(2, .int x2), (3, .int x3), (4, .int x4)] [] M := by
  intro x2 x3 x4 M hw
  refine w_iload_n C 0 dX10_fills_66 rfl rfl ?_
  refine w_if_ne C dX10_fills_67 (tgt := 74) rfl (fun c11 => ?_) (fun c11 => ?_)
  · replace hw := hw.2 c11
    refine w_iload C 2 dX10_fills_74 rfl ?_
    exact ret_I C HT hw dX10_fills_76
  · replace hw := hw.1 c11
    refine w_iload_n C 1 dX10_fills_70 rfl rfl ?_
    refine w_goto C dX10_fills_71 (tgt := 76) rfl ?_
    exact ret_I C HT hw dX10_fills_76
set_option maxRecDepth 100000 in
set_option maxHeartbeats 4000000 in
theorem s_X10_fills_32 {G : GG} {n : Nat} {E : EE} (C : Cx G n E RX10 cX10_fills 6) (HR : RM E 9 206) (HT : RT E (some .int)) {Q : Int32 → Mem → Prop}  : ∀ (f : Nat) (x1 : Int32) (x2 : Int32) (x3 : Int32) (x4 : Int32) (x5 : Int32)  (M : Mem), w_X10_fills_32 Q  f x1 x2 x3 x4 x5 M → WW G n E 6 (QE G E (Qi G n Q)) 32 [(0, .ref (gad G 10 0)), (1, .int x1), (2, .int x2), (3, .int x3), (4, .int x4), (5, .int x5)] [] M := by
  intro f
  induction f with
  | zero => intro x1 x2 x3 x4 x5 M hw; exact hw.elim
  | succ f ih =>
    intro x1 x2 x3 x4 x5 M hw
    refine w_iload C 5 dX10_fills_32 rfl ?_
    refine w_iload_n C 3 dX10_fills_34 rfl rfl ?_
    refine w_icmp_ge C dX10_fills_35 (tgt := 66) rfl (fun c10 => ?_) (fun c10 => ?_)
    · replace hw := hw.1 c10
      exact w_sub [2, 3, 4] rfl (s_X10_fills_66 C HR HT  x2 x3 x4  _ hw)
    · replace hw := hw.2 c10
      refine w_iload_n C 2 dX10_fills_38 rfl rfl ?_
      refine w_if_le C dX10_fills_39 (tgt := 66) rfl (fun c12 => ?_) (fun c12 => ?_)
      · replace hw := hw.1 c12
        exact w_sub [2, 3, 4] rfl (s_X10_fills_66 C HR HT  x2 x3 x4  _ hw)
      · replace hw := hw.2 c12
        refine w_iload C 4 dX10_fills_42 rfl ?_
        refine w_aload_n C 0 dX10_fills_44 rfl rfl ?_
        refine w_iload_n C 1 dX10_fills_45 rfl rfl ?_
        refine w_iload C 5 dX10_fills_46 rfl ?_
        refine back_I (run_V C HR mt_X10_causesBy (ci := 10) rfl (by decide) (Nat.le_of_ble_eq_true rfl) gw1350 gw60 gw1348 (by decide) rfl (Nat.le_of_ble_eq_true rfl) dX10_fills_48 (As := [.int x1, .int x5]) rfl (c_X10_causesBy x1 x5  _ _ hw)) (fun r14 M13 hw => ?_)
        refine w_iload_n C 2 dX10_fills_51 rfl rfl ?_
        refine w_iconst C dX10_fills_52 kc_i_1 ?_
        refine w_isub C dX10_fills_53 ?_
        refine w_ishr C dX10_fills_54 ?_
        refine w_iconst C dX10_fills_55 kc_i_1 ?_
        refine w_iand C dX10_fills_56 ?_
        refine w_iadd C dX10_fills_57 ?_
        refine w_istoreV C dX10_fills_58 (by decide) (fun a15 ea15 => w_lv (lv' := [(4, .int a15), (0, .ref (gad G 10 0)), (1, .int x1), (2, .int x2), (3, .int x3), (5, .int x5)]) rfl ?_)
        replace hw := hw a15 ea15
        refine w_iincV C (lv' := [(5, .int (x5 + 1)), (4, .int a15), (0, .ref (gad G 10 0)), (1, .int x1), (2, .int x2), (3, .int x3)]) 5 dX10_fills_60 kc_i_1 rfl (by decide) rfl ?_
        refine w_goto C dX10_fills_63 (tgt := 32) rfl ?_
        exact w_sub [2, 3, 4, 5, 1, 0] rfl (ih x1 x2 x3 a15 (x5 + 1)  _ hw)
set_option maxRecDepth 100000 in
set_option maxHeartbeats 4000000 in
theorem c_X10_fills {G : GG} {n : Nat} {l : Launch} (x1 : Int32) (x2 : Int32)  (M : Mem) (Q : Int32 → Mem → Prop) (hw : wp_X10_fills x1 x2 M Q) : Ct G n l yX10_fills cX10_fills 6 (some .int) 9 206 [.ref (gad G 10 0), .int x1, .int x2] M (Qi G n Q) := by
  refine ct_of (by decide) (Nat.le_of_ble_eq_true rfl) (lv := [(0, .ref (gad G 10 0)), (1, .int x1), (2, .int x2)]) rfl (fun E C HR HT hE => ?_)
  replace C : Cx G n E RX10 cX10_fills 6 := C
  refine w_aload_n C 0 dX10_fills_0 rfl rfl ?_
  refine w_iload_n C 1 dX10_fills_1 rfl rfl ?_
  refine back_I (run_V C HR mt_X10_isCounter (ci := 10) rfl (by decide) (Nat.le_of_ble_eq_true rfl) gw1306 gw54 gw1304 (by decide) rfl (Nat.le_of_ble_eq_true rfl) dX10_fills_2 (As := [.int x1]) rfl (c_X10_isCounter x1  _ _ hw)) (fun r2 M1 hw => ?_)
  refine w_if_eq C dX10_fills_5 (tgt := 17) rfl (fun c3 => ?_) (fun c3 => ?_)
  · replace hw := hw.1 c3
    refine w_bipush C dX10_fills_17 kc_b_m2 ?_
    exact ret_I C HT hw dX10_fills_19
  · replace hw := hw.2 c3
    refine w_iload_n C 2 dX10_fills_8 rfl rfl ?_
    refine w_iconst C dX10_fills_9 kc_i_0 ?_
    refine w_iconst C dX10_fills_10 kc_i_3 ?_
    refine back_I (run_S C HR mt_X10_in gw1179 gw1178 (by decide) rfl (Nat.le_of_ble_eq_true rfl) dX10_fills_11 (As := [.int x2, .int 0, .int 3]) rfl (c_X10_in x2 0 3  _ _ hw)) (fun r5 M4 hw => ?_)
    refine w_if_ne C dX10_fills_14 (tgt := 20) rfl (fun c6 => ?_) (fun c6 => ?_)
    · replace hw := hw.2 c6
      refine w_aload_n C 0 dX10_fills_20 rfl rfl ?_
      refine w_iload_n C 1 dX10_fills_21 rfl rfl ?_
      refine back_I (run_V C HR mt_X10_fillMany (ci := 10) rfl (by decide) (Nat.le_of_ble_eq_true rfl) gw1346 gw59 gw1344 (by decide) rfl (Nat.le_of_ble_eq_true rfl) dX10_fills_22 (As := [.int x1]) rfl (c_X10_fillMany x1  _ _ hw)) (fun r8 M7 hw => ?_)
      refine w_istore_n C (lv' := [(3, .int r8), (0, .ref (gad G 10 0)), (1, .int x1), (2, .int x2)]) dX10_fills_25 rfl (by decide) rfl ?_
      refine w_iconst C dX10_fills_26 kc_i_0 ?_
      refine w_istore C (lv' := [(4, .int 0), (3, .int r8), (0, .ref (gad G 10 0)), (1, .int x1), (2, .int x2)]) dX10_fills_27 (by decide) rfl ?_
      refine w_iconst C dX10_fills_29 kc_i_0 ?_
      refine w_istore C (lv' := [(5, .int 0), (4, .int 0), (3, .int r8), (0, .ref (gad G 10 0)), (1, .int x1), (2, .int x2)]) dX10_fills_30 (by decide) rfl ?_
      obtain ⟨f9, hw⟩ := hw
      exact w_sub [3, 4, 5, 2, 1, 0] rfl (s_X10_fills_32 C HR HT  f9 x1 x2 r8 0 0  _ hw)
    · replace hw := hw.1 c6
      refine w_bipush C dX10_fills_17 kc_b_m2 ?_
      exact ret_I C HT hw dX10_fills_19
set_option maxRecDepth 100000 in
set_option maxHeartbeats 4000000 in
theorem s_X10_causes_15 {G : GG} {n : Nat} {E : EE} (C : Cx G n E RX10 cX10_causes 4) (HR : RM E 9 206) (HT : RT E (some .int)) {Q : Int32 → Mem → Prop}  : ∀ (f : Nat) (x1 : Int32) (x2 : Int32) (x3 : Int32)  (M : Mem), w_X10_causes_15 Q  f x1 x2 x3 M → WW G n E 4 (QE G E (Qi G n Q)) 15 [(0, .ref (gad G 10 0)), (1, .int x1), (2, .int x2), (3, .int x3)] [] M := by
  intro f
  induction f with
  | zero => intro x1 x2 x3 M hw; exact hw.elim
  | succ f ih =>
    intro x1 x2 x3 M hw
    refine w_iload_n C 3 dX10_causes_15 rfl rfl ?_
    refine w_aload_n C 0 dX10_causes_16 rfl rfl ?_
    refine w_iload_n C 1 dX10_causes_17 rfl rfl ?_
    refine back_I (run_V C HR mt_X10_fillMany (ci := 10) rfl (by decide) (Nat.le_of_ble_eq_true rfl) gw1346 gw59 gw1344 (by decide) rfl (Nat.le_of_ble_eq_true rfl) dX10_causes_18 (As := [.int x1]) rfl (c_X10_fillMany x1  _ _ hw)) (fun r6 M5 hw => ?_)
    refine w_icmp_ge C dX10_causes_21 (tgt := 39) rfl (fun c7 => ?_) (fun c7 => ?_)
    · replace hw := hw.1 c7
      refine w_iload_n C 2 dX10_causes_39 rfl rfl ?_
      exact ret_I C HT hw dX10_causes_40
    · replace hw := hw.2 c7
      refine w_iload_n C 2 dX10_causes_24 rfl rfl ?_
      refine w_aload_n C 0 dX10_causes_25 rfl rfl ?_
      refine w_iload_n C 1 dX10_causes_26 rfl rfl ?_
      refine w_iload_n C 3 dX10_causes_27 rfl rfl ?_
      refine back_I (run_V C HR mt_X10_causesBy (ci := 10) rfl (by decide) (Nat.le_of_ble_eq_true rfl) gw1350 gw60 gw1348 (by decide) rfl (Nat.le_of_ble_eq_true rfl) dX10_causes_28 (As := [.int x1, .int x3]) rfl (c_X10_causesBy x1 x3  _ _ hw)) (fun r9 M8 hw => ?_)
      refine w_ior C dX10_causes_31 ?_
      refine w_istore_nV C dX10_causes_32 rfl (by decide) (fun a10 ea10 => w_lv (lv' := [(2, .int a10), (0, .ref (gad G 10 0)), (1, .int x1), (3, .int x3)]) rfl ?_)
      replace hw := hw a10 ea10
      refine w_iincV C (lv' := [(3, .int (x3 + 1)), (2, .int a10), (0, .ref (gad G 10 0)), (1, .int x1)]) 3 dX10_causes_33 kc_i_1 rfl (by decide) rfl ?_
      refine w_goto C dX10_causes_36 (tgt := 15) rfl ?_
      exact w_sub [2, 3, 1, 0] rfl (ih x1 a10 (x3 + 1)  _ hw)
set_option maxRecDepth 100000 in
set_option maxHeartbeats 4000000 in
theorem c_X10_causes {G : GG} {n : Nat} {l : Launch} (x1 : Int32)  (M : Mem) (Q : Int32 → Mem → Prop) (hw : wp_X10_causes x1 M Q) : Ct G n l yX10_causes cX10_causes 4 (some .int) 9 206 [.ref (gad G 10 0), .int x1] M (Qi G n Q) := by
  refine ct_of (by decide) (Nat.le_of_ble_eq_true rfl) (lv := [(0, .ref (gad G 10 0)), (1, .int x1)]) rfl (fun E C HR HT hE => ?_)
  replace C : Cx G n E RX10 cX10_causes 4 := C
  refine w_aload_n C 0 dX10_causes_0 rfl rfl ?_
  refine w_iload_n C 1 dX10_causes_1 rfl rfl ?_
  refine back_I (run_V C HR mt_X10_isCounter (ci := 10) rfl (by decide) (Nat.le_of_ble_eq_true rfl) gw1306 gw54 gw1304 (by decide) rfl (Nat.le_of_ble_eq_true rfl) dX10_causes_2 (As := [.int x1]) rfl (c_X10_isCounter x1  _ _ hw)) (fun r2 M1 hw => ?_)
  refine w_if_ne C dX10_causes_5 (tgt := 11) rfl (fun c3 => ?_) (fun c3 => ?_)
  · replace hw := hw.2 c3
    refine w_iconst C dX10_causes_11 kc_i_0 ?_
    refine w_istore_n C (lv' := [(2, .int 0), (0, .ref (gad G 10 0)), (1, .int x1)]) dX10_causes_12 rfl (by decide) rfl ?_
    refine w_iconst C dX10_causes_13 kc_i_0 ?_
    refine w_istore_n C (lv' := [(3, .int 0), (2, .int 0), (0, .ref (gad G 10 0)), (1, .int x1)]) dX10_causes_14 rfl (by decide) rfl ?_
    obtain ⟨f4, hw⟩ := hw
    exact w_sub [2, 3, 1, 0] rfl (s_X10_causes_15 C HR HT  f4 x1 0 0  _ hw)
  · replace hw := hw.1 c3
    refine w_bipush C dX10_causes_8 kc_b_m2 ?_
    exact ret_I C HT hw dX10_causes_10
set_option maxRecDepth 100000 in
set_option maxHeartbeats 4000000 in
theorem s_X10_settles_151 {G : GG} {n : Nat} {E : EE} (C : Cx G n E RX10 cX10_settles 6) (HR : RM E 0 0) (HT : RT E (some .boolean)) {Q : Int32 → Mem → Prop} {K67 : Int32 → Int32 → Int32 → Mem → Prop} (g67 : ∀ (x1 : Int32) (x3 : Int32) (x4 : Int32)  (M : Mem), K67 x1 x3 x4 M → WW G n E 6 (QE G E (Qi G n Q)) 67 [(0, .ref (gad G 10 0)), (1, .int x1), (3, .int x3), (4, .int x4)] [] M) : ∀ (x1 : Int32) (x3 : Int32) (x4 : Int32) (y0 : Int32) (y1 : Int32)  (M : Mem), w_X10_settles_151 Q K67 x1 x3 x4 y0 y1 M → WW G n E 6 (QE G E (Qi G n Q)) 151 [(0, .ref (gad G 10 0)), (1, .int x1), (3, .int x3), (4, .int x4)] [.int y0, .int y1, .ref (gad G 74 0)] M := by
  intro x1 x3 x4 y0 y1 M hw
  obtain ⟨b13, hw⟩ := hw
  refine v_iast C ak_74 rfl (Nat.le_of_ble_eq_true rfl) b13 dX10_settles_151 (w_mem fun M14 eM14 => ?_)
  replace hw := hw M14 eM14
  refine w_iincV C (lv' := [(4, .int (x4 + 1)), (0, .ref (gad G 10 0)), (1, .int x1), (3, .int x3)]) 3 dX10_settles_152 kc_i_1 rfl (by decide) rfl ?_
  refine w_goto C dX10_settles_155 (tgt := 67) rfl ?_
  exact w_sub [1, 2, 3, 0] rfl (g67 x1 x3 (x4 + 1)  _ hw)
set_option maxRecDepth 100000 in
set_option maxHeartbeats 4000000 in
theorem s_X10_settles_118 {G : GG} {n : Nat} {E : EE} (C : Cx G n E RX10 cX10_settles 6) (HR : RM E 0 0) (HT : RT E (some .boolean)) {Q : Int32 → Mem → Prop} {K67 : Int32 → Int32 → Int32 → Mem → Prop} (g67 : ∀ (x1 : Int32) (x3 : Int32) (x4 : Int32)  (M : Mem), K67 x1 x3 x4 M → WW G n E 6 (QE G E (Qi G n Q)) 67 [(0, .ref (gad G 10 0)), (1, .int x1), (3, .int x3), (4, .int x4)] [] M) : ∀ (x1 : Int32) (x3 : Int32) (x4 : Int32) (x5 : Int32)  (M : Mem), w_X10_settles_118 Q K67 x1 x3 x4 x5 M → WW G n E 6 (QE G E (Qi G n Q)) 118 [(0, .ref (gad G 10 0)), (1, .int x1), (3, .int x3), (4, .int x4), (5, .int x5)] [] M := by
  intro x1 x3 x4 x5 M hw
  refine w_aload_n C 0 dX10_settles_118 rfl rfl ?_
  refine gf_X10_74 C (Nat.le_of_ble_eq_true rfl) dX10_settles_119 ?_
  refine w_iload C 4 dX10_settles_122 rfl ?_
  refine w_aload_n C 0 dX10_settles_124 rfl rfl ?_
  refine gf_X10_71 C (Nat.le_of_ble_eq_true rfl) dX10_settles_125 ?_
  refine w_iload C 3 dX10_settles_128 rfl ?_
  obtain ⟨b10, hw⟩ := hw
  refine v_iald C ak_73 rfl (Nat.le_of_ble_eq_true rfl) b10 dX10_settles_130 ?_
  refine w_if_eq C dX10_settles_131 (tgt := 144) rfl (fun c11 => ?_) (fun c11 => ?_)
  · replace hw := hw.1 c11
    refine w_aload_n C 0 dX10_settles_144 rfl rfl ?_
    refine gf_X10_74 C (Nat.le_of_ble_eq_true rfl) dX10_settles_145 ?_
    refine w_iload C 4 dX10_settles_148 rfl ?_
    obtain ⟨b12, hw⟩ := hw
    refine v_iald C ak_74 rfl (Nat.le_of_ble_eq_true rfl) b12 dX10_settles_150 ?_
    exact w_sub [0, 1, 2, 3] rfl (s_X10_settles_151 C HR HT g67 x1 x3 x4 (M 74 0 x5.toNatClampNeg) x5  _ hw)
  · replace hw := hw.2 c11
    refine w_aload_n C 0 dX10_settles_134 rfl rfl ?_
    refine gf_X10_71 C (Nat.le_of_ble_eq_true rfl) dX10_settles_135 ?_
    refine w_iload C 3 dX10_settles_138 rfl ?_
    obtain ⟨b15, hw⟩ := hw
    refine v_iald C ak_73 rfl (Nat.le_of_ble_eq_true rfl) b15 dX10_settles_140 ?_
    refine w_goto C dX10_settles_141 (tgt := 151) rfl ?_
    exact w_sub [0, 1, 2, 3] rfl (s_X10_settles_151 C HR HT g67 x1 x3 x4 (M 73 0 x4.toNatClampNeg) x5  _ hw)
set_option maxRecDepth 100000 in
set_option maxHeartbeats 4000000 in
theorem s_X10_settles_67 {G : GG} {n : Nat} {E : EE} (C : Cx G n E RX10 cX10_settles 6) (HR : RM E 0 0) (HT : RT E (some .boolean)) {Q : Int32 → Mem → Prop}  : ∀ (f : Nat) (x1 : Int32) (x3 : Int32) (x4 : Int32)  (M : Mem), w_X10_settles_67 Q  f x1 x3 x4 M → WW G n E 6 (QE G E (Qi G n Q)) 67 [(0, .ref (gad G 10 0)), (1, .int x1), (3, .int x3), (4, .int x4)] [] M := by
  intro f
  induction f with
  | zero => intro x1 x3 x4 M hw; exact hw.elim
  | succ f ih =>
    intro x1 x3 x4 M hw
    refine w_iload C 3 dX10_settles_67 rfl ?_
    refine w_iload_n C 1 dX10_settles_69 rfl rfl ?_
    refine w_icmp_ge C dX10_settles_70 (tgt := 158) rfl (fun c6 => ?_) (fun c6 => ?_)
    · replace hw := hw.1 c6
      refine w_iconst C dX10_settles_158 kc_i_1 ?_
      exact ret_Z C HT rfl hw dX10_settles_159
    · replace hw := hw.2 c6
      refine w_iload C 3 dX10_settles_73 rfl ?_
      refine w_iload_n C 2 dX10_settles_75 rfl rfl ?_
      refine w_iand C dX10_settles_76 ?_
      refine w_istoreV C dX10_settles_77 (by decide) (fun a7 ea7 => w_lv (lv' := [(5, .int a7), (0, .ref (gad G 10 0)), (1, .int x1), (3, .int x3), (4, .int x4)]) rfl ?_)
      replace hw := hw a7 ea7
      refine w_aload_n C 1 dX10_settles_79 rfl rfl ?_
      refine gf_X10_71 C (Nat.le_of_ble_eq_true rfl) dX10_settles_80 ?_
      refine w_iload C 4 dX10_settles_83 rfl ?_
      obtain ⟨b8, hw⟩ := hw
      refine v_iald C ak_73 rfl (Nat.le_of_ble_eq_true rfl) b8 dX10_settles_85 ?_
      refine w_if_eq C dX10_settles_86 (tgt := 118) rfl (fun c9 => ?_) (fun c9 => ?_)
      · replace hw := hw.1 c9
        exact w_sub [1, 2, 3, 4, 0] rfl (s_X10_settles_118 C HR HT ih x1 x3 x4 a7  _ hw)
      · replace hw := hw.2 c9
        refine w_aload_n C 1 dX10_settles_89 rfl rfl ?_
        refine gf_X10_74 C (Nat.le_of_ble_eq_true rfl) dX10_settles_90 ?_
        refine w_iload C 0 dX10_settles_93 rfl ?_
        obtain ⟨b16, hw⟩ := hw
        refine v_iald C ak_74 rfl (Nat.le_of_ble_eq_true rfl) b16 dX10_settles_95 ?_
        refine w_if_eq C dX10_settles_96 (tgt := 118) rfl (fun c17 => ?_) (fun c17 => ?_)
        · replace hw := hw.1 c17
          exact w_sub [1, 2, 3, 4, 0] rfl (s_X10_settles_118 C HR HT ih x1 x3 x4 a7  _ hw)
        · replace hw := hw.2 c17
          refine w_aload_n C 1 dX10_settles_99 rfl rfl ?_
          refine gf_X10_74 C (Nat.le_of_ble_eq_true rfl) dX10_settles_100 ?_
          refine w_iload C 0 dX10_settles_103 rfl ?_
          obtain ⟨b18, hw⟩ := hw
          refine v_iald C ak_74 rfl (Nat.le_of_ble_eq_true rfl) b18 dX10_settles_105 ?_
          refine w_aload_n C 1 dX10_settles_106 rfl rfl ?_
          refine gf_X10_71 C (Nat.le_of_ble_eq_true rfl) dX10_settles_107 ?_
          refine w_iload C 4 dX10_settles_110 rfl ?_
          obtain ⟨b19, hw⟩ := hw
          refine v_iald C ak_73 rfl (Nat.le_of_ble_eq_true rfl) b19 dX10_settles_112 ?_
          refine w_icmp_eq C dX10_settles_113 (tgt := 118) rfl (fun c20 => ?_) (fun c20 => ?_)
          · replace hw := hw.1 c20
            exact w_sub [1, 2, 3, 4, 0] rfl (s_X10_settles_118 C HR HT ih x1 x3 x4 a7  _ hw)
          · replace hw := hw.2 c20
            refine w_iconst C dX10_settles_116 kc_i_0 ?_
            exact ret_Z C HT rfl hw dX10_settles_117
set_option maxRecDepth 100000 in
set_option maxHeartbeats 4000000 in
theorem s_X10_settles_44 {G : GG} {n : Nat} {E : EE} (C : Cx G n E RX10 cX10_settles 6) (HR : RM E 0 0) (HT : RT E (some .boolean)) {Q : Int32 → Mem → Prop}  : ∀ (f : Nat) (x1 : Int32) (x3 : Int32) (x4 : Int32)  (M : Mem), w_X10_settles_44 Q  f x1 x3 x4 M → WW G n E 6 (QE G E (Qi G n Q)) 44 [(0, .ref (gad G 10 0)), (1, .int x1), (3, .int x3), (4, .int x4)] [] M := by
  intro f
  induction f with
  | zero => intro x1 x3 x4 M hw; exact hw.elim
  | succ f ih =>
    intro x1 x3 x4 M hw
    refine w_iload C 3 dX10_settles_44 rfl ?_
    refine w_iload_n C 1 dX10_settles_46 rfl rfl ?_
    refine w_icmp_ge C dX10_settles_47 (tgt := 64) rfl (fun c4 => ?_) (fun c4 => ?_)
    · replace hw := hw.1 c4
      refine w_iconst C dX10_settles_64 kc_i_0 ?_
      refine w_istore C (lv' := [(4, .int 0), (0, .ref (gad G 10 0)), (1, .int x1), (3, .int x3)]) dX10_settles_65 (by decide) rfl ?_
      obtain ⟨f5, hw⟩ := hw
      exact w_sub [1, 2, 3, 0] rfl (s_X10_settles_67 C HR HT  f5 x1 x3 0  _ hw)
    · replace hw := hw.2 c4
      refine w_aload_n C 0 dX10_settles_50 rfl rfl ?_
      refine gf_X10_74 C (Nat.le_of_ble_eq_true rfl) dX10_settles_51 ?_
      refine w_iload C 3 dX10_settles_54 rfl ?_
      refine w_iconst C dX10_settles_56 kc_i_0 ?_
      obtain ⟨b21, hw⟩ := hw
      refine v_iast C ak_74 rfl (Nat.le_of_ble_eq_true rfl) b21 dX10_settles_57 (w_mem fun M22 eM22 => ?_)
      replace hw := hw M22 eM22
      refine w_iincV C (lv' := [(4, .int (x4 + 1)), (0, .ref (gad G 10 0)), (1, .int x1), (3, .int x3)]) 3 dX10_settles_58 kc_i_1 rfl (by decide) rfl ?_
      refine w_goto C dX10_settles_61 (tgt := 44) rfl ?_
      exact w_sub [1, 2, 3, 0] rfl (ih x1 x3 (x4 + 1)  _ hw)
set_option maxRecDepth 100000 in
set_option maxHeartbeats 4000000 in
theorem s_X10_settles_33 {G : GG} {n : Nat} {E : EE} (C : Cx G n E RX10 cX10_settles 6) (HR : RM E 0 0) (HT : RT E (some .boolean)) {Q : Int32 → Mem → Prop} {K5 : Int32 → Int32 → Int32 → Int32 → Mem → Prop} (g5 : ∀ (x1 : Int32) (x2 : Int32) (x3 : Int32) (x4 : Int32)  (M : Mem), K5 x1 x2 x3 x4 M → WW G n E 6 (QE G E (Qi G n Q)) 5 [(0, .ref (gad G 10 0)), (1, .int x1), (2, .int x2), (3, .int x3), (4, .int x4)] [] M) : ∀ (x1 : Int32) (x2 : Int32) (x4 : Int32) (y0 : Int32) (y1 : Int32)  (M : Mem), w_X10_settles_33 Q K5 x1 x2 x4 y0 y1 M → WW G n E 6 (QE G E (Qi G n Q)) 33 [(0, .ref (gad G 10 0)), (1, .int x1), (2, .int x2), (4, .int x4)] [.int y0, .int y1] M := by
  intro x1 x2 x4 y0 y1 M hw
  refine w_ior C dX10_settles_33 ?_
  refine w_istore_nV C dX10_settles_34 rfl (by decide) (fun a24 ea24 => w_lv (lv' := [(3, .int a24), (0, .ref (gad G 10 0)), (1, .int x1), (2, .int x2), (4, .int x4)]) rfl ?_)
  replace hw := hw a24 ea24
  refine w_iincV C (lv' := [(4, .int (x4 + 1)), (3, .int a24), (0, .ref (gad G 10 0)), (1, .int x1), (2, .int x2)]) 4 dX10_settles_35 kc_i_1 rfl (by decide) rfl ?_
  refine w_goto C dX10_settles_38 (tgt := 5) rfl ?_
  exact w_sub [2, 3, 4, 1, 0] rfl (g5 x1 x2 a24 (x4 + 1)  _ hw)
set_option maxRecDepth 100000 in
set_option maxHeartbeats 4000000 in
theorem s_X10_settles_5 {G : GG} {n : Nat} {E : EE} (C : Cx G n E RX10 cX10_settles 6) (HR : RM E 0 0) (HT : RT E (some .boolean)) {Q : Int32 → Mem → Prop}  : ∀ (f : Nat) (x1 : Int32) (x2 : Int32) (x3 : Int32) (x4 : Int32)  (M : Mem), w_X10_settles_5 Q  f x1 x2 x3 x4 M → WW G n E 6 (QE G E (Qi G n Q)) 5 [(0, .ref (gad G 10 0)), (1, .int x1), (2, .int x2), (3, .int x3), (4, .int x4)] [] M := by
  intro f
  induction f with
  | zero => intro x1 x2 x3 x4 M hw; exact hw.elim
  | succ f ih =>
    intro x1 x2 x3 x4 M hw
    refine w_iload C 4 dX10_settles_5 rfl ?_
    refine w_iconst C dX10_settles_7 kc_i_3 ?_
    refine w_icmp_ge C dX10_settles_8 (tgt := 41) rfl (fun c2 => ?_) (fun c2 => ?_)
    · replace hw := hw.1 c2
      refine w_iconst C dX10_settles_41 kc_i_0 ?_
      refine w_istore C (lv' := [(4, .int 0), (0, .ref (gad G 10 0)), (1, .int x1), (2, .int x2), (3, .int x3)]) dX10_settles_42 (by decide) rfl ?_
      obtain ⟨f3, hw⟩ := hw
      exact w_sub [1, 2, 4, 0] rfl (s_X10_settles_44 C HR HT  f3 x1 x3 0  _ hw)
    · replace hw := hw.2 c2
      refine w_iload_n C 3 dX10_settles_11 rfl rfl ?_
      refine w_iload_n C 2 dX10_settles_12 rfl rfl ?_
      refine w_iload C 4 dX10_settles_13 rfl ?_
      refine w_ishr C dX10_settles_15 ?_
      refine w_iconst C dX10_settles_16 kc_i_1 ?_
      refine w_iand C dX10_settles_17 ?_
      refine w_iconst C dX10_settles_18 kc_i_1 ?_
      refine w_icmp_ne C dX10_settles_19 (tgt := 32) rfl (fun c23 => ?_) (fun c23 => ?_)
      · replace hw := hw.2 c23
        refine w_iconst C dX10_settles_32 kc_i_0 ?_
        exact w_sub [0, 1, 2, 4] rfl (s_X10_settles_33 C HR HT ih x1 x2 x4 0 x3  _ hw)
      · replace hw := hw.1 c23
        refine w_bipush C dX10_settles_22 kc_b_7 ?_
        refine w_iconst C dX10_settles_24 kc_i_3 ?_
        refine w_iload C 4 dX10_settles_25 rfl ?_
        refine w_imul C dX10_settles_27 ?_
        refine w_ishl C dX10_settles_28 ?_
        refine w_goto C dX10_settles_29 (tgt := 33) rfl ?_
        exact w_sub [0, 1, 2, 4] rfl (s_X10_settles_33 C HR HT ih x1 x2 x4 (7 <<< ((3 * x4) &&& 31)) x3  _ hw)
set_option maxRecDepth 100000 in
set_option maxHeartbeats 4000000 in
theorem c_X10_settles {G : GG} {n : Nat} {l : Launch} (x1 : Int32) (x2 : Int32)  (M : Mem) (Q : Int32 → Mem → Prop) (hw : wp_X10_settles x1 x2 M Q) : Ct G n l yX10_settles cX10_settles 6 (some .boolean) 0 0 [.ref (gad G 10 0), .int x1, .int x2] M (Qi G n Q) := by
  refine ct_of (by decide) (Nat.le_of_ble_eq_true rfl) (lv := [(0, .ref (gad G 10 0)), (1, .int x1), (2, .int x2)]) rfl (fun E C HR HT hE => ?_)
  replace C : Cx G n E RX10 cX10_settles 6 := C
  refine w_iconst C dX10_settles_0 kc_i_0 ?_
  refine w_istore_n C (lv' := [(3, .int 0), (0, .ref (gad G 10 0)), (1, .int x1), (2, .int x2)]) dX10_settles_1 rfl (by decide) rfl ?_
  refine w_iconst C dX10_settles_2 kc_i_0 ?_
  refine w_istore C (lv' := [(4, .int 0), (3, .int 0), (0, .ref (gad G 10 0)), (1, .int x1), (2, .int x2)]) dX10_settles_3 (by decide) rfl ?_
  obtain ⟨f1, hw⟩ := hw
  exact w_sub [2, 3, 4, 1, 0] rfl (s_X10_settles_5 C HR HT  f1 x1 x2 0 0  _ hw)
set_option maxRecDepth 100000 in
set_option maxHeartbeats 4000000 in
theorem s_X10_settling_132 {G : GG} {n : Nat} {E : EE} (C : Cx G n E RX10 cX10_settling 7) (HR : RM E 9 206) (HT : RT E (some .int)) {Q : Int32 → Mem → Prop} {K84 : Int32 → Int32 → Int32 → Int32 → Int32 → Mem → Prop} (g84 : ∀ (x1 : Int32) (x2 : Int32) (x3 : Int32) (x5 : Int32) (x6 : Int32)  (M : Mem), K84 x1 x2 x3 x5 x6 M → WW G n E 7 (QE G E (Qi G n Q)) 84 [(0, .ref (gad G 10 0)), (1, .int x1), (2, .int x2), (3, .int x3), (5, .int x5), (6, .int x6)] [] M) : ∀ (x1 : Int32) (x2 : Int32) (x3 : Int32) (x6 : Int32) (y0 : Int32)  (M : Mem), w_X10_settling_132 Q K84 x1 x2 x3 x6 y0 M → WW G n E 7 (QE G E (Qi G n Q)) 132 [(0, .ref (gad G 10 0)), (1, .int x1), (2, .int x2), (3, .int x3), (6, .int x6)] [.int y0] M := by
  intro x1 x2 x3 x6 y0 M hw
  refine w_istore C (lv' := [(5, .int y0), (0, .ref (gad G 10 0)), (1, .int x1), (2, .int x2), (3, .int x3), (6, .int x6)]) dX10_settling_132 (by decide) rfl ?_
  refine w_iincV C (lv' := [(6, .int (x6 + 1)), (5, .int y0), (0, .ref (gad G 10 0)), (1, .int x1), (2, .int x2), (3, .int x3)]) 5 dX10_settling_134 kc_i_1 rfl (by decide) rfl ?_
  refine w_goto C dX10_settling_137 (tgt := 84) rfl ?_
  exact w_sub [2, 3, 4, 5, 1, 0] rfl (g84 x1 x2 x3 y0 (x6 + 1)  _ hw)
set_option maxRecDepth 100000 in
set_option maxHeartbeats 4000000 in
theorem s_X10_settling_130 {G : GG} {n : Nat} {E : EE} (C : Cx G n E RX10 cX10_settling 7) (HR : RM E 9 206) (HT : RT E (some .int)) {Q : Int32 → Mem → Prop} {K84 : Int32 → Int32 → Int32 → Int32 → Int32 → Mem → Prop} (g84 : ∀ (x1 : Int32) (x2 : Int32) (x3 : Int32) (x5 : Int32) (x6 : Int32)  (M : Mem), K84 x1 x2 x3 x5 x6 M → WW G n E 7 (QE G E (Qi G n Q)) 84 [(0, .ref (gad G 10 0)), (1, .int x1), (2, .int x2), (3, .int x3), (5, .int x5), (6, .int x6)] [] M) : ∀ (x1 : Int32) (x2 : Int32) (x3 : Int32) (x5 : Int32) (x6 : Int32)  (M : Mem), w_X10_settling_130 Q K84 x1 x2 x3 x5 x6 M → WW G n E 7 (QE G E (Qi G n Q)) 130 [(0, .ref (gad G 10 0)), (1, .int x1), (2, .int x2), (3, .int x3), (5, .int x5), (6, .int x6)] [] M := by
  intro x1 x2 x3 x5 x6 M hw
  refine w_iload C 4 dX10_settling_130 rfl ?_
  exact w_sub [0, 1, 2, 3, 5] rfl (s_X10_settling_132 C HR HT g84 x1 x2 x3 x6 x5  _ hw)
set_option maxRecDepth 100000 in
set_option maxHeartbeats 4000000 in
theorem s_X10_settling_115 {G : GG} {n : Nat} {E : EE} (C : Cx G n E RX10 cX10_settling 7) (HR : RM E 9 206) (HT : RT E (some .int)) {Q : Int32 → Mem → Prop} {K84 : Int32 → Int32 → Int32 → Int32 → Int32 → Mem → Prop} (g84 : ∀ (x1 : Int32) (x2 : Int32) (x3 : Int32) (x5 : Int32) (x6 : Int32)  (M : Mem), K84 x1 x2 x3 x5 x6 M → WW G n E 7 (QE G E (Qi G n Q)) 84 [(0, .ref (gad G 10 0)), (1, .int x1), (2, .int x2), (3, .int x3), (5, .int x5), (6, .int x6)] [] M) : ∀ (x1 : Int32) (x2 : Int32) (x3 : Int32) (x5 : Int32) (x6 : Int32)  (M : Mem), w_X10_settling_115 Q K84 x1 x2 x3 x5 x6 M → WW G n E 7 (QE G E (Qi G n Q)) 115 [(0, .ref (gad G 10 0)), (1, .int x1), (2, .int x2), (3, .int x3), (5, .int x5), (6, .int x6)] [] M := by
  intro x1 x2 x3 x5 x6 M hw
  refine w_aload_n C 0 dX10_settling_115 rfl rfl ?_
  refine w_iload_n C 3 dX10_settling_116 rfl rfl ?_
  refine w_iload C 5 dX10_settling_117 rfl ?_
  refine back_I (run_V C HR mt_X10_settles (ci := 10) rfl (by decide) (Nat.le_of_ble_eq_true rfl) gw1381 gw65 gw1379 (by decide) rfl (Nat.le_of_ble_eq_true rfl) dX10_settling_119 (As := [.int x3, .int x6]) rfl (c_X10_settles x3 x6  _ _ hw)) (fun r22 M21 hw => ?_)
  refine w_if_eq C dX10_settling_122 (tgt := 130) rfl (fun c23 => ?_) (fun c23 => ?_)
  · replace hw := hw.1 c23
    exact w_sub [0, 1, 2, 3, 4, 5] rfl (s_X10_settling_130 C HR HT g84 x1 x2 x3 x5 x6  _ hw)
  · replace hw := hw.2 c23
    refine w_iload C 5 dX10_settling_125 rfl ?_
    refine w_goto C dX10_settling_127 (tgt := 132) rfl ?_
    exact w_sub [0, 1, 2, 3, 5] rfl (s_X10_settling_132 C HR HT g84 x1 x2 x3 x6 x6  _ hw)
set_option maxRecDepth 100000 in
set_option maxHeartbeats 4000000 in
theorem s_X10_settling_84 {G : GG} {n : Nat} {E : EE} (C : Cx G n E RX10 cX10_settling 7) (HR : RM E 9 206) (HT : RT E (some .int)) {Q : Int32 → Mem → Prop}  : ∀ (f : Nat) (x1 : Int32) (x2 : Int32) (x3 : Int32) (x5 : Int32) (x6 : Int32)  (M : Mem), w_X10_settling_84 Q  f x1 x2 x3 x5 x6 M → WW G n E 7 (QE G E (Qi G n Q)) 84 [(0, .ref (gad G 10 0)), (1, .int x1), (2, .int x2), (3, .int x3), (5, .int x5), (6, .int x6)] [] M := by
  intro f
  induction f with
  | zero => intro x1 x2 x3 x5 x6 M hw; exact hw.elim
  | succ f ih =>
    intro x1 x2 x3 x5 x6 M hw
    refine w_iload C 5 dX10_settling_84 rfl ?_
    refine w_iconst C dX10_settling_86 kc_i_1 ?_
    refine w_aload_n C 0 dX10_settling_87 rfl rfl ?_
    refine w_iload_n C 1 dX10_settling_88 rfl rfl ?_
    refine back_I (run_V C HR mt_X10_lostMany (ci := 10) rfl (by decide) (Nat.le_of_ble_eq_true rfl) gw1326 gw57 gw1324 (by decide) rfl (Nat.le_of_ble_eq_true rfl) dX10_settling_89 (As := [.int x1]) rfl (c_X10_lostMany x1  _ _ hw)) (fun r14 M13 hw => ?_)
    refine w_ishl C dX10_settling_92 ?_
    refine w_icmp_ge C dX10_settling_93 (tgt := 140) rfl (fun c15 => ?_) (fun c15 => ?_)
    · replace hw := hw.1 c15
      refine w_iload_n C 2 dX10_settling_140 rfl rfl ?_
      refine w_if_ne C dX10_settling_141 (tgt := 149) rfl (fun c16 => ?_) (fun c16 => ?_)
      · replace hw := hw.2 c16
        refine w_iload C 4 dX10_settling_149 rfl ?_
        refine back_I (run_S C HR mt_X10_ones gw1294 gw1293 (by decide) rfl (Nat.le_of_ble_eq_true rfl) dX10_settling_151 (As := [.int x5]) rfl (c_X10_ones x5  _ _ hw)) (fun r18 M17 hw => ?_)
        refine w_aload_n C 0 dX10_settling_154 rfl rfl ?_
        refine gf_X10_59 C (Nat.le_of_ble_eq_true rfl) dX10_settling_155 ?_
        refine w_iload_n C 1 dX10_settling_158 rfl rfl ?_
        obtain ⟨b19, hw⟩ := hw
        refine v_iald C ak_69 rfl (Nat.le_of_ble_eq_true rfl) b19 dX10_settling_159 ?_
        refine w_imul C dX10_settling_160 ?_
        exact ret_I C HT hw dX10_settling_161
      · replace hw := hw.1 c16
        refine w_iload C 4 dX10_settling_144 rfl ?_
        refine w_goto C dX10_settling_146 (tgt := 161) rfl ?_
        exact ret_I C HT hw dX10_settling_161
    · replace hw := hw.2 c15
      refine w_iload C 4 dX10_settling_96 rfl ?_
      refine w_iconst C dX10_settling_98 kc_i_m1 ?_
      refine w_icmp_eq C dX10_settling_99 (tgt := 115) rfl (fun c20 => ?_) (fun c20 => ?_)
      · replace hw := hw.1 c20
        exact w_sub [0, 1, 2, 3, 4, 5] rfl (s_X10_settling_115 C HR HT ih x1 x2 x3 x5 x6  _ hw)
      · replace hw := hw.2 c20
        refine w_iload C 5 dX10_settling_102 rfl ?_
        refine back_I (run_S C HR mt_X10_ones gw1294 gw1293 (by decide) rfl (Nat.le_of_ble_eq_true rfl) dX10_settling_104 (As := [.int x6]) rfl (c_X10_ones x6  _ _ hw)) (fun r25 M24 hw => ?_)
        refine w_iload C 4 dX10_settling_107 rfl ?_
        refine back_I (run_S C HR mt_X10_ones gw1294 gw1293 (by decide) rfl (Nat.le_of_ble_eq_true rfl) dX10_settling_109 (As := [.int x5]) rfl (c_X10_ones x5  _ _ hw)) (fun r27 M26 hw => ?_)
        refine w_icmp_ge C dX10_settling_112 (tgt := 130) rfl (fun c28 => ?_) (fun c28 => ?_)
        · replace hw := hw.1 c28
          exact w_sub [0, 1, 2, 3, 4, 5] rfl (s_X10_settling_130 C HR HT ih x1 x2 x3 x5 x6  _ hw)
        · replace hw := hw.2 c28
          exact w_sub [0, 1, 2, 3, 4, 5] rfl (s_X10_settling_115 C HR HT ih x1 x2 x3 x5 x6  _ hw)
set_option maxRecDepth 100000 in
set_option maxHeartbeats 4000000 in
theorem s_X10_settling_32 {G : GG} {n : Nat} {E : EE} (C : Cx G n E RX10 cX10_settling 7) (HR : RM E 9 206) (HT : RT E (some .int)) {Q : Int32 → Mem → Prop}  : ∀ (f : Nat) (x1 : Int32) (x2 : Int32) (x3 : Int32) (x4 : Int32) (x5 : Int32)  (M : Mem), w_X10_settling_32 Q  f x1 x2 x3 x4 x5 M → WW G n E 7 (QE G E (Qi G n Q)) 32 [(0, .ref (gad G 10 0)), (1, .int x1), (2, .int x2), (3, .int x3), (4, .int x4), (5, .int x5)] [] M := by
  intro f
  induction f with
  | zero => intro x1 x2 x3 x4 x5 M hw; exact hw.elim
  | succ f ih =>
    intro x1 x2 x3 x4 x5 M hw
    refine w_iload C 5 dX10_settling_32 rfl ?_
    refine w_iload_n C 3 dX10_settling_34 rfl rfl ?_
    refine w_icmp_ge C dX10_settling_35 (tgt := 70) rfl (fun c10 => ?_) (fun c10 => ?_)
    · replace hw := hw.1 c10
      refine w_iload C 4 dX10_settling_70 rfl ?_
      refine w_if_ne C dX10_settling_72 (tgt := 78) rfl (fun c11 => ?_) (fun c11 => ?_)
      · replace hw := hw.2 c11
        refine w_iconst C dX10_settling_78 kc_i_m1 ?_
        refine w_istore C (lv' := [(5, .int (-1)), (0, .ref (gad G 10 0)), (1, .int x1), (2, .int x2), (3, .int x3), (4, .int x4)]) dX10_settling_79 (by decide) rfl ?_
        refine w_iconst C dX10_settling_81 kc_i_0 ?_
        refine w_istore C (lv' := [(6, .int 0), (5, .int (-1)), (0, .ref (gad G 10 0)), (1, .int x1), (2, .int x2), (3, .int x3), (4, .int x4)]) dX10_settling_82 (by decide) rfl ?_
        obtain ⟨f12, hw⟩ := hw
        exact w_sub [2, 3, 4, 5, 1, 0] rfl (s_X10_settling_84 C HR HT  f12 x1 x2 x3 (-1) 0  _ hw)
      · replace hw := hw.1 c11
        refine w_bipush C dX10_settling_75 kc_b_m3 ?_
        exact ret_I C HT hw dX10_settling_77
    · replace hw := hw.2 c10
      refine w_aload_n C 0 dX10_settling_38 rfl rfl ?_
      refine gf_X10_71 C (Nat.le_of_ble_eq_true rfl) dX10_settling_39 ?_
      refine w_iload C 5 dX10_settling_42 rfl ?_
      refine w_aload_n C 0 dX10_settling_44 rfl rfl ?_
      refine w_iload_n C 1 dX10_settling_45 rfl rfl ?_
      refine w_iload C 5 dX10_settling_46 rfl ?_
      refine back_I (run_V C HR mt_X10_causesBy (ci := 10) rfl (by decide) (Nat.le_of_ble_eq_true rfl) gw1350 gw60 gw1348 (by decide) rfl (Nat.le_of_ble_eq_true rfl) dX10_settling_48 (As := [.int x1, .int x5]) rfl (c_X10_causesBy x1 x5  _ _ hw)) (fun r30 M29 hw => ?_)
      obtain ⟨b31, hw⟩ := hw
      refine v_iast C ak_73 rfl (Nat.le_of_ble_eq_true rfl) b31 dX10_settling_51 (w_mem fun M32 eM32 => ?_)
      replace hw := hw M32 eM32
      refine w_iload C 4 dX10_settling_52 rfl ?_
      refine w_aload_n C 0 dX10_settling_54 rfl rfl ?_
      refine gf_X10_71 C (Nat.le_of_ble_eq_true rfl) dX10_settling_55 ?_
      refine w_iload C 5 dX10_settling_58 rfl ?_
      obtain ⟨b33, hw⟩ := hw
      refine v_iald C ak_73 rfl (Nat.le_of_ble_eq_true rfl) b33 dX10_settling_60 ?_
      refine w_ior C dX10_settling_61 ?_
      refine w_istoreV C dX10_settling_62 (by decide) (fun a34 ea34 => w_lv (lv' := [(4, .int a34), (0, .ref (gad G 10 0)), (1, .int x1), (2, .int x2), (3, .int x3), (5, .int x5)]) rfl ?_)
      replace hw := hw a34 ea34
      refine w_iincV C (lv' := [(5, .int (x5 + 1)), (4, .int a34), (0, .ref (gad G 10 0)), (1, .int x1), (2, .int x2), (3, .int x3)]) 5 dX10_settling_64 kc_i_1 rfl (by decide) rfl ?_
      refine w_goto C dX10_settling_67 (tgt := 32) rfl ?_
      exact w_sub [2, 3, 4, 5, 1, 0] rfl (ih x1 x2 x3 a34 (x5 + 1)  _ hw)
set_option maxRecDepth 100000 in
set_option maxHeartbeats 4000000 in
theorem c_X10_settling {G : GG} {n : Nat} {l : Launch} (x1 : Int32) (x2 : Int32)  (M : Mem) (Q : Int32 → Mem → Prop) (hw : wp_X10_settling x1 x2 M Q) : Ct G n l yX10_settling cX10_settling 7 (some .int) 9 206 [.ref (gad G 10 0), .int x1, .int x2] M (Qi G n Q) := by
  refine ct_of (by decide) (Nat.le_of_ble_eq_true rfl) (lv := [(0, .ref (gad G 10 0)), (1, .int x1), (2, .int x2)]) rfl (fun E C HR HT hE => ?_)
  replace C : Cx G n E RX10 cX10_settling 7 := C
  refine w_aload_n C 0 dX10_settling_0 rfl rfl ?_
  refine w_iload_n C 1 dX10_settling_1 rfl rfl ?_
  refine back_I (run_V C HR mt_X10_isCounter (ci := 10) rfl (by decide) (Nat.le_of_ble_eq_true rfl) gw1306 gw54 gw1304 (by decide) rfl (Nat.le_of_ble_eq_true rfl) dX10_settling_2 (As := [.int x1]) rfl (c_X10_isCounter x1  _ _ hw)) (fun r2 M1 hw => ?_)
  refine w_if_eq C dX10_settling_5 (tgt := 17) rfl (fun c3 => ?_) (fun c3 => ?_)
  · replace hw := hw.1 c3
    refine w_bipush C dX10_settling_17 kc_b_m2 ?_
    exact ret_I C HT hw dX10_settling_19
  · replace hw := hw.2 c3
    refine w_iload_n C 2 dX10_settling_8 rfl rfl ?_
    refine w_iconst C dX10_settling_9 kc_i_0 ?_
    refine w_iconst C dX10_settling_10 kc_i_1 ?_
    refine back_I (run_S C HR mt_X10_in gw1179 gw1178 (by decide) rfl (Nat.le_of_ble_eq_true rfl) dX10_settling_11 (As := [.int x2, .int 0, .int 1]) rfl (c_X10_in x2 0 1  _ _ hw)) (fun r5 M4 hw => ?_)
    refine w_if_ne C dX10_settling_14 (tgt := 20) rfl (fun c6 => ?_) (fun c6 => ?_)
    · replace hw := hw.2 c6
      refine w_aload_n C 0 dX10_settling_20 rfl rfl ?_
      refine w_iload_n C 1 dX10_settling_21 rfl rfl ?_
      refine back_I (run_V C HR mt_X10_fillMany (ci := 10) rfl (by decide) (Nat.le_of_ble_eq_true rfl) gw1346 gw59 gw1344 (by decide) rfl (Nat.le_of_ble_eq_true rfl) dX10_settling_22 (As := [.int x1]) rfl (c_X10_fillMany x1  _ _ hw)) (fun r8 M7 hw => ?_)
      refine w_istore_n C (lv' := [(3, .int r8), (0, .ref (gad G 10 0)), (1, .int x1), (2, .int x2)]) dX10_settling_25 rfl (by decide) rfl ?_
      refine w_iconst C dX10_settling_26 kc_i_0 ?_
      refine w_istore C (lv' := [(4, .int 0), (3, .int r8), (0, .ref (gad G 10 0)), (1, .int x1), (2, .int x2)]) dX10_settling_27 (by decide) rfl ?_
      refine w_iconst C dX10_settling_29 kc_i_0 ?_
      refine w_istore C (lv' := [(5, .int 0), (4, .int 0), (3, .int r8), (0, .ref (gad G 10 0)), (1, .int x1), (2, .int x2)]) dX10_settling_30 (by decide) rfl ?_
      obtain ⟨f9, hw⟩ := hw
      exact w_sub [3, 4, 5, 2, 1, 0] rfl (s_X10_settling_32 C HR HT  f9 x1 x2 r8 0 0  _ hw)
    · replace hw := hw.1 c6
      refine w_bipush C dX10_settling_17 kc_b_m2 ?_
      exact ret_I C HT hw dX10_settling_19
set_option maxRecDepth 100000 in
set_option maxHeartbeats 4000000 in
theorem s_X10_comesIn_87 {G : GG} {n : Nat} {E : EE} (C : Cx G n E RX10 cX10_comesIn 8) (HR : RM E 0 0) (HT : RT E (some .boolean)) {Q : Int32 → Mem → Prop} {K3 : Int32 → Int32 → Int32 → Int32 → Mem → Prop} (g3 : ∀ (x1 : Int32) (x2 : Int32) (x3 : Int32) (x4 : Int32)  (M : Mem), K3 x1 x2 x3 x4 M → WW G n E 8 (QE G E (Qi G n Q)) 3 [(0, .ref (gad G 10 0)), (1, .int x1), (2, .int x2), (3, .int x3), (4, .int x4)] [] M) {K22 : Int32 → Int32 → Int32 → Int32 → Int32 → Int32 → Mem → Prop} (g22 : ∀ (x1 : Int32) (x2 : Int32) (x3 : Int32) (x4 : Int32) (x5 : Int32) (x6 : Int32)  (M : Mem), K22 x1 x2 x3 x4 x5 x6 M → WW G n E 8 (QE G E (Qi G n Q)) 22 [(0, .ref (gad G 10 0)), (1, .int x1), (2, .int x2), (3, .int x3), (4, .int x4), (5, .int x5), (6, .int x6)] [] M) : ∀ (x1 : Int32) (x2 : Int32) (x3 : Int32) (x4 : Int32) (x6 : Int32) (y0 : Int32)  (M : Mem), w_X10_comesIn_87 Q K3 K22 x1 x2 x3 x4 x6 y0 M → WW G n E 8 (QE G E (Qi G n Q)) 87 [(0, .ref (gad G 10 0)), (1, .int x1), (2, .int x2), (3, .int x3), (4, .int x4), (6, .int x6)] [.int y0] M := by
  intro x1 x2 x3 x4 x6 y0 M hw
  refine w_istore C (lv' := [(5, .int y0), (0, .ref (gad G 10 0)), (1, .int x1), (2, .int x2), (3, .int x3), (4, .int x4), (6, .int x6)]) dX10_comesIn_87 (by decide) rfl ?_
  refine w_iincV C (lv' := [(6, .int (x6 + 1)), (5, .int y0), (0, .ref (gad G 10 0)), (1, .int x1), (2, .int x2), (3, .int x3), (4, .int x4)]) 6 dX10_comesIn_89 kc_i_1 rfl (by decide) rfl ?_
  refine w_goto C dX10_comesIn_92 (tgt := 22) rfl ?_
  exact w_sub [2, 3, 4, 5, 6, 1, 0] rfl (g22 x1 x2 x3 x4 y0 (x6 + 1)  _ hw)
set_option maxRecDepth 100000 in
set_option maxHeartbeats 4000000 in
theorem s_X10_comesIn_86 {G : GG} {n : Nat} {E : EE} (C : Cx G n E RX10 cX10_comesIn 8) (HR : RM E 0 0) (HT : RT E (some .boolean)) {Q : Int32 → Mem → Prop} {K3 : Int32 → Int32 → Int32 → Int32 → Mem → Prop} (g3 : ∀ (x1 : Int32) (x2 : Int32) (x3 : Int32) (x4 : Int32)  (M : Mem), K3 x1 x2 x3 x4 M → WW G n E 8 (QE G E (Qi G n Q)) 3 [(0, .ref (gad G 10 0)), (1, .int x1), (2, .int x2), (3, .int x3), (4, .int x4)] [] M) {K22 : Int32 → Int32 → Int32 → Int32 → Int32 → Int32 → Mem → Prop} (g22 : ∀ (x1 : Int32) (x2 : Int32) (x3 : Int32) (x4 : Int32) (x5 : Int32) (x6 : Int32)  (M : Mem), K22 x1 x2 x3 x4 x5 x6 M → WW G n E 8 (QE G E (Qi G n Q)) 22 [(0, .ref (gad G 10 0)), (1, .int x1), (2, .int x2), (3, .int x3), (4, .int x4), (5, .int x5), (6, .int x6)] [] M) : ∀ (x1 : Int32) (x2 : Int32) (x3 : Int32) (x4 : Int32) (x6 : Int32)  (M : Mem), w_X10_comesIn_86 Q K3 K22 x1 x2 x3 x4 x6 M → WW G n E 8 (QE G E (Qi G n Q)) 86 [(0, .ref (gad G 10 0)), (1, .int x1), (2, .int x2), (3, .int x3), (4, .int x4), (6, .int x6)] [] M := by
  intro x1 x2 x3 x4 x6 M hw
  refine w_iconst C dX10_comesIn_86 kc_i_0 ?_
  exact w_sub [0, 1, 2, 3, 4, 5] rfl (s_X10_comesIn_87 C HR HT g3 g22 x1 x2 x3 x4 x6 0  _ hw)
set_option maxRecDepth 100000 in
set_option maxHeartbeats 4000000 in
theorem s_X10_comesIn_82 {G : GG} {n : Nat} {E : EE} (C : Cx G n E RX10 cX10_comesIn 8) (HR : RM E 0 0) (HT : RT E (some .boolean)) {Q : Int32 → Mem → Prop} {K3 : Int32 → Int32 → Int32 → Int32 → Mem → Prop} (g3 : ∀ (x1 : Int32) (x2 : Int32) (x3 : Int32) (x4 : Int32)  (M : Mem), K3 x1 x2 x3 x4 M → WW G n E 8 (QE G E (Qi G n Q)) 3 [(0, .ref (gad G 10 0)), (1, .int x1), (2, .int x2), (3, .int x3), (4, .int x4)] [] M) {K22 : Int32 → Int32 → Int32 → Int32 → Int32 → Int32 → Mem → Prop} (g22 : ∀ (x1 : Int32) (x2 : Int32) (x3 : Int32) (x4 : Int32) (x5 : Int32) (x6 : Int32)  (M : Mem), K22 x1 x2 x3 x4 x5 x6 M → WW G n E 8 (QE G E (Qi G n Q)) 22 [(0, .ref (gad G 10 0)), (1, .int x1), (2, .int x2), (3, .int x3), (4, .int x4), (5, .int x5), (6, .int x6)] [] M) : ∀ (x1 : Int32) (x2 : Int32) (x3 : Int32) (x4 : Int32) (x6 : Int32)  (M : Mem), w_X10_comesIn_82 Q K3 K22 x1 x2 x3 x4 x6 M → WW G n E 8 (QE G E (Qi G n Q)) 82 [(0, .ref (gad G 10 0)), (1, .int x1), (2, .int x2), (3, .int x3), (4, .int x4), (6, .int x6)] [] M := by
  intro x1 x2 x3 x4 x6 M hw
  refine w_iconst C dX10_comesIn_82 kc_i_1 ?_
  refine w_goto C dX10_comesIn_83 (tgt := 87) rfl ?_
  exact w_sub [0, 1, 2, 3, 4, 5] rfl (s_X10_comesIn_87 C HR HT g3 g22 x1 x2 x3 x4 x6 1  _ hw)
set_option maxRecDepth 100000 in
set_option maxHeartbeats 4000000 in
theorem s_X10_comesIn_22 {G : GG} {n : Nat} {E : EE} (C : Cx G n E RX10 cX10_comesIn 8) (HR : RM E 0 0) (HT : RT E (some .boolean)) {Q : Int32 → Mem → Prop} {K3 : Int32 → Int32 → Int32 → Int32 → Mem → Prop} (g3 : ∀ (x1 : Int32) (x2 : Int32) (x3 : Int32) (x4 : Int32)  (M : Mem), K3 x1 x2 x3 x4 M → WW G n E 8 (QE G E (Qi G n Q)) 3 [(0, .ref (gad G 10 0)), (1, .int x1), (2, .int x2), (3, .int x3), (4, .int x4)] [] M) : ∀ (f : Nat) (x1 : Int32) (x2 : Int32) (x3 : Int32) (x4 : Int32) (x5 : Int32) (x6 : Int32)  (M : Mem), w_X10_comesIn_22 Q K3 f x1 x2 x3 x4 x5 x6 M → WW G n E 8 (QE G E (Qi G n Q)) 22 [(0, .ref (gad G 10 0)), (1, .int x1), (2, .int x2), (3, .int x3), (4, .int x4), (5, .int x5), (6, .int x6)] [] M := by
  intro f
  induction f with
  | zero => intro x1 x2 x3 x4 x5 x6 M hw; exact hw.elim
  | succ f ih =>
    intro x1 x2 x3 x4 x5 x6 M hw
    refine w_iload C 6 dX10_comesIn_22 rfl ?_
    refine w_iload_n C 3 dX10_comesIn_24 rfl rfl ?_
    refine w_icmp_ge C dX10_comesIn_25 (tgt := 95) rfl (fun c5 => ?_) (fun c5 => ?_)
    · replace hw := hw.1 c5
      refine w_iload C 5 dX10_comesIn_95 rfl ?_
      refine w_if_eq C dX10_comesIn_97 (tgt := 102) rfl (fun c6 => ?_) (fun c6 => ?_)
      · replace hw := hw.1 c6
        refine w_iincV C (lv' := [(4, .int (x4 + 1)), (0, .ref (gad G 10 0)), (1, .int x1), (2, .int x2), (3, .int x3), (5, .int x5), (6, .int x6)]) 4 dX10_comesIn_102 kc_i_1 rfl (by decide) rfl ?_
        refine w_goto C dX10_comesIn_105 (tgt := 3) rfl ?_
        exact w_sub [1, 2, 3, 4, 0] rfl (g3 x1 x2 x3 (x4 + 1)  _ hw)
      · replace hw := hw.2 c6
        refine w_iconst C dX10_comesIn_100 kc_i_1 ?_
        exact ret_Z C HT rfl hw dX10_comesIn_101
    · replace hw := hw.2 c5
      refine w_aload_n C 0 dX10_comesIn_28 rfl rfl ?_
      refine gf_X10_50 C (Nat.le_of_ble_eq_true rfl) dX10_comesIn_29 ?_
      refine w_bipush C dX10_comesIn_32 kc_b_12 ?_
      refine w_iload_n C 1 dX10_comesIn_34 rfl rfl ?_
      refine w_imul C dX10_comesIn_35 ?_
      refine w_iload C 4 dX10_comesIn_36 rfl ?_
      refine w_iadd C dX10_comesIn_38 ?_
      refine w_iload C 6 dX10_comesIn_39 rfl ?_
      refine w_iadd C dX10_comesIn_41 ?_
      obtain ⟨b7, hw⟩ := hw
      refine v_iald C ak_66 rfl (Nat.le_of_ble_eq_true rfl) b7 dX10_comesIn_42 ?_
      refine w_istoreV C dX10_comesIn_43 (by decide) (fun a8 ea8 => w_lv (lv' := [(7, .int a8), (0, .ref (gad G 10 0)), (1, .int x1), (2, .int x2), (3, .int x3), (4, .int x4), (5, .int x5), (6, .int x6)]) rfl ?_)
      replace hw := hw a8 ea8
      refine w_iload C 6 dX10_comesIn_45 rfl ?_
      refine w_if_eq C dX10_comesIn_47 (tgt := 86) rfl (fun c9 => ?_) (fun c9 => ?_)
      · replace hw := hw.1 c9
        exact w_sub [1, 2, 3, 4, 5, 7] rfl (s_X10_comesIn_86 C HR HT g3 ih x1 x2 x3 x4 x6  _ hw)
      · replace hw := hw.2 c9
        refine w_iload C 0 dX10_comesIn_50 rfl ?_
        refine w_iconst C dX10_comesIn_52 kc_i_m1 ?_
        refine w_icmp_eq C dX10_comesIn_53 (tgt := 82) rfl (fun c10 => ?_) (fun c10 => ?_)
        · replace hw := hw.1 c10
          exact w_sub [1, 2, 3, 4, 5, 7] rfl (s_X10_comesIn_82 C HR HT g3 ih x1 x2 x3 x4 x6  _ hw)
        · replace hw := hw.2 c10
          refine w_iload C 0 dX10_comesIn_56 rfl ?_
          refine w_aload_n C 1 dX10_comesIn_58 rfl rfl ?_
          refine gf_X10_50 C (Nat.le_of_ble_eq_true rfl) dX10_comesIn_59 ?_
          refine w_bipush C dX10_comesIn_62 kc_b_12 ?_
          refine w_iload_n C 3 dX10_comesIn_64 rfl rfl ?_
          refine w_imul C dX10_comesIn_65 ?_
          refine w_aload_n C 1 dX10_comesIn_66 rfl rfl ?_
          refine gf_X10_47 C (Nat.le_of_ble_eq_true rfl) dX10_comesIn_67 ?_
          refine w_iload_n C 3 dX10_comesIn_70 rfl rfl ?_
          obtain ⟨b11, hw⟩ := hw
          refine v_iald C ak_65 rfl (Nat.le_of_ble_eq_true rfl) b11 dX10_comesIn_71 ?_
          refine w_iadd C dX10_comesIn_72 ?_
          refine w_iload_n C 4 dX10_comesIn_73 rfl rfl ?_
          refine w_isub C dX10_comesIn_74 ?_
          refine w_iload C 7 dX10_comesIn_75 rfl ?_
          refine w_iadd C dX10_comesIn_77 ?_
          obtain ⟨b12, hw⟩ := hw
          refine v_iald C ak_66 rfl (Nat.le_of_ble_eq_true rfl) b12 dX10_comesIn_78 ?_
          refine w_icmp_ne C dX10_comesIn_79 (tgt := 86) rfl (fun c13 => ?_) (fun c13 => ?_)
          · replace hw := hw.2 c13
            exact w_sub [1, 2, 3, 4, 5, 7] rfl (s_X10_comesIn_86 C HR HT g3 ih x1 x2 x3 x4 x6  _ hw)
          · replace hw := hw.1 c13
            exact w_sub [1, 2, 3, 4, 5, 7] rfl (s_X10_comesIn_82 C HR HT g3 ih x1 x2 x3 x4 x6  _ hw)
set_option maxRecDepth 100000 in
set_option maxHeartbeats 4000000 in
theorem s_X10_comesIn_3 {G : GG} {n : Nat} {E : EE} (C : Cx G n E RX10 cX10_comesIn 8) (HR : RM E 0 0) (HT : RT E (some .boolean)) {Q : Int32 → Mem → Prop}  : ∀ (f : Nat) (x1 : Int32) (x2 : Int32) (x3 : Int32) (x4 : Int32)  (M : Mem), w_X10_comesIn_3 Q  f x1 x2 x3 x4 M → WW G n E 8 (QE G E (Qi G n Q)) 3 [(0, .ref (gad G 10 0)), (1, .int x1), (2, .int x2), (3, .int x3), (4, .int x4)] [] M := by
  intro f
  induction f with
  | zero => intro x1 x2 x3 x4 M hw; exact hw.elim
  | succ f ih =>
    intro x1 x2 x3 x4 M hw
    refine w_iload C 4 dX10_comesIn_3 rfl ?_
    refine w_iload_n C 3 dX10_comesIn_5 rfl rfl ?_
    refine w_iadd C dX10_comesIn_6 ?_
    refine w_aload_n C 0 dX10_comesIn_7 rfl rfl ?_
    refine gf_X10_47 C (Nat.le_of_ble_eq_true rfl) dX10_comesIn_8 ?_
    refine w_iload_n C 1 dX10_comesIn_11 rfl rfl ?_
    obtain ⟨b2, hw⟩ := hw
    refine v_iald C ak_65 rfl (Nat.le_of_ble_eq_true rfl) b2 dX10_comesIn_12 ?_
    refine w_icmp_gt C dX10_comesIn_13 (tgt := 108) rfl (fun c3 => ?_) (fun c3 => ?_)
    · replace hw := hw.1 c3
      refine w_iconst C dX10_comesIn_108 kc_i_0 ?_
      exact ret_Z C HT rfl hw dX10_comesIn_109
    · replace hw := hw.2 c3
      refine w_iconst C dX10_comesIn_16 kc_i_1 ?_
      refine w_istore C (lv' := [(5, .int 1), (0, .ref (gad G 10 0)), (1, .int x1), (2, .int x2), (3, .int x3), (4, .int x4)]) dX10_comesIn_17 (by decide) rfl ?_
      refine w_iconst C dX10_comesIn_19 kc_i_0 ?_
      refine w_istore C (lv' := [(6, .int 0), (5, .int 1), (0, .ref (gad G 10 0)), (1, .int x1), (2, .int x2), (3, .int x3), (4, .int x4)]) dX10_comesIn_20 (by decide) rfl ?_
      obtain ⟨f4, hw⟩ := hw
      exact w_sub [2, 3, 4, 5, 6, 1, 0] rfl (s_X10_comesIn_22 C HR HT ih f4 x1 x2 x3 x4 1 0  _ hw)
