set_option maxRecDepth 100000 in
set_option maxHeartbeats 4000000 in
theorem c_X9_write {G : GG} {n : Nat} {l : Launch} (x1 : Int32) (x2 : Int32)  (M : Mem) (Q : Int32 → Mem → Prop) (hw : wp_X9_write x1 x2 M Q) : Ct G n l yX9_write cX9_write 6 (some .int) 1 64 [.ref (gad G 9 0), .int x1, .int x2] M (Qi G n Q) := by
  refine ct_of (by decide) (Nat.le_of_ble_eq_true rfl) (lv := [(0, .ref (gad G 9 0)), (1, .int x1), (2, .int x2)]) rfl (fun E C HR HT hE => ?_)
  replace C : Cx G n E RX9 cX9_write 6 := C
  refine w_aload_n C 0 dX9_write_0 rfl rfl ?_
  refine w_iload_n C 1 dX9_write_1 rfl rfl ?_
  refine back_R (run_V C HR mt_X9_counterAt (ci := 9) rfl (by decide) (Nat.le_of_ble_eq_true rfl) gw726 gw14 gw724 (by decide) rfl (Nat.le_of_ble_eq_true rfl) dX9_write_2 (As := [.int x1]) rfl (c_X9_counterAt x1  _ _ hw)) (fun M1 hw => ?_) (fun j2 M1 hj2 hw => ?_)
  · replace hw := hw.1 rfl
    refine w_astore_nN C (lv' := [(3, .null), (0, .ref (gad G 9 0)), (1, .int x1), (2, .int x2)]) dX9_write_5 rfl (by decide) rfl ?_
    refine w_aload_n C 1 dX9_write_6 rfl rfl ?_
    refine w_iload_n C 3 dX9_write_7 rfl rfl ?_
    refine back_R (run_V C HR mt_X9_sheetAt (ci := 9) rfl (by decide) (Nat.le_of_ble_eq_true rfl) gw533 gw4 gw531 (by decide) rfl (Nat.le_of_ble_eq_true rfl) dX9_write_8 (As := [.int x2]) rfl (c_X9_sheetAt x2  _ _ hw)) (fun M4 hw => ?_) (fun j5 M4 hj5 hw => ?_)
    · replace hw := hw.1 rfl
      refine w_astoreN C (lv' := [(4, .null), (3, .null), (0, .ref (gad G 9 0)), (1, .int x1), (2, .int x2)]) dX9_write_11 (by decide) rfl ?_
      refine w_aload_nN C 1 dX9_write_13 rfl rfl ?_
      refine w_ifnullN C dX9_write_14 (tgt := 22) rfl ?_
      refine w_bipush C dX9_write_22 kc_b_m2 ?_
      exact ret_I C HT hw dX9_write_24
    · replace hw := hw.2 j5 rfl
      refine w_astore C (lv' := [(4, .ref (gad G 7 j5)), (3, .null), (0, .ref (gad G 9 0)), (1, .int x1), (2, .int x2)]) dX9_write_11 (by decide) rfl ?_
      refine w_aload_nN C 1 dX9_write_13 rfl rfl ?_
      refine w_ifnullN C dX9_write_14 (tgt := 22) rfl ?_
      refine w_bipush C dX9_write_22 kc_b_m2 ?_
      exact ret_I C HT hw dX9_write_24
  · replace hw := hw.2 j2 rfl
    refine w_astore_n C (lv' := [(3, .ref (gad G 0 j2)), (0, .ref (gad G 9 0)), (1, .int x1), (2, .int x2)]) dX9_write_5 rfl (by decide) rfl ?_
    refine w_aload_n C 1 dX9_write_6 rfl rfl ?_
    refine w_iload_n C 3 dX9_write_7 rfl rfl ?_
    refine back_R (run_V C HR mt_X9_sheetAt (ci := 9) rfl (by decide) (Nat.le_of_ble_eq_true rfl) gw533 gw4 gw531 (by decide) rfl (Nat.le_of_ble_eq_true rfl) dX9_write_8 (As := [.int x2]) rfl (c_X9_sheetAt x2  _ _ hw)) (fun M7 hw => ?_) (fun j8 M7 hj8 hw => ?_)
    · replace hw := hw.1 rfl
      refine w_astoreN C (lv' := [(4, .null), (3, .ref (gad G 0 j2)), (0, .ref (gad G 9 0)), (1, .int x1), (2, .int x2)]) dX9_write_11 (by decide) rfl ?_
      refine w_aload_n C 1 dX9_write_13 rfl rfl ?_
      refine w_ifnull C dX9_write_14 ?_
      refine w_aloadN C 0 dX9_write_17 rfl ?_
      refine w_ifnonnullN C dX9_write_19 ?_
      refine w_bipush C dX9_write_22 kc_b_m2 ?_
      exact ret_I C HT hw dX9_write_24
    · replace hw := hw.2 j8 rfl
      refine w_astore C (lv' := [(4, .ref (gad G 7 j8)), (3, .ref (gad G 0 j2)), (0, .ref (gad G 9 0)), (1, .int x1), (2, .int x2)]) dX9_write_11 (by decide) rfl ?_
      refine w_aload_n C 1 dX9_write_13 rfl rfl ?_
      refine w_ifnull C dX9_write_14 ?_
      refine w_aload C 0 dX9_write_17 rfl ?_
      refine w_ifnonnull C dX9_write_19 (tgt := 25) rfl ?_
      refine w_aload C 0 dX9_write_25 rfl ?_
      refine gf_X9_123 C hj8 dX9_write_27 ?_
      refine w_if_eq C dX9_write_30 (tgt := 39) rfl (fun c10 => ?_) (fun c10 => ?_)
      · replace hw := hw.1 c10
        refine w_aload_n C 1 dX9_write_39 rfl rfl ?_
        refine gf_X9_220 C hj2 dX9_write_40 ?_
        refine w_aload C 0 dX9_write_43 rfl ?_
        refine gf_X9_127 C hj8 dX9_write_45 ?_
        refine back_I (run_S C HR mt_J9_min_7cf53 gw439 gw743 (by decide) rfl (Nat.le_of_ble_eq_true rfl) dX9_write_48 (As := [.int (M7 202 j2 0), .int (M7 553 j8 0)]) rfl (c_J9_min_7cf53 (M7 202 j2 0) (M7 553 j8 0)  _ _ hw)) (fun r12 M11 hw => ?_)
        refine w_istore C (lv' := [(5, .int r12), (4, .ref (gad G 7 j8)), (3, .ref (gad G 0 j2)), (0, .ref (gad G 9 0)), (1, .int x1), (2, .int x2)]) dX9_write_51 (by decide) rfl ?_
        refine w_aload_n C 2 dX9_write_53 rfl rfl ?_
        refine gf_X9_221 C hj2 dX9_write_54 ?_
        refine w_iconst C dX9_write_57 kc_i_0 ?_
        refine w_aload C 1 dX9_write_58 rfl ?_
        refine gf_X9_133 C hj8 dX9_write_60 ?_
        refine w_iconst C dX9_write_63 kc_i_0 ?_
        refine w_iload C 0 dX9_write_64 rfl ?_
        obtain ⟨p1, p2, p3, p4, p5, hw⟩ := hw
        refine w_acopy C HR ak_20.1 ak_20.2.1 ak_20.2.2.1 ak_20.2.2.2 hj2 ak_42.1 ak_42.2.1 ak_42.2.2.1 ak_42.2.2.2 hj8 gw985 gw987 gw986 gw95 p1 p2 p3 p4 p5 (by decide) (by decide) dX9_write_66 (w_mem fun M13 eM13 => ?_)
        replace hw := hw M13 eM13
        refine w_iload C 0 dX9_write_69 rfl ?_
        exact ret_I C HT hw dX9_write_71
      · replace hw := hw.2 c10
        refine w_aload_n C 2 dX9_write_33 rfl rfl ?_
        refine w_iconst C dX9_write_34 kc_i_1 ?_
        refine back_I (run_V C HR mt_X9_finding (ci := 9) rfl (by decide) (Nat.le_of_ble_eq_true rfl) gw730 gw15 gw728 (by decide) rfl (Nat.le_of_ble_eq_true rfl) dX9_write_35 (As := [.int 1]) rfl (c_X9_finding 1  _ _ hw)) (fun r15 M14 hw => ?_)
        exact ret_I C HT hw dX9_write_38
set_option maxRecDepth 100000 in
set_option maxHeartbeats 4000000 in
theorem s_X9_countBytes_28 {G : GG} {n : Nat} {E : EE} (C : Cx G n E RX9 cX9_countBytes 4) (HR : RM E 1 21) (HT : RT E (some .int)) {Q : Int32 → Mem → Prop} {K4 : Int32 → Int32 → Mem → Prop} (g4 : ∀ (x1 : Int32) (x2 : Int32)  (M : Mem), K4 x1 x2 M → WW G n E 4 (QE G E (Qi G n Q)) 4 [(0, .ref (gad G 9 0)), (1, .int x1), (2, .int x2)] [] M) : ∀ (x2 : Int32) (y0 : Int32) (y1 : Int32)  (M : Mem), w_X9_countBytes_28 Q K4 x2 y0 y1 M → WW G n E 4 (QE G E (Qi G n Q)) 28 [(0, .ref (gad G 9 0)), (2, .int x2)] [.int y0, .int y1] M := by
  intro x2 y0 y1 M hw
  refine w_iadd C dX9_countBytes_28 ?_
  refine w_istore_nV C dX9_countBytes_29 rfl (by decide) (fun a6 ea6 => w_lv (lv' := [(1, .int a6), (0, .ref (gad G 9 0)), (2, .int x2)]) rfl ?_)
  replace hw := hw a6 ea6
  refine w_iincV C (lv' := [(2, .int (x2 + 1)), (1, .int a6), (0, .ref (gad G 9 0))]) 2 dX9_countBytes_30 kc_i_1 rfl (by decide) rfl ?_
  refine w_goto C dX9_countBytes_33 (tgt := 4) rfl ?_
  exact w_sub [2, 1, 0] rfl (g4 a6 (x2 + 1)  _ hw)
set_option maxRecDepth 100000 in
set_option maxHeartbeats 4000000 in
theorem s_X9_countBytes_4 {G : GG} {n : Nat} {E : EE} (C : Cx G n E RX9 cX9_countBytes 4) (HR : RM E 1 21) (HT : RT E (some .int)) {Q : Int32 → Mem → Prop}  : ∀ (f : Nat) (x1 : Int32) (x2 : Int32)  (M : Mem), w_X9_countBytes_4 Q  f x1 x2 M → WW G n E 4 (QE G E (Qi G n Q)) 4 [(0, .ref (gad G 9 0)), (1, .int x1), (2, .int x2)] [] M := by
  intro f
  induction f with
  | zero => intro x1 x2 M hw; exact hw.elim
  | succ f ih =>
    intro x1 x2 M hw
    refine w_iload_n C 2 dX9_countBytes_4 rfl rfl ?_
    refine w_iconst C dX9_countBytes_5 kc_i_4 ?_
    refine w_icmp_ge C dX9_countBytes_6 (tgt := 36) rfl (fun c2 => ?_) (fun c2 => ?_)
    · replace hw := hw.1 c2
      refine w_iload_n C 1 dX9_countBytes_36 rfl rfl ?_
      exact ret_I C HT hw dX9_countBytes_37
    · replace hw := hw.2 c2
      refine w_aload_n C 0 dX9_countBytes_9 rfl rfl ?_
      refine w_iload_n C 2 dX9_countBytes_10 rfl rfl ?_
      refine back_R (run_V C HR mt_X9_versionAt (ci := 9) rfl (by decide) (Nat.le_of_ble_eq_true rfl) gw374 gw0 gw372 (by decide) rfl (Nat.le_of_ble_eq_true rfl) dX9_countBytes_11 (As := [.int x2]) rfl (c_X9_versionAt x2  _ _ hw)) (fun M3 hw => ?_) (fun j4 M3 hj4 hw => ?_)
      · replace hw := hw.1 rfl
        refine w_astore_nN C (lv' := [(3, .null), (0, .ref (gad G 9 0)), (1, .int x1), (2, .int x2)]) dX9_countBytes_14 rfl (by decide) rfl ?_
        refine w_iload_n C 2 dX9_countBytes_15 rfl rfl ?_
        refine w_aload_nN C 0 dX9_countBytes_16 rfl rfl ?_
        refine w_ifnonnullN C dX9_countBytes_17 ?_
        refine w_iconst C dX9_countBytes_20 kc_i_0 ?_
        refine w_goto C dX9_countBytes_21 (tgt := 28) rfl ?_
        exact w_sub [1, 3] rfl (s_X9_countBytes_28 C HR HT ih x2 0 x1  _ hw)
      · replace hw := hw.2 j4 rfl
        refine w_astore_n C (lv' := [(3, .ref (gad G 8 j4)), (0, .ref (gad G 9 0)), (1, .int x1), (2, .int x2)]) dX9_countBytes_14 rfl (by decide) rfl ?_
        refine w_iload_n C 2 dX9_countBytes_15 rfl rfl ?_
        refine w_aload_n C 0 dX9_countBytes_16 rfl rfl ?_
        refine w_ifnonnull C dX9_countBytes_17 (tgt := 24) rfl ?_
        refine w_aload_n C 0 dX9_countBytes_24 rfl rfl ?_
        refine gf_X9_362 C hj4 dX9_countBytes_25 ?_
        exact w_sub [1, 3] rfl (s_X9_countBytes_28 C HR HT ih x2 (M3 606 j4 0) x1  _ hw)
set_option maxRecDepth 100000 in
set_option maxHeartbeats 4000000 in
theorem c_X9_countBytes {G : GG} {n : Nat} {l : Launch}   (M : Mem) (Q : Int32 → Mem → Prop) (hw : wp_X9_countBytes  M Q) : Ct G n l yX9_countBytes cX9_countBytes 4 (some .int) 1 21 [.ref (gad G 9 0)] M (Qi G n Q) := by
  refine ct_of (by decide) (Nat.le_of_ble_eq_true rfl) (lv := [(0, .ref (gad G 9 0))]) rfl (fun E C HR HT hE => ?_)
  replace C : Cx G n E RX9 cX9_countBytes 4 := C
  refine w_iconst C dX9_countBytes_0 kc_i_0 ?_
  refine w_istore_n C (lv' := [(1, .int 0), (0, .ref (gad G 9 0))]) dX9_countBytes_1 rfl (by decide) rfl ?_
  refine w_iconst C dX9_countBytes_2 kc_i_0 ?_
  refine w_istore_n C (lv' := [(2, .int 0), (1, .int 0), (0, .ref (gad G 9 0))]) dX9_countBytes_3 rfl (by decide) rfl ?_
  obtain ⟨f1, hw⟩ := hw
  exact w_sub [2, 1, 0] rfl (s_X9_countBytes_4 C HR HT  f1 0 0  _ hw)
set_option maxRecDepth 100000 in
set_option maxHeartbeats 4000000 in
theorem s_X9_countLogged_31 {G : GG} {n : Nat} {E : EE} (C : Cx G n E RX9 cX9_countLogged 4) (HR : RM E 1 21) (HT : RT E (some .int)) {Q : Int32 → Mem → Prop} {K4 : Int32 → Int32 → Mem → Prop} (g4 : ∀ (x1 : Int32) (x2 : Int32)  (M : Mem), K4 x1 x2 M → WW G n E 4 (QE G E (Qi G n Q)) 4 [(0, .ref (gad G 9 0)), (1, .int x1), (2, .int x2)] [] M) : ∀ (x2 : Int32) (y0 : Int32) (y1 : Int32)  (M : Mem), w_X9_countLogged_31 Q K4 x2 y0 y1 M → WW G n E 4 (QE G E (Qi G n Q)) 31 [(0, .ref (gad G 9 0)), (2, .int x2)] [.int y0, .int y1] M := by
  intro x2 y0 y1 M hw
  refine w_iadd C dX9_countLogged_31 ?_
  refine w_istore_nV C dX9_countLogged_32 rfl (by decide) (fun a6 ea6 => w_lv (lv' := [(1, .int a6), (0, .ref (gad G 9 0)), (2, .int x2)]) rfl ?_)
  replace hw := hw a6 ea6
  refine w_iincV C (lv' := [(2, .int (x2 + 1)), (1, .int a6), (0, .ref (gad G 9 0))]) 2 dX9_countLogged_33 kc_i_1 rfl (by decide) rfl ?_
  refine w_goto C dX9_countLogged_36 (tgt := 4) rfl ?_
  exact w_sub [2, 1, 0] rfl (g4 a6 (x2 + 1)  _ hw)
set_option maxRecDepth 100000 in
set_option maxHeartbeats 4000000 in
theorem s_X9_countLogged_4 {G : GG} {n : Nat} {E : EE} (C : Cx G n E RX9 cX9_countLogged 4) (HR : RM E 1 21) (HT : RT E (some .int)) {Q : Int32 → Mem → Prop}  : ∀ (f : Nat) (x1 : Int32) (x2 : Int32)  (M : Mem), w_X9_countLogged_4 Q  f x1 x2 M → WW G n E 4 (QE G E (Qi G n Q)) 4 [(0, .ref (gad G 9 0)), (1, .int x1), (2, .int x2)] [] M := by
  intro f
  induction f with
  | zero => intro x1 x2 M hw; exact hw.elim
  | succ f ih =>
    intro x1 x2 M hw
    refine w_iload_n C 2 dX9_countLogged_4 rfl rfl ?_
    refine w_aload_n C 0 dX9_countLogged_5 rfl rfl ?_
    refine gf_X9_66 C (Nat.le_of_ble_eq_true rfl) dX9_countLogged_6 ?_
    refine w_icmp_ge C dX9_countLogged_9 (tgt := 39) rfl (fun c2 => ?_) (fun c2 => ?_)
    · replace hw := hw.1 c2
      refine w_iload_n C 1 dX9_countLogged_39 rfl rfl ?_
      exact ret_I C HT hw dX9_countLogged_40
    · replace hw := hw.2 c2
      refine w_aload_n C 0 dX9_countLogged_12 rfl rfl ?_
      refine w_iload_n C 2 dX9_countLogged_13 rfl rfl ?_
      refine back_R (run_V C HR mt_X9_counterAt (ci := 9) rfl (by decide) (Nat.le_of_ble_eq_true rfl) gw726 gw14 gw724 (by decide) rfl (Nat.le_of_ble_eq_true rfl) dX9_countLogged_14 (As := [.int x2]) rfl (c_X9_counterAt x2  _ _ hw)) (fun M3 hw => ?_) (fun j4 M3 hj4 hw => ?_)
      · replace hw := hw.1 rfl
        refine w_astore_nN C (lv' := [(3, .null), (0, .ref (gad G 9 0)), (1, .int x1), (2, .int x2)]) dX9_countLogged_17 rfl (by decide) rfl ?_
        refine w_iload_n C 2 dX9_countLogged_18 rfl rfl ?_
        refine w_aload_nN C 0 dX9_countLogged_19 rfl rfl ?_
        refine w_ifnonnullN C dX9_countLogged_20 ?_
        refine w_iconst C dX9_countLogged_23 kc_i_0 ?_
        refine w_goto C dX9_countLogged_24 (tgt := 31) rfl ?_
        exact w_sub [1, 3] rfl (s_X9_countLogged_31 C HR HT ih x2 0 x1  _ hw)
      · replace hw := hw.2 j4 rfl
        refine w_astore_n C (lv' := [(3, .ref (gad G 0 j4)), (0, .ref (gad G 9 0)), (1, .int x1), (2, .int x2)]) dX9_countLogged_17 rfl (by decide) rfl ?_
        refine w_iload_n C 2 dX9_countLogged_18 rfl rfl ?_
        refine w_aload_n C 0 dX9_countLogged_19 rfl rfl ?_
        refine w_ifnonnull C dX9_countLogged_20 (tgt := 27) rfl ?_
        refine w_aload_n C 0 dX9_countLogged_27 rfl rfl ?_
        refine gf_X9_220 C hj4 dX9_countLogged_28 ?_
        exact w_sub [1, 3] rfl (s_X9_countLogged_31 C HR HT ih x2 (M3 202 j4 0) x1  _ hw)
set_option maxRecDepth 100000 in
set_option maxHeartbeats 4000000 in
theorem c_X9_countLogged {G : GG} {n : Nat} {l : Launch}   (M : Mem) (Q : Int32 → Mem → Prop) (hw : wp_X9_countLogged  M Q) : Ct G n l yX9_countLogged cX9_countLogged 4 (some .int) 1 21 [.ref (gad G 9 0)] M (Qi G n Q) := by
  refine ct_of (by decide) (Nat.le_of_ble_eq_true rfl) (lv := [(0, .ref (gad G 9 0))]) rfl (fun E C HR HT hE => ?_)
  replace C : Cx G n E RX9 cX9_countLogged 4 := C
  refine w_iconst C dX9_countLogged_0 kc_i_0 ?_
  refine w_istore_n C (lv' := [(1, .int 0), (0, .ref (gad G 9 0))]) dX9_countLogged_1 rfl (by decide) rfl ?_
  refine w_iconst C dX9_countLogged_2 kc_i_0 ?_
  refine w_istore_n C (lv' := [(2, .int 0), (1, .int 0), (0, .ref (gad G 9 0))]) dX9_countLogged_3 rfl (by decide) rfl ?_
  obtain ⟨f1, hw⟩ := hw
  exact w_sub [2, 1, 0] rfl (s_X9_countLogged_4 C HR HT  f1 0 0  _ hw)
set_option maxRecDepth 100000 in
set_option maxHeartbeats 4000000 in
theorem s_X9_countShort_35 {G : GG} {n : Nat} {E : EE} (C : Cx G n E RX9 cX9_countShort 4) (HR : RM E 1 21) (HT : RT E (some .int)) {Q : Int32 → Mem → Prop} {K4 : Int32 → Int32 → Mem → Prop} (g4 : ∀ (x1 : Int32) (x2 : Int32)  (M : Mem), K4 x1 x2 M → WW G n E 4 (QE G E (Qi G n Q)) 4 [(0, .ref (gad G 9 0)), (1, .int x1), (2, .int x2)] [] M) : ∀ (x2 : Int32) (y0 : Int32) (y1 : Int32)  (M : Mem), w_X9_countShort_35 Q K4 x2 y0 y1 M → WW G n E 4 (QE G E (Qi G n Q)) 35 [(0, .ref (gad G 9 0)), (2, .int x2)] [.int y0, .int y1] M := by
  intro x2 y0 y1 M hw
  refine w_iadd C dX9_countShort_35 ?_
  refine w_istore_nV C dX9_countShort_36 rfl (by decide) (fun a6 ea6 => w_lv (lv' := [(1, .int a6), (0, .ref (gad G 9 0)), (2, .int x2)]) rfl ?_)
  replace hw := hw a6 ea6
  refine w_iincV C (lv' := [(2, .int (x2 + 1)), (1, .int a6), (0, .ref (gad G 9 0))]) 2 dX9_countShort_37 kc_i_1 rfl (by decide) rfl ?_
  refine w_goto C dX9_countShort_40 (tgt := 4) rfl ?_
  exact w_sub [2, 1, 0] rfl (g4 a6 (x2 + 1)  _ hw)
set_option maxRecDepth 100000 in
set_option maxHeartbeats 4000000 in
theorem s_X9_countShort_34 {G : GG} {n : Nat} {E : EE} (C : Cx G n E RX9 cX9_countShort 4) (HR : RM E 1 21) (HT : RT E (some .int)) {Q : Int32 → Mem → Prop} {K4 : Int32 → Int32 → Mem → Prop} (g4 : ∀ (x1 : Int32) (x2 : Int32)  (M : Mem), K4 x1 x2 M → WW G n E 4 (QE G E (Qi G n Q)) 4 [(0, .ref (gad G 9 0)), (1, .int x1), (2, .int x2)] [] M) : ∀ (x2 : Int32) (y0 : Int32)  (M : Mem), w_X9_countShort_34 Q K4 x2 y0 M → WW G n E 4 (QE G E (Qi G n Q)) 34 [(0, .ref (gad G 9 0)), (2, .int x2)] [.int y0] M := by
  intro x2 y0 M hw
  refine w_iconst C dX9_countShort_34 kc_i_0 ?_
  exact w_sub [0, 1] rfl (s_X9_countShort_35 C HR HT g4 x2 0 y0  _ hw)
set_option maxRecDepth 100000 in
set_option maxHeartbeats 4000000 in
theorem s_X9_countShort_4 {G : GG} {n : Nat} {E : EE} (C : Cx G n E RX9 cX9_countShort 4) (HR : RM E 1 21) (HT : RT E (some .int)) {Q : Int32 → Mem → Prop}  : ∀ (f : Nat) (x1 : Int32) (x2 : Int32)  (M : Mem), w_X9_countShort_4 Q  f x1 x2 M → WW G n E 4 (QE G E (Qi G n Q)) 4 [(0, .ref (gad G 9 0)), (1, .int x1), (2, .int x2)] [] M := by
  intro f
  induction f with
  | zero => intro x1 x2 M hw; exact hw.elim
  | succ f ih =>
    intro x1 x2 M hw
    refine w_iload_n C 2 dX9_countShort_4 rfl rfl ?_
    refine w_aload_n C 0 dX9_countShort_5 rfl rfl ?_
    refine gf_X9_66 C (Nat.le_of_ble_eq_true rfl) dX9_countShort_6 ?_
    refine w_icmp_ge C dX9_countShort_9 (tgt := 43) rfl (fun c2 => ?_) (fun c2 => ?_)
    · replace hw := hw.1 c2
      refine w_iload_n C 1 dX9_countShort_43 rfl rfl ?_
      exact ret_I C HT hw dX9_countShort_44
    · replace hw := hw.2 c2
      refine w_aload_n C 0 dX9_countShort_12 rfl rfl ?_
      refine w_iload_n C 2 dX9_countShort_13 rfl rfl ?_
      refine back_R (run_V C HR mt_X9_counterAt (ci := 9) rfl (by decide) (Nat.le_of_ble_eq_true rfl) gw726 gw14 gw724 (by decide) rfl (Nat.le_of_ble_eq_true rfl) dX9_countShort_14 (As := [.int x2]) rfl (c_X9_counterAt x2  _ _ hw)) (fun M3 hw => ?_) (fun j4 M3 hj4 hw => ?_)
      · replace hw := hw.1 rfl
        refine w_astore_nN C (lv' := [(3, .null), (0, .ref (gad G 9 0)), (1, .int x1), (2, .int x2)]) dX9_countShort_17 rfl (by decide) rfl ?_
        refine w_iload_n C 2 dX9_countShort_18 rfl rfl ?_
        refine w_aload_nN C 0 dX9_countShort_19 rfl rfl ?_
        refine w_ifnullN C dX9_countShort_20 (tgt := 34) rfl ?_
        exact w_sub [1, 3] rfl (s_X9_countShort_34 C HR HT ih x2 x1  _ hw)
      · replace hw := hw.2 j4 rfl
        refine w_astore_n C (lv' := [(3, .ref (gad G 0 j4)), (0, .ref (gad G 9 0)), (1, .int x1), (2, .int x2)]) dX9_countShort_17 rfl (by decide) rfl ?_
        refine w_iload_n C 2 dX9_countShort_18 rfl rfl ?_
        refine w_aload_n C 0 dX9_countShort_19 rfl rfl ?_
        refine w_ifnull C dX9_countShort_20 ?_
        refine w_aload_n C 0 dX9_countShort_23 rfl rfl ?_
        refine back_I (run_V C HR mt_X0_isShort (ci := 0) rfl (by decide) hj4 gw753 gw754 gw893 (by decide) rfl (Nat.le_of_ble_eq_true rfl) dX9_countShort_24 (As := []) rfl (c_X0_isShort j4 hj4 _ _ hw)) (fun r8 M7 hw => ?_)
        refine w_if_eq C dX9_countShort_27 (tgt := 34) rfl (fun c9 => ?_) (fun c9 => ?_)
        · replace hw := hw.1 c9
          exact w_sub [1, 3] rfl (s_X9_countShort_34 C HR HT ih x2 x1  _ hw)
        · replace hw := hw.2 c9
          refine w_iconst C dX9_countShort_30 kc_i_1 ?_
          refine w_goto C dX9_countShort_31 (tgt := 35) rfl ?_
          exact w_sub [1, 3] rfl (s_X9_countShort_35 C HR HT ih x2 1 x1  _ hw)
set_option maxRecDepth 100000 in
set_option maxHeartbeats 4000000 in
theorem c_X9_countShort {G : GG} {n : Nat} {l : Launch}   (M : Mem) (Q : Int32 → Mem → Prop) (hw : wp_X9_countShort  M Q) : Ct G n l yX9_countShort cX9_countShort 4 (some .int) 1 21 [.ref (gad G 9 0)] M (Qi G n Q) := by
  refine ct_of (by decide) (Nat.le_of_ble_eq_true rfl) (lv := [(0, .ref (gad G 9 0))]) rfl (fun E C HR HT hE => ?_)
  replace C : Cx G n E RX9 cX9_countShort 4 := C
  refine w_iconst C dX9_countShort_0 kc_i_0 ?_
  refine w_istore_n C (lv' := [(1, .int 0), (0, .ref (gad G 9 0))]) dX9_countShort_1 rfl (by decide) rfl ?_
  refine w_iconst C dX9_countShort_2 kc_i_0 ?_
  refine w_istore_n C (lv' := [(2, .int 0), (1, .int 0), (0, .ref (gad G 9 0))]) dX9_countShort_3 rfl (by decide) rfl ?_
  obtain ⟨f1, hw⟩ := hw
  exact w_sub [2, 1, 0] rfl (s_X9_countShort_4 C HR HT  f1 0 0  _ hw)
set_option maxRecDepth 100000 in
set_option maxHeartbeats 4000000 in
theorem c_X9_count {G : GG} {n : Nat} {l : Launch} (x1 : Int32)  (M : Mem) (Q : Int32 → Mem → Prop) (hw : wp_X9_count x1 M Q) : Ct G n l yX9_count cX9_count 2 (some .int) 2 44 [.ref (gad G 9 0), .int x1] M (Qi G n Q) := by
  refine ct_of (by decide) (Nat.le_of_ble_eq_true rfl) (lv := [(0, .ref (gad G 9 0)), (1, .int x1)]) rfl (fun E C HR HT hE => ?_)
  replace C : Cx G n E RX9 cX9_count 2 := C
  refine w_iload_n C 1 dX9_count_0 rfl rfl ?_
  by_cases c1 : x1 = (0 : Int32)
  · replace hw := hw.1 c1
    refine w_swAt C c1 dX9_count_1 (off := 51) (tgt := 52) (by decide) rfl ?_
    refine w_aload_n C 0 dX9_count_52 rfl rfl ?_
    refine back_I (run_V C HR mt_X9_countBytes (ci := 9) rfl (by decide) (Nat.le_of_ble_eq_true rfl) gw998 gw35 gw996 (by decide) rfl (Nat.le_of_ble_eq_true rfl) dX9_count_53 (As := []) rfl (c_X9_countBytes   _ _ hw)) (fun r3 M2 hw => ?_)
    exact ret_I C HT hw dX9_count_56
  replace hw := hw.2
  by_cases c4 : x1 = (1 : Int32)
  · replace hw := hw.1 c4
    refine w_swAt C c4 dX9_count_1 (off := 56) (tgt := 57) (by decide) rfl ?_
    refine w_aload_n C 0 dX9_count_57 rfl rfl ?_
    refine gf_X9_66 C (Nat.le_of_ble_eq_true rfl) dX9_count_58 ?_
    exact ret_I C HT hw dX9_count_61
  replace hw := hw.2
  by_cases c5 : x1 = (2 : Int32)
  · replace hw := hw.1 c5
    refine w_swAt C c5 dX9_count_1 (off := 61) (tgt := 62) (by decide) rfl ?_
    refine w_aload_n C 0 dX9_count_62 rfl rfl ?_
    refine back_I (run_V C HR mt_X9_countLogged (ci := 9) rfl (by decide) (Nat.le_of_ble_eq_true rfl) gw1002 gw36 gw1000 (by decide) rfl (Nat.le_of_ble_eq_true rfl) dX9_count_63 (As := []) rfl (c_X9_countLogged   _ _ hw)) (fun r7 M6 hw => ?_)
    exact ret_I C HT hw dX9_count_66
  replace hw := hw.2
  by_cases c8 : x1 = (3 : Int32)
  · replace hw := hw.1 c8
    refine w_swAt C c8 dX9_count_1 (off := 66) (tgt := 67) (by decide) rfl ?_
    refine w_aload_n C 0 dX9_count_67 rfl rfl ?_
    refine back_I (run_V C HR mt_X9_countShort (ci := 9) rfl (by decide) (Nat.le_of_ble_eq_true rfl) gw1006 gw37 gw1004 (by decide) rfl (Nat.le_of_ble_eq_true rfl) dX9_count_68 (As := []) rfl (c_X9_countShort   _ _ hw)) (fun r10 M9 hw => ?_)
    exact ret_I C HT hw dX9_count_71
  replace hw := hw.2
  by_cases c11 : x1 = (4 : Int32)
  · replace hw := hw.1 c11
    refine w_swAt C c11 dX9_count_1 (off := 71) (tgt := 72) (by decide) rfl ?_
    refine w_aload_n C 0 dX9_count_72 rfl rfl ?_
    refine gf_X9_55 C (Nat.le_of_ble_eq_true rfl) dX9_count_73 ?_
    refine gf_X9_339 C (Nat.le_of_ble_eq_true rfl) dX9_count_76 ?_
    exact ret_I C HT hw dX9_count_79
  replace hw := hw.2
  by_cases c12 : x1 = (5 : Int32)
  · replace hw := hw.1 c12
    refine w_swAt C c12 dX9_count_1 (off := 79) (tgt := 80) (by decide) rfl ?_
    refine w_aload_n C 0 dX9_count_80 rfl rfl ?_
    refine gf_X9_62 C (Nat.le_of_ble_eq_true rfl) dX9_count_81 ?_
    refine gf_X9_342 C (Nat.le_of_ble_eq_true rfl) dX9_count_84 ?_
    exact ret_I C HT hw dX9_count_87
  replace hw := hw.2
  by_cases c13 : x1 = (6 : Int32)
  · replace hw := hw.1 c13
    refine w_swAt C c13 dX9_count_1 (off := 87) (tgt := 88) (by decide) rfl ?_
    refine w_aload_n C 0 dX9_count_88 rfl rfl ?_
    refine gf_X9_62 C (Nat.le_of_ble_eq_true rfl) dX9_count_89 ?_
    refine gf_X9_283 C (Nat.le_of_ble_eq_true rfl) dX9_count_92 ?_
    refine back_I (run_S C HR mt_J6_bitCount_0f7a4 gw627 gw626 (by decide) rfl (Nat.le_of_ble_eq_true rfl) dX9_count_95 (As := [.int (M 253 0 0)]) rfl (c_J6_bitCount_0f7a4 (M 253 0 0)  _ _ hw)) (fun r15 M14 hw => ?_)
    exact ret_I C HT hw dX9_count_98
  replace hw := hw.2
  by_cases c16 : x1 = (7 : Int32)
  · replace hw := hw.1 c16
    refine w_swAt C c16 dX9_count_1 (off := 98) (tgt := 99) (by decide) rfl ?_
    refine w_aload_n C 0 dX9_count_99 rfl rfl ?_
    refine gf_X9_55 C (Nat.le_of_ble_eq_true rfl) dX9_count_100 ?_
    refine gf_X9_263 C (Nat.le_of_ble_eq_true rfl) dX9_count_103 ?_
    exact ret_I C HT hw dX9_count_106
  replace hw := hw.2
  by_cases c17 : x1 = (8 : Int32)
  · replace hw := hw.1 c17
    refine w_swAt C c17 dX9_count_1 (off := 106) (tgt := 107) (by decide) rfl ?_
    refine w_aload_n C 0 dX9_count_107 rfl rfl ?_
    refine gf_X9_70 C (Nat.le_of_ble_eq_true rfl) dX9_count_108 ?_
    exact ret_I C HT hw dX9_count_111
  replace hw := hw.2
  replace hw := hw c1 c4 c5 c8 c11 c12 c13 c16 c17
  refine w_swOut C dX9_count_1 (sw_out (N := 8) (by decide) (fun v hv => by
    match v, hv with
    | 0, _ => exact c1
    | 1, _ => exact c4
    | 2, _ => exact c5
    | 3, _ => exact c8
    | 4, _ => exact c11
    | 5, _ => exact c12
    | 6, _ => exact c13
    | 7, _ => exact c16
    | 8, _ => exact c17
    | w + 9, hv => exact absurd hv (by omega))) (tgt := 112) rfl ?_
  refine w_bipush C dX9_count_112 kc_b_m2 ?_
  exact ret_I C HT hw dX9_count_114
set_option maxRecDepth 100000 in
set_option maxHeartbeats 4000000 in
theorem s_X9_digest_101 {G : GG} {n : Nat} {E : EE} (C : Cx G n E RX9 cX9_digest 5) (HR : RM E 10 230) (HT : RT E (some .long)) {Q : Int64 → Mem → Prop} {K90 : Int64 → Int32 → Mem → Prop} (g90 : ∀ (x1 : Int64) (x3 : Int32)  (M : Mem), K90 x1 x3 M → WW G n E 5 (QE G E (Ql G n Q)) 90 [(0, .ref (gad G 9 0)), (1, .long x1), (3, .int x3)] [] M) : ∀ (f : Nat) (x1 : Int64) (x3 : Int32) (x4 : Int32)  (M : Mem), w_X9_digest_101 Q K90 f x1 x3 x4 M → WW G n E 5 (QE G E (Ql G n Q)) 101 [(0, .ref (gad G 9 0)), (1, .long x1), (3, .int x3), (4, .int x4)] [] M := by
  intro f
  induction f with
  | zero => intro x1 x3 x4 M hw; exact hw.elim
  | succ f ih =>
    intro x1 x3 x4 M hw
    refine w_iload C 3 dX9_digest_101 rfl ?_
    refine w_bipush C dX9_digest_103 kc_b_8 ?_
    refine w_icmp_gt C dX9_digest_105 (tgt := 129) rfl (fun c13 => ?_) (fun c13 => ?_)
    · replace hw := hw.1 c13
      refine w_iincV C (lv' := [(3, .int (x3 + 1)), (0, .ref (gad G 9 0)), (1, .long x1), (4, .int x4)]) 2 dX9_digest_129 kc_i_1 rfl (by decide) rfl ?_
      refine w_goto C dX9_digest_132 (tgt := 90) rfl ?_
      exact w_sub [1, 2, 0] rfl (g90 x1 (x3 + 1)  _ hw)
    · replace hw := hw.2 c13
      refine w_ldc2 C dX9_digest_108 gw1013 ?_
      refine w_lload_n C 1 dX9_digest_111 rfl rfl ?_
      refine w_lmul C dX9_digest_112 ?_
      refine w_aload_n C 0 dX9_digest_113 rfl rfl ?_
      refine w_iload_n C 2 dX9_digest_114 rfl rfl ?_
      refine w_iload C 3 dX9_digest_115 rfl ?_
      refine back_I (run_V C HR mt_X9_about (ci := 9) rfl (by decide) (Nat.le_of_ble_eq_true rfl) gw745 gw746 gw1017 (by decide) rfl (Nat.le_of_ble_eq_true rfl) dX9_digest_117 (As := [.int x3, .int x4]) rfl (c_X9_about x3 x4  _ _ hw)) (fun r15 M14 hw => ?_)
      refine w_i2l C dX9_digest_120 ?_
      refine w_ladd C dX9_digest_121 ?_
      refine w_lstore_nV C dX9_digest_122 rfl (by decide) (fun a16 ea16 => w_lv (lv' := [(1, .long a16), (0, .ref (gad G 9 0)), (3, .int x3), (4, .int x4)]) rfl ?_)
      replace hw := hw a16 ea16
      refine w_iincV C (lv' := [(4, .int (x4 + 1)), (1, .long a16), (0, .ref (gad G 9 0)), (3, .int x3)]) 3 dX9_digest_123 kc_i_1 rfl (by decide) rfl ?_
      refine w_goto C dX9_digest_126 (tgt := 101) rfl ?_
      exact w_sub [2, 1, 3, 0] rfl (ih a16 x3 (x4 + 1)  _ hw)
set_option maxRecDepth 100000 in
set_option maxHeartbeats 4000000 in
theorem s_X9_digest_90 {G : GG} {n : Nat} {E : EE} (C : Cx G n E RX9 cX9_digest 5) (HR : RM E 10 230) (HT : RT E (some .long)) {Q : Int64 → Mem → Prop}  : ∀ (f : Nat) (x1 : Int64) (x3 : Int32)  (M : Mem), w_X9_digest_90 Q  f x1 x3 M → WW G n E 5 (QE G E (Ql G n Q)) 90 [(0, .ref (gad G 9 0)), (1, .long x1), (3, .int x3)] [] M := by
  intro f
  induction f with
  | zero => intro x1 x3 M hw; exact hw.elim
  | succ f ih =>
    intro x1 x3 M hw
    refine w_iload_n C 2 dX9_digest_90 rfl rfl ?_
    refine w_aload_n C 0 dX9_digest_91 rfl rfl ?_
    refine gf_X9_66 C (Nat.le_of_ble_eq_true rfl) dX9_digest_92 ?_
    refine w_icmp_ge C dX9_digest_95 (tgt := 135) rfl (fun c6 => ?_) (fun c6 => ?_)
    · replace hw := hw.1 c6
      refine w_ldc2 C dX9_digest_135 gw1013 ?_
      refine w_lload_n C 1 dX9_digest_138 rfl rfl ?_
      refine w_lmul C dX9_digest_139 ?_
      refine w_aload_n C 0 dX9_digest_140 rfl rfl ?_
      refine back_I (run_V C HR mt_X9_standing (ci := 9) rfl (by decide) (Nat.le_of_ble_eq_true rfl) gw916 gw917 gw1018 (by decide) rfl (Nat.le_of_ble_eq_true rfl) dX9_digest_141 (As := []) rfl (c_X9_standing   _ _ hw)) (fun r8 M7 hw => ?_)
      refine w_i2l C dX9_digest_144 ?_
      refine w_ladd C dX9_digest_145 ?_
      refine w_lstore_nV C dX9_digest_146 rfl (by decide) (fun a9 ea9 => w_lv (lv' := [(1, .long a9), (0, .ref (gad G 9 0)), (3, .int x3)]) rfl ?_)
      replace hw := hw a9 ea9
      refine w_ldc2 C dX9_digest_147 gw1013 ?_
      refine w_lload_n C 0 dX9_digest_150 rfl rfl ?_
      refine w_lmul C dX9_digest_151 ?_
      refine w_aload_n C 1 dX9_digest_152 rfl rfl ?_
      refine w_iconst C dX9_digest_153 kc_i_m1 ?_
      refine w_sipush C dX9_digest_154 kc_s_399 ?_
      refine back_I (run_V C HR mt_X9_owedOn (ci := 9) rfl (by decide) (Nat.le_of_ble_eq_true rfl) gw891 gw31 gw889 (by decide) rfl (Nat.le_of_ble_eq_true rfl) dX9_digest_157 (As := [.int (-1), .int 399]) rfl (c_X9_owedOn (-1) 399  _ _ hw)) (fun r11 M10 hw => ?_)
      refine w_i2l C dX9_digest_160 ?_
      refine w_ladd C dX9_digest_161 ?_
      exact ret_L C HT hw dX9_digest_162
    · replace hw := hw.2 c6
      refine w_iconst C dX9_digest_98 kc_i_0 ?_
      refine w_istore C (lv' := [(4, .int 0), (0, .ref (gad G 9 0)), (1, .long x1), (3, .int x3)]) dX9_digest_99 (by decide) rfl ?_
      obtain ⟨f12, hw⟩ := hw
      exact w_sub [1, 2, 3, 0] rfl (s_X9_digest_101 C HR HT ih f12 x1 x3 0  _ hw)
set_option maxRecDepth 100000 in
set_option maxHeartbeats 4000000 in
theorem s_X9_digest_54 {G : GG} {n : Nat} {E : EE} (C : Cx G n E RX9 cX9_digest 5) (HR : RM E 10 230) (HT : RT E (some .long)) {Q : Int64 → Mem → Prop} {K33 : Int64 → Int32 → Mem → Prop} (g33 : ∀ (x1 : Int64) (x3 : Int32)  (M : Mem), K33 x1 x3 M → WW G n E 5 (QE G E (Ql G n Q)) 33 [(0, .ref (gad G 9 0)), (1, .long x1), (3, .int x3)] [] M) : ∀ (f : Nat) (x1 : Int64) (x3 : Int32) (x4 : Int32)  (M : Mem), w_X9_digest_54 Q K33 f x1 x3 x4 M → WW G n E 5 (QE G E (Ql G n Q)) 54 [(0, .ref (gad G 9 0)), (1, .long x1), (3, .int x3), (4, .int x4)] [] M := by
  intro f
  induction f with
  | zero => intro x1 x3 x4 M hw; exact hw.elim
  | succ f ih =>
    intro x1 x3 x4 M hw
    refine w_iload C 3 dX9_digest_54 rfl ?_
    refine w_bipush C dX9_digest_56 kc_b_16 ?_
    refine w_icmp_ge C dX9_digest_58 (tgt := 82) rfl (fun c21 => ?_) (fun c21 => ?_)
    · replace hw := hw.1 c21
      refine w_iincV C (lv' := [(3, .int (x3 + 1)), (0, .ref (gad G 9 0)), (1, .long x1), (4, .int x4)]) 2 dX9_digest_82 kc_i_1 rfl (by decide) rfl ?_
      refine w_goto C dX9_digest_85 (tgt := 33) rfl ?_
      exact w_sub [1, 2, 0] rfl (g33 x1 (x3 + 1)  _ hw)
    · replace hw := hw.2 c21
      refine w_ldc2 C dX9_digest_61 gw1013 ?_
      refine w_lload_n C 1 dX9_digest_64 rfl rfl ?_
      refine w_lmul C dX9_digest_65 ?_
      refine w_aload_n C 0 dX9_digest_66 rfl rfl ?_
      refine w_iload_n C 2 dX9_digest_67 rfl rfl ?_
      refine w_iload C 3 dX9_digest_68 rfl ?_
      refine back_I (run_V C HR mt_X9_acts (ci := 9) rfl (by decide) (Nat.le_of_ble_eq_true rfl) gw503 gw504 gw1016 (by decide) rfl (Nat.le_of_ble_eq_true rfl) dX9_digest_70 (As := [.int x3, .int x4]) rfl (c_X9_acts x3 x4  _ _ hw)) (fun r23 M22 hw => ?_)
      refine w_i2l C dX9_digest_73 ?_
      refine w_ladd C dX9_digest_74 ?_
      refine w_lstore_nV C dX9_digest_75 rfl (by decide) (fun a24 ea24 => w_lv (lv' := [(1, .long a24), (0, .ref (gad G 9 0)), (3, .int x3), (4, .int x4)]) rfl ?_)
      replace hw := hw a24 ea24
      refine w_iincV C (lv' := [(4, .int (x4 + 1)), (1, .long a24), (0, .ref (gad G 9 0)), (3, .int x3)]) 3 dX9_digest_76 kc_i_1 rfl (by decide) rfl ?_
      refine w_goto C dX9_digest_79 (tgt := 54) rfl ?_
      exact w_sub [2, 1, 3, 0] rfl (ih a24 x3 (x4 + 1)  _ hw)
set_option maxRecDepth 100000 in
set_option maxHeartbeats 4000000 in
theorem s_X9_digest_33 {G : GG} {n : Nat} {E : EE} (C : Cx G n E RX9 cX9_digest 5) (HR : RM E 10 230) (HT : RT E (some .long)) {Q : Int64 → Mem → Prop}  : ∀ (f : Nat) (x1 : Int64) (x3 : Int32)  (M : Mem), w_X9_digest_33 Q  f x1 x3 M → WW G n E 5 (QE G E (Ql G n Q)) 33 [(0, .ref (gad G 9 0)), (1, .long x1), (3, .int x3)] [] M := by
  intro f
  induction f with
  | zero => intro x1 x3 M hw; exact hw.elim
  | succ f ih =>
    intro x1 x3 M hw
    refine w_iload_n C 2 dX9_digest_33 rfl rfl ?_
    refine w_iconst C dX9_digest_34 kc_i_4 ?_
    refine w_icmp_ge C dX9_digest_35 (tgt := 88) rfl (fun c4 => ?_) (fun c4 => ?_)
    · replace hw := hw.1 c4
      refine w_iconst C dX9_digest_88 kc_i_0 ?_
      refine w_istore_n C (lv' := [(3, .int 0), (0, .ref (gad G 9 0)), (1, .long x1)]) dX9_digest_89 rfl (by decide) rfl ?_
      obtain ⟨f5, hw⟩ := hw
      exact w_sub [1, 2, 0] rfl (s_X9_digest_90 C HR HT  f5 x1 0  _ hw)
    · replace hw := hw.2 c4
      refine w_ldc2 C dX9_digest_38 gw1013 ?_
      refine w_lload_n C 1 dX9_digest_41 rfl rfl ?_
      refine w_lmul C dX9_digest_42 ?_
      refine w_aload_n C 0 dX9_digest_43 rfl rfl ?_
      refine w_iload_n C 2 dX9_digest_44 rfl rfl ?_
      refine back_I (run_V C HR mt_X9_fault (ci := 9) rfl (by decide) (Nat.le_of_ble_eq_true rfl) gw389 gw390 gw1015 (by decide) rfl (Nat.le_of_ble_eq_true rfl) dX9_digest_45 (As := [.int x3]) rfl (c_X9_fault x3  _ _ hw)) (fun r18 M17 hw => ?_)
      refine w_i2l C dX9_digest_48 ?_
      refine w_ladd C dX9_digest_49 ?_
      refine w_lstore_nV C dX9_digest_50 rfl (by decide) (fun a19 ea19 => w_lv (lv' := [(1, .long a19), (0, .ref (gad G 9 0)), (3, .int x3)]) rfl ?_)
      replace hw := hw a19 ea19
      refine w_iconst C dX9_digest_51 kc_i_0 ?_
      refine w_istore C (lv' := [(4, .int 0), (1, .long a19), (0, .ref (gad G 9 0)), (3, .int x3)]) dX9_digest_52 (by decide) rfl ?_
      obtain ⟨f20, hw⟩ := hw
      exact w_sub [2, 1, 3, 0] rfl (s_X9_digest_54 C HR HT ih f20 a19 x3 0  _ hw)
set_option maxRecDepth 100000 in
set_option maxHeartbeats 4000000 in
theorem s_X9_digest_6 {G : GG} {n : Nat} {E : EE} (C : Cx G n E RX9 cX9_digest 5) (HR : RM E 10 230) (HT : RT E (some .long)) {Q : Int64 → Mem → Prop}  : ∀ (f : Nat) (x1 : Int64) (x3 : Int32)  (M : Mem), w_X9_digest_6 Q  f x1 x3 M → WW G n E 5 (QE G E (Ql G n Q)) 6 [(0, .ref (gad G 9 0)), (1, .long x1), (3, .int x3)] [] M := by
  intro f
  induction f with
  | zero => intro x1 x3 M hw; exact hw.elim
  | succ f ih =>
    intro x1 x3 M hw
    refine w_iload_n C 2 dX9_digest_6 rfl rfl ?_
    refine w_bipush C dX9_digest_7 kc_b_7 ?_
    refine w_icmp_gt C dX9_digest_9 (tgt := 31) rfl (fun c2 => ?_) (fun c2 => ?_)
    · replace hw := hw.1 c2
      refine w_iconst C dX9_digest_31 kc_i_0 ?_
      refine w_istore_n C (lv' := [(3, .int 0), (0, .ref (gad G 9 0)), (1, .long x1)]) dX9_digest_32 rfl (by decide) rfl ?_
      obtain ⟨f3, hw⟩ := hw
      exact w_sub [1, 2, 0] rfl (s_X9_digest_33 C HR HT  f3 x1 0  _ hw)
    · replace hw := hw.2 c2
      refine w_ldc2 C dX9_digest_12 gw1013 ?_
      refine w_lload_n C 1 dX9_digest_15 rfl rfl ?_
      refine w_lmul C dX9_digest_16 ?_
      refine w_aload_n C 0 dX9_digest_17 rfl rfl ?_
      refine w_iload_n C 2 dX9_digest_18 rfl rfl ?_
      refine back_I (run_V C HR mt_X9_count (ci := 9) rfl (by decide) (Nat.le_of_ble_eq_true rfl) gw993 gw994 gw1014 (by decide) rfl (Nat.le_of_ble_eq_true rfl) dX9_digest_19 (As := [.int x3]) rfl (c_X9_count x3  _ _ hw)) (fun r26 M25 hw => ?_)
      refine w_i2l C dX9_digest_22 ?_
      refine w_ladd C dX9_digest_23 ?_
      refine w_lstore_nV C dX9_digest_24 rfl (by decide) (fun a27 ea27 => w_lv (lv' := [(1, .long a27), (0, .ref (gad G 9 0)), (3, .int x3)]) rfl ?_)
      replace hw := hw a27 ea27
      refine w_iincV C (lv' := [(3, .int (x3 + 1)), (1, .long a27), (0, .ref (gad G 9 0))]) 2 dX9_digest_25 kc_i_1 rfl (by decide) rfl ?_
      refine w_goto C dX9_digest_28 (tgt := 6) rfl ?_
      exact w_sub [2, 1, 0] rfl (ih a27 (x3 + 1)  _ hw)
set_option maxRecDepth 100000 in
set_option maxHeartbeats 4000000 in
theorem c_X9_digest {G : GG} {n : Nat} {l : Launch}   (M : Mem) (Q : Int64 → Mem → Prop) (hw : wp_X9_digest  M Q) : Ct G n l yX9_digest cX9_digest 5 (some .long) 10 230 [.ref (gad G 9 0)] M (Ql G n Q) := by
  refine ct_of (by decide) (Nat.le_of_ble_eq_true rfl) (lv := [(0, .ref (gad G 9 0))]) rfl (fun E C HR HT hE => ?_)
  replace C : Cx G n E RX9 cX9_digest 5 := C
  refine w_ldc2 C dX9_digest_0 gw1012 ?_
  refine w_lstore_n C (lv' := [(1, .long 17), (0, .ref (gad G 9 0))]) dX9_digest_3 rfl (by decide) rfl ?_
  refine w_iconst C dX9_digest_4 kc_i_0 ?_
  refine w_istore_n C (lv' := [(3, .int 0), (1, .long 17), (0, .ref (gad G 9 0))]) dX9_digest_5 rfl (by decide) rfl ?_
  obtain ⟨f1, hw⟩ := hw
  exact w_sub [2, 1, 0] rfl (s_X9_digest_6 C HR HT  f1 17 0  _ hw)
set_option maxRecDepth 100000 in
set_option maxHeartbeats 4000000 in
theorem c_X10_in {G : GG} {n : Nat} {l : Launch} (x0 : Int32) (x1 : Int32) (x2 : Int32)  (M : Mem) (Q : Int32 → Mem → Prop) (hw : wp_X10_in x0 x1 x2 M Q) : Ct G n l yX10_in cX10_in 3 (some .boolean) 0 0 [.int x0, .int x1, .int x2] M (Qi G n Q) := by
  refine ct_of (by decide) (Nat.le_of_ble_eq_true rfl) (lv := [(0, .int x0), (1, .int x1), (2, .int x2)]) rfl (fun E C HR HT hE => ?_)
  replace C : Cx G n E RX10 cX10_in 3 := C
  refine w_iload_n C 0 dX10_in_0 rfl rfl ?_
  refine w_iload_n C 1 dX10_in_1 rfl rfl ?_
  refine w_icmp_lt C dX10_in_2 (tgt := 14) rfl (fun c1 => ?_) (fun c1 => ?_)
  · replace hw := hw.1 c1
    refine w_iconst C dX10_in_14 kc_i_0 ?_
    exact ret_Z C HT rfl hw dX10_in_15
  · replace hw := hw.2 c1
    refine w_iload_n C 0 dX10_in_5 rfl rfl ?_
    refine w_iload_n C 2 dX10_in_6 rfl rfl ?_
    refine w_icmp_gt C dX10_in_7 (tgt := 14) rfl (fun c2 => ?_) (fun c2 => ?_)
    · replace hw := hw.1 c2
      refine w_iconst C dX10_in_14 kc_i_0 ?_
      exact ret_Z C HT rfl hw dX10_in_15
    · replace hw := hw.2 c2
      refine w_iconst C dX10_in_10 kc_i_1 ?_
      refine w_goto C dX10_in_11 (tgt := 15) rfl ?_
      exact ret_Z C HT rfl hw dX10_in_15
set_option maxRecDepth 100000 in
set_option maxHeartbeats 4000000 in
theorem c_X10_amount {G : GG} {n : Nat} {l : Launch} (x0 : Int32)  (M : Mem) (Q : Int32 → Mem → Prop) (hw : wp_X10_amount x0 M Q) : Ct G n l yX10_amount cX10_amount 1 (some .int) 0 0 [.int x0] M (Qi G n Q) := by
  refine ct_of (by decide) (Nat.le_of_ble_eq_true rfl) (lv := [(0, .int x0)]) rfl (fun E C HR HT hE => ?_)
  replace C : Cx G n E RX10 cX10_amount 1 := C
  refine w_iload_n C 0 dX10_amount_0 rfl rfl ?_
  refine w_if_ge C dX10_amount_1 (tgt := 9) rfl (fun c1 => ?_) (fun c1 => ?_)
  · replace hw := hw.1 c1
    refine w_iload_n C 0 dX10_amount_9 rfl rfl ?_
    exact ret_I C HT hw dX10_amount_10
  · replace hw := hw.2 c1
    refine w_iload_n C 0 dX10_amount_4 rfl rfl ?_
    refine w_ineg C dX10_amount_5 ?_
    refine w_goto C dX10_amount_6 (tgt := 10) rfl ?_
    exact ret_I C HT hw dX10_amount_10
set_option maxRecDepth 100000 in
set_option maxHeartbeats 4000000 in
theorem s_X10_ones_4 {G : GG} {n : Nat} {E : EE} (C : Cx G n E RX10 cX10_ones 3) (HR : RM E 0 0) (HT : RT E (some .int)) {Q : Int32 → Mem → Prop}  : ∀ (f : Nat) (x0 : Int32) (x1 : Int32) (x2 : Int32)  (M : Mem), w_X10_ones_4 Q  f x0 x1 x2 M → WW G n E 3 (QE G E (Qi G n Q)) 4 [(0, .int x0), (1, .int x1), (2, .int x2)] [] M := by
  intro f
  induction f with
  | zero => intro x0 x1 x2 M hw; exact hw.elim
  | succ f ih =>
    intro x0 x1 x2 M hw
    refine w_iload_n C 2 dX10_ones_4 rfl rfl ?_
    refine w_bipush C dX10_ones_5 kc_b_16 ?_
    refine w_icmp_ge C dX10_ones_7 (tgt := 24) rfl (fun c2 => ?_) (fun c2 => ?_)
    · replace hw := hw.1 c2
      refine w_iload_n C 1 dX10_ones_24 rfl rfl ?_
      exact ret_I C HT hw dX10_ones_25
    · replace hw := hw.2 c2
      refine w_iload_n C 1 dX10_ones_10 rfl rfl ?_
      refine w_iload_n C 0 dX10_ones_11 rfl rfl ?_
      refine w_iload_n C 2 dX10_ones_12 rfl rfl ?_
      refine w_ishr C dX10_ones_13 ?_
      refine w_iconst C dX10_ones_14 kc_i_1 ?_
      refine w_iand C dX10_ones_15 ?_
      refine w_iadd C dX10_ones_16 ?_
      refine w_istore_nV C dX10_ones_17 rfl (by decide) (fun a3 ea3 => w_lv (lv' := [(1, .int a3), (0, .int x0), (2, .int x2)]) rfl ?_)
      replace hw := hw a3 ea3
      refine w_iincV C (lv' := [(2, .int (x2 + 1)), (1, .int a3), (0, .int x0)]) 2 dX10_ones_18 kc_i_1 rfl (by decide) rfl ?_
      refine w_goto C dX10_ones_21 (tgt := 4) rfl ?_
      exact w_sub [2, 1, 0] rfl (ih x0 a3 (x2 + 1)  _ hw)
set_option maxRecDepth 100000 in
set_option maxHeartbeats 4000000 in
theorem c_X10_ones {G : GG} {n : Nat} {l : Launch} (x0 : Int32)  (M : Mem) (Q : Int32 → Mem → Prop) (hw : wp_X10_ones x0 M Q) : Ct G n l yX10_ones cX10_ones 3 (some .int) 0 0 [.int x0] M (Qi G n Q) := by
  refine ct_of (by decide) (Nat.le_of_ble_eq_true rfl) (lv := [(0, .int x0)]) rfl (fun E C HR HT hE => ?_)
  replace C : Cx G n E RX10 cX10_ones 3 := C
  refine w_iconst C dX10_ones_0 kc_i_0 ?_
  refine w_istore_n C (lv' := [(1, .int 0), (0, .int x0)]) dX10_ones_1 rfl (by decide) rfl ?_
  refine w_iconst C dX10_ones_2 kc_i_0 ?_
  refine w_istore_n C (lv' := [(2, .int 0), (1, .int 0), (0, .int x0)]) dX10_ones_3 rfl (by decide) rfl ?_
  obtain ⟨f1, hw⟩ := hw
  exact w_sub [2, 1, 0] rfl (s_X10_ones_4 C HR HT  f1 x0 0 0  _ hw)
set_option maxRecDepth 100000 in
set_option maxHeartbeats 4000000 in
theorem c_X10_isVersion {G : GG} {n : Nat} {l : Launch} (x0 : Int32)  (M : Mem) (Q : Int32 → Mem → Prop) (hw : wp_X10_isVersion x0 M Q) : Ct G n l yX10_isVersion cX10_isVersion 1 (some .boolean) 1 22 [.int x0] M (Qi G n Q) := by
  refine ct_of (by decide) (Nat.le_of_ble_eq_true rfl) (lv := [(0, .int x0)]) rfl (fun E C HR HT hE => ?_)
  replace C : Cx G n E RX10 cX10_isVersion 1 := C
  refine w_iload_n C 0 dX10_isVersion_0 rfl rfl ?_
  refine w_iconst C dX10_isVersion_1 kc_i_0 ?_
  refine w_iconst C dX10_isVersion_2 kc_i_3 ?_
  refine back_I (run_S C HR mt_X10_in gw1179 gw1178 (by decide) rfl (Nat.le_of_ble_eq_true rfl) dX10_isVersion_3 (As := [.int x0, .int 0, .int 3]) rfl (c_X10_in x0 0 3  _ _ hw)) (fun r2 M1 hw => ?_)
  exact ret_Z C HT hw.1 hw.2 dX10_isVersion_6
set_option maxRecDepth 100000 in
set_option maxHeartbeats 4000000 in
theorem c_X10_type {G : GG} {n : Nat} {l : Launch} (x1 : Int32) (x2 : Int32)  (M : Mem) (Q : Int32 → Mem → Prop) (hw : wp_X10_type x1 x2 M Q) : Ct G n l yX10_type cX10_type 3 (some .int) 2 42 [.ref (gad G 10 0), .int x1, .int x2] M (Qi G n Q) := by
  refine ct_of (by decide) (Nat.le_of_ble_eq_true rfl) (lv := [(0, .ref (gad G 10 0)), (1, .int x1), (2, .int x2)]) rfl (fun E C HR HT hE => ?_)
  replace C : Cx G n E RX10 cX10_type 3 := C
  refine w_iload_n C 1 dX10_type_0 rfl rfl ?_
  refine back_I (run_S C HR mt_X10_isVersion gw1176 gw1175 (by decide) rfl (Nat.le_of_ble_eq_true rfl) dX10_type_1 (As := [.int x1]) rfl (c_X10_isVersion x1  _ _ hw)) (fun r2 M1 hw => ?_)
  refine w_if_eq C dX10_type_4 (tgt := 18) rfl (fun c3 => ?_) (fun c3 => ?_)
  · replace hw := hw.1 c3
    refine w_bipush C dX10_type_18 kc_b_m2 ?_
    exact ret_I C HT hw dX10_type_20
  · replace hw := hw.2 c3
    refine w_iload_n C 2 dX10_type_7 rfl rfl ?_
    refine w_iconst C dX10_type_8 kc_i_0 ?_
    refine w_sipush C dX10_type_9 kc_s_255 ?_
    refine back_I (run_S C HR mt_X10_in gw1179 gw1178 (by decide) rfl (Nat.le_of_ble_eq_true rfl) dX10_type_12 (As := [.int x2, .int 0, .int 255]) rfl (c_X10_in x2 0 255  _ _ hw)) (fun r5 M4 hw => ?_)
    refine w_if_ne C dX10_type_15 (tgt := 21) rfl (fun c6 => ?_) (fun c6 => ?_)
    · replace hw := hw.2 c6
      refine w_aload_n C 0 dX10_type_21 rfl rfl ?_
      refine gf_X10_7 C (Nat.le_of_ble_eq_true rfl) dX10_type_22 ?_
      refine w_iload_n C 1 dX10_type_25 rfl rfl ?_
      obtain ⟨b7, hw⟩ := hw
      refine v_iald C ak_53 rfl (Nat.le_of_ble_eq_true rfl) b7 dX10_type_26 ?_
      refine w_bipush C dX10_type_27 kc_b_120 ?_
      refine w_icmp_ne C dX10_type_29 (tgt := 35) rfl (fun c8 => ?_) (fun c8 => ?_)
      · replace hw := hw.2 c8
        refine w_aload_n C 0 dX10_type_35 rfl rfl ?_
        refine gf_X10_13 C (Nat.le_of_ble_eq_true rfl) dX10_type_36 ?_
        refine w_bipush C dX10_type_39 kc_b_120 ?_
        refine w_iload_n C 1 dX10_type_41 rfl rfl ?_
        refine w_imul C dX10_type_42 ?_
        refine w_aload_n C 0 dX10_type_43 rfl rfl ?_
        refine gf_X10_7 C (Nat.le_of_ble_eq_true rfl) dX10_type_44 ?_
        refine w_iload_n C 1 dX10_type_47 rfl rfl ?_
        obtain ⟨b9, hw⟩ := hw
        refine v_iald C ak_53 rfl (Nat.le_of_ble_eq_true rfl) b9 dX10_type_48 ?_
        refine w_iadd C dX10_type_49 ?_
        refine w_iload_n C 2 dX10_type_50 rfl rfl ?_
        obtain ⟨b10, hw⟩ := hw
        refine v_iast C ak_54 rfl (Nat.le_of_ble_eq_true rfl) b10 dX10_type_51 (w_mem fun M11 eM11 => ?_)
        replace hw := hw M11 eM11
        refine w_aload_n C 0 dX10_type_52 rfl rfl ?_
        refine gf_X10_7 C (Nat.le_of_ble_eq_true rfl) dX10_type_53 ?_
        refine w_iload_n C 1 dX10_type_56 rfl rfl ?_
        refine w_dup2 C dX10_type_57 rfl rfl ?_
        obtain ⟨b12, hw⟩ := hw
        refine v_iald C ak_53 rfl (Nat.le_of_ble_eq_true rfl) b12 dX10_type_58 ?_
        refine w_iconst C dX10_type_59 kc_i_1 ?_
        refine w_iadd C dX10_type_60 ?_
        obtain ⟨b13, hw⟩ := hw
        refine v_iast C ak_53 rfl (Nat.le_of_ble_eq_true rfl) b13 dX10_type_61 (w_mem fun M14 eM14 => ?_)
        replace hw := hw M14 eM14
        refine w_aload_n C 0 dX10_type_62 rfl rfl ?_
        refine gf_X10_16 C (Nat.le_of_ble_eq_true rfl) dX10_type_63 ?_
        refine w_iload_n C 1 dX10_type_66 rfl rfl ?_
        refine w_iconst C dX10_type_67 kc_i_0 ?_
        obtain ⟨b15, hw⟩ := hw
        refine v_zast C ak_55 rfl (Nat.le_of_ble_eq_true rfl) b15 rfl dX10_type_68 (w_mem fun M16 eM16 => ?_)
        replace hw := hw M16 eM16
        refine w_aload_n C 0 dX10_type_69 rfl rfl ?_
        refine gf_X10_7 C (Nat.le_of_ble_eq_true rfl) dX10_type_70 ?_
        refine w_iload_n C 1 dX10_type_73 rfl rfl ?_
        obtain ⟨b17, hw⟩ := hw
        refine v_iald C ak_53 rfl (Nat.le_of_ble_eq_true rfl) b17 dX10_type_74 ?_
        exact ret_I C HT hw dX10_type_75
      · replace hw := hw.1 c8
        refine w_bipush C dX10_type_32 kc_b_m4 ?_
        exact ret_I C HT hw dX10_type_34
    · replace hw := hw.1 c6
      refine w_bipush C dX10_type_18 kc_b_m2 ?_
      exact ret_I C HT hw dX10_type_20
set_option maxRecDepth 100000 in
set_option maxHeartbeats 4000000 in
theorem c_X10_wipe {G : GG} {n : Nat} {l : Launch} (x1 : Int32)  (M : Mem) (Q : Int32 → Mem → Prop) (hw : wp_X10_wipe x1 M Q) : Ct G n l yX10_wipe cX10_wipe 3 (some .int) 2 42 [.ref (gad G 10 0), .int x1] M (Qi G n Q) := by
  refine ct_of (by decide) (Nat.le_of_ble_eq_true rfl) (lv := [(0, .ref (gad G 10 0)), (1, .int x1)]) rfl (fun E C HR HT hE => ?_)
  replace C : Cx G n E RX10 cX10_wipe 3 := C
  refine w_iload_n C 1 dX10_wipe_0 rfl rfl ?_
  refine back_I (run_S C HR mt_X10_isVersion gw1176 gw1175 (by decide) rfl (Nat.le_of_ble_eq_true rfl) dX10_wipe_1 (As := [.int x1]) rfl (c_X10_isVersion x1  _ _ hw)) (fun r2 M1 hw => ?_)
  refine w_if_ne C dX10_wipe_4 (tgt := 10) rfl (fun c3 => ?_) (fun c3 => ?_)
  · replace hw := hw.2 c3
    refine w_aload_n C 0 dX10_wipe_10 rfl rfl ?_
    refine gf_X10_7 C (Nat.le_of_ble_eq_true rfl) dX10_wipe_11 ?_
    refine w_iload_n C 1 dX10_wipe_14 rfl rfl ?_
    obtain ⟨b4, hw⟩ := hw
    refine v_iald C ak_53 rfl (Nat.le_of_ble_eq_true rfl) b4 dX10_wipe_15 ?_
    refine w_istore_nV C dX10_wipe_16 rfl (by decide) (fun a5 ea5 => w_lv (lv' := [(2, .int a5), (0, .ref (gad G 10 0)), (1, .int x1)]) rfl ?_)
    replace hw := hw a5 ea5
    refine w_aload_n C 1 dX10_wipe_17 rfl rfl ?_
    refine gf_X10_7 C (Nat.le_of_ble_eq_true rfl) dX10_wipe_18 ?_
    refine w_iload_n C 2 dX10_wipe_21 rfl rfl ?_
    refine w_iconst C dX10_wipe_22 kc_i_0 ?_
    obtain ⟨b6, hw⟩ := hw
    refine v_iast C ak_53 rfl (Nat.le_of_ble_eq_true rfl) b6 dX10_wipe_23 (w_mem fun M7 eM7 => ?_)
    replace hw := hw M7 eM7
    refine w_aload_n C 1 dX10_wipe_24 rfl rfl ?_
    refine gf_X10_16 C (Nat.le_of_ble_eq_true rfl) dX10_wipe_25 ?_
    refine w_iload_n C 2 dX10_wipe_28 rfl rfl ?_
    refine w_iconst C dX10_wipe_29 kc_i_0 ?_
    obtain ⟨b8, hw⟩ := hw
    refine v_zast C ak_55 rfl (Nat.le_of_ble_eq_true rfl) b8 rfl dX10_wipe_30 (w_mem fun M9 eM9 => ?_)
    replace hw := hw M9 eM9
    refine w_iload_n C 0 dX10_wipe_31 rfl rfl ?_
    exact ret_I C HT hw dX10_wipe_32
  · replace hw := hw.1 c3
    refine w_bipush C dX10_wipe_7 kc_b_m2 ?_
    exact ret_I C HT hw dX10_wipe_9
set_option maxRecDepth 100000 in
set_option maxHeartbeats 4000000 in
theorem c_X10_byteNow {G : GG} {n : Nat} {l : Launch}   (M : Mem) (Q : Int32 → Mem → Prop) (hw : wp_X10_byteNow  M Q) : Ct G n l yX10_byteNow cX10_byteNow 1 (some .int) 0 0 [.ref (gad G 10 0)] M (Qi G n Q) := by
  refine ct_of (by decide) (Nat.le_of_ble_eq_true rfl) (lv := [(0, .ref (gad G 10 0))]) rfl (fun E C HR HT hE => ?_)
  replace C : Cx G n E RX10 cX10_byteNow 1 := C
  refine w_aload_n C 0 dX10_byteNow_0 rfl rfl ?_
  refine gf_X10_125 C (Nat.le_of_ble_eq_true rfl) dX10_byteNow_1 ?_
  refine w_aload_n C 0 dX10_byteNow_4 rfl rfl ?_
  refine gf_X10_7 C (Nat.le_of_ble_eq_true rfl) dX10_byteNow_5 ?_
  refine w_aload_n C 0 dX10_byteNow_8 rfl rfl ?_
  refine gf_X10_128 C (Nat.le_of_ble_eq_true rfl) dX10_byteNow_9 ?_
  obtain ⟨b1, hw⟩ := hw
  refine v_iald C ak_53 rfl (Nat.le_of_ble_eq_true rfl) b1 dX10_byteNow_12 ?_
  refine w_icmp_ge C dX10_byteNow_13 (tgt := 36) rfl (fun c2 => ?_) (fun c2 => ?_)
  · replace hw := hw.1 c2
    refine w_iconst C dX10_byteNow_36 kc_i_m1 ?_
    exact ret_I C HT hw dX10_byteNow_37
  · replace hw := hw.2 c2
    refine w_aload_n C 0 dX10_byteNow_16 rfl rfl ?_
    refine gf_X10_13 C (Nat.le_of_ble_eq_true rfl) dX10_byteNow_17 ?_
    refine w_bipush C dX10_byteNow_20 kc_b_120 ?_
    refine w_aload_n C 0 dX10_byteNow_22 rfl rfl ?_
    refine gf_X10_128 C (Nat.le_of_ble_eq_true rfl) dX10_byteNow_23 ?_
    refine w_imul C dX10_byteNow_26 ?_
    refine w_aload_n C 0 dX10_byteNow_27 rfl rfl ?_
    refine gf_X10_125 C (Nat.le_of_ble_eq_true rfl) dX10_byteNow_28 ?_
    refine w_iadd C dX10_byteNow_31 ?_
    obtain ⟨b3, hw⟩ := hw
    refine v_iald C ak_54 rfl (Nat.le_of_ble_eq_true rfl) b3 dX10_byteNow_32 ?_
    refine w_goto C dX10_byteNow_33 (tgt := 37) rfl ?_
    exact ret_I C HT hw dX10_byteNow_37
set_option maxRecDepth 100000 in
set_option maxHeartbeats 4000000 in
theorem c_X10_eventOf {G : GG} {n : Nat} {l : Launch} (x0 : Int32)  (M : Mem) (Q : Int32 → Mem → Prop) (hw : wp_X10_eventOf x0 M Q) : Ct G n l yX10_eventOf cX10_eventOf 1 (some .int) 0 0 [.int x0] M (Qi G n Q) := by
  refine ct_of (by decide) (Nat.le_of_ble_eq_true rfl) (lv := [(0, .int x0)]) rfl (fun E C HR HT hE => ?_)
  replace C : Cx G n E RX10 cX10_eventOf 1 := C
  refine w_iload_n C 0 dX10_eventOf_0 rfl rfl ?_
  by_cases c1 : x0 = (97 : Int32)
  · replace hw := hw.1 c1
    refine w_swAt C c1 dX10_eventOf_1 (off := 119) (tgt := 120) (by decide) rfl ?_
    refine w_iconst C dX10_eventOf_120 kc_i_4 ?_
    exact ret_I C HT hw dX10_eventOf_121
  replace hw := hw.2
  by_cases c2 : x0 = (98 : Int32)
  · replace hw := hw.1 c2
    refine w_swAt C c2 dX10_eventOf_1 (off := 126) (tgt := 127) (by decide) rfl ?_
    refine w_bipush C dX10_eventOf_127 kc_b_7 ?_
    exact ret_I C HT hw dX10_eventOf_129
  replace hw := hw.2
  by_cases c3 : x0 = (100 : Int32)
  · replace hw := hw.1 c3
    refine w_swAt C c3 dX10_eventOf_1 (off := 117) (tgt := 118) (by decide) rfl ?_
    refine w_iconst C dX10_eventOf_118 kc_i_3 ?_
    exact ret_I C HT hw dX10_eventOf_119
  replace hw := hw.2
  by_cases c4 : x0 = (107 : Int32)
  · replace hw := hw.1 c4
    refine w_swAt C c4 dX10_eventOf_1 (off := 115) (tgt := 116) (by decide) rfl ?_
    refine w_iconst C dX10_eventOf_116 kc_i_2 ?_
    exact ret_I C HT hw dX10_eventOf_117
  replace hw := hw.2
  by_cases c5 : x0 = (114 : Int32)
  · replace hw := hw.1 c5
    refine w_swAt C c5 dX10_eventOf_1 (off := 113) (tgt := 114) (by decide) rfl ?_
    refine w_iconst C dX10_eventOf_114 kc_i_1 ?_
    exact ret_I C HT hw dX10_eventOf_115
  replace hw := hw.2
  by_cases c6 : x0 = (115 : Int32)
  · replace hw := hw.1 c6
    refine w_swAt C c6 dX10_eventOf_1 (off := 111) (tgt := 112) (by decide) rfl ?_
    refine w_iconst C dX10_eventOf_112 kc_i_0 ?_
    exact ret_I C HT hw dX10_eventOf_113
  replace hw := hw.2
  by_cases c7 : x0 = (116 : Int32)
  · replace hw := hw.1 c7
    refine w_swAt C c7 dX10_eventOf_1 (off := 123) (tgt := 124) (by decide) rfl ?_
    refine w_bipush C dX10_eventOf_124 kc_b_6 ?_
    exact ret_I C HT hw dX10_eventOf_126
  replace hw := hw.2
  by_cases c8 : x0 = (120 : Int32)
  · replace hw := hw.1 c8
    refine w_swAt C c8 dX10_eventOf_1 (off := 121) (tgt := 122) (by decide) rfl ?_
    refine w_iconst C dX10_eventOf_122 kc_i_5 ?_
    exact ret_I C HT hw dX10_eventOf_123
  replace hw := hw.2
  replace hw := hw c1 c2 c3 c4 c5 c6 c7 c8
  by_cases cr : (x0).toInt < 97 ∨ 120 < (x0).toInt
  · refine w_swOut C dX10_eventOf_1 cr (tgt := 130) rfl ?_
    refine w_iconst C dX10_eventOf_130 kc_i_m1 ?_
    exact ret_I C HT hw dX10_eventOf_131
  · obtain ⟨v, hv, hx⟩ := sw_mid (lo := 97) (hi := 120) (by decide) (by decide) cr
    have hh : ∀ v : Nat, 97 ≤ v → v ≤ 120 → x0 = nI v → ¬ v ∈ [97, 98, 100, 107, 114, 115, 116, 120] := by
      intro v _ _ e hm
      simp only [List.mem_cons, List.not_mem_nil, or_false] at hm
      rcases hm with rfl | rfl | rfl | rfl | rfl | rfl | rfl | rfl
      · exact c1 e
      · exact c2 e
      · exact c3 e
      · exact c4 e
      · exact c5 e
      · exact c6 e
      · exact c7 e
      · exact c8 e
    have hb := hh v hv.1 hv.2 hx
    have ho : ∀ v : Nat, v < 121 → 97 ≤ v → ¬ v ∈ [97, 98, 100, 107, 114, 115, 116, 120] → (#[119, 126, 129, 117, 129, 129, 129, 129, 129, 129, 115, 129, 129, 129, 129, 129, 129, 113, 111, 123, 129, 129, 129, 121] : Array Int)[((v : Int) - 97).toNat]? = some 129 := by decide
    have hi2 : (x0).toInt = (v : Int) := by rw [hx]; exact nI_toInt (by omega)
    refine w_swIn C dX10_eventOf_1 (by rw [hi2]; omega) (by rw [hi2]; omega) (by rw [hi2]; exact ho v (by omega) hv.1 hb) (tgt := 130) rfl ?_
    refine w_iconst C dX10_eventOf_130 kc_i_m1 ?_
    exact ret_I C HT hw dX10_eventOf_131
set_option maxRecDepth 100000 in
set_option maxHeartbeats 4000000 in
theorem c_X10_registerOf {G : GG} {n : Nat} {l : Launch} (x0 : Int32)  (M : Mem) (Q : Int32 → Mem → Prop) (hw : wp_X10_registerOf x0 M Q) : Ct G n l yX10_registerOf cX10_registerOf 1 (some .int) 0 0 [.int x0] M (Qi G n Q) := by
  refine ct_of (by decide) (Nat.le_of_ble_eq_true rfl) (lv := [(0, .int x0)]) rfl (fun E C HR HT hE => ?_)
  replace C : Cx G n E RX10 cX10_registerOf 1 := C
  refine w_iload_n C 0 dX10_registerOf_0 rfl rfl ?_
  refine w_bipush C dX10_registerOf_1 kc_b_108 ?_
  refine w_icmp_ne C dX10_registerOf_3 (tgt := 10) rfl (fun c1 => ?_) (fun c1 => ?_)
  · replace hw := hw.2 c1
    refine w_iload_n C 0 dX10_registerOf_10 rfl rfl ?_
    refine w_bipush C dX10_registerOf_11 kc_b_112 ?_
    refine w_icmp_ne C dX10_registerOf_13 (tgt := 20) rfl (fun c2 => ?_) (fun c2 => ?_)
    · replace hw := hw.2 c2
      refine w_iload_n C 0 dX10_registerOf_20 rfl rfl ?_
      refine w_bipush C dX10_registerOf_21 kc_b_99 ?_
      refine w_icmp_ne C dX10_registerOf_23 (tgt := 30) rfl (fun c3 => ?_) (fun c3 => ?_)
      · replace hw := hw.2 c3
        refine w_iconst C dX10_registerOf_30 kc_i_m1 ?_
        exact ret_I C HT hw dX10_registerOf_31
      · replace hw := hw.1 c3
        refine w_iconst C dX10_registerOf_26 kc_i_2 ?_
        refine w_goto C dX10_registerOf_27 (tgt := 31) rfl ?_
        exact ret_I C HT hw dX10_registerOf_31
    · replace hw := hw.1 c2
      refine w_iconst C dX10_registerOf_16 kc_i_1 ?_
      refine w_goto C dX10_registerOf_17 (tgt := 31) rfl ?_
      exact ret_I C HT hw dX10_registerOf_31
  · replace hw := hw.1 c1
    refine w_iconst C dX10_registerOf_6 kc_i_0 ?_
    refine w_goto C dX10_registerOf_7 (tgt := 31) rfl ?_
    exact ret_I C HT hw dX10_registerOf_31
set_option maxRecDepth 100000 in
set_option maxHeartbeats 4000000 in
theorem s_X10_mode_33 {G : GG} {n : Nat} {E : EE} (C : Cx G n E RX10 cX10_mode 2) (HR : RM E 1 20) (HT : RT E (some .int)) {Q : Int32 → Mem → Prop}  : ∀ (x1 : Int32)  (M : Mem), w_X10_mode_33 Q  x1 M → WW G n E 2 (QE G E (Qi G n Q)) 33 [(0, .ref (gad G 10 0)), (1, .int x1)] [] M := by
  intro x1 M hw
  refine w_aload_n C 0 dX10_mode_33 rfl rfl ?_
  refine w_dup C dX10_mode_34 rfl ?_
  refine gf_X10_125 C (Nat.le_of_ble_eq_true rfl) dX10_mode_35 ?_
  refine w_iconst C dX10_mode_38 kc_i_1 ?_
  refine w_iadd C dX10_mode_39 ?_
  refine pf_X10_125 C (Nat.le_of_ble_eq_true rfl) dX10_mode_40 (w_mem fun M4 eM4 => ?_)
  replace hw := hw M4 eM4
  refine w_iload_n C 1 dX10_mode_43 rfl rfl ?_
  refine w_bipush C dX10_mode_44 kc_b_48 ?_
  refine w_isub C dX10_mode_46 ?_
  exact ret_I C HT hw dX10_mode_47
set_option maxRecDepth 100000 in
set_option maxHeartbeats 4000000 in
theorem c_X10_mode {G : GG} {n : Nat} {l : Launch}   (M : Mem) (Q : Int32 → Mem → Prop) (hw : wp_X10_mode  M Q) : Ct G n l yX10_mode cX10_mode 2 (some .int) 1 20 [.ref (gad G 10 0)] M (Qi G n Q) := by
  refine ct_of (by decide) (Nat.le_of_ble_eq_true rfl) (lv := [(0, .ref (gad G 10 0))]) rfl (fun E C HR HT hE => ?_)
  replace C : Cx G n E RX10 cX10_mode 2 := C
  refine w_aload_n C 0 dX10_mode_0 rfl rfl ?_
  refine back_I (run_V C HR mt_X10_byteNow (ci := 10) rfl (by decide) (Nat.le_of_ble_eq_true rfl) gw1207 gw42 gw1205 (by decide) rfl (Nat.le_of_ble_eq_true rfl) dX10_mode_1 (As := []) rfl (c_X10_byteNow   _ _ hw)) (fun r2 M1 hw => ?_)
  refine w_istore_n C (lv' := [(1, .int r2), (0, .ref (gad G 10 0))]) dX10_mode_4 rfl (by decide) rfl ?_
  refine w_aload_n C 1 dX10_mode_5 rfl rfl ?_
  refine gf_X10_135 C (Nat.le_of_ble_eq_true rfl) dX10_mode_6 ?_
  refine w_iconst C dX10_mode_9 kc_i_m1 ?_
  refine w_icmp_ne C dX10_mode_10 (tgt := 33) rfl (fun c3 => ?_) (fun c3 => ?_)
  · replace hw := hw.2 c3
    exact w_sub [1, 0] rfl (s_X10_mode_33 C HR HT  r2  _ hw)
  · replace hw := hw.1 c3
    refine w_iload_n C 0 dX10_mode_13 rfl rfl ?_
    refine w_bipush C dX10_mode_14 kc_b_48 ?_
    refine w_icmp_eq C dX10_mode_16 (tgt := 33) rfl (fun c5 => ?_) (fun c5 => ?_)
    · replace hw := hw.1 c5
      exact w_sub [1, 0] rfl (s_X10_mode_33 C HR HT  r2  _ hw)
    · replace hw := hw.2 c5
      refine w_iload_n C 0 dX10_mode_19 rfl rfl ?_
      refine w_bipush C dX10_mode_20 kc_b_49 ?_
      refine w_icmp_eq C dX10_mode_22 (tgt := 33) rfl (fun c6 => ?_) (fun c6 => ?_)
      · replace hw := hw.1 c6
        exact w_sub [1, 0] rfl (s_X10_mode_33 C HR HT  r2  _ hw)
      · replace hw := hw.2 c6
        refine w_aload_n C 1 dX10_mode_25 rfl rfl ?_
        refine w_aload_n C 1 dX10_mode_26 rfl rfl ?_
        refine gf_X10_125 C (Nat.le_of_ble_eq_true rfl) dX10_mode_27 ?_
        refine pf_X10_135 C (Nat.le_of_ble_eq_true rfl) dX10_mode_30 (w_mem fun M7 eM7 => ?_)
        replace hw := hw M7 eM7
        exact w_sub [1, 0] rfl (s_X10_mode_33 C HR HT  r2  _ hw)
set_option maxRecDepth 100000 in
set_option maxHeartbeats 4000000 in
theorem s_X10_act_243 {G : GG} {n : Nat} {E : EE} (C : Cx G n E RX10 cX10_act 6) (HR : RM E 2 41) (HT : RT E none) {Q : Mem → Prop}  : ∀ (x1 : Int32) (x2 : Int32) (x3 : Int32) (y0 : Int32) (y1 : Int32)  (M : Mem), w_X10_act_243 Q  x1 x2 x3 y0 y1 M → WW G n E 6 (QE G E (Qv G n Q)) 243 [(0, .ref (gad G 10 0)), (1, .int x1), (2, .int x2), (3, .int x3)] [.int y0, .int y1] M := by
  intro x1 x2 x3 y0 y1 M hw
  refine w_iadd C dX10_act_243 ?_
  refine w_istoreV C dX10_act_244 (by decide) (fun a26 ea26 => w_lv (lv' := [(4, .int a26), (0, .ref (gad G 10 0)), (1, .int x1), (2, .int x2), (3, .int x3)]) rfl ?_)
  replace hw := hw a26 ea26
  refine w_aload_n C 1 dX10_act_246 rfl rfl ?_
  refine gf_X10_29 C (Nat.le_of_ble_eq_true rfl) dX10_act_247 ?_
  refine w_iload C 0 dX10_act_250 rfl ?_
  refine w_iload_n C 2 dX10_act_252 rfl rfl ?_
  obtain ⟨b27, hw⟩ := hw
  refine v_iast C ak_59 rfl (Nat.le_of_ble_eq_true rfl) b27 dX10_act_253 (w_mem fun M28 eM28 => ?_)
  replace hw := hw M28 eM28
  refine w_aload_n C 1 dX10_act_254 rfl rfl ?_
  refine gf_X10_32 C (Nat.le_of_ble_eq_true rfl) dX10_act_255 ?_
  refine w_iload C 0 dX10_act_258 rfl ?_
  refine w_iload_n C 3 dX10_act_260 rfl rfl ?_
  obtain ⟨b29, hw⟩ := hw
  refine v_iast C ak_60 rfl (Nat.le_of_ble_eq_true rfl) b29 dX10_act_261 (w_mem fun M30 eM30 => ?_)
  replace hw := hw M30 eM30
  refine w_aload_n C 1 dX10_act_262 rfl rfl ?_
  refine gf_X10_35 C (Nat.le_of_ble_eq_true rfl) dX10_act_263 ?_
  refine w_iload C 0 dX10_act_266 rfl ?_
  refine w_iload_n C 4 dX10_act_268 rfl rfl ?_
  obtain ⟨b31, hw⟩ := hw
  refine v_iast C ak_61 rfl (Nat.le_of_ble_eq_true rfl) b31 dX10_act_269 (w_mem fun M32 eM32 => ?_)
  replace hw := hw M32 eM32
  refine w_aload_n C 1 dX10_act_270 rfl rfl ?_
  refine w_dup C dX10_act_271 rfl ?_
  refine gf_X10_145 C (Nat.le_of_ble_eq_true rfl) dX10_act_272 ?_
  refine w_iconst C dX10_act_275 kc_i_1 ?_
  refine w_iadd C dX10_act_276 ?_
  refine pf_X10_145 C (Nat.le_of_ble_eq_true rfl) dX10_act_277 (w_mem fun M33 eM33 => ?_)
  replace hw := hw M33 eM33
  exact ret_V C HT hw dX10_act_280
set_option maxRecDepth 100000 in
set_option maxHeartbeats 4000000 in
theorem s_X10_act_218 {G : GG} {n : Nat} {E : EE} (C : Cx G n E RX10 cX10_act 6) (HR : RM E 2 41) (HT : RT E none) {Q : Mem → Prop}  : ∀ (x1 : Int32) (x2 : Int32) (x3 : Int32)  (M : Mem), w_X10_act_218 Q  x1 x2 x3 M → WW G n E 6 (QE G E (Qv G n Q)) 218 [(0, .ref (gad G 10 0)), (1, .int x1), (2, .int x2), (3, .int x3)] [] M := by
  intro x1 x2 x3 M hw
  refine w_bipush C dX10_act_218 kc_b_60 ?_
  refine w_aload_n C 0 dX10_act_220 rfl rfl ?_
  refine gf_X10_128 C (Nat.le_of_ble_eq_true rfl) dX10_act_221 ?_
  refine w_imul C dX10_act_224 ?_
  refine w_aload_n C 0 dX10_act_225 rfl rfl ?_
  refine gf_X10_145 C (Nat.le_of_ble_eq_true rfl) dX10_act_226 ?_
  refine w_bipush C dX10_act_229 kc_b_59 ?_
  refine w_icmp_ge C dX10_act_231 (tgt := 241) rfl (fun c25 => ?_) (fun c25 => ?_)
  · replace hw := hw.1 c25
    refine w_bipush C dX10_act_241 kc_b_59 ?_
    exact w_sub [0, 1, 2, 3] rfl (s_X10_act_243 C HR HT  x1 x2 x3 59 (60 * (M 709 0 0))  _ hw)
  · replace hw := hw.2 c25
    refine w_aload_n C 0 dX10_act_234 rfl rfl ?_
    refine gf_X10_145 C (Nat.le_of_ble_eq_true rfl) dX10_act_235 ?_
    refine w_goto C dX10_act_238 (tgt := 243) rfl ?_
    exact w_sub [0, 1, 2, 3] rfl (s_X10_act_243 C HR HT  x1 x2 x3 (M 712 0 0) (60 * (M 709 0 0))  _ hw)
set_option maxRecDepth 100000 in
set_option maxHeartbeats 4000000 in
theorem s_X10_act_207 {G : GG} {n : Nat} {E : EE} (C : Cx G n E RX10 cX10_act 6) (HR : RM E 2 41) (HT : RT E none) {Q : Mem → Prop}  : ∀ (x1 : Int32) (x2 : Int32) (y0 : Int32)  (M : Mem), w_X10_act_207 Q  x1 x2 y0 M → WW G n E 6 (QE G E (Qv G n Q)) 207 [(0, .ref (gad G 10 0)), (1, .int x1), (2, .int x2)] [.int y0] M := by
  intro x1 x2 y0 M hw
  refine w_istore_n C (lv' := [(3, .int y0), (0, .ref (gad G 10 0)), (1, .int x1), (2, .int x2)]) dX10_act_207 rfl (by decide) rfl ?_
  refine w_aload_n C 1 dX10_act_208 rfl rfl ?_
  refine w_dup C dX10_act_209 rfl ?_
  refine gf_X10_125 C (Nat.le_of_ble_eq_true rfl) dX10_act_210 ?_
  refine w_iconst C dX10_act_213 kc_i_1 ?_
  refine w_iadd C dX10_act_214 ?_
  refine pf_X10_125 C (Nat.le_of_ble_eq_true rfl) dX10_act_215 (w_mem fun M24 eM24 => ?_)
  replace hw := hw M24 eM24
  exact w_sub [1, 2, 3, 0] rfl (s_X10_act_218 C HR HT  x1 x2 y0  _ hw)
set_option maxRecDepth 100000 in
set_option maxHeartbeats 4000000 in
theorem s_X10_act_179 {G : GG} {n : Nat} {E : EE} (C : Cx G n E RX10 cX10_act 6) (HR : RM E 2 41) (HT : RT E none) {Q : Mem → Prop}  : ∀ (x1 : Int32) (x2 : Int32) (x5 : Int32)  (M : Mem), w_X10_act_179 Q  x1 x2 x5 M → WW G n E 6 (QE G E (Qv G n Q)) 179 [(0, .ref (gad G 10 0)), (1, .int x1), (2, .int x2), (5, .int x5)] [] M := by
  intro x1 x2 x5 M hw
  refine w_iload C 3 dX10_act_179 rfl ?_
  refine w_bipush C dX10_act_181 kc_b_48 ?_
  refine w_bipush C dX10_act_183 kc_b_57 ?_
  refine back_I (run_S C HR mt_X10_in gw1179 gw1178 (by decide) rfl (Nat.le_of_ble_eq_true rfl) dX10_act_185 (As := [.int x5, .int 48, .int 57]) rfl (c_X10_in x5 48 57  _ _ hw)) (fun r20 M19 hw => ?_)
  refine w_if_eq C dX10_act_188 (tgt := 199) rfl (fun c21 => ?_) (fun c21 => ?_)
  · replace hw := hw.1 c21
    refine w_bipush C dX10_act_199 kc_b_10 ?_
    refine w_iload C 3 dX10_act_201 rfl ?_
    refine back_I (run_S C HR mt_X10_registerOf gw1221 gw1220 (by decide) rfl (Nat.le_of_ble_eq_true rfl) dX10_act_203 (As := [.int x5]) rfl (c_X10_registerOf x5  _ _ hw)) (fun r23 M22 hw => ?_)
    refine w_iadd C dX10_act_206 ?_
    exact w_sub [0, 1, 2] rfl (s_X10_act_207 C HR HT  x1 x2 (10 + r23)  _ hw)
  · replace hw := hw.2 c21
    refine w_iload C 3 dX10_act_191 rfl ?_
    refine w_bipush C dX10_act_193 kc_b_48 ?_
    refine w_isub C dX10_act_195 ?_
    refine w_goto C dX10_act_196 (tgt := 207) rfl ?_
    exact w_sub [0, 1, 2] rfl (s_X10_act_207 C HR HT  x1 x2 (x5 - 48)  _ hw)
set_option maxRecDepth 100000 in
set_option maxHeartbeats 4000000 in
theorem s_X10_act_126 {G : GG} {n : Nat} {E : EE} (C : Cx G n E RX10 cX10_act 6) (HR : RM E 2 41) (HT : RT E none) {Q : Mem → Prop}  : ∀ (x1 : Int32) (x2 : Int32)  (M : Mem), w_X10_act_126 Q  x1 x2 M → WW G n E 6 (QE G E (Qv G n Q)) 126 [(0, .ref (gad G 10 0)), (1, .int x1), (2, .int x2)] [] M := by
  intro x1 x2 M hw
  refine w_aload_n C 0 dX10_act_126 rfl rfl ?_
  refine w_dup C dX10_act_127 rfl ?_
  refine gf_X10_125 C (Nat.le_of_ble_eq_true rfl) dX10_act_128 ?_
  refine w_iconst C dX10_act_131 kc_i_1 ?_
  refine w_iadd C dX10_act_132 ?_
  refine pf_X10_125 C (Nat.le_of_ble_eq_true rfl) dX10_act_133 (w_mem fun M15 eM15 => ?_)
  replace hw := hw M15 eM15
  refine w_aload_n C 0 dX10_act_136 rfl rfl ?_
  refine back_I (run_V C HR mt_X10_byteNow (ci := 10) rfl (by decide) (Nat.le_of_ble_eq_true rfl) gw1207 gw42 gw1205 (by decide) rfl (Nat.le_of_ble_eq_true rfl) dX10_act_137 (As := []) rfl (c_X10_byteNow   _ _ hw)) (fun r17 M16 hw => ?_)
  refine w_istore C (lv' := [(5, .int r17), (0, .ref (gad G 10 0)), (1, .int x1), (2, .int x2)]) dX10_act_140 (by decide) rfl ?_
  refine w_aload_n C 1 dX10_act_142 rfl rfl ?_
  refine gf_X10_135 C (Nat.le_of_ble_eq_true rfl) dX10_act_143 ?_
  refine w_iconst C dX10_act_146 kc_i_m1 ?_
  refine w_icmp_ne C dX10_act_147 (tgt := 179) rfl (fun c18 => ?_) (fun c18 => ?_)
  · replace hw := hw.2 c18
    exact w_sub [1, 2, 3, 0] rfl (s_X10_act_179 C HR HT  x1 x2 r17  _ hw)
  · replace hw := hw.1 c18
    refine w_iload C 0 dX10_act_150 rfl ?_
    refine w_bipush C dX10_act_152 kc_b_48 ?_
    refine w_bipush C dX10_act_154 kc_b_57 ?_
    refine back_I (run_S C HR mt_X10_in gw1179 gw1178 (by decide) rfl (Nat.le_of_ble_eq_true rfl) dX10_act_156 (As := [.int r17, .int 48, .int 57]) rfl (c_X10_in r17 48 57  _ _ hw)) (fun r35 M34 hw => ?_)
    refine w_if_ne C dX10_act_159 (tgt := 179) rfl (fun c36 => ?_) (fun c36 => ?_)
    · replace hw := hw.2 c36
      exact w_sub [1, 2, 3, 0] rfl (s_X10_act_179 C HR HT  x1 x2 r17  _ hw)
    · replace hw := hw.1 c36
      refine w_iload C 0 dX10_act_162 rfl ?_
      refine back_I (run_S C HR mt_X10_registerOf gw1221 gw1220 (by decide) rfl (Nat.le_of_ble_eq_true rfl) dX10_act_164 (As := [.int r17]) rfl (c_X10_registerOf r17  _ _ hw)) (fun r38 M37 hw => ?_)
      refine w_iconst C dX10_act_167 kc_i_m1 ?_
      refine w_icmp_ne C dX10_act_168 (tgt := 179) rfl (fun c39 => ?_) (fun c39 => ?_)
      · replace hw := hw.2 c39
        exact w_sub [1, 2, 3, 0] rfl (s_X10_act_179 C HR HT  x1 x2 r17  _ hw)
      · replace hw := hw.1 c39
        refine w_aload_n C 1 dX10_act_171 rfl rfl ?_
        refine w_aload_n C 1 dX10_act_172 rfl rfl ?_
        refine gf_X10_125 C (Nat.le_of_ble_eq_true rfl) dX10_act_173 ?_
        refine pf_X10_135 C (Nat.le_of_ble_eq_true rfl) dX10_act_176 (w_mem fun M40 eM40 => ?_)
        replace hw := hw M40 eM40
        exact w_sub [1, 2, 3, 0] rfl (s_X10_act_179 C HR HT  x1 x2 r17  _ hw)
set_option maxRecDepth 100000 in
set_option maxHeartbeats 4000000 in
theorem s_X10_act_96 {G : GG} {n : Nat} {E : EE} (C : Cx G n E RX10 cX10_act 6) (HR : RM E 2 41) (HT : RT E none) {Q : Mem → Prop}  : ∀ (x1 : Int32) (x4 : Int32) (y0 : Int32)  (M : Mem), w_X10_act_96 Q  x1 x4 y0 M → WW G n E 6 (QE G E (Qv G n Q)) 96 [(0, .ref (gad G 10 0)), (1, .int x1), (4, .int x4)] [.int y0] M := by
  intro x1 x4 y0 M hw
  refine w_istore_n C (lv' := [(2, .int y0), (0, .ref (gad G 10 0)), (1, .int x1), (4, .int x4)]) dX10_act_96 rfl (by decide) rfl ?_
  refine w_iload C 3 dX10_act_97 rfl ?_
  refine w_bipush C dX10_act_99 kc_b_43 ?_
  refine w_icmp_eq C dX10_act_101 (tgt := 126) rfl (fun c14 => ?_) (fun c14 => ?_)
  · replace hw := hw.1 c14
    exact w_sub [1, 2, 0] rfl (s_X10_act_126 C HR HT  x1 y0  _ hw)
  · replace hw := hw.2 c14
    refine w_iload C 3 dX10_act_104 rfl ?_
    refine w_bipush C dX10_act_106 kc_b_45 ?_
    refine w_icmp_eq C dX10_act_108 (tgt := 126) rfl (fun c41 => ?_) (fun c41 => ?_)
    · replace hw := hw.1 c41
      exact w_sub [1, 2, 0] rfl (s_X10_act_126 C HR HT  x1 y0  _ hw)
    · replace hw := hw.2 c41
      refine w_iload C 3 dX10_act_111 rfl ?_
      refine w_bipush C dX10_act_113 kc_b_61 ?_
      refine w_icmp_eq C dX10_act_115 (tgt := 126) rfl (fun c42 => ?_) (fun c42 => ?_)
      · replace hw := hw.1 c42
        exact w_sub [1, 2, 0] rfl (s_X10_act_126 C HR HT  x1 y0  _ hw)
      · replace hw := hw.2 c42
        refine w_aload_n C 1 dX10_act_118 rfl rfl ?_
        refine w_aload_n C 1 dX10_act_119 rfl rfl ?_
        refine gf_X10_125 C (Nat.le_of_ble_eq_true rfl) dX10_act_120 ?_
        refine pf_X10_135 C (Nat.le_of_ble_eq_true rfl) dX10_act_123 (w_mem fun M43 eM43 => ?_)
        replace hw := hw M43 eM43
        exact w_sub [1, 2, 0] rfl (s_X10_act_126 C HR HT  x1 y0  _ hw)
set_option maxRecDepth 100000 in
set_option maxHeartbeats 4000000 in
theorem c_X10_act {G : GG} {n : Nat} {l : Launch}   (M : Mem) (Q : Mem → Prop) (hw : wp_X10_act  M Q) : Ct G n l yX10_act cX10_act 6 none 2 41 [.ref (gad G 10 0)] M (Qv G n Q) := by
  refine ct_of (by decide) (Nat.le_of_ble_eq_true rfl) (lv := [(0, .ref (gad G 10 0))]) rfl (fun E C HR HT hE => ?_)
  replace C : Cx G n E RX10 cX10_act 6 := C
  refine w_aload_n C 0 dX10_act_0 rfl rfl ?_
  refine back_I (run_V C HR mt_X10_byteNow (ci := 10) rfl (by decide) (Nat.le_of_ble_eq_true rfl) gw1207 gw42 gw1205 (by decide) rfl (Nat.le_of_ble_eq_true rfl) dX10_act_1 (As := []) rfl (c_X10_byteNow   _ _ hw)) (fun r2 M1 hw => ?_)
  refine back_I (run_S C HR mt_X10_registerOf gw1221 gw1220 (by decide) rfl (Nat.le_of_ble_eq_true rfl) dX10_act_4 (As := [.int r2]) rfl (c_X10_registerOf r2  _ _ hw)) (fun r4 M3 hw => ?_)
  refine w_istore_n C (lv' := [(1, .int r4), (0, .ref (gad G 10 0))]) dX10_act_7 rfl (by decide) rfl ?_
  refine w_iconst C dX10_act_8 kc_i_0 ?_
  refine w_istore_n C (lv' := [(2, .int 0), (1, .int r4), (0, .ref (gad G 10 0))]) dX10_act_9 rfl (by decide) rfl ?_
  refine w_iconst C dX10_act_10 kc_i_0 ?_
  refine w_istore_n C (lv' := [(3, .int 0), (2, .int 0), (1, .int r4), (0, .ref (gad G 10 0))]) dX10_act_11 rfl (by decide) rfl ?_
  refine w_aload_n C 3 dX10_act_12 rfl rfl ?_
  refine back_I (run_V C HR mt_X10_byteNow (ci := 10) rfl (by decide) (Nat.le_of_ble_eq_true rfl) gw1207 gw42 gw1205 (by decide) rfl (Nat.le_of_ble_eq_true rfl) dX10_act_13 (As := []) rfl (c_X10_byteNow   _ _ hw)) (fun r6 M5 hw => ?_)
  refine w_bipush C dX10_act_16 kc_b_109 ?_
  refine w_icmp_ne C dX10_act_18 (tgt := 41) rfl (fun c7 => ?_) (fun c7 => ?_)
  · replace hw := hw.2 c7
    refine w_iload_n C 2 dX10_act_41 rfl rfl ?_
    refine w_iconst C dX10_act_42 kc_i_m1 ?_
    refine w_icmp_ne C dX10_act_43 (tgt := 57) rfl (fun c8 => ?_) (fun c8 => ?_)
    · replace hw := hw.2 c8
      refine w_aload_n C 3 dX10_act_57 rfl rfl ?_
      refine w_dup C dX10_act_58 rfl ?_
      refine gf_X10_125 C (Nat.le_of_ble_eq_true rfl) dX10_act_59 ?_
      refine w_iconst C dX10_act_62 kc_i_1 ?_
      refine w_iadd C dX10_act_63 ?_
      refine pf_X10_125 C (Nat.le_of_ble_eq_true rfl) dX10_act_64 (w_mem fun M9 eM9 => ?_)
      replace hw := hw M9 eM9
      refine w_aload_n C 3 dX10_act_67 rfl rfl ?_
      refine back_I (run_V C HR mt_X10_byteNow (ci := 10) rfl (by decide) (Nat.le_of_ble_eq_true rfl) gw1207 gw42 gw1205 (by decide) rfl (Nat.le_of_ble_eq_true rfl) dX10_act_68 (As := []) rfl (c_X10_byteNow   _ _ hw)) (fun r11 M10 hw => ?_)
      refine w_istore C (lv' := [(4, .int r11), (3, .int 0), (2, .int 0), (1, .int r4), (0, .ref (gad G 10 0))]) dX10_act_71 (by decide) rfl ?_
      refine w_iload C 0 dX10_act_73 rfl ?_
      refine w_bipush C dX10_act_75 kc_b_43 ?_
      refine w_icmp_ne C dX10_act_77 (tgt := 84) rfl (fun c12 => ?_) (fun c12 => ?_)
      · replace hw := hw.2 c12
        refine w_iload C 0 dX10_act_84 rfl ?_
        refine w_bipush C dX10_act_86 kc_b_45 ?_
        refine w_icmp_ne C dX10_act_88 (tgt := 95) rfl (fun c13 => ?_) (fun c13 => ?_)
        · replace hw := hw.2 c13
          refine w_iconst C dX10_act_95 kc_i_0 ?_
          exact w_sub [4, 3, 0] rfl (s_X10_act_96 C HR HT  r4 r11 0  _ hw)
        · replace hw := hw.1 c13
          refine w_iconst C dX10_act_91 kc_i_2 ?_
          refine w_goto C dX10_act_92 (tgt := 96) rfl ?_
          exact w_sub [4, 3, 0] rfl (s_X10_act_96 C HR HT  r4 r11 2  _ hw)
      · replace hw := hw.1 c12
        refine w_iconst C dX10_act_80 kc_i_1 ?_
        refine w_goto C dX10_act_81 (tgt := 96) rfl ?_
        exact w_sub [4, 3, 0] rfl (s_X10_act_96 C HR HT  r4 r11 1  _ hw)
    · replace hw := hw.1 c8
      refine w_aload_n C 3 dX10_act_46 rfl rfl ?_
      refine w_aload_n C 3 dX10_act_47 rfl rfl ?_
      refine gf_X10_125 C (Nat.le_of_ble_eq_true rfl) dX10_act_48 ?_
      refine pf_X10_135 C (Nat.le_of_ble_eq_true rfl) dX10_act_51 (w_mem fun M44 eM44 => ?_)
      replace hw := hw M44 eM44
      refine w_goto C dX10_act_54 (tgt := 218) rfl ?_
      exact w_sub [3, 2, 1, 0] rfl (s_X10_act_218 C HR HT  r4 0 0  _ hw)
  · replace hw := hw.1 c7
    refine w_aload_n C 3 dX10_act_21 rfl rfl ?_
    refine w_dup C dX10_act_22 rfl ?_
    refine gf_X10_125 C (Nat.le_of_ble_eq_true rfl) dX10_act_23 ?_
    refine w_iconst C dX10_act_26 kc_i_1 ?_
    refine w_iadd C dX10_act_27 ?_
    refine pf_X10_125 C (Nat.le_of_ble_eq_true rfl) dX10_act_28 (w_mem fun M45 eM45 => ?_)
    replace hw := hw M45 eM45
    refine w_iconst C dX10_act_31 kc_i_3 ?_
    refine w_istore_n C (lv' := [(1, .int 3), (3, .int 0), (2, .int 0), (0, .ref (gad G 10 0))]) dX10_act_32 rfl (by decide) rfl ?_
    refine w_aload_n C 3 dX10_act_33 rfl rfl ?_
    refine back_I (run_V C HR mt_X10_mode (ci := 10) rfl (by decide) (Nat.le_of_ble_eq_true rfl) gw1214 gw43 gw1212 (by decide) rfl (Nat.le_of_ble_eq_true rfl) dX10_act_34 (As := []) rfl (c_X10_mode   _ _ hw)) (fun r47 M46 hw => ?_)
    refine w_istore_n C (lv' := [(3, .int r47), (1, .int 3), (2, .int 0), (0, .ref (gad G 10 0))]) dX10_act_37 rfl (by decide) rfl ?_
    refine w_goto C dX10_act_38 (tgt := 218) rfl ?_
    exact w_sub [3, 1, 2, 0] rfl (s_X10_act_218 C HR HT  3 0 r47  _ hw)
set_option maxRecDepth 100000 in
set_option maxHeartbeats 4000000 in
theorem s_X10_part_140 {G : GG} {n : Nat} {E : EE} (C : Cx G n E RX10 cX10_part 5) (HR : RM E 3 66) (HT : RT E none) {Q : Mem → Prop} {K92 : Int32 → Int32 → Int32 → Int32 → Mem → Prop} (g92 : ∀ (x1 : Int32) (x2 : Int32) (x3 : Int32) (x4 : Int32)  (M : Mem), K92 x1 x2 x3 x4 M → WW G n E 5 (QE G E (Qv G n Q)) 92 [(0, .ref (gad G 10 0)), (1, .int x1), (2, .int x2), (3, .int x3), (4, .int x4)] [] M) : ∀ (x1 : Int32) (x2 : Int32) (x3 : Int32) (x4 : Int32) (y0 : Int32) (y1 : Int32)  (M : Mem), w_X10_part_140 Q K92 x1 x2 x3 x4 y0 y1 M → WW G n E 5 (QE G E (Qv G n Q)) 140 [(0, .ref (gad G 10 0)), (1, .int x1), (2, .int x2), (3, .int x3), (4, .int x4)] [.int y0, .int y1, .ref (gad G 10 0)] M := by
  intro x1 x2 x3 x4 y0 y1 M hw
  refine w_iadd C dX10_part_140 ?_
  refine pf_X10_125 C (Nat.le_of_ble_eq_true rfl) dX10_part_141 (w_mem fun M23 eM23 => ?_)
  replace hw := hw M23 eM23
  refine w_goto C dX10_part_144 (tgt := 92) rfl ?_
  exact w_sub [0, 1, 2, 3, 4] rfl (g92 x1 x2 x3 x4  _ hw)
set_option maxRecDepth 100000 in
set_option maxHeartbeats 4000000 in
theorem s_X10_part_123 {G : GG} {n : Nat} {E : EE} (C : Cx G n E RX10 cX10_part 5) (HR : RM E 3 66) (HT : RT E none) {Q : Mem → Prop} {K92 : Int32 → Int32 → Int32 → Int32 → Mem → Prop} (g92 : ∀ (x1 : Int32) (x2 : Int32) (x3 : Int32) (x4 : Int32)  (M : Mem), K92 x1 x2 x3 x4 M → WW G n E 5 (QE G E (Qv G n Q)) 92 [(0, .ref (gad G 10 0)), (1, .int x1), (2, .int x2), (3, .int x3), (4, .int x4)] [] M) : ∀ (x1 : Int32) (x2 : Int32) (x3 : Int32) (y0 : Int32)  (M : Mem), w_X10_part_123 Q K92 x1 x2 x3 y0 M → WW G n E 5 (QE G E (Qv G n Q)) 123 [(0, .ref (gad G 10 0)), (1, .int x1), (2, .int x2), (3, .int x3)] [.int y0] M := by
  intro x1 x2 x3 y0 M hw
  refine w_istore C (lv' := [(4, .int y0), (0, .ref (gad G 10 0)), (1, .int x1), (2, .int x2), (3, .int x3)]) dX10_part_123 (by decide) rfl ?_
  refine w_aload_n C 1 dX10_part_125 rfl rfl ?_
  refine w_dup C dX10_part_126 rfl ?_
  refine gf_X10_125 C (Nat.le_of_ble_eq_true rfl) dX10_part_127 ?_
  refine w_iload C 0 dX10_part_130 rfl ?_
  refine w_if_eq C dX10_part_132 (tgt := 139) rfl (fun c22 => ?_) (fun c22 => ?_)
  · replace hw := hw.1 c22
    refine w_iconst C dX10_part_139 kc_i_0 ?_
    exact w_sub [1, 2, 3, 4, 0] rfl (s_X10_part_140 C HR HT g92 x1 x2 x3 y0 0 (M 710 0 0)  _ hw)
  · replace hw := hw.2 c22
    refine w_iconst C dX10_part_135 kc_i_1 ?_
    refine w_goto C dX10_part_136 (tgt := 140) rfl ?_
    exact w_sub [1, 2, 3, 4, 0] rfl (s_X10_part_140 C HR HT g92 x1 x2 x3 y0 1 (M 710 0 0)  _ hw)
set_option maxRecDepth 100000 in
set_option maxHeartbeats 4000000 in
theorem s_X10_part_122 {G : GG} {n : Nat} {E : EE} (C : Cx G n E RX10 cX10_part 5) (HR : RM E 3 66) (HT : RT E none) {Q : Mem → Prop} {K92 : Int32 → Int32 → Int32 → Int32 → Mem → Prop} (g92 : ∀ (x1 : Int32) (x2 : Int32) (x3 : Int32) (x4 : Int32)  (M : Mem), K92 x1 x2 x3 x4 M → WW G n E 5 (QE G E (Qv G n Q)) 92 [(0, .ref (gad G 10 0)), (1, .int x1), (2, .int x2), (3, .int x3), (4, .int x4)] [] M) : ∀ (x1 : Int32) (x2 : Int32) (x3 : Int32)  (M : Mem), w_X10_part_122 Q K92 x1 x2 x3 M → WW G n E 5 (QE G E (Qv G n Q)) 122 [(0, .ref (gad G 10 0)), (1, .int x1), (2, .int x2), (3, .int x3)] [] M := by
  intro x1 x2 x3 M hw
  refine w_iconst C dX10_part_122 kc_i_0 ?_
  exact w_sub [0, 1, 2, 3] rfl (s_X10_part_123 C HR HT g92 x1 x2 x3 0  _ hw)
set_option maxRecDepth 100000 in
set_option maxHeartbeats 4000000 in
theorem s_X10_part_92 {G : GG} {n : Nat} {E : EE} (C : Cx G n E RX10 cX10_part 5) (HR : RM E 3 66) (HT : RT E none) {Q : Mem → Prop}  : ∀ (f : Nat) (x1 : Int32) (x2 : Int32) (x3 : Int32) (x4 : Int32)  (M : Mem), w_X10_part_92 Q  f x1 x2 x3 x4 M → WW G n E 5 (QE G E (Qv G n Q)) 92 [(0, .ref (gad G 10 0)), (1, .int x1), (2, .int x2), (3, .int x3), (4, .int x4)] [] M := by
  intro f
  induction f with
  | zero => intro x1 x2 x3 x4 M hw; exact hw.elim
  | succ f ih =>
    intro x1 x2 x3 x4 M hw
    refine w_iload C 4 dX10_part_92 rfl ?_
    refine w_if_eq C dX10_part_94 (tgt := 147) rfl (fun c14 => ?_) (fun c14 => ?_)
    · replace hw := hw.1 c14
      refine w_aload_n C 0 dX10_part_147 rfl rfl ?_
      refine gf_X10_135 C (Nat.le_of_ble_eq_true rfl) dX10_part_148 ?_
      refine w_iconst C dX10_part_151 kc_i_m1 ?_
      refine w_icmp_ne C dX10_part_152 (tgt := 198) rfl (fun c15 => ?_) (fun c15 => ?_)
      · replace hw := hw.2 c15
        exact ret_V C HT hw dX10_part_198
      · replace hw := hw.1 c15
        refine w_aload_n C 0 dX10_part_155 rfl rfl ?_
        refine gf_X10_23 C (Nat.le_of_ble_eq_true rfl) dX10_part_156 ?_
        refine w_bipush C dX10_part_159 kc_b_16 ?_
        refine w_aload_n C 0 dX10_part_161 rfl rfl ?_
        refine gf_X10_128 C (Nat.le_of_ble_eq_true rfl) dX10_part_162 ?_
        refine w_imul C dX10_part_165 ?_
        refine w_iconst C dX10_part_166 kc_i_2 ?_
        refine w_iload_n C 1 dX10_part_167 rfl rfl ?_
        refine w_imul C dX10_part_168 ?_
        refine w_iadd C dX10_part_169 ?_
        refine w_iload_n C 2 dX10_part_170 rfl rfl ?_
        refine w_iadd C dX10_part_171 ?_
        refine w_iload_n C 3 dX10_part_172 rfl rfl ?_
        obtain ⟨b16, hw⟩ := hw
        refine v_iast C ak_57 rfl (Nat.le_of_ble_eq_true rfl) b16 dX10_part_173 (w_mem fun M17 eM17 => ?_)
        replace hw := hw M17 eM17
        refine w_aload_n C 0 dX10_part_174 rfl rfl ?_
        refine gf_X10_26 C (Nat.le_of_ble_eq_true rfl) dX10_part_175 ?_
        refine w_bipush C dX10_part_178 kc_b_16 ?_
        refine w_aload_n C 0 dX10_part_180 rfl rfl ?_
        refine gf_X10_128 C (Nat.le_of_ble_eq_true rfl) dX10_part_181 ?_
        refine w_imul C dX10_part_184 ?_
        refine w_iconst C dX10_part_185 kc_i_2 ?_
        refine w_iload_n C 1 dX10_part_186 rfl rfl ?_
        refine w_imul C dX10_part_187 ?_
        refine w_iadd C dX10_part_188 ?_
        refine w_iload_n C 2 dX10_part_189 rfl rfl ?_
        refine w_iadd C dX10_part_190 ?_
        refine w_aload_n C 0 dX10_part_191 rfl rfl ?_
        refine gf_X10_145 C (Nat.le_of_ble_eq_true rfl) dX10_part_192 ?_
        refine w_iload_n C 3 dX10_part_195 rfl rfl ?_
        refine w_isub C dX10_part_196 ?_
        obtain ⟨b18, hw⟩ := hw
        refine v_iast C ak_58 rfl (Nat.le_of_ble_eq_true rfl) b18 dX10_part_197 (w_mem fun M19 eM19 => ?_)
        replace hw := hw M19 eM19
        exact ret_V C HT hw dX10_part_198
    · replace hw := hw.2 c14
      refine w_aload_n C 0 dX10_part_97 rfl rfl ?_
      refine back_V (run_V C HR mt_X10_act (ci := 10) rfl (by decide) (Nat.le_of_ble_eq_true rfl) gw1218 gw44 gw1216 (by decide) rfl (Nat.le_of_ble_eq_true rfl) dX10_part_98 (As := []) rfl (c_X10_act   _ _ hw)) (fun M20 hw => ?_)
      refine w_aload_n C 0 dX10_part_101 rfl rfl ?_
      refine gf_X10_135 C (Nat.le_of_ble_eq_true rfl) dX10_part_102 ?_
      refine w_iconst C dX10_part_105 kc_i_m1 ?_
      refine w_icmp_ne C dX10_part_106 (tgt := 122) rfl (fun c21 => ?_) (fun c21 => ?_)
      · replace hw := hw.2 c21
        exact w_sub [0, 1, 2, 3] rfl (s_X10_part_122 C HR HT ih x1 x2 x3  _ hw)
      · replace hw := hw.1 c21
        refine w_aload_n C 0 dX10_part_109 rfl rfl ?_
        refine back_I (run_V C HR mt_X10_byteNow (ci := 10) rfl (by decide) (Nat.le_of_ble_eq_true rfl) gw1207 gw42 gw1205 (by decide) rfl (Nat.le_of_ble_eq_true rfl) dX10_part_110 (As := []) rfl (c_X10_byteNow   _ _ hw)) (fun r25 M24 hw => ?_)
        refine w_bipush C dX10_part_113 kc_b_44 ?_
        refine w_icmp_ne C dX10_part_115 (tgt := 122) rfl (fun c26 => ?_) (fun c26 => ?_)
        · replace hw := hw.2 c26
          exact w_sub [0, 1, 2, 3] rfl (s_X10_part_122 C HR HT ih x1 x2 x3  _ hw)
        · replace hw := hw.1 c26
          refine w_iconst C dX10_part_118 kc_i_1 ?_
          refine w_goto C dX10_part_119 (tgt := 123) rfl ?_
          exact w_sub [0, 1, 2, 3] rfl (s_X10_part_123 C HR HT ih x1 x2 x3 1  _ hw)
set_option maxRecDepth 100000 in
set_option maxHeartbeats 4000000 in
theorem s_X10_part_90 {G : GG} {n : Nat} {E : EE} (C : Cx G n E RX10 cX10_part 5) (HR : RM E 3 66) (HT : RT E none) {Q : Mem → Prop}  : ∀ (x1 : Int32) (x2 : Int32) (x3 : Int32) (y0 : Int32)  (M : Mem), w_X10_part_90 Q  x1 x2 x3 y0 M → WW G n E 5 (QE G E (Qv G n Q)) 90 [(0, .ref (gad G 10 0)), (1, .int x1), (2, .int x2), (3, .int x3)] [.int y0] M := by
  intro x1 x2 x3 y0 M hw
  refine w_istore C (lv' := [(4, .int y0), (0, .ref (gad G 10 0)), (1, .int x1), (2, .int x2), (3, .int x3)]) dX10_part_90 (by decide) rfl ?_
  obtain ⟨f13, hw⟩ := hw
  exact w_sub [1, 2, 3, 4, 0] rfl (s_X10_part_92 C HR HT  f13 x1 x2 x3 y0  _ hw)
set_option maxRecDepth 100000 in
set_option maxHeartbeats 4000000 in
theorem s_X10_part_62 {G : GG} {n : Nat} {E : EE} (C : Cx G n E RX10 cX10_part 5) (HR : RM E 3 66) (HT : RT E none) {Q : Mem → Prop}  : ∀ (x1 : Int32) (x2 : Int32)  (M : Mem), w_X10_part_62 Q  x1 x2 M → WW G n E 5 (QE G E (Qv G n Q)) 62 [(0, .ref (gad G 10 0)), (1, .int x1), (2, .int x2)] [] M := by
  intro x1 x2 M hw
  refine w_aload_n C 0 dX10_part_62 rfl rfl ?_
  refine w_dup C dX10_part_63 rfl ?_
  refine gf_X10_125 C (Nat.le_of_ble_eq_true rfl) dX10_part_64 ?_
  refine w_iconst C dX10_part_67 kc_i_1 ?_
  refine w_iadd C dX10_part_68 ?_
  refine pf_X10_125 C (Nat.le_of_ble_eq_true rfl) dX10_part_69 (w_mem fun M10 eM10 => ?_)
  replace hw := hw M10 eM10
  refine w_aload_n C 0 dX10_part_72 rfl rfl ?_
  refine gf_X10_145 C (Nat.le_of_ble_eq_true rfl) dX10_part_73 ?_
  refine w_istore_nV C dX10_part_76 rfl (by decide) (fun a11 ea11 => w_lv (lv' := [(3, .int a11), (0, .ref (gad G 10 0)), (1, .int x1), (2, .int x2)]) rfl ?_)
  replace hw := hw a11 ea11
  refine w_aload_n C 1 dX10_part_77 rfl rfl ?_
  refine gf_X10_135 C (Nat.le_of_ble_eq_true rfl) dX10_part_78 ?_
  refine w_iconst C dX10_part_81 kc_i_m1 ?_
  refine w_icmp_ne C dX10_part_82 (tgt := 89) rfl (fun c12 => ?_) (fun c12 => ?_)
  · replace hw := hw.2 c12
    refine w_iconst C dX10_part_89 kc_i_0 ?_
    exact w_sub [1, 2, 3, 0] rfl (s_X10_part_90 C HR HT  x1 x2 a11 0  _ hw)
  · replace hw := hw.1 c12
    refine w_iconst C dX10_part_85 kc_i_1 ?_
    refine w_goto C dX10_part_86 (tgt := 90) rfl ?_
    exact w_sub [1, 2, 3, 0] rfl (s_X10_part_90 C HR HT  x1 x2 a11 1  _ hw)
set_option maxRecDepth 100000 in
set_option maxHeartbeats 4000000 in
theorem c_X10_part {G : GG} {n : Nat} {l : Launch}   (M : Mem) (Q : Mem → Prop) (hw : wp_X10_part  M Q) : Ct G n l yX10_part cX10_part 5 none 3 66 [.ref (gad G 10 0)] M (Qv G n Q) := by
  refine ct_of (by decide) (Nat.le_of_ble_eq_true rfl) (lv := [(0, .ref (gad G 10 0))]) rfl (fun E C HR HT hE => ?_)
  replace C : Cx G n E RX10 cX10_part 5 := C
  refine w_aload_n C 0 dX10_part_0 rfl rfl ?_
  refine back_I (run_V C HR mt_X10_byteNow (ci := 10) rfl (by decide) (Nat.le_of_ble_eq_true rfl) gw1207 gw42 gw1205 (by decide) rfl (Nat.le_of_ble_eq_true rfl) dX10_part_1 (As := []) rfl (c_X10_byteNow   _ _ hw)) (fun r2 M1 hw => ?_)
  refine back_I (run_S C HR mt_X10_eventOf gw1210 gw1209 (by decide) rfl (Nat.le_of_ble_eq_true rfl) dX10_part_4 (As := [.int r2]) rfl (c_X10_eventOf r2  _ _ hw)) (fun r4 M3 hw => ?_)
  refine w_istore_n C (lv' := [(1, .int r4), (0, .ref (gad G 10 0))]) dX10_part_7 rfl (by decide) rfl ?_
  refine w_iload_n C 0 dX10_part_8 rfl rfl ?_
  refine w_iconst C dX10_part_9 kc_i_m1 ?_
  refine w_icmp_ne C dX10_part_10 (tgt := 22) rfl (fun c5 => ?_) (fun c5 => ?_)
  · replace hw := hw.2 c5
    refine w_aload_n C 1 dX10_part_22 rfl rfl ?_
    refine w_dup C dX10_part_23 rfl ?_
    refine gf_X10_125 C (Nat.le_of_ble_eq_true rfl) dX10_part_24 ?_
    refine w_iconst C dX10_part_27 kc_i_1 ?_
    refine w_iadd C dX10_part_28 ?_
    refine pf_X10_125 C (Nat.le_of_ble_eq_true rfl) dX10_part_29 (w_mem fun M6 eM6 => ?_)
    replace hw := hw M6 eM6
    refine w_aload_n C 1 dX10_part_32 rfl rfl ?_
    refine back_I (run_V C HR mt_X10_mode (ci := 10) rfl (by decide) (Nat.le_of_ble_eq_true rfl) gw1214 gw43 gw1212 (by decide) rfl (Nat.le_of_ble_eq_true rfl) dX10_part_33 (As := []) rfl (c_X10_mode   _ _ hw)) (fun r8 M7 hw => ?_)
    refine w_istore_n C (lv' := [(2, .int r8), (1, .int r4), (0, .ref (gad G 10 0))]) dX10_part_36 rfl (by decide) rfl ?_
    refine w_aload_n C 2 dX10_part_37 rfl rfl ?_
    refine gf_X10_135 C (Nat.le_of_ble_eq_true rfl) dX10_part_38 ?_
    refine w_iconst C dX10_part_41 kc_i_m1 ?_
    refine w_icmp_ne C dX10_part_42 (tgt := 62) rfl (fun c9 => ?_) (fun c9 => ?_)
    · replace hw := hw.2 c9
      exact w_sub [2, 1, 0] rfl (s_X10_part_62 C HR HT  r4 r8  _ hw)
    · replace hw := hw.1 c9
      refine w_aload_n C 2 dX10_part_45 rfl rfl ?_
      refine back_I (run_V C HR mt_X10_byteNow (ci := 10) rfl (by decide) (Nat.le_of_ble_eq_true rfl) gw1207 gw42 gw1205 (by decide) rfl (Nat.le_of_ble_eq_true rfl) dX10_part_46 (As := []) rfl (c_X10_byteNow   _ _ hw)) (fun r28 M27 hw => ?_)
      refine w_bipush C dX10_part_49 kc_b_58 ?_
      refine w_icmp_eq C dX10_part_51 (tgt := 62) rfl (fun c29 => ?_) (fun c29 => ?_)
      · replace hw := hw.1 c29
        exact w_sub [2, 1, 0] rfl (s_X10_part_62 C HR HT  r4 r8  _ hw)
      · replace hw := hw.2 c29
        refine w_aload_n C 2 dX10_part_54 rfl rfl ?_
        refine w_aload_n C 2 dX10_part_55 rfl rfl ?_
        refine gf_X10_125 C (Nat.le_of_ble_eq_true rfl) dX10_part_56 ?_
        refine pf_X10_135 C (Nat.le_of_ble_eq_true rfl) dX10_part_59 (w_mem fun M30 eM30 => ?_)
        replace hw := hw M30 eM30
        exact w_sub [2, 1, 0] rfl (s_X10_part_62 C HR HT  r4 r8  _ hw)
  · replace hw := hw.1 c5
    refine w_aload_n C 1 dX10_part_13 rfl rfl ?_
    refine w_aload_n C 1 dX10_part_14 rfl rfl ?_
    refine gf_X10_125 C (Nat.le_of_ble_eq_true rfl) dX10_part_15 ?_
    refine pf_X10_135 C (Nat.le_of_ble_eq_true rfl) dX10_part_18 (w_mem fun M31 eM31 => ?_)
    replace hw := hw M31 eM31
    exact ret_V C HT hw dX10_part_21
set_option maxRecDepth 100000 in
set_option maxHeartbeats 4000000 in
theorem s_X10_noLines_2 {G : GG} {n : Nat} {E : EE} (C : Cx G n E RX10 cX10_noLines 3) (HR : RM E 0 0) (HT : RT E none) {Q : Mem → Prop}  : ∀ (f : Nat) (x1 : Int32) (x2 : Int32)  (M : Mem), w_X10_noLines_2 Q  f x1 x2 M → WW G n E 3 (QE G E (Qv G n Q)) 2 [(0, .ref (gad G 10 0)), (1, .int x1), (2, .int x2)] [] M := by
  intro f
  induction f with
  | zero => intro x1 x2 M hw; exact hw.elim
  | succ f ih =>
    intro x1 x2 M hw
    refine w_iload_n C 2 dX10_noLines_2 rfl rfl ?_
    refine w_bipush C dX10_noLines_3 kc_b_16 ?_
    refine w_icmp_ge C dX10_noLines_5 (tgt := 26) rfl (fun c2 => ?_) (fun c2 => ?_)
    · replace hw := hw.1 c2
      exact ret_V C HT hw dX10_noLines_26
    · replace hw := hw.2 c2
      refine w_aload_n C 0 dX10_noLines_8 rfl rfl ?_
      refine gf_X10_26 C (Nat.le_of_ble_eq_true rfl) dX10_noLines_9 ?_
      refine w_bipush C dX10_noLines_12 kc_b_16 ?_
      refine w_iload_n C 1 dX10_noLines_14 rfl rfl ?_
      refine w_imul C dX10_noLines_15 ?_
      refine w_iload_n C 2 dX10_noLines_16 rfl rfl ?_
      refine w_iadd C dX10_noLines_17 ?_
      refine w_iconst C dX10_noLines_18 kc_i_0 ?_
      obtain ⟨b3, hw⟩ := hw
      refine v_iast C ak_58 rfl (Nat.le_of_ble_eq_true rfl) b3 dX10_noLines_19 (w_mem fun M4 eM4 => ?_)
      replace hw := hw M4 eM4
      refine w_iincV C (lv' := [(2, .int (x2 + 1)), (0, .ref (gad G 10 0)), (1, .int x1)]) 2 dX10_noLines_20 kc_i_1 rfl (by decide) rfl ?_
      refine w_goto C dX10_noLines_23 (tgt := 2) rfl ?_
      exact w_sub [1, 2, 0] rfl (ih x1 (x2 + 1)  _ hw)
set_option maxRecDepth 100000 in
set_option maxHeartbeats 4000000 in
theorem c_X10_noLines {G : GG} {n : Nat} {l : Launch} (x1 : Int32)  (M : Mem) (Q : Mem → Prop) (hw : wp_X10_noLines x1 M Q) : Ct G n l yX10_noLines cX10_noLines 3 none 0 0 [.ref (gad G 10 0), .int x1] M (Qv G n Q) := by
  refine ct_of (by decide) (Nat.le_of_ble_eq_true rfl) (lv := [(0, .ref (gad G 10 0)), (1, .int x1)]) rfl (fun E C HR HT hE => ?_)
  replace C : Cx G n E RX10 cX10_noLines 3 := C
  refine w_iconst C dX10_noLines_0 kc_i_0 ?_
  refine w_istore_n C (lv' := [(2, .int 0), (0, .ref (gad G 10 0)), (1, .int x1)]) dX10_noLines_1 rfl (by decide) rfl ?_
  obtain ⟨f1, hw⟩ := hw
  exact w_sub [1, 2, 0] rfl (s_X10_noLines_2 C HR HT  f1 x1 0  _ hw)
set_option maxRecDepth 100000 in
set_option maxHeartbeats 4000000 in
theorem s_X10_reads_115 {G : GG} {n : Nat} {E : EE} (C : Cx G n E RX10 cX10_reads 3) (HR : RM E 4 90) (HT : RT E none) {Q : Mem → Prop} {K57 : Int32 → Int32 → Mem → Prop} (g57 : ∀ (x1 : Int32) (x2 : Int32)  (M : Mem), K57 x1 x2 M → WW G n E 3 (QE G E (Qv G n Q)) 57 [(0, .ref (gad G 10 0)), (1, .int x1), (2, .int x2)] [] M) : ∀ (x1 : Int32) (x2 : Int32)  (M : Mem), w_X10_reads_115 Q K57 x1 x2 M → WW G n E 3 (QE G E (Qv G n Q)) 115 [(0, .ref (gad G 10 0)), (1, .int x1), (2, .int x2)] [] M := by
  intro x1 x2 M hw
  refine w_aload_n C 0 dX10_reads_115 rfl rfl ?_
  refine w_dup C dX10_reads_116 rfl ?_
  refine gf_X10_125 C (Nat.le_of_ble_eq_true rfl) dX10_reads_117 ?_
  refine w_iconst C dX10_reads_120 kc_i_1 ?_
  refine w_iadd C dX10_reads_121 ?_
  refine pf_X10_125 C (Nat.le_of_ble_eq_true rfl) dX10_reads_122 (w_mem fun M21 eM21 => ?_)
  replace hw := hw M21 eM21
  refine w_goto C dX10_reads_125 (tgt := 57) rfl ?_
  exact w_sub [0, 1, 2] rfl (g57 x1 x2  _ hw)
set_option maxRecDepth 100000 in
set_option maxHeartbeats 4000000 in
theorem s_X10_reads_91 {G : GG} {n : Nat} {E : EE} (C : Cx G n E RX10 cX10_reads 3) (HR : RM E 4 90) (HT : RT E none) {Q : Mem → Prop} {K57 : Int32 → Int32 → Mem → Prop} (g57 : ∀ (x1 : Int32) (x2 : Int32)  (M : Mem), K57 x1 x2 M → WW G n E 3 (QE G E (Qv G n Q)) 57 [(0, .ref (gad G 10 0)), (1, .int x1), (2, .int x2)] [] M) : ∀ (x1 : Int32) (y0 : Int32)  (M : Mem), w_X10_reads_91 Q K57 x1 y0 M → WW G n E 3 (QE G E (Qv G n Q)) 91 [(0, .ref (gad G 10 0)), (1, .int x1)] [.int y0] M := by
  intro x1 y0 M hw
  refine w_istore_n C (lv' := [(2, .int y0), (0, .ref (gad G 10 0)), (1, .int x1)]) dX10_reads_91 rfl (by decide) rfl ?_
  refine w_iload_n C 0 dX10_reads_92 rfl rfl ?_
  refine w_if_eq C dX10_reads_93 (tgt := 115) rfl (fun c20 => ?_) (fun c20 => ?_)
  · replace hw := hw.1 c20
    exact w_sub [1, 2, 0] rfl (s_X10_reads_115 C HR HT g57 x1 y0  _ hw)
  · replace hw := hw.2 c20
    refine w_aload_n C 1 dX10_reads_96 rfl rfl ?_
    refine back_I (run_V C HR mt_X10_byteNow (ci := 10) rfl (by decide) (Nat.le_of_ble_eq_true rfl) gw1207 gw42 gw1205 (by decide) rfl (Nat.le_of_ble_eq_true rfl) dX10_reads_97 (As := []) rfl (c_X10_byteNow   _ _ hw)) (fun r23 M22 hw => ?_)
    refine w_bipush C dX10_reads_100 kc_b_59 ?_
    refine w_icmp_eq C dX10_reads_102 (tgt := 115) rfl (fun c24 => ?_) (fun c24 => ?_)
    · replace hw := hw.1 c24
      exact w_sub [1, 2, 0] rfl (s_X10_reads_115 C HR HT g57 x1 y0  _ hw)
    · replace hw := hw.2 c24
      refine w_aload_n C 1 dX10_reads_105 rfl rfl ?_
      refine w_aload_n C 1 dX10_reads_106 rfl rfl ?_
      refine gf_X10_125 C (Nat.le_of_ble_eq_true rfl) dX10_reads_107 ?_
      refine pf_X10_135 C (Nat.le_of_ble_eq_true rfl) dX10_reads_110 (w_mem fun M25 eM25 => ?_)
      replace hw := hw M25 eM25
      refine w_iconst C dX10_reads_113 kc_i_0 ?_
      refine w_istore_n C (lv' := [(2, .int 0), (0, .ref (gad G 10 0)), (1, .int x1)]) dX10_reads_114 rfl (by decide) rfl ?_
      exact w_sub [1, 2, 0] rfl (s_X10_reads_115 C HR HT g57 x1 0  _ hw)
set_option maxRecDepth 100000 in
set_option maxHeartbeats 4000000 in
theorem s_X10_reads_90 {G : GG} {n : Nat} {E : EE} (C : Cx G n E RX10 cX10_reads 3) (HR : RM E 4 90) (HT : RT E none) {Q : Mem → Prop} {K57 : Int32 → Int32 → Mem → Prop} (g57 : ∀ (x1 : Int32) (x2 : Int32)  (M : Mem), K57 x1 x2 M → WW G n E 3 (QE G E (Qv G n Q)) 57 [(0, .ref (gad G 10 0)), (1, .int x1), (2, .int x2)] [] M) : ∀ (x1 : Int32)  (M : Mem), w_X10_reads_90 Q K57 x1 M → WW G n E 3 (QE G E (Qv G n Q)) 90 [(0, .ref (gad G 10 0)), (1, .int x1)] [] M := by
  intro x1 M hw
  refine w_iconst C dX10_reads_90 kc_i_0 ?_
  exact w_sub [0, 1] rfl (s_X10_reads_91 C HR HT g57 x1 0  _ hw)
set_option maxRecDepth 100000 in
set_option maxHeartbeats 4000000 in
theorem s_X10_reads_57 {G : GG} {n : Nat} {E : EE} (C : Cx G n E RX10 cX10_reads 3) (HR : RM E 4 90) (HT : RT E none) {Q : Mem → Prop}  : ∀ (f : Nat) (x1 : Int32) (x2 : Int32)  (M : Mem), w_X10_reads_57 Q  f x1 x2 M → WW G n E 3 (QE G E (Qv G n Q)) 57 [(0, .ref (gad G 10 0)), (1, .int x1), (2, .int x2)] [] M := by
  intro f
  induction f with
  | zero => intro x1 x2 M hw; exact hw.elim
  | succ f ih =>
    intro x1 x2 M hw
    refine w_iload_n C 2 dX10_reads_57 rfl rfl ?_
    refine w_if_eq C dX10_reads_58 (tgt := 128) rfl (fun c13 => ?_) (fun c13 => ?_)
    · replace hw := hw.1 c13
      refine w_aload_n C 0 dX10_reads_128 rfl rfl ?_
      refine gf_X10_20 C (Nat.le_of_ble_eq_true rfl) dX10_reads_129 ?_
      refine w_iload_n C 1 dX10_reads_132 rfl rfl ?_
      refine w_aload_n C 0 dX10_reads_133 rfl rfl ?_
      refine gf_X10_135 C (Nat.le_of_ble_eq_true rfl) dX10_reads_134 ?_
      obtain ⟨b14, hw⟩ := hw
      refine v_iast C ak_56 rfl (Nat.le_of_ble_eq_true rfl) b14 dX10_reads_137 (w_mem fun M15 eM15 => ?_)
      replace hw := hw M15 eM15
      refine w_aload_n C 0 dX10_reads_138 rfl rfl ?_
      refine gf_X10_135 C (Nat.le_of_ble_eq_true rfl) dX10_reads_139 ?_
      refine w_iconst C dX10_reads_142 kc_i_m1 ?_
      refine w_icmp_eq C dX10_reads_143 (tgt := 151) rfl (fun c16 => ?_) (fun c16 => ?_)
      · replace hw := hw.1 c16
        exact ret_V C HT hw dX10_reads_151
      · replace hw := hw.2 c16
        refine w_aload_n C 0 dX10_reads_146 rfl rfl ?_
        refine w_iload_n C 1 dX10_reads_147 rfl rfl ?_
        refine back_V (run_V C HR mt_X10_noLines (ci := 10) rfl (by decide) (Nat.le_of_ble_eq_true rfl) gw1199 gw40 gw1197 (by decide) rfl (Nat.le_of_ble_eq_true rfl) dX10_reads_148 (As := [.int x1]) rfl (c_X10_noLines x1  _ _ hw)) (fun M17 hw => ?_)
        exact ret_V C HT hw dX10_reads_151
    · replace hw := hw.2 c13
      refine w_aload_n C 0 dX10_reads_61 rfl rfl ?_
      refine back_V (run_V C HR mt_X10_part (ci := 10) rfl (by decide) (Nat.le_of_ble_eq_true rfl) gw1203 gw41 gw1201 (by decide) rfl (Nat.le_of_ble_eq_true rfl) dX10_reads_62 (As := []) rfl (c_X10_part   _ _ hw)) (fun M18 hw => ?_)
      refine w_aload_n C 0 dX10_reads_65 rfl rfl ?_
      refine gf_X10_135 C (Nat.le_of_ble_eq_true rfl) dX10_reads_66 ?_
      refine w_iconst C dX10_reads_69 kc_i_m1 ?_
      refine w_icmp_ne C dX10_reads_70 (tgt := 90) rfl (fun c19 => ?_) (fun c19 => ?_)
      · replace hw := hw.2 c19
        exact w_sub [0, 1] rfl (s_X10_reads_90 C HR HT ih x1  _ hw)
      · replace hw := hw.1 c19
        refine w_aload_n C 0 dX10_reads_73 rfl rfl ?_
        refine gf_X10_125 C (Nat.le_of_ble_eq_true rfl) dX10_reads_74 ?_
        refine w_aload_n C 0 dX10_reads_77 rfl rfl ?_
        refine gf_X10_7 C (Nat.le_of_ble_eq_true rfl) dX10_reads_78 ?_
        refine w_iload_n C 1 dX10_reads_81 rfl rfl ?_
        obtain ⟨b26, hw⟩ := hw
        refine v_iald C ak_53 rfl (Nat.le_of_ble_eq_true rfl) b26 dX10_reads_82 ?_
        refine w_icmp_ge C dX10_reads_83 (tgt := 90) rfl (fun c27 => ?_) (fun c27 => ?_)
        · replace hw := hw.1 c27
          exact w_sub [0, 1] rfl (s_X10_reads_90 C HR HT ih x1  _ hw)
        · replace hw := hw.2 c27
          refine w_iconst C dX10_reads_86 kc_i_1 ?_
          refine w_goto C dX10_reads_87 (tgt := 91) rfl ?_
          exact w_sub [0, 1] rfl (s_X10_reads_91 C HR HT ih x1 1  _ hw)
set_option maxRecDepth 100000 in
set_option maxHeartbeats 4000000 in
theorem s_X10_reads_56 {G : GG} {n : Nat} {E : EE} (C : Cx G n E RX10 cX10_reads 3) (HR : RM E 4 90) (HT : RT E none) {Q : Mem → Prop}  : ∀ (x1 : Int32) (y0 : Int32)  (M : Mem), w_X10_reads_56 Q  x1 y0 M → WW G n E 3 (QE G E (Qv G n Q)) 56 [(0, .ref (gad G 10 0)), (1, .int x1)] [.int y0] M := by
  intro x1 y0 M hw
  refine w_istore_n C (lv' := [(2, .int y0), (0, .ref (gad G 10 0)), (1, .int x1)]) dX10_reads_56 rfl (by decide) rfl ?_
  obtain ⟨f12, hw⟩ := hw
  exact w_sub [1, 2, 0] rfl (s_X10_reads_57 C HR HT  f12 x1 y0  _ hw)
set_option maxRecDepth 100000 in
set_option maxHeartbeats 4000000 in
theorem c_X10_reads {G : GG} {n : Nat} {l : Launch} (x1 : Int32)  (M : Mem) (Q : Mem → Prop) (hw : wp_X10_reads x1 M Q) : Ct G n l yX10_reads cX10_reads 3 none 4 90 [.ref (gad G 10 0), .int x1] M (Qv G n Q) := by
  refine ct_of (by decide) (Nat.le_of_ble_eq_true rfl) (lv := [(0, .ref (gad G 10 0)), (1, .int x1)]) rfl (fun E C HR HT hE => ?_)
  replace C : Cx G n E RX10 cX10_reads 3 := C
  refine w_aload_n C 0 dX10_reads_0 rfl rfl ?_
  refine gf_X10_16 C (Nat.le_of_ble_eq_true rfl) dX10_reads_1 ?_
  refine w_iload_n C 1 dX10_reads_4 rfl rfl ?_
  obtain ⟨b1, hw⟩ := hw
  refine v_zald C ak_55 rfl (Nat.le_of_ble_eq_true rfl) b1 dX10_reads_5 ?_
  refine w_if_eq C dX10_reads_6 (tgt := 10) rfl (fun c2 => ?_) (fun c2 => ?_)
  · replace hw := hw.1 c2
    refine w_aload_n C 0 dX10_reads_10 rfl rfl ?_
    refine gf_X10_16 C (Nat.le_of_ble_eq_true rfl) dX10_reads_11 ?_
    refine w_iload_n C 1 dX10_reads_14 rfl rfl ?_
    refine w_iconst C dX10_reads_15 kc_i_1 ?_
    obtain ⟨b3, hw⟩ := hw
    refine v_zast C ak_55 rfl (Nat.le_of_ble_eq_true rfl) b3 rfl dX10_reads_16 (w_mem fun M4 eM4 => ?_)
    replace hw := hw M4 eM4
    refine w_aload_n C 0 dX10_reads_17 rfl rfl ?_
    refine w_iload_n C 1 dX10_reads_18 rfl rfl ?_
    refine pf_X10_128 C (Nat.le_of_ble_eq_true rfl) dX10_reads_19 (w_mem fun M5 eM5 => ?_)
    replace hw := hw M5 eM5
    refine w_aload_n C 0 dX10_reads_22 rfl rfl ?_
    refine w_iconst C dX10_reads_23 kc_i_0 ?_
    refine pf_X10_125 C (Nat.le_of_ble_eq_true rfl) dX10_reads_24 (w_mem fun M6 eM6 => ?_)
    replace hw := hw M6 eM6
    refine w_aload_n C 0 dX10_reads_27 rfl rfl ?_
    refine w_iconst C dX10_reads_28 kc_i_m1 ?_
    refine pf_X10_135 C (Nat.le_of_ble_eq_true rfl) dX10_reads_29 (w_mem fun M7 eM7 => ?_)
    replace hw := hw M7 eM7
    refine w_aload_n C 0 dX10_reads_32 rfl rfl ?_
    refine w_iconst C dX10_reads_33 kc_i_0 ?_
    refine pf_X10_145 C (Nat.le_of_ble_eq_true rfl) dX10_reads_34 (w_mem fun M8 eM8 => ?_)
    replace hw := hw M8 eM8
    refine w_aload_n C 0 dX10_reads_37 rfl rfl ?_
    refine w_iload_n C 1 dX10_reads_38 rfl rfl ?_
    refine back_V (run_V C HR mt_X10_noLines (ci := 10) rfl (by decide) (Nat.le_of_ble_eq_true rfl) gw1199 gw40 gw1197 (by decide) rfl (Nat.le_of_ble_eq_true rfl) dX10_reads_39 (As := [.int x1]) rfl (c_X10_noLines x1  _ _ hw)) (fun M9 hw => ?_)
    refine w_aload_n C 0 dX10_reads_42 rfl rfl ?_
    refine gf_X10_7 C (Nat.le_of_ble_eq_true rfl) dX10_reads_43 ?_
    refine w_iload_n C 1 dX10_reads_46 rfl rfl ?_
    obtain ⟨b10, hw⟩ := hw
    refine v_iald C ak_53 rfl (Nat.le_of_ble_eq_true rfl) b10 dX10_reads_47 ?_
    refine w_if_le C dX10_reads_48 (tgt := 55) rfl (fun c11 => ?_) (fun c11 => ?_)
    · replace hw := hw.1 c11
      refine w_iconst C dX10_reads_55 kc_i_0 ?_
      exact w_sub [0, 1] rfl (s_X10_reads_56 C HR HT  x1 0  _ hw)
    · replace hw := hw.2 c11
      refine w_iconst C dX10_reads_51 kc_i_1 ?_
      refine w_goto C dX10_reads_52 (tgt := 56) rfl ?_
      exact w_sub [0, 1] rfl (s_X10_reads_56 C HR HT  x1 1  _ hw)
  · replace hw := hw.2 c2
    exact ret_V C HT hw dX10_reads_9
set_option maxRecDepth 100000 in
set_option maxHeartbeats 4000000 in
theorem c_X10_faultOf {G : GG} {n : Nat} {l : Launch} (x1 : Int32)  (M : Mem) (Q : Int32 → Mem → Prop) (hw : wp_X10_faultOf x1 M Q) : Ct G n l yX10_faultOf cX10_faultOf 2 (some .int) 5 112 [.ref (gad G 10 0), .int x1] M (Qi G n Q) := by
  refine ct_of (by decide) (Nat.le_of_ble_eq_true rfl) (lv := [(0, .ref (gad G 10 0)), (1, .int x1)]) rfl (fun E C HR HT hE => ?_)
  replace C : Cx G n E RX10 cX10_faultOf 2 := C
  refine w_aload_n C 0 dX10_faultOf_0 rfl rfl ?_
  refine w_iload_n C 1 dX10_faultOf_1 rfl rfl ?_
  refine back_V (run_V C HR mt_X10_reads (ci := 10) rfl (by decide) (Nat.le_of_ble_eq_true rfl) gw1195 gw39 gw1193 (by decide) rfl (Nat.le_of_ble_eq_true rfl) dX10_faultOf_2 (As := [.int x1]) rfl (c_X10_reads x1  _ _ hw)) (fun M1 hw => ?_)
  refine w_aload_n C 0 dX10_faultOf_5 rfl rfl ?_
  refine gf_X10_20 C (Nat.le_of_ble_eq_true rfl) dX10_faultOf_6 ?_
  refine w_iload_n C 1 dX10_faultOf_9 rfl rfl ?_
  obtain ⟨b2, hw⟩ := hw
  refine v_iald C ak_56 rfl (Nat.le_of_ble_eq_true rfl) b2 dX10_faultOf_10 ?_
  exact ret_I C HT hw dX10_faultOf_11
set_option maxRecDepth 100000 in
set_option maxHeartbeats 4000000 in
theorem c_X10_fault {G : GG} {n : Nat} {l : Launch} (x1 : Int32)  (M : Mem) (Q : Int32 → Mem → Prop) (hw : wp_X10_fault x1 M Q) : Ct G n l yX10_fault cX10_fault 2 (some .int) 6 133 [.ref (gad G 10 0), .int x1] M (Qi G n Q) := by
  refine ct_of (by decide) (Nat.le_of_ble_eq_true rfl) (lv := [(0, .ref (gad G 10 0)), (1, .int x1)]) rfl (fun E C HR HT hE => ?_)
  replace C : Cx G n E RX10 cX10_fault 2 := C
  refine w_iload_n C 1 dX10_fault_0 rfl rfl ?_
  refine back_I (run_S C HR mt_X10_isVersion gw1176 gw1175 (by decide) rfl (Nat.le_of_ble_eq_true rfl) dX10_fault_1 (As := [.int x1]) rfl (c_X10_isVersion x1  _ _ hw)) (fun r2 M1 hw => ?_)
  refine w_if_eq C dX10_fault_4 (tgt := 15) rfl (fun c3 => ?_) (fun c3 => ?_)
  · replace hw := hw.1 c3
    refine w_bipush C dX10_fault_15 kc_b_m2 ?_
    exact ret_I C HT hw dX10_fault_17
  · replace hw := hw.2 c3
    refine w_aload_n C 0 dX10_fault_7 rfl rfl ?_
    refine w_iload_n C 1 dX10_fault_8 rfl rfl ?_
    refine back_I (run_V C HR mt_X10_faultOf (ci := 10) rfl (by decide) (Nat.le_of_ble_eq_true rfl) gw1191 gw38 gw1189 (by decide) rfl (Nat.le_of_ble_eq_true rfl) dX10_fault_9 (As := [.int x1]) rfl (c_X10_faultOf x1  _ _ hw)) (fun r5 M4 hw => ?_)
    refine w_goto C dX10_fault_12 (tgt := 17) rfl ?_
    exact ret_I C HT hw dX10_fault_17
set_option maxRecDepth 100000 in
set_option maxHeartbeats 4000000 in
theorem c_X10_actsOf {G : GG} {n : Nat} {l : Launch} (x1 : Int32) (x2 : Int32)  (M : Mem) (Q : Int32 → Mem → Prop) (hw : wp_X10_actsOf x1 x2 M Q) : Ct G n l yX10_actsOf cX10_actsOf 3 (some .int) 5 112 [.ref (gad G 10 0), .int x1, .int x2] M (Qi G n Q) := by
  refine ct_of (by decide) (Nat.le_of_ble_eq_true rfl) (lv := [(0, .ref (gad G 10 0)), (1, .int x1), (2, .int x2)]) rfl (fun E C HR HT hE => ?_)
  replace C : Cx G n E RX10 cX10_actsOf 3 := C
  refine w_aload_n C 0 dX10_actsOf_0 rfl rfl ?_
  refine w_iload_n C 1 dX10_actsOf_1 rfl rfl ?_
  refine back_V (run_V C HR mt_X10_reads (ci := 10) rfl (by decide) (Nat.le_of_ble_eq_true rfl) gw1195 gw39 gw1193 (by decide) rfl (Nat.le_of_ble_eq_true rfl) dX10_actsOf_2 (As := [.int x1]) rfl (c_X10_reads x1  _ _ hw)) (fun M1 hw => ?_)
  refine w_aload_n C 0 dX10_actsOf_5 rfl rfl ?_
  refine gf_X10_26 C (Nat.le_of_ble_eq_true rfl) dX10_actsOf_6 ?_
  refine w_bipush C dX10_actsOf_9 kc_b_16 ?_
  refine w_iload_n C 1 dX10_actsOf_11 rfl rfl ?_
  refine w_imul C dX10_actsOf_12 ?_
  refine w_iload_n C 2 dX10_actsOf_13 rfl rfl ?_
  refine w_iadd C dX10_actsOf_14 ?_
  obtain ⟨b2, hw⟩ := hw
  refine v_iald C ak_58 rfl (Nat.le_of_ble_eq_true rfl) b2 dX10_actsOf_15 ?_
  exact ret_I C HT hw dX10_actsOf_16
set_option maxRecDepth 100000 in
set_option maxHeartbeats 4000000 in
theorem c_X10_acts {G : GG} {n : Nat} {l : Launch} (x1 : Int32) (x2 : Int32)  (M : Mem) (Q : Int32 → Mem → Prop) (hw : wp_X10_acts x1 x2 M Q) : Ct G n l yX10_acts cX10_acts 3 (some .int) 6 134 [.ref (gad G 10 0), .int x1, .int x2] M (Qi G n Q) := by
  refine ct_of (by decide) (Nat.le_of_ble_eq_true rfl) (lv := [(0, .ref (gad G 10 0)), (1, .int x1), (2, .int x2)]) rfl (fun E C HR HT hE => ?_)
  replace C : Cx G n E RX10 cX10_acts 3 := C
  refine w_iload_n C 1 dX10_acts_0 rfl rfl ?_
  refine back_I (run_S C HR mt_X10_isVersion gw1176 gw1175 (by decide) rfl (Nat.le_of_ble_eq_true rfl) dX10_acts_1 (As := [.int x1]) rfl (c_X10_isVersion x1  _ _ hw)) (fun r2 M1 hw => ?_)
  refine w_if_eq C dX10_acts_4 (tgt := 26) rfl (fun c3 => ?_) (fun c3 => ?_)
  · replace hw := hw.1 c3
    refine w_bipush C dX10_acts_26 kc_b_m2 ?_
    exact ret_I C HT hw dX10_acts_28
  · replace hw := hw.2 c3
    refine w_iload_n C 2 dX10_acts_7 rfl rfl ?_
    refine w_iconst C dX10_acts_8 kc_i_0 ?_
    refine w_bipush C dX10_acts_9 kc_b_15 ?_
    refine back_I (run_S C HR mt_X10_in gw1179 gw1178 (by decide) rfl (Nat.le_of_ble_eq_true rfl) dX10_acts_11 (As := [.int x2, .int 0, .int 15]) rfl (c_X10_in x2 0 15  _ _ hw)) (fun r5 M4 hw => ?_)
    refine w_if_eq C dX10_acts_14 (tgt := 26) rfl (fun c6 => ?_) (fun c6 => ?_)
    · replace hw := hw.1 c6
      refine w_bipush C dX10_acts_26 kc_b_m2 ?_
      exact ret_I C HT hw dX10_acts_28
    · replace hw := hw.2 c6
      refine w_aload_n C 0 dX10_acts_17 rfl rfl ?_
      refine w_iload_n C 1 dX10_acts_18 rfl rfl ?_
      refine w_iload_n C 2 dX10_acts_19 rfl rfl ?_
      refine back_I (run_V C HR mt_X10_actsOf (ci := 10) rfl (by decide) (Nat.le_of_ble_eq_true rfl) gw1229 gw45 gw1227 (by decide) rfl (Nat.le_of_ble_eq_true rfl) dX10_acts_20 (As := [.int x1, .int x2]) rfl (c_X10_actsOf x1 x2  _ _ hw)) (fun r8 M7 hw => ?_)
      refine w_goto C dX10_acts_23 (tgt := 28) rfl ?_
      exact ret_I C HT hw dX10_acts_28
set_option maxRecDepth 100000 in
set_option maxHeartbeats 4000000 in
theorem s_X10_areLike_24 {G : GG} {n : Nat} {E : EE} (C : Cx G n E RX10 cX10_areLike 8) (HR : RM E 6 134) (HT : RT E (some .boolean)) {Q : Int32 → Mem → Prop}  : ∀ (f : Nat) (x1 : Int32) (x2 : Int32) (x3 : Int32) (x4 : Int32) (x5 : Int32)  (M : Mem), w_X10_areLike_24 Q  f x1 x2 x3 x4 x5 M → WW G n E 8 (QE G E (Qi G n Q)) 24 [(0, .ref (gad G 10 0)), (1, .int x1), (2, .int x2), (3, .int x3), (4, .int x4), (5, .int x5)] [] M := by
  intro f
  induction f with
  | zero => intro x1 x2 x3 x4 x5 M hw; exact hw.elim
  | succ f ih =>
    intro x1 x2 x3 x4 x5 M hw
    refine w_iload C 5 dX10_areLike_24 rfl ?_
    refine w_iload C 4 dX10_areLike_26 rfl ?_
    refine w_icmp_ge C dX10_areLike_28 (tgt := 132) rfl (fun c7 => ?_) (fun c7 => ?_)
    · replace hw := hw.1 c7
      refine w_iconst C dX10_areLike_132 kc_i_1 ?_
      exact ret_Z C HT rfl hw dX10_areLike_133
    · replace hw := hw.2 c7
      refine w_bipush C dX10_areLike_31 kc_b_60 ?_
      refine w_iload_n C 1 dX10_areLike_33 rfl rfl ?_
      refine w_imul C dX10_areLike_34 ?_
      refine w_aload_n C 0 dX10_areLike_35 rfl rfl ?_
      refine gf_X10_23 C (Nat.le_of_ble_eq_true rfl) dX10_areLike_36 ?_
      refine w_bipush C dX10_areLike_39 kc_b_16 ?_
      refine w_iload_n C 1 dX10_areLike_41 rfl rfl ?_
      refine w_imul C dX10_areLike_42 ?_
      refine w_iload_n C 3 dX10_areLike_43 rfl rfl ?_
      refine w_iadd C dX10_areLike_44 ?_
      obtain ⟨b8, hw⟩ := hw
      refine v_iald C ak_57 rfl (Nat.le_of_ble_eq_true rfl) b8 dX10_areLike_45 ?_
      refine w_iadd C dX10_areLike_46 ?_
      refine w_iload C 5 dX10_areLike_47 rfl ?_
      refine w_iadd C dX10_areLike_49 ?_
      refine w_istoreV C dX10_areLike_50 (by decide) (fun a9 ea9 => w_lv (lv' := [(6, .int a9), (0, .ref (gad G 10 0)), (1, .int x1), (2, .int x2), (3, .int x3), (4, .int x4), (5, .int x5)]) rfl ?_)
      replace hw := hw a9 ea9
      refine w_bipush C dX10_areLike_52 kc_b_60 ?_
      refine w_iload_n C 3 dX10_areLike_54 rfl rfl ?_
      refine w_imul C dX10_areLike_55 ?_
      refine w_aload_n C 1 dX10_areLike_56 rfl rfl ?_
      refine gf_X10_23 C (Nat.le_of_ble_eq_true rfl) dX10_areLike_57 ?_
      refine w_bipush C dX10_areLike_60 kc_b_16 ?_
      refine w_iload_n C 3 dX10_areLike_62 rfl rfl ?_
      refine w_imul C dX10_areLike_63 ?_
      refine w_iload_n C 4 dX10_areLike_64 rfl rfl ?_
      refine w_iadd C dX10_areLike_65 ?_
      obtain ⟨b10, hw⟩ := hw
      refine v_iald C ak_57 rfl (Nat.le_of_ble_eq_true rfl) b10 dX10_areLike_66 ?_
      refine w_iadd C dX10_areLike_67 ?_
      refine w_iload C 6 dX10_areLike_68 rfl ?_
      refine w_iadd C dX10_areLike_70 ?_
      refine w_istoreV C dX10_areLike_71 (by decide) (fun a11 ea11 => w_lv (lv' := [(7, .int a11), (6, .int a9), (0, .ref (gad G 10 0)), (1, .int x1), (2, .int x2), (3, .int x3), (4, .int x4), (5, .int x5)]) rfl ?_)
      replace hw := hw a11 ea11
      refine w_aload_n C 2 dX10_areLike_73 rfl rfl ?_
      refine gf_X10_29 C (Nat.le_of_ble_eq_true rfl) dX10_areLike_74 ?_
      refine w_iload C 1 dX10_areLike_77 rfl ?_
      obtain ⟨b12, hw⟩ := hw
      refine v_iald C ak_59 rfl (Nat.le_of_ble_eq_true rfl) b12 dX10_areLike_79 ?_
      refine w_aload_n C 2 dX10_areLike_80 rfl rfl ?_
      refine gf_X10_29 C (Nat.le_of_ble_eq_true rfl) dX10_areLike_81 ?_
      refine w_iload C 0 dX10_areLike_84 rfl ?_
      obtain ⟨b13, hw⟩ := hw
      refine v_iald C ak_59 rfl (Nat.le_of_ble_eq_true rfl) b13 dX10_areLike_86 ?_
      refine w_icmp_ne C dX10_areLike_87 (tgt := 124) rfl (fun c14 => ?_) (fun c14 => ?_)
      · replace hw := hw.2 c14
        refine w_iconst C dX10_areLike_124 kc_i_0 ?_
        exact ret_Z C HT rfl hw dX10_areLike_125
      · replace hw := hw.1 c14
        refine w_aload_n C 2 dX10_areLike_90 rfl rfl ?_
        refine gf_X10_32 C (Nat.le_of_ble_eq_true rfl) dX10_areLike_91 ?_
        refine w_iload C 1 dX10_areLike_94 rfl ?_
        obtain ⟨b15, hw⟩ := hw
        refine v_iald C ak_60 rfl (Nat.le_of_ble_eq_true rfl) b15 dX10_areLike_96 ?_
        refine w_aload_n C 2 dX10_areLike_97 rfl rfl ?_
        refine gf_X10_32 C (Nat.le_of_ble_eq_true rfl) dX10_areLike_98 ?_
        refine w_iload C 0 dX10_areLike_101 rfl ?_
        obtain ⟨b16, hw⟩ := hw
        refine v_iald C ak_60 rfl (Nat.le_of_ble_eq_true rfl) b16 dX10_areLike_103 ?_
        refine w_icmp_ne C dX10_areLike_104 (tgt := 124) rfl (fun c17 => ?_) (fun c17 => ?_)
        · replace hw := hw.2 c17
          refine w_iconst C dX10_areLike_124 kc_i_0 ?_
          exact ret_Z C HT rfl hw dX10_areLike_125
        · replace hw := hw.1 c17
          refine w_aload_n C 2 dX10_areLike_107 rfl rfl ?_
          refine gf_X10_35 C (Nat.le_of_ble_eq_true rfl) dX10_areLike_108 ?_
          refine w_iload C 1 dX10_areLike_111 rfl ?_
          obtain ⟨b18, hw⟩ := hw
          refine v_iald C ak_61 rfl (Nat.le_of_ble_eq_true rfl) b18 dX10_areLike_113 ?_
          refine w_aload_n C 2 dX10_areLike_114 rfl rfl ?_
          refine gf_X10_35 C (Nat.le_of_ble_eq_true rfl) dX10_areLike_115 ?_
          refine w_iload C 0 dX10_areLike_118 rfl ?_
          obtain ⟨b19, hw⟩ := hw
          refine v_iald C ak_61 rfl (Nat.le_of_ble_eq_true rfl) b19 dX10_areLike_120 ?_
          refine w_icmp_eq C dX10_areLike_121 (tgt := 126) rfl (fun c20 => ?_) (fun c20 => ?_)
          · replace hw := hw.1 c20
            refine w_iincV C (lv' := [(5, .int (x5 + 1)), (7, .int a11), (6, .int a9), (0, .ref (gad G 10 0)), (1, .int x1), (2, .int x2), (3, .int x3), (4, .int x4)]) 7 dX10_areLike_126 kc_i_1 rfl (by decide) rfl ?_
            refine w_goto C dX10_areLike_129 (tgt := 24) rfl ?_
            exact w_sub [3, 4, 5, 6, 7, 0] rfl (ih x1 x2 x3 x4 (x5 + 1)  _ hw)
          · replace hw := hw.2 c20
            refine w_iconst C dX10_areLike_124 kc_i_0 ?_
            exact ret_Z C HT rfl hw dX10_areLike_125
set_option maxRecDepth 100000 in
set_option maxHeartbeats 4000000 in
theorem c_X10_areLike {G : GG} {n : Nat} {l : Launch} (x1 : Int32) (x2 : Int32) (x3 : Int32)  (M : Mem) (Q : Int32 → Mem → Prop) (hw : wp_X10_areLike x1 x2 x3 M Q) : Ct G n l yX10_areLike cX10_areLike 8 (some .boolean) 6 134 [.ref (gad G 10 0), .int x1, .int x2, .int x3] M (Qi G n Q) := by
  refine ct_of (by decide) (Nat.le_of_ble_eq_true rfl) (lv := [(0, .ref (gad G 10 0)), (1, .int x1), (2, .int x2), (3, .int x3)]) rfl (fun E C HR HT hE => ?_)
  replace C : Cx G n E RX10 cX10_areLike 8 := C
  refine w_aload_n C 0 dX10_areLike_0 rfl rfl ?_
  refine w_iload_n C 1 dX10_areLike_1 rfl rfl ?_
  refine w_iload_n C 3 dX10_areLike_2 rfl rfl ?_
  refine back_I (run_V C HR mt_X10_actsOf (ci := 10) rfl (by decide) (Nat.le_of_ble_eq_true rfl) gw1229 gw45 gw1227 (by decide) rfl (Nat.le_of_ble_eq_true rfl) dX10_areLike_3 (As := [.int x1, .int x3]) rfl (c_X10_actsOf x1 x3  _ _ hw)) (fun r2 M1 hw => ?_)
  refine w_istore C (lv' := [(4, .int r2), (0, .ref (gad G 10 0)), (1, .int x1), (2, .int x2), (3, .int x3)]) dX10_areLike_6 (by decide) rfl ?_
  refine w_aload_n C 1 dX10_areLike_8 rfl rfl ?_
  refine w_iload_n C 3 dX10_areLike_9 rfl rfl ?_
  refine w_iload_n C 4 dX10_areLike_10 rfl rfl ?_
  refine back_I (run_V C HR mt_X10_actsOf (ci := 10) rfl (by decide) (Nat.le_of_ble_eq_true rfl) gw1229 gw45 gw1227 (by decide) rfl (Nat.le_of_ble_eq_true rfl) dX10_areLike_11 (As := [.int x2, .int x3]) rfl (c_X10_actsOf x2 x3  _ _ hw)) (fun r4 M3 hw => ?_)
  refine w_iload C 0 dX10_areLike_14 rfl ?_
  refine w_icmp_eq C dX10_areLike_16 (tgt := 21) rfl (fun c5 => ?_) (fun c5 => ?_)
  · replace hw := hw.1 c5
    refine w_iconst C dX10_areLike_21 kc_i_0 ?_
    refine w_istore C (lv' := [(5, .int 0), (4, .int r2), (0, .ref (gad G 10 0)), (1, .int x1), (2, .int x2), (3, .int x3)]) dX10_areLike_22 (by decide) rfl ?_
    obtain ⟨f6, hw⟩ := hw
    exact w_sub [2, 3, 4, 5, 1, 0] rfl (s_X10_areLike_24 C HR HT  f6 x1 x2 x3 r2 0  _ hw)
  · replace hw := hw.2 c5
    refine w_iconst C dX10_areLike_19 kc_i_0 ?_
    exact ret_Z C HT rfl hw dX10_areLike_20
set_option maxRecDepth 100000 in
set_option maxHeartbeats 4000000 in
theorem s_X10_differOf_32 {G : GG} {n : Nat} {E : EE} (C : Cx G n E RX10 cX10_differOf 5) (HR : RM E 7 161) (HT : RT E (some .int)) {Q : Int32 → Mem → Prop} {K5 : Int32 → Int32 → Int32 → Int32 → Mem → Prop} (g5 : ∀ (x1 : Int32) (x2 : Int32) (x3 : Int32) (x4 : Int32)  (M : Mem), K5 x1 x2 x3 x4 M → WW G n E 5 (QE G E (Qi G n Q)) 5 [(0, .ref (gad G 10 0)), (1, .int x1), (2, .int x2), (3, .int x3), (4, .int x4)] [] M) : ∀ (x1 : Int32) (x2 : Int32) (x4 : Int32) (y0 : Int32) (y1 : Int32)  (M : Mem), w_X10_differOf_32 Q K5 x1 x2 x4 y0 y1 M → WW G n E 5 (QE G E (Qi G n Q)) 32 [(0, .ref (gad G 10 0)), (1, .int x1), (2, .int x2), (4, .int x4)] [.int y0, .int y1] M := by
  intro x1 x2 x4 y0 y1 M hw
  refine w_ior C dX10_differOf_32 ?_
  refine w_istore_nV C dX10_differOf_33 rfl (by decide) (fun a6 ea6 => w_lv (lv' := [(3, .int a6), (0, .ref (gad G 10 0)), (1, .int x1), (2, .int x2), (4, .int x4)]) rfl ?_)
  replace hw := hw a6 ea6
  refine w_iincV C (lv' := [(4, .int (x4 + 1)), (3, .int a6), (0, .ref (gad G 10 0)), (1, .int x1), (2, .int x2)]) 4 dX10_differOf_34 kc_i_1 rfl (by decide) rfl ?_
  refine w_goto C dX10_differOf_37 (tgt := 5) rfl ?_
  exact w_sub [2, 3, 4, 1, 0] rfl (g5 x1 x2 a6 (x4 + 1)  _ hw)
set_option maxRecDepth 100000 in
set_option maxHeartbeats 4000000 in
theorem s_X10_differOf_5 {G : GG} {n : Nat} {E : EE} (C : Cx G n E RX10 cX10_differOf 5) (HR : RM E 7 161) (HT : RT E (some .int)) {Q : Int32 → Mem → Prop}  : ∀ (f : Nat) (x1 : Int32) (x2 : Int32) (x3 : Int32) (x4 : Int32)  (M : Mem), w_X10_differOf_5 Q  f x1 x2 x3 x4 M → WW G n E 5 (QE G E (Qi G n Q)) 5 [(0, .ref (gad G 10 0)), (1, .int x1), (2, .int x2), (3, .int x3), (4, .int x4)] [] M := by
  intro f
  induction f with
  | zero => intro x1 x2 x3 x4 M hw; exact hw.elim
  | succ f ih =>
    intro x1 x2 x3 x4 M hw
    refine w_iload C 4 dX10_differOf_5 rfl ?_
    refine w_bipush C dX10_differOf_7 kc_b_16 ?_
    refine w_icmp_ge C dX10_differOf_9 (tgt := 40) rfl (fun c2 => ?_) (fun c2 => ?_)
    · replace hw := hw.1 c2
      refine w_iload_n C 3 dX10_differOf_40 rfl rfl ?_
      exact ret_I C HT hw dX10_differOf_41
    · replace hw := hw.2 c2
      refine w_iload_n C 3 dX10_differOf_12 rfl rfl ?_
      refine w_aload_n C 0 dX10_differOf_13 rfl rfl ?_
      refine w_iload_n C 1 dX10_differOf_14 rfl rfl ?_
      refine w_iload_n C 2 dX10_differOf_15 rfl rfl ?_
      refine w_iload C 4 dX10_differOf_16 rfl ?_
      refine back_I (run_V C HR mt_X10_areLike (ci := 10) rfl (by decide) (Nat.le_of_ble_eq_true rfl) gw1241 gw47 gw1239 (by decide) rfl (Nat.le_of_ble_eq_true rfl) dX10_differOf_18 (As := [.int x1, .int x2, .int x4]) rfl (c_X10_areLike x1 x2 x4  _ _ hw)) (fun r4 M3 hw => ?_)
      refine w_if_eq C dX10_differOf_21 (tgt := 28) rfl (fun c5 => ?_) (fun c5 => ?_)
      · replace hw := hw.1 c5
        refine w_iconst C dX10_differOf_28 kc_i_1 ?_
        refine w_iload C 4 dX10_differOf_29 rfl ?_
        refine w_ishl C dX10_differOf_31 ?_
        exact w_sub [0, 1, 2, 4] rfl (s_X10_differOf_32 C HR HT ih x1 x2 x4 (1 <<< (x4 &&& 31)) x3  _ hw)
      · replace hw := hw.2 c5
        refine w_iconst C dX10_differOf_24 kc_i_0 ?_
        refine w_goto C dX10_differOf_25 (tgt := 32) rfl ?_
        exact w_sub [0, 1, 2, 4] rfl (s_X10_differOf_32 C HR HT ih x1 x2 x4 0 x3  _ hw)
set_option maxRecDepth 100000 in
set_option maxHeartbeats 4000000 in
theorem c_X10_differOf {G : GG} {n : Nat} {l : Launch} (x1 : Int32) (x2 : Int32)  (M : Mem) (Q : Int32 → Mem → Prop) (hw : wp_X10_differOf x1 x2 M Q) : Ct G n l yX10_differOf cX10_differOf 5 (some .int) 7 161 [.ref (gad G 10 0), .int x1, .int x2] M (Qi G n Q) := by
  refine ct_of (by decide) (Nat.le_of_ble_eq_true rfl) (lv := [(0, .ref (gad G 10 0)), (1, .int x1), (2, .int x2)]) rfl (fun E C HR HT hE => ?_)
  replace C : Cx G n E RX10 cX10_differOf 5 := C
  refine w_iconst C dX10_differOf_0 kc_i_0 ?_
  refine w_istore_n C (lv' := [(3, .int 0), (0, .ref (gad G 10 0)), (1, .int x1), (2, .int x2)]) dX10_differOf_1 rfl (by decide) rfl ?_
  refine w_iconst C dX10_differOf_2 kc_i_0 ?_
  refine w_istore C (lv' := [(4, .int 0), (3, .int 0), (0, .ref (gad G 10 0)), (1, .int x1), (2, .int x2)]) dX10_differOf_3 (by decide) rfl ?_
  obtain ⟨f1, hw⟩ := hw
  exact w_sub [2, 3, 4, 1, 0] rfl (s_X10_differOf_5 C HR HT  f1 x1 x2 0 0  _ hw)
set_option maxRecDepth 100000 in
set_option maxHeartbeats 4000000 in
theorem c_X10_differ {G : GG} {n : Nat} {l : Launch} (x1 : Int32) (x2 : Int32)  (M : Mem) (Q : Int32 → Mem → Prop) (hw : wp_X10_differ x1 x2 M Q) : Ct G n l yX10_differ cX10_differ 3 (some .int) 8 185 [.ref (gad G 10 0), .int x1, .int x2] M (Qi G n Q) := by
  refine ct_of (by decide) (Nat.le_of_ble_eq_true rfl) (lv := [(0, .ref (gad G 10 0)), (1, .int x1), (2, .int x2)]) rfl (fun E C HR HT hE => ?_)
  replace C : Cx G n E RX10 cX10_differ 3 := C
  refine w_iload_n C 1 dX10_differ_0 rfl rfl ?_
  refine back_I (run_S C HR mt_X10_isVersion gw1176 gw1175 (by decide) rfl (Nat.le_of_ble_eq_true rfl) dX10_differ_1 (As := [.int x1]) rfl (c_X10_isVersion x1  _ _ hw)) (fun r2 M1 hw => ?_)
  refine w_if_eq C dX10_differ_4 (tgt := 23) rfl (fun c3 => ?_) (fun c3 => ?_)
  · replace hw := hw.1 c3
    refine w_bipush C dX10_differ_23 kc_b_m2 ?_
    exact ret_I C HT hw dX10_differ_25
  · replace hw := hw.2 c3
    refine w_iload_n C 2 dX10_differ_7 rfl rfl ?_
    refine back_I (run_S C HR mt_X10_isVersion gw1176 gw1175 (by decide) rfl (Nat.le_of_ble_eq_true rfl) dX10_differ_8 (As := [.int x2]) rfl (c_X10_isVersion x2  _ _ hw)) (fun r5 M4 hw => ?_)
    refine w_if_eq C dX10_differ_11 (tgt := 23) rfl (fun c6 => ?_) (fun c6 => ?_)
    · replace hw := hw.1 c6
      refine w_bipush C dX10_differ_23 kc_b_m2 ?_
      exact ret_I C HT hw dX10_differ_25
    · replace hw := hw.2 c6
      refine w_aload_n C 0 dX10_differ_14 rfl rfl ?_
      refine w_iload_n C 1 dX10_differ_15 rfl rfl ?_
      refine w_iload_n C 2 dX10_differ_16 rfl rfl ?_
      refine back_I (run_V C HR mt_X10_differOf (ci := 10) rfl (by decide) (Nat.le_of_ble_eq_true rfl) gw1237 gw46 gw1235 (by decide) rfl (Nat.le_of_ble_eq_true rfl) dX10_differ_17 (As := [.int x1, .int x2]) rfl (c_X10_differOf x1 x2  _ _ hw)) (fun r8 M7 hw => ?_)
      refine w_goto C dX10_differ_20 (tgt := 25) rfl ?_
      exact ret_I C HT hw dX10_differ_25
set_option maxRecDepth 100000 in
set_option maxHeartbeats 4000000 in
theorem c_X10_mixes {G : GG} {n : Nat} {l : Launch} (x1 : Int32) (x2 : Int32) (x3 : Int32)  (M : Mem) (Q : Mem → Prop) (hw : wp_X10_mixes x1 x2 x3 M Q) : Ct G n l yX10_mixes cX10_mixes 4 none 5 112 [.ref (gad G 10 0), .int x1, .int x2, .int x3] M (Qv G n Q) := by
  refine ct_of (by decide) (Nat.le_of_ble_eq_true rfl) (lv := [(0, .ref (gad G 10 0)), (1, .int x1), (2, .int x2), (3, .int x3)]) rfl (fun E C HR HT hE => ?_)
  replace C : Cx G n E RX10 cX10_mixes 4 := C
  refine w_aload_n C 0 dX10_mixes_0 rfl rfl ?_
  refine w_iload_n C 1 dX10_mixes_1 rfl rfl ?_
  refine pf_X10_177 C (Nat.le_of_ble_eq_true rfl) dX10_mixes_2 (w_mem fun M1 eM1 => ?_)
  replace hw := hw M1 eM1
  refine w_aload_n C 0 dX10_mixes_5 rfl rfl ?_
  refine w_iload_n C 2 dX10_mixes_6 rfl rfl ?_
  refine pf_X10_180 C (Nat.le_of_ble_eq_true rfl) dX10_mixes_7 (w_mem fun M2 eM2 => ?_)
  replace hw := hw M2 eM2
  refine w_aload_n C 0 dX10_mixes_10 rfl rfl ?_
  refine w_iload_n C 3 dX10_mixes_11 rfl rfl ?_
  refine pf_X10_183 C (Nat.le_of_ble_eq_true rfl) dX10_mixes_12 (w_mem fun M3 eM3 => ?_)
  replace hw := hw M3 eM3
  refine w_aload_n C 0 dX10_mixes_15 rfl rfl ?_
  refine w_iload_n C 1 dX10_mixes_16 rfl rfl ?_
  refine back_V (run_V C HR mt_X10_reads (ci := 10) rfl (by decide) (Nat.le_of_ble_eq_true rfl) gw1195 gw39 gw1193 (by decide) rfl (Nat.le_of_ble_eq_true rfl) dX10_mixes_17 (As := [.int x1]) rfl (c_X10_reads x1  _ _ hw)) (fun M4 hw => ?_)
  refine w_aload_n C 0 dX10_mixes_20 rfl rfl ?_
  refine w_iload_n C 2 dX10_mixes_21 rfl rfl ?_
  refine back_V (run_V C HR mt_X10_reads (ci := 10) rfl (by decide) (Nat.le_of_ble_eq_true rfl) gw1195 gw39 gw1193 (by decide) rfl (Nat.le_of_ble_eq_true rfl) dX10_mixes_22 (As := [.int x2]) rfl (c_X10_reads x2  _ _ hw)) (fun M5 hw => ?_)
  exact ret_V C HT hw dX10_mixes_25
set_option maxRecDepth 100000 in
set_option maxHeartbeats 4000000 in
theorem s_X10_begins_2 {G : GG} {n : Nat} {E : EE} (C : Cx G n E RX10 cX10_begins 2) (HR : RM E 0 0) (HT : RT E none) {Q : Mem → Prop}  : ∀ (f : Nat) (x1 : Int32)  (M : Mem), w_X10_begins_2 Q  f x1 M → WW G n E 2 (QE G E (Qv G n Q)) 2 [(0, .ref (gad G 10 0)), (1, .int x1)] [] M := by
  intro f
  induction f with
  | zero => intro x1 M hw; exact hw.elim
  | succ f ih =>
    intro x1 M hw
    refine w_iload_n C 1 dX10_begins_2 rfl rfl ?_
    refine w_iconst C dX10_begins_3 kc_i_3 ?_
    refine w_icmp_ge C dX10_begins_4 (tgt := 20) rfl (fun c2 => ?_) (fun c2 => ?_)
    · replace hw := hw.1 c2
      refine w_aload_n C 0 dX10_begins_20 rfl rfl ?_
      refine w_iconst C dX10_begins_21 kc_i_0 ?_
      refine pf_X10_186 C (Nat.le_of_ble_eq_true rfl) dX10_begins_22 (w_mem fun M3 eM3 => ?_)
      replace hw := hw M3 eM3
      refine w_aload_n C 0 dX10_begins_25 rfl rfl ?_
      refine w_iconst C dX10_begins_26 kc_i_0 ?_
      refine pf_X10_189 C (Nat.le_of_ble_eq_true rfl) dX10_begins_27 (w_mem fun M4 eM4 => ?_)
      replace hw := hw M4 eM4
      exact ret_V C HT hw dX10_begins_30
    · replace hw := hw.2 c2
      refine w_aload_n C 0 dX10_begins_7 rfl rfl ?_
      refine gf_X10_38 C (Nat.le_of_ble_eq_true rfl) dX10_begins_8 ?_
      refine w_iload_n C 1 dX10_begins_11 rfl rfl ?_
      refine w_iconst C dX10_begins_12 kc_i_0 ?_
      obtain ⟨b5, hw⟩ := hw
      refine v_iast C ak_62 rfl (Nat.le_of_ble_eq_true rfl) b5 dX10_begins_13 (w_mem fun M6 eM6 => ?_)
      replace hw := hw M6 eM6
      refine w_iincV C (lv' := [(1, .int (x1 + 1)), (0, .ref (gad G 10 0))]) 1 dX10_begins_14 kc_i_1 rfl (by decide) rfl ?_
      refine w_goto C dX10_begins_17 (tgt := 2) rfl ?_
      exact w_sub [1, 0] rfl (ih (x1 + 1)  _ hw)
set_option maxRecDepth 100000 in
set_option maxHeartbeats 4000000 in
theorem c_X10_begins {G : GG} {n : Nat} {l : Launch}   (M : Mem) (Q : Mem → Prop) (hw : wp_X10_begins  M Q) : Ct G n l yX10_begins cX10_begins 2 none 0 0 [.ref (gad G 10 0)] M (Qv G n Q) := by
  refine ct_of (by decide) (Nat.le_of_ble_eq_true rfl) (lv := [(0, .ref (gad G 10 0))]) rfl (fun E C HR HT hE => ?_)
  replace C : Cx G n E RX10 cX10_begins 2 := C
  refine w_iconst C dX10_begins_0 kc_i_0 ?_
  refine w_istore_n C (lv' := [(1, .int 0), (0, .ref (gad G 10 0))]) dX10_begins_1 rfl (by decide) rfl ?_
  obtain ⟨f1, hw⟩ := hw
  exact w_sub [1, 0] rfl (s_X10_begins_2 C HR HT  f1 0  _ hw)
set_option maxRecDepth 100000 in
set_option maxHeartbeats 4000000 in
theorem s_X10_sets_28 {G : GG} {n : Nat} {E : EE} (C : Cx G n E RX10 cX10_sets 3) (HR : RM E 0 0) (HT : RT E none) {Q : Mem → Prop}  : ∀ (y0 : Int32) (y1 : Int32)  (M : Mem), w_X10_sets_28 Q  y0 y1 M → WW G n E 3 (QE G E (Qv G n Q)) 28 [] [.int y0, .int y1, .ref (gad G 62 0)] M := by
  intro y0 y1 M hw
  obtain ⟨b3, hw⟩ := hw
  refine v_iast C ak_62 rfl (Nat.le_of_ble_eq_true rfl) b3 dX10_sets_28 (w_mem fun M4 eM4 => ?_)
  replace hw := hw M4 eM4
  exact ret_V C HT hw dX10_sets_29
set_option maxRecDepth 100000 in
set_option maxHeartbeats 4000000 in
theorem c_X10_sets {G : GG} {n : Nat} {l : Launch} (x1 : Int32) (x2 : Int32)  (M : Mem) (Q : Mem → Prop) (hw : wp_X10_sets x1 x2 M Q) : Ct G n l yX10_sets cX10_sets 3 none 0 0 [.ref (gad G 10 0), .int x1, .int x2] M (Qv G n Q) := by
  refine ct_of (by decide) (Nat.le_of_ble_eq_true rfl) (lv := [(0, .ref (gad G 10 0)), (1, .int x1), (2, .int x2)]) rfl (fun E C HR HT hE => ?_)
  replace C : Cx G n E RX10 cX10_sets 3 := C
  refine w_aload_n C 0 dX10_sets_0 rfl rfl ?_
  refine gf_X10_38 C (Nat.le_of_ble_eq_true rfl) dX10_sets_1 ?_
  refine w_iload_n C 1 dX10_sets_4 rfl rfl ?_
  refine w_iload_n C 2 dX10_sets_5 rfl rfl ?_
  refine w_bipush C dX10_sets_6 kc_b_99 ?_
  refine w_icmp_le C dX10_sets_8 (tgt := 16) rfl (fun c1 => ?_) (fun c1 => ?_)
  · replace hw := hw.1 c1
    refine w_iload_n C 2 dX10_sets_16 rfl rfl ?_
    refine w_bipush C dX10_sets_17 kc_b_m99 ?_
    refine w_icmp_ge C dX10_sets_19 (tgt := 27) rfl (fun c2 => ?_) (fun c2 => ?_)
    · replace hw := hw.1 c2
      refine w_iload_n C 2 dX10_sets_27 rfl rfl ?_
      exact w_sub [] rfl (s_X10_sets_28 C HR HT  x2 x1  _ hw)
    · replace hw := hw.2 c2
      refine w_bipush C dX10_sets_22 kc_b_m99 ?_
      refine w_goto C dX10_sets_24 (tgt := 28) rfl ?_
      exact w_sub [] rfl (s_X10_sets_28 C HR HT  (-99) x1  _ hw)
  · replace hw := hw.2 c1
    refine w_bipush C dX10_sets_11 kc_b_99 ?_
    refine w_goto C dX10_sets_13 (tgt := 28) rfl ?_
    exact w_sub [] rfl (s_X10_sets_28 C HR HT  99 x1  _ hw)
set_option maxRecDepth 100000 in
set_option maxHeartbeats 4000000 in
theorem s_X10_goes_239 {G : GG} {n : Nat} {E : EE} (C : Cx G n E RX10 cX10_goes 9) (HR : RM E 1 22) (HT : RT E none) {Q : Mem → Prop} {K98 : Int32 → Int32 → Mem → Prop} (g98 : ∀ (x5 : Int32) (x6 : Int32)  (M : Mem), K98 x5 x6 M → WW G n E 9 (QE G E (Qv G n Q)) 98 [(0, .ref (gad G 10 0)), (5, .int x5), (6, .int x6)] [] M) : ∀ (x5 : Int32) (x6 : Int32)  (M : Mem), w_X10_goes_239 Q K98 x5 x6 M → WW G n E 9 (QE G E (Qv G n Q)) 239 [(0, .ref (gad G 10 0)), (5, .int x5), (6, .int x6)] [] M := by
  intro x5 x6 M hw
  refine w_iincV C (lv' := [(6, .int (x6 + 1)), (0, .ref (gad G 10 0)), (5, .int x5)]) 2 dX10_goes_239 kc_i_1 rfl (by decide) rfl ?_
  refine w_goto C dX10_goes_242 (tgt := 98) rfl ?_
  exact w_sub [1, 2, 0] rfl (g98 x5 (x6 + 1)  _ hw)
set_option maxRecDepth 100000 in
set_option maxHeartbeats 4000000 in
theorem s_X10_goes_236 {G : GG} {n : Nat} {E : EE} (C : Cx G n E RX10 cX10_goes 9) (HR : RM E 1 22) (HT : RT E none) {Q : Mem → Prop} {K98 : Int32 → Int32 → Mem → Prop} (g98 : ∀ (x5 : Int32) (x6 : Int32)  (M : Mem), K98 x5 x6 M → WW G n E 9 (QE G E (Qv G n Q)) 98 [(0, .ref (gad G 10 0)), (5, .int x5), (6, .int x6)] [] M) : ∀ (x5 : Int32) (x6 : Int32) (y0 : Int32) (y1 : Int32)  (M : Mem), w_X10_goes_236 Q K98 x5 x6 y0 y1 M → WW G n E 9 (QE G E (Qv G n Q)) 236 [(0, .ref (gad G 10 0)), (5, .int x5), (6, .int x6)] [.int y0, .int y1, .ref (gad G 10 0)] M := by
  intro x5 x6 y0 y1 M hw
  refine back_V (run_V C HR mt_X10_sets (ci := 10) rfl (by decide) (Nat.le_of_ble_eq_true rfl) gw1271 gw51 gw1269 (by decide) rfl (Nat.le_of_ble_eq_true rfl) dX10_goes_236 (As := [.int y1, .int y0]) rfl (c_X10_sets y1 y0  _ _ hw)) (fun M25 hw => ?_)
  exact w_sub [0, 1, 2] rfl (s_X10_goes_239 C HR HT g98 x5 x6  _ hw)
set_option maxRecDepth 100000 in
set_option maxHeartbeats 4000000 in
theorem s_X10_goes_153 {G : GG} {n : Nat} {E : EE} (C : Cx G n E RX10 cX10_goes 9) (HR : RM E 1 22) (HT : RT E none) {Q : Mem → Prop} {K98 : Int32 → Int32 → Mem → Prop} (g98 : ∀ (x5 : Int32) (x6 : Int32)  (M : Mem), K98 x5 x6 M → WW G n E 9 (QE G E (Qv G n Q)) 98 [(0, .ref (gad G 10 0)), (5, .int x5), (6, .int x6)] [] M) : ∀ (x5 : Int32) (x6 : Int32) (y0 : Int32)  (M : Mem), w_X10_goes_153 Q K98 x5 x6 y0 M → WW G n E 9 (QE G E (Qv G n Q)) 153 [(0, .ref (gad G 10 0)), (5, .int x5), (6, .int x6)] [.int y0] M := by
  intro x5 x6 y0 M hw
  refine w_istore C (lv' := [(7, .int y0), (0, .ref (gad G 10 0)), (5, .int x5), (6, .int x6)]) dX10_goes_153 (by decide) rfl ?_
  refine w_aload_n C 1 dX10_goes_155 rfl rfl ?_
  refine gf_X10_29 C (Nat.le_of_ble_eq_true rfl) dX10_goes_156 ?_
  refine w_iload C 3 dX10_goes_159 rfl ?_
  obtain ⟨b15, hw⟩ := hw
  refine v_iald C ak_59 rfl (Nat.le_of_ble_eq_true rfl) b15 dX10_goes_161 ?_
  refine w_iconst C dX10_goes_162 kc_i_3 ?_
  refine w_icmp_ne C dX10_goes_163 (tgt := 175) rfl (fun c16 => ?_) (fun c16 => ?_)
  · replace hw := hw.2 c16
    refine w_aload_n C 1 dX10_goes_175 rfl rfl ?_
    refine gf_X10_38 C (Nat.le_of_ble_eq_true rfl) dX10_goes_176 ?_
    refine w_aload_n C 1 dX10_goes_179 rfl rfl ?_
    refine gf_X10_29 C (Nat.le_of_ble_eq_true rfl) dX10_goes_180 ?_
    refine w_iload C 3 dX10_goes_183 rfl ?_
    obtain ⟨b17, hw⟩ := hw
    refine v_iald C ak_59 rfl (Nat.le_of_ble_eq_true rfl) b17 dX10_goes_185 ?_
    obtain ⟨b18, hw⟩ := hw
    refine v_iald C ak_62 rfl (Nat.le_of_ble_eq_true rfl) b18 dX10_goes_186 ?_
    refine w_istoreV C dX10_goes_187 (by decide) (fun a19 ea19 => w_lv (lv' := [(8, .int a19), (7, .int y0), (0, .ref (gad G 10 0)), (5, .int x5), (6, .int x6)]) rfl ?_)
    replace hw := hw a19 ea19
    refine w_aload_n C 2 dX10_goes_189 rfl rfl ?_
    refine w_aload_n C 2 dX10_goes_190 rfl rfl ?_
    refine gf_X10_29 C (Nat.le_of_ble_eq_true rfl) dX10_goes_191 ?_
    refine w_iload C 4 dX10_goes_194 rfl ?_
    obtain ⟨b20, hw⟩ := hw
    refine v_iald C ak_59 rfl (Nat.le_of_ble_eq_true rfl) b20 dX10_goes_196 ?_
    refine w_aload_n C 2 dX10_goes_197 rfl rfl ?_
    refine gf_X10_32 C (Nat.le_of_ble_eq_true rfl) dX10_goes_198 ?_
    refine w_iload C 4 dX10_goes_201 rfl ?_
    obtain ⟨b21, hw⟩ := hw
    refine v_iald C ak_60 rfl (Nat.le_of_ble_eq_true rfl) b21 dX10_goes_203 ?_
    refine w_if_ne C dX10_goes_204 (tgt := 212) rfl (fun c22 => ?_) (fun c22 => ?_)
    · replace hw := hw.2 c22
      refine w_aload_n C 2 dX10_goes_212 rfl rfl ?_
      refine gf_X10_32 C (Nat.le_of_ble_eq_true rfl) dX10_goes_213 ?_
      refine w_iload C 4 dX10_goes_216 rfl ?_
      obtain ⟨b23, hw⟩ := hw
      refine v_iald C ak_60 rfl (Nat.le_of_ble_eq_true rfl) b23 dX10_goes_218 ?_
      refine w_iconst C dX10_goes_219 kc_i_1 ?_
      refine w_icmp_ne C dX10_goes_220 (tgt := 231) rfl (fun c24 => ?_) (fun c24 => ?_)
      · replace hw := hw.2 c24
        refine w_iload C 0 dX10_goes_231 rfl ?_
        refine w_iload C 1 dX10_goes_233 rfl ?_
        refine w_isub C dX10_goes_235 ?_
        exact w_sub [2, 3, 4] rfl (s_X10_goes_236 C HR HT g98 x5 x6 (a19 - y0) (M 59 0 x6.toNatClampNeg)  _ hw)
      · replace hw := hw.1 c24
        refine w_iload C 0 dX10_goes_223 rfl ?_
        refine w_iload C 1 dX10_goes_225 rfl ?_
        refine w_iadd C dX10_goes_227 ?_
        refine w_goto C dX10_goes_228 (tgt := 236) rfl ?_
        exact w_sub [2, 3, 4] rfl (s_X10_goes_236 C HR HT g98 x5 x6 (a19 + y0) (M 59 0 x6.toNatClampNeg)  _ hw)
    · replace hw := hw.1 c22
      refine w_iload C 1 dX10_goes_207 rfl ?_
      refine w_goto C dX10_goes_209 (tgt := 236) rfl ?_
      exact w_sub [2, 3, 4] rfl (s_X10_goes_236 C HR HT g98 x5 x6 y0 (M 59 0 x6.toNatClampNeg)  _ hw)
  · replace hw := hw.1 c16
    refine w_aload_n C 1 dX10_goes_166 rfl rfl ?_
    refine w_iload C 0 dX10_goes_167 rfl ?_
    refine pf_X10_186 C (Nat.le_of_ble_eq_true rfl) dX10_goes_169 (w_mem fun M26 eM26 => ?_)
    replace hw := hw M26 eM26
    refine w_goto C dX10_goes_172 (tgt := 239) rfl ?_
    exact w_sub [1, 2, 3] rfl (s_X10_goes_239 C HR HT g98 x5 x6  _ hw)
set_option maxRecDepth 100000 in
set_option maxHeartbeats 4000000 in
theorem s_X10_goes_146 {G : GG} {n : Nat} {E : EE} (C : Cx G n E RX10 cX10_goes 9) (HR : RM E 1 22) (HT : RT E none) {Q : Mem → Prop} {K98 : Int32 → Int32 → Mem → Prop} (g98 : ∀ (x5 : Int32) (x6 : Int32)  (M : Mem), K98 x5 x6 M → WW G n E 9 (QE G E (Qv G n Q)) 98 [(0, .ref (gad G 10 0)), (5, .int x5), (6, .int x6)] [] M) : ∀ (x5 : Int32) (x6 : Int32)  (M : Mem), w_X10_goes_146 Q K98 x5 x6 M → WW G n E 9 (QE G E (Qv G n Q)) 146 [(0, .ref (gad G 10 0)), (5, .int x5), (6, .int x6)] [] M := by
  intro x5 x6 M hw
  refine w_aload_n C 0 dX10_goes_146 rfl rfl ?_
  refine gf_X10_35 C (Nat.le_of_ble_eq_true rfl) dX10_goes_147 ?_
  refine w_iload C 2 dX10_goes_150 rfl ?_
  obtain ⟨b14, hw⟩ := hw
  refine v_iald C ak_61 rfl (Nat.le_of_ble_eq_true rfl) b14 dX10_goes_152 ?_
  exact w_sub [0, 1, 2] rfl (s_X10_goes_153 C HR HT g98 x5 x6 (M 61 0 x6.toNatClampNeg)  _ hw)
set_option maxRecDepth 100000 in
set_option maxHeartbeats 4000000 in
theorem s_X10_goes_98 {G : GG} {n : Nat} {E : EE} (C : Cx G n E RX10 cX10_goes 9) (HR : RM E 1 22) (HT : RT E none) {Q : Mem → Prop}  : ∀ (f : Nat) (x5 : Int32) (x6 : Int32)  (M : Mem), w_X10_goes_98 Q  f x5 x6 M → WW G n E 9 (QE G E (Qv G n Q)) 98 [(0, .ref (gad G 10 0)), (5, .int x5), (6, .int x6)] [] M := by
  intro f
  induction f with
  | zero => intro x5 x6 M hw; exact hw.elim
  | succ f ih =>
    intro x5 x6 M hw
    refine w_iload C 2 dX10_goes_98 rfl ?_
    refine w_iload C 1 dX10_goes_100 rfl ?_
    refine w_icmp_ge C dX10_goes_102 (tgt := 245) rfl (fun c11 => ?_) (fun c11 => ?_)
    · replace hw := hw.1 c11
      exact ret_V C HT hw dX10_goes_245
    · replace hw := hw.2 c11
      refine w_aload_n C 0 dX10_goes_105 rfl rfl ?_
      refine gf_X10_29 C (Nat.le_of_ble_eq_true rfl) dX10_goes_106 ?_
      refine w_iload C 2 dX10_goes_109 rfl ?_
      obtain ⟨b12, hw⟩ := hw
      refine v_iald C ak_59 rfl (Nat.le_of_ble_eq_true rfl) b12 dX10_goes_111 ?_
      refine w_iconst C dX10_goes_112 kc_i_3 ?_
      refine w_icmp_ge C dX10_goes_113 (tgt := 146) rfl (fun c13 => ?_) (fun c13 => ?_)
      · replace hw := hw.1 c13
        exact w_sub [0, 1, 2] rfl (s_X10_goes_146 C HR HT ih x5 x6  _ hw)
      · replace hw := hw.2 c13
        refine w_aload_n C 0 dX10_goes_116 rfl rfl ?_
        refine gf_X10_35 C (Nat.le_of_ble_eq_true rfl) dX10_goes_117 ?_
        refine w_iload C 2 dX10_goes_120 rfl ?_
        obtain ⟨b27, hw⟩ := hw
        refine v_iald C ak_61 rfl (Nat.le_of_ble_eq_true rfl) b27 dX10_goes_122 ?_
        refine w_bipush C dX10_goes_123 kc_b_9 ?_
        refine w_icmp_le C dX10_goes_125 (tgt := 146) rfl (fun c28 => ?_) (fun c28 => ?_)
        · replace hw := hw.1 c28
          exact w_sub [0, 1, 2] rfl (s_X10_goes_146 C HR HT ih x5 x6  _ hw)
        · replace hw := hw.2 c28
          refine w_aload_n C 0 dX10_goes_128 rfl rfl ?_
          refine gf_X10_38 C (Nat.le_of_ble_eq_true rfl) dX10_goes_129 ?_
          refine w_aload_n C 0 dX10_goes_132 rfl rfl ?_
          refine gf_X10_35 C (Nat.le_of_ble_eq_true rfl) dX10_goes_133 ?_
          refine w_iload C 2 dX10_goes_136 rfl ?_
          obtain ⟨b29, hw⟩ := hw
          refine v_iald C ak_61 rfl (Nat.le_of_ble_eq_true rfl) b29 dX10_goes_138 ?_
          refine w_bipush C dX10_goes_139 kc_b_10 ?_
          refine w_isub C dX10_goes_141 ?_
          obtain ⟨b30, hw⟩ := hw
          refine v_iald C ak_62 rfl (Nat.le_of_ble_eq_true rfl) b30 dX10_goes_142 ?_
          refine w_goto C dX10_goes_143 (tgt := 153) rfl ?_
          exact w_sub [0, 1, 2] rfl (s_X10_goes_153 C HR HT ih x5 x6 (M 62 0 ((M 61 0 x6.toNatClampNeg) - 10).toNatClampNeg)  _ hw)
set_option maxRecDepth 100000 in
set_option maxHeartbeats 4000000 in
theorem s_X10_goes_90 {G : GG} {n : Nat} {E : EE} (C : Cx G n E RX10 cX10_goes 9) (HR : RM E 1 22) (HT : RT E none) {Q : Mem → Prop}  : ∀ (x4 : Int32) (x5 : Int32) (y0 : Int32) (y1 : Int32)  (M : Mem), w_X10_goes_90 Q  x4 x5 y0 y1 M → WW G n E 9 (QE G E (Qv G n Q)) 90 [(0, .ref (gad G 10 0)), (4, .int x4), (5, .int x5)] [.int y0, .int y1, .ref (gad G 10 0)] M := by
  intro x4 x5 y0 y1 M hw
  refine w_iadd C dX10_goes_90 ?_
  refine pf_X10_189 C (Nat.le_of_ble_eq_true rfl) dX10_goes_91 (w_mem fun M9 eM9 => ?_)
  replace hw := hw M9 eM9
  refine w_iload C 1 dX10_goes_94 rfl ?_
  refine w_istore C (lv' := [(6, .int x4), (0, .ref (gad G 10 0)), (4, .int x4), (5, .int x5)]) dX10_goes_96 (by decide) rfl ?_
  obtain ⟨f10, hw⟩ := hw
  exact w_sub [1, 3, 0] rfl (s_X10_goes_98 C HR HT  f10 x5 x4  _ hw)
set_option maxRecDepth 100000 in
set_option maxHeartbeats 4000000 in
theorem s_X10_goes_32 {G : GG} {n : Nat} {E : EE} (C : Cx G n E RX10 cX10_goes 9) (HR : RM E 1 22) (HT : RT E none) {Q : Mem → Prop}  : ∀ (x1 : Int32) (x2 : Int32) (y0 : Int32)  (M : Mem), w_X10_goes_32 Q  x1 x2 y0 M → WW G n E 9 (QE G E (Qv G n Q)) 32 [(0, .ref (gad G 10 0)), (1, .int x1), (2, .int x2)] [.int y0] M := by
  intro x1 x2 y0 M hw
  refine w_istore_n C (lv' := [(3, .int y0), (0, .ref (gad G 10 0)), (1, .int x1), (2, .int x2)]) dX10_goes_32 rfl (by decide) rfl ?_
  refine w_bipush C dX10_goes_33 kc_b_60 ?_
  refine w_iload_n C 0 dX10_goes_35 rfl rfl ?_
  refine w_imul C dX10_goes_36 ?_
  refine w_aload_n C 1 dX10_goes_37 rfl rfl ?_
  refine gf_X10_23 C (Nat.le_of_ble_eq_true rfl) dX10_goes_38 ?_
  refine w_bipush C dX10_goes_41 kc_b_16 ?_
  refine w_iload_n C 0 dX10_goes_43 rfl rfl ?_
  refine w_imul C dX10_goes_44 ?_
  refine w_iload_n C 3 dX10_goes_45 rfl rfl ?_
  refine w_iadd C dX10_goes_46 ?_
  obtain ⟨b3, hw⟩ := hw
  refine v_iald C ak_57 rfl (Nat.le_of_ble_eq_true rfl) b3 dX10_goes_47 ?_
  refine w_iadd C dX10_goes_48 ?_
  refine w_istoreV C dX10_goes_49 (by decide) (fun a4 ea4 => w_lv (lv' := [(4, .int a4), (3, .int y0), (0, .ref (gad G 10 0)), (1, .int x1), (2, .int x2)]) rfl ?_)
  replace hw := hw a4 ea4
  refine w_iload C 0 dX10_goes_51 rfl ?_
  refine w_aload_n C 2 dX10_goes_53 rfl rfl ?_
  refine gf_X10_26 C (Nat.le_of_ble_eq_true rfl) dX10_goes_54 ?_
  refine w_bipush C dX10_goes_57 kc_b_16 ?_
  refine w_iload_n C 1 dX10_goes_59 rfl rfl ?_
  refine w_imul C dX10_goes_60 ?_
  refine w_iload_n C 4 dX10_goes_61 rfl rfl ?_
  refine w_iadd C dX10_goes_62 ?_
  obtain ⟨b5, hw⟩ := hw
  refine v_iald C ak_58 rfl (Nat.le_of_ble_eq_true rfl) b5 dX10_goes_63 ?_
  refine w_iadd C dX10_goes_64 ?_
  refine w_istoreV C dX10_goes_65 (by decide) (fun a6 ea6 => w_lv (lv' := [(5, .int a6), (4, .int a4), (3, .int y0), (0, .ref (gad G 10 0)), (1, .int x1), (2, .int x2)]) rfl ?_)
  replace hw := hw a6 ea6
  refine w_aload_n C 3 dX10_goes_67 rfl rfl ?_
  refine w_dup C dX10_goes_68 rfl ?_
  refine gf_X10_189 C (Nat.le_of_ble_eq_true rfl) dX10_goes_69 ?_
  refine w_iload_n C 4 dX10_goes_72 rfl rfl ?_
  refine w_if_ne C dX10_goes_73 (tgt := 80) rfl (fun c7 => ?_) (fun c7 => ?_)
  · replace hw := hw.2 c7
    refine w_iload_n C 4 dX10_goes_80 rfl rfl ?_
    refine w_iconst C dX10_goes_81 kc_i_1 ?_
    refine w_icmp_ne C dX10_goes_82 (tgt := 89) rfl (fun c8 => ?_) (fun c8 => ?_)
    · replace hw := hw.2 c8
      refine w_iconst C dX10_goes_89 kc_i_0 ?_
      exact w_sub [3, 1, 0] rfl (s_X10_goes_90 C HR HT  a4 a6 0 (M 715 0 0)  _ hw)
    · replace hw := hw.1 c8
      refine w_iconst C dX10_goes_85 kc_i_m1 ?_
      refine w_goto C dX10_goes_86 (tgt := 90) rfl ?_
      exact w_sub [3, 1, 0] rfl (s_X10_goes_90 C HR HT  a4 a6 (-1) (M 715 0 0)  _ hw)
  · replace hw := hw.1 c7
    refine w_iconst C dX10_goes_76 kc_i_1 ?_
    refine w_goto C dX10_goes_77 (tgt := 90) rfl ?_
    exact w_sub [3, 1, 0] rfl (s_X10_goes_90 C HR HT  a4 a6 1 (M 715 0 0)  _ hw)
set_option maxRecDepth 100000 in
set_option maxHeartbeats 4000000 in
theorem c_X10_goes {G : GG} {n : Nat} {l : Launch} (x1 : Int32)  (M : Mem) (Q : Mem → Prop) (hw : wp_X10_goes x1 M Q) : Ct G n l yX10_goes cX10_goes 9 none 1 22 [.ref (gad G 10 0), .int x1] M (Qv G n Q) := by
  refine ct_of (by decide) (Nat.le_of_ble_eq_true rfl) (lv := [(0, .ref (gad G 10 0)), (1, .int x1)]) rfl (fun E C HR HT hE => ?_)
  replace C : Cx G n E RX10 cX10_goes 9 := C
  refine w_iconst C dX10_goes_0 kc_i_2 ?_
  refine w_iload_n C 1 dX10_goes_1 rfl rfl ?_
  refine w_imul C dX10_goes_2 ?_
  refine w_aload_n C 0 dX10_goes_3 rfl rfl ?_
  refine gf_X10_186 C (Nat.le_of_ble_eq_true rfl) dX10_goes_4 ?_
  refine w_iadd C dX10_goes_7 ?_
  refine w_istore_nV C dX10_goes_8 rfl (by decide) (fun a1 ea1 => w_lv (lv' := [(2, .int a1), (0, .ref (gad G 10 0)), (1, .int x1)]) rfl ?_)
  replace hw := hw a1 ea1
  refine w_aload_n C 1 dX10_goes_9 rfl rfl ?_
  refine gf_X10_183 C (Nat.le_of_ble_eq_true rfl) dX10_goes_10 ?_
  refine w_iload_n C 0 dX10_goes_13 rfl rfl ?_
  refine w_ishr C dX10_goes_14 ?_
  refine w_iconst C dX10_goes_15 kc_i_1 ?_
  refine w_iand C dX10_goes_16 ?_
  refine w_iconst C dX10_goes_17 kc_i_1 ?_
  refine w_icmp_ne C dX10_goes_18 (tgt := 28) rfl (fun c2 => ?_) (fun c2 => ?_)
  · replace hw := hw.2 c2
    refine w_aload_n C 1 dX10_goes_28 rfl rfl ?_
    refine gf_X10_177 C (Nat.le_of_ble_eq_true rfl) dX10_goes_29 ?_
    exact w_sub [1, 2, 0] rfl (s_X10_goes_32 C HR HT  x1 a1 (M 716 0 0)  _ hw)
  · replace hw := hw.1 c2
    refine w_aload_n C 1 dX10_goes_21 rfl rfl ?_
    refine gf_X10_180 C (Nat.le_of_ble_eq_true rfl) dX10_goes_22 ?_
    refine w_goto C dX10_goes_25 (tgt := 32) rfl ?_
    exact w_sub [1, 2, 0] rfl (s_X10_goes_32 C HR HT  x1 a1 (M 717 0 0)  _ hw)
set_option maxRecDepth 100000 in
set_option maxHeartbeats 4000000 in
theorem c_X10_isMix {G : GG} {n : Nat} {l : Launch} (x0 : Int32) (x1 : Int32) (x2 : Int32)  (M : Mem) (Q : Int32 → Mem → Prop) (hw : wp_X10_isMix x0 x1 x2 M Q) : Ct G n l yX10_isMix cX10_isMix 3 (some .boolean) 2 42 [.int x0, .int x1, .int x2] M (Qi G n Q) := by
  refine ct_of (by decide) (Nat.le_of_ble_eq_true rfl) (lv := [(0, .int x0), (1, .int x1), (2, .int x2)]) rfl (fun E C HR HT hE => ?_)
  replace C : Cx G n E RX10 cX10_isMix 3 := C
  refine w_iload_n C 0 dX10_isMix_0 rfl rfl ?_
  refine back_I (run_S C HR mt_X10_isVersion gw1176 gw1175 (by decide) rfl (Nat.le_of_ble_eq_true rfl) dX10_isMix_1 (As := [.int x0]) rfl (c_X10_isVersion x0  _ _ hw)) (fun r2 M1 hw => ?_)
  refine w_if_eq C dX10_isMix_4 (tgt := 28) rfl (fun c3 => ?_) (fun c3 => ?_)
  · replace hw := hw.1 c3
    refine w_iconst C dX10_isMix_28 kc_i_0 ?_
    exact ret_Z C HT rfl hw dX10_isMix_29
  · replace hw := hw.2 c3
    refine w_iload_n C 1 dX10_isMix_7 rfl rfl ?_
    refine back_I (run_S C HR mt_X10_isVersion gw1176 gw1175 (by decide) rfl (Nat.le_of_ble_eq_true rfl) dX10_isMix_8 (As := [.int x1]) rfl (c_X10_isVersion x1  _ _ hw)) (fun r5 M4 hw => ?_)
    refine w_if_eq C dX10_isMix_11 (tgt := 28) rfl (fun c6 => ?_) (fun c6 => ?_)
    · replace hw := hw.1 c6
      refine w_iconst C dX10_isMix_28 kc_i_0 ?_
      exact ret_Z C HT rfl hw dX10_isMix_29
    · replace hw := hw.2 c6
      refine w_iload_n C 2 dX10_isMix_14 rfl rfl ?_
      refine w_iconst C dX10_isMix_15 kc_i_0 ?_
      refine w_ldc C dX10_isMix_16 gw1250 ?_
      refine back_I (run_S C HR mt_X10_in gw1179 gw1178 (by decide) rfl (Nat.le_of_ble_eq_true rfl) dX10_isMix_18 (As := [.int x2, .int 0, .int 65535]) rfl (c_X10_in x2 0 65535  _ _ hw)) (fun r8 M7 hw => ?_)
      refine w_if_eq C dX10_isMix_21 (tgt := 28) rfl (fun c9 => ?_) (fun c9 => ?_)
      · replace hw := hw.1 c9
        refine w_iconst C dX10_isMix_28 kc_i_0 ?_
        exact ret_Z C HT rfl hw dX10_isMix_29
      · replace hw := hw.2 c9
        refine w_iconst C dX10_isMix_24 kc_i_1 ?_
        refine w_goto C dX10_isMix_25 (tgt := 29) rfl ?_
        exact ret_Z C HT rfl hw dX10_isMix_29
set_option maxRecDepth 100000 in
set_option maxHeartbeats 4000000 in
theorem c_X10_isEvent {G : GG} {n : Nat} {l : Launch} (x0 : Int32)  (M : Mem) (Q : Int32 → Mem → Prop) (hw : wp_X10_isEvent x0 M Q) : Ct G n l yX10_isEvent cX10_isEvent 1 (some .boolean) 1 22 [.int x0] M (Qi G n Q) := by
  refine ct_of (by decide) (Nat.le_of_ble_eq_true rfl) (lv := [(0, .int x0)]) rfl (fun E C HR HT hE => ?_)
  replace C : Cx G n E RX10 cX10_isEvent 1 := C
  refine w_iload_n C 0 dX10_isEvent_0 rfl rfl ?_
  refine w_iconst C dX10_isEvent_1 kc_i_0 ?_
  refine w_bipush C dX10_isEvent_2 kc_b_7 ?_
  refine back_I (run_S C HR mt_X10_in gw1179 gw1178 (by decide) rfl (Nat.le_of_ble_eq_true rfl) dX10_isEvent_4 (As := [.int x0, .int 0, .int 7]) rfl (c_X10_in x0 0 7  _ _ hw)) (fun r2 M1 hw => ?_)
  exact ret_Z C HT hw.1 hw.2 dX10_isEvent_7
set_option maxRecDepth 100000 in
set_option maxHeartbeats 4000000 in
theorem c_X10_isSheet {G : GG} {n : Nat} {l : Launch} (x0 : Int32)  (M : Mem) (Q : Int32 → Mem → Prop) (hw : wp_X10_isSheet x0 M Q) : Ct G n l yX10_isSheet cX10_isSheet 1 (some .boolean) 1 22 [.int x0] M (Qi G n Q) := by
  refine ct_of (by decide) (Nat.le_of_ble_eq_true rfl) (lv := [(0, .int x0)]) rfl (fun E C HR HT hE => ?_)
  replace C : Cx G n E RX10 cX10_isSheet 1 := C
  refine w_iload_n C 0 dX10_isSheet_0 rfl rfl ?_
  refine w_iconst C dX10_isSheet_1 kc_i_0 ?_
  refine w_iconst C dX10_isSheet_2 kc_i_3 ?_
  refine back_I (run_S C HR mt_X10_in gw1179 gw1178 (by decide) rfl (Nat.le_of_ble_eq_true rfl) dX10_isSheet_3 (As := [.int x0, .int 0, .int 3]) rfl (c_X10_in x0 0 3  _ _ hw)) (fun r2 M1 hw => ?_)
  exact ret_Z C HT hw.1 hw.2 dX10_isSheet_6
set_option maxRecDepth 100000 in
set_option maxHeartbeats 4000000 in
theorem s_X10_run_80 {G : GG} {n : Nat} {E : EE} (C : Cx G n E RX10 cX10_run 8) (HR : RM E 6 135) (HT : RT E (some .int)) {Q : Int32 → Mem → Prop}  : ∀ (y0 : Int32)  (M : Mem), w_X10_run_80 Q  y0 M → WW G n E 8 (QE G E (Qi G n Q)) 80 [] [.int y0, .ref (gad G 10 0)] M := by
  intro y0 M hw
  refine pf_X10_203 C (Nat.le_of_ble_eq_true rfl) dX10_run_80 (w_mem fun M17 eM17 => ?_)
  replace hw := hw M17 eM17
  refine w_sipush C dX10_run_83 kc_s_m1000 ?_
  exact ret_I C HT hw dX10_run_86
set_option maxRecDepth 100000 in
set_option maxHeartbeats 4000000 in
theorem s_X10_run_64 {G : GG} {n : Nat} {E : EE} (C : Cx G n E RX10 cX10_run 8) (HR : RM E 6 135) (HT : RT E (some .int)) {Q : Int32 → Mem → Prop}  : ∀ (x4 : Int32)  (M : Mem), w_X10_run_64 Q  x4 M → WW G n E 8 (QE G E (Qi G n Q)) 64 [(0, .ref (gad G 10 0)), (4, .int x4)] [] M := by
  intro x4 M hw
  refine w_aload_n C 0 dX10_run_64 rfl rfl ?_
  refine w_aload_n C 0 dX10_run_65 rfl rfl ?_
  refine gf_X10_102 C (Nat.le_of_ble_eq_true rfl) dX10_run_66 ?_
  refine w_iload C 1 dX10_run_69 rfl ?_
  obtain ⟨b15, hw⟩ := hw
  refine v_zald C ak_81 rfl (Nat.le_of_ble_eq_true rfl) b15 dX10_run_71 ?_
  refine w_if_eq C dX10_run_72 (tgt := 79) rfl (fun c16 => ?_) (fun c16 => ?_)
  · replace hw := hw.1 c16
    refine w_iconst C dX10_run_79 kc_i_1 ?_
    exact w_sub [] rfl (s_X10_run_80 C HR HT  1  _ hw)
  · replace hw := hw.2 c16
    refine w_iconst C dX10_run_75 kc_i_2 ?_
    refine w_goto C dX10_run_76 (tgt := 80) rfl ?_
    exact w_sub [] rfl (s_X10_run_80 C HR HT  2  _ hw)
set_option maxRecDepth 100000 in
set_option maxHeartbeats 4000000 in
theorem s_X10_run_213 {G : GG} {n : Nat} {E : EE} (C : Cx G n E RX10 cX10_run 8) (HR : RM E 6 135) (HT : RT E (some .int)) {Q : Int32 → Mem → Prop}  : ∀ (x6 : Int32) (y0 : Int32)  (M : Mem), w_X10_run_213 Q  x6 y0 M → WW G n E 8 (QE G E (Qi G n Q)) 213 [(0, .ref (gad G 10 0)), (6, .int x6)] [.int y0] M := by
  intro x6 y0 M hw
  refine w_istore C (lv' := [(7, .int y0), (0, .ref (gad G 10 0)), (6, .int x6)]) dX10_run_213 (by decide) rfl ?_
  refine w_iload C 2 dX10_run_215 rfl ?_
  refine w_iconst C dX10_run_217 kc_i_3 ?_
  refine w_icmp_ge C dX10_run_218 (tgt := 231) rfl (fun c27 => ?_) (fun c27 => ?_)
  · replace hw := hw.1 c27
    refine w_iload C 2 dX10_run_231 rfl ?_
    refine w_iconst C dX10_run_233 kc_i_3 ?_
    refine w_icmp_ne C dX10_run_234 (tgt := 244) rfl (fun c28 => ?_) (fun c28 => ?_)
    · replace hw := hw.2 c28
      refine w_iload C 2 dX10_run_244 rfl ?_
      refine w_iconst C dX10_run_246 kc_i_4 ?_
      refine w_icmp_ne C dX10_run_247 (tgt := 257) rfl (fun c29 => ?_) (fun c29 => ?_)
      · replace hw := hw.2 c29
        refine w_iload C 0 dX10_run_257 rfl ?_
        refine w_if_eq C dX10_run_259 (tgt := 266) rfl (fun c30 => ?_) (fun c30 => ?_)
        · replace hw := hw.1 c30
          refine w_iconst C dX10_run_266 kc_i_0 ?_
          exact ret_I C HT hw dX10_run_267
        · replace hw := hw.2 c30
          refine w_iconst C dX10_run_262 kc_i_1 ?_
          refine w_goto C dX10_run_263 (tgt := 267) rfl ?_
          exact ret_I C HT hw dX10_run_267
      · replace hw := hw.1 c29
        refine w_aload_n C 1 dX10_run_250 rfl rfl ?_
        refine gf_X10_189 C (Nat.le_of_ble_eq_true rfl) dX10_run_251 ?_
        refine w_goto C dX10_run_254 (tgt := 267) rfl ?_
        exact ret_I C HT hw dX10_run_267
    · replace hw := hw.1 c28
      refine w_aload_n C 1 dX10_run_237 rfl rfl ?_
      refine gf_X10_186 C (Nat.le_of_ble_eq_true rfl) dX10_run_238 ?_
      refine w_goto C dX10_run_241 (tgt := 267) rfl ?_
      exact ret_I C HT hw dX10_run_267
  · replace hw := hw.2 c27
    refine w_aload_n C 1 dX10_run_221 rfl rfl ?_
    refine gf_X10_38 C (Nat.le_of_ble_eq_true rfl) dX10_run_222 ?_
    refine w_iload C 2 dX10_run_225 rfl ?_
    obtain ⟨b31, hw⟩ := hw
    refine v_iald C ak_62 rfl (Nat.le_of_ble_eq_true rfl) b31 dX10_run_227 ?_
    refine w_goto C dX10_run_228 (tgt := 267) rfl ?_
    exact ret_I C HT hw dX10_run_267
set_option maxRecDepth 100000 in
set_option maxHeartbeats 4000000 in
theorem s_X10_run_212 {G : GG} {n : Nat} {E : EE} (C : Cx G n E RX10 cX10_run 8) (HR : RM E 6 135) (HT : RT E (some .int)) {Q : Int32 → Mem → Prop}  : ∀ (x6 : Int32)  (M : Mem), w_X10_run_212 Q  x6 M → WW G n E 8 (QE G E (Qi G n Q)) 212 [(0, .ref (gad G 10 0)), (6, .int x6)] [] M := by
  intro x6 M hw
  refine w_iconst C dX10_run_212 kc_i_0 ?_
  exact w_sub [0, 1] rfl (s_X10_run_213 C HR HT  x6 0  _ hw)
set_option maxRecDepth 100000 in
set_option maxHeartbeats 4000000 in
theorem s_X10_run_140 {G : GG} {n : Nat} {E : EE} (C : Cx G n E RX10 cX10_run 8) (HR : RM E 6 135) (HT : RT E (some .int)) {Q : Int32 → Mem → Prop}  : ∀ (f : Nat) (x4 : Int32) (x5 : Int32) (x6 : Int32) (x7 : Int32)  (M : Mem), w_X10_run_140 Q  f x4 x5 x6 x7 M → WW G n E 8 (QE G E (Qi G n Q)) 140 [(0, .ref (gad G 10 0)), (4, .int x4), (5, .int x5), (6, .int x6), (7, .int x7)] [] M := by
  intro f
  induction f with
  | zero => intro x4 x5 x6 x7 M hw; exact hw.elim
  | succ f ih =>
    intro x4 x5 x6 x7 M hw
    refine w_iload C 4 dX10_run_140 rfl ?_
    refine w_iload C 2 dX10_run_142 rfl ?_
    refine w_icmp_ge C dX10_run_144 (tgt := 170) rfl (fun c25 => ?_) (fun c25 => ?_)
    · replace hw := hw.1 c25
      refine w_iload C 2 dX10_run_170 rfl ?_
      refine w_if_le C dX10_run_172 (tgt := 212) rfl (fun c26 => ?_) (fun c26 => ?_)
      · replace hw := hw.1 c26
        exact w_sub [0, 3] rfl (s_X10_run_212 C HR HT  x6  _ hw)
      · replace hw := hw.2 c26
        refine w_aload_n C 0 dX10_run_175 rfl rfl ?_
        refine gf_X10_111 C (Nat.le_of_ble_eq_true rfl) dX10_run_176 ?_
        refine w_bipush C dX10_run_179 kc_b_40 ?_
        refine w_iload C 1 dX10_run_181 rfl ?_
        refine w_imul C dX10_run_183 ?_
        refine w_iload C 2 dX10_run_184 rfl ?_
        refine w_iadd C dX10_run_186 ?_
        refine w_iconst C dX10_run_187 kc_i_1 ?_
        refine w_isub C dX10_run_188 ?_
        obtain ⟨b32, hw⟩ := hw
        refine v_iald C ak_84 rfl (Nat.le_of_ble_eq_true rfl) b32 dX10_run_189 ?_
        refine w_bipush C dX10_run_190 kc_b_7 ?_
        refine w_icmp_ne C dX10_run_192 (tgt := 212) rfl (fun c33 => ?_) (fun c33 => ?_)
        · replace hw := hw.2 c33
          exact w_sub [0, 3] rfl (s_X10_run_212 C HR HT  x6  _ hw)
        · replace hw := hw.1 c33
          refine w_aload_n C 0 dX10_run_195 rfl rfl ?_
          refine gf_X10_38 C (Nat.le_of_ble_eq_true rfl) dX10_run_196 ?_
          refine w_iconst C dX10_run_199 kc_i_2 ?_
          obtain ⟨b34, hw⟩ := hw
          refine v_iald C ak_62 rfl (Nat.le_of_ble_eq_true rfl) b34 dX10_run_200 ?_
          refine w_aload_n C 0 dX10_run_201 rfl rfl ?_
          refine gf_X10_189 C (Nat.le_of_ble_eq_true rfl) dX10_run_202 ?_
          refine w_icmp_eq C dX10_run_205 (tgt := 212) rfl (fun c35 => ?_) (fun c35 => ?_)
          · replace hw := hw.1 c35
            exact w_sub [0, 3] rfl (s_X10_run_212 C HR HT  x6  _ hw)
          · replace hw := hw.2 c35
            refine w_iconst C dX10_run_208 kc_i_1 ?_
            refine w_goto C dX10_run_209 (tgt := 213) rfl ?_
            exact w_sub [0, 3] rfl (s_X10_run_213 C HR HT  x6 1  _ hw)
    · replace hw := hw.2 c25
      refine w_aload_n C 0 dX10_run_147 rfl rfl ?_
      refine w_aload_n C 0 dX10_run_148 rfl rfl ?_
      refine gf_X10_111 C (Nat.le_of_ble_eq_true rfl) dX10_run_149 ?_
      refine w_bipush C dX10_run_152 kc_b_40 ?_
      refine w_iload C 1 dX10_run_154 rfl ?_
      refine w_imul C dX10_run_156 ?_
      refine w_iload C 4 dX10_run_157 rfl ?_
      refine w_iadd C dX10_run_159 ?_
      obtain ⟨b36, hw⟩ := hw
      refine v_iald C ak_84 rfl (Nat.le_of_ble_eq_true rfl) b36 dX10_run_160 ?_
      refine back_V (run_V C HR mt_X10_goes (ci := 10) rfl (by decide) (Nat.le_of_ble_eq_true rfl) gw1267 gw50 gw1265 (by decide) rfl (Nat.le_of_ble_eq_true rfl) dX10_run_161 (As := [.int (M 84 0 ((40 * x4) + x7).toNatClampNeg)]) rfl (c_X10_goes (M 84 0 ((40 * x4) + x7).toNatClampNeg)  _ _ hw)) (fun M37 hw => ?_)
      refine w_iincV C (lv' := [(7, .int (x7 + 1)), (0, .ref (gad G 10 0)), (4, .int x4), (5, .int x5), (6, .int x6)]) 4 dX10_run_164 kc_i_1 rfl (by decide) rfl ?_
      refine w_goto C dX10_run_167 (tgt := 140) rfl ?_
      exact w_sub [1, 2, 3, 4, 0] rfl (ih x4 x5 x6 (x7 + 1)  _ hw)
set_option maxRecDepth 100000 in
set_option maxHeartbeats 4000000 in
theorem s_X10_run_90 {G : GG} {n : Nat} {E : EE} (C : Cx G n E RX10 cX10_run 8) (HR : RM E 6 135) (HT : RT E (some .int)) {Q : Int32 → Mem → Prop}  : ∀ (f : Nat) (x1 : Int32) (x2 : Int32) (x3 : Int32) (x4 : Int32) (x5 : Int32) (x6 : Int32) (x7 : Int32)  (M : Mem), w_X10_run_90 Q  f x1 x2 x3 x4 x5 x6 x7 M → WW G n E 8 (QE G E (Qi G n Q)) 90 [(0, .ref (gad G 10 0)), (1, .int x1), (2, .int x2), (3, .int x3), (4, .int x4), (5, .int x5), (6, .int x6), (7, .int x7)] [] M := by
  intro f
  induction f with
  | zero => intro x1 x2 x3 x4 x5 x6 x7 M hw; exact hw.elim
  | succ f ih =>
    intro x1 x2 x3 x4 x5 x6 x7 M hw
    refine w_iload C 7 dX10_run_90 rfl ?_
    refine w_iload C 5 dX10_run_92 rfl ?_
    refine w_icmp_ge C dX10_run_94 (tgt := 126) rfl (fun c21 => ?_) (fun c21 => ?_)
    · replace hw := hw.1 c21
      refine w_aload_n C 0 dX10_run_126 rfl rfl ?_
      refine w_iload_n C 1 dX10_run_127 rfl rfl ?_
      refine w_iload_n C 2 dX10_run_128 rfl rfl ?_
      refine w_iload_n C 3 dX10_run_129 rfl rfl ?_
      refine back_V (run_V C HR mt_X10_mixes (ci := 10) rfl (by decide) (Nat.le_of_ble_eq_true rfl) gw1259 gw48 gw1257 (by decide) rfl (Nat.le_of_ble_eq_true rfl) dX10_run_130 (As := [.int x1, .int x2, .int x3]) rfl (c_X10_mixes x1 x2 x3  _ _ hw)) (fun M22 hw => ?_)
      refine w_aload_n C 0 dX10_run_133 rfl rfl ?_
      refine back_V (run_V C HR mt_X10_begins (ci := 10) rfl (by decide) (Nat.le_of_ble_eq_true rfl) gw1263 gw49 gw1261 (by decide) rfl (Nat.le_of_ble_eq_true rfl) dX10_run_134 (As := []) rfl (c_X10_begins   _ _ hw)) (fun M23 hw => ?_)
      refine w_iconst C dX10_run_137 kc_i_0 ?_
      refine w_istore C (lv' := [(7, .int 0), (0, .ref (gad G 10 0)), (1, .int x1), (2, .int x2), (3, .int x3), (4, .int x4), (5, .int x5), (6, .int x6)]) dX10_run_138 (by decide) rfl ?_
      obtain ⟨f24, hw⟩ := hw
      exact w_sub [1, 5, 6, 7, 0] rfl (s_X10_run_140 C HR HT  f24 x4 x5 x6 0  _ hw)
    · replace hw := hw.2 c21
      refine w_aload_n C 0 dX10_run_97 rfl rfl ?_
      refine gf_X10_111 C (Nat.le_of_ble_eq_true rfl) dX10_run_98 ?_
      refine w_bipush C dX10_run_101 kc_b_40 ?_
      refine w_iload C 4 dX10_run_103 rfl ?_
      refine w_imul C dX10_run_105 ?_
      refine w_iload C 7 dX10_run_106 rfl ?_
      refine w_iadd C dX10_run_108 ?_
      obtain ⟨b38, hw⟩ := hw
      refine v_iald C ak_84 rfl (Nat.le_of_ble_eq_true rfl) b38 dX10_run_109 ?_
      refine back_I (run_S C HR mt_X10_isEvent gw1255 gw1254 (by decide) rfl (Nat.le_of_ble_eq_true rfl) dX10_run_110 (As := [.int (M 84 0 ((40 * x4) + x7).toNatClampNeg)]) rfl (c_X10_isEvent (M 84 0 ((40 * x4) + x7).toNatClampNeg)  _ _ hw)) (fun r40 M39 hw => ?_)
      refine w_if_ne C dX10_run_113 (tgt := 120) rfl (fun c41 => ?_) (fun c41 => ?_)
      · replace hw := hw.2 c41
        refine w_iincV C (lv' := [(7, .int (x7 + 1)), (0, .ref (gad G 10 0)), (1, .int x1), (2, .int x2), (3, .int x3), (4, .int x4), (5, .int x5), (6, .int x6)]) 7 dX10_run_120 kc_i_1 rfl (by decide) rfl ?_
        refine w_goto C dX10_run_123 (tgt := 90) rfl ?_
        exact w_sub [1, 2, 3, 4, 5, 6, 7, 0] rfl (ih x1 x2 x3 x4 x5 x6 (x7 + 1)  _ hw)
      · replace hw := hw.1 c41
        refine w_sipush C dX10_run_116 kc_s_m1000 ?_
        exact ret_I C HT hw dX10_run_119
