set_option maxRecDepth 100000 in
set_option maxHeartbeats 4000000 in
theorem s_X9_linesUnlike_34 {G : GG} {n : Nat} {E : EE} (C : Cx G n E RX9 cX9_linesUnlike 4) (HR : RM E 7 160) (HT : RT E (some .int)) {Q : Int32 → Mem → Prop} {K12 : Nat → Nat → Int32 → Int32 → Mem → Prop} (g12 : ∀ (j0 : Nat) (j1 : Nat) (x2 : Int32) (x3 : Int32) (hj0 : j0 < cnt n 8) (hj1 : j1 < cnt n 8) (M : Mem), K12 j0 j1 x2 x3 M → WW G n E 4 (QE G E (Qi G n Q)) 12 [(0, .ref (gad G 8 j0)), (1, .ref (gad G 8 j1)), (2, .int x2), (3, .int x3)] [] M) : ∀ (j0 : Nat) (j1 : Nat) (x2 : Int32) (x3 : Int32) (hj0 : j0 < cnt n 8) (hj1 : j1 < cnt n 8) (M : Mem), w_X9_linesUnlike_34 Q K12 j0 j1 x2 x3 M → WW G n E 4 (QE G E (Qi G n Q)) 34 [(0, .ref (gad G 8 j0)), (1, .ref (gad G 8 j1)), (2, .int x2), (3, .int x3)] [] M := by
  intro j0 j1 x2 x3 hj0 hj1 M hw
  refine w_iincV C (lv' := [(3, .int (x3 + 1)), (0, .ref (gad G 8 j0)), (1, .ref (gad G 8 j1)), (2, .int x2)]) 3 dX9_linesUnlike_34 kc_i_1 rfl (by decide) rfl ?_
  refine w_goto C dX9_linesUnlike_37 (tgt := 12) rfl ?_
  exact w_sub [1, 2, 3, 0] rfl (g12 j0 j1 x2 (x3 + 1) hj0 hj1 _ hw)
set_option maxRecDepth 100000 in
set_option maxHeartbeats 4000000 in
theorem s_X9_linesUnlike_12 {G : GG} {n : Nat} {E : EE} (C : Cx G n E RX9 cX9_linesUnlike 4) (HR : RM E 7 160) (HT : RT E (some .int)) {Q : Int32 → Mem → Prop}  : ∀ (f : Nat) (j0 : Nat) (j1 : Nat) (x2 : Int32) (x3 : Int32) (hj0 : j0 < cnt n 8) (hj1 : j1 < cnt n 8) (M : Mem), w_X9_linesUnlike_12 Q  f j0 j1 x2 x3 M → WW G n E 4 (QE G E (Qi G n Q)) 12 [(0, .ref (gad G 8 j0)), (1, .ref (gad G 8 j1)), (2, .int x2), (3, .int x3)] [] M := by
  intro f
  induction f with
  | zero => intro j0 j1 x2 x3 hj0 hj1 M hw; exact hw.elim
  | succ f ih =>
    intro j0 j1 x2 x3 hj0 hj1 M hw
    refine w_iload_n C 3 dX9_linesUnlike_12 rfl rfl ?_
    refine w_bipush C dX9_linesUnlike_13 kc_b_16 ?_
    refine w_icmp_ge C dX9_linesUnlike_15 (tgt := 40) rfl (fun c4 => ?_) (fun c4 => ?_)
    · replace hw := hw.1 c4
      refine w_iload_n C 2 dX9_linesUnlike_40 rfl rfl ?_
      exact ret_I C HT hw dX9_linesUnlike_41
    · replace hw := hw.2 c4
      refine w_aload_n C 0 dX9_linesUnlike_18 rfl rfl ?_
      refine w_iload_n C 3 dX9_linesUnlike_19 rfl rfl ?_
      refine w_aload_n C 1 dX9_linesUnlike_20 rfl rfl ?_
      refine w_iload_n C 3 dX9_linesUnlike_21 rfl rfl ?_
      refine back_I (run_V C HR mt_X8_tellsAlike (ci := 8) rfl (by decide) hj0 gw514 gw515 gw513 (by decide) rfl (Nat.le_of_ble_eq_true rfl) dX9_linesUnlike_22 (As := [.int x3, .ref (gad G 8 j1), .int x3]) rfl (c_X8_tellsAlike j0 x3 j1 x3 hj0 hj1 _ _ hw)) (fun r6 M5 hw => ?_)
      refine w_if_ne C dX9_linesUnlike_25 (tgt := 34) rfl (fun c7 => ?_) (fun c7 => ?_)
      · replace hw := hw.2 c7
        exact w_sub [0, 1, 2, 3] rfl (s_X9_linesUnlike_34 C HR HT ih j0 j1 x2 x3 hj0 hj1 _ hw)
      · replace hw := hw.1 c7
        refine w_iload_n C 2 dX9_linesUnlike_28 rfl rfl ?_
        refine w_iconst C dX9_linesUnlike_29 kc_i_1 ?_
        refine w_iload_n C 3 dX9_linesUnlike_30 rfl rfl ?_
        refine w_ishl C dX9_linesUnlike_31 ?_
        refine w_ior C dX9_linesUnlike_32 ?_
        refine w_istore_nV C dX9_linesUnlike_33 rfl (by decide) (fun a8 ea8 => w_lv (lv' := [(2, .int a8), (0, .ref (gad G 8 j0)), (1, .ref (gad G 8 j1)), (3, .int x3)]) rfl ?_)
        replace hw := hw a8 ea8
        exact w_sub [1, 2, 0, 3] rfl (s_X9_linesUnlike_34 C HR HT ih j0 j1 a8 x3 hj0 hj1 _ hw)
set_option maxRecDepth 100000 in
set_option maxHeartbeats 4000000 in
theorem c_X9_linesUnlike {G : GG} {n : Nat} {l : Launch} (j0 : Nat) (j1 : Nat) (hj0 : j0 < cnt n 8) (hj1 : j1 < cnt n 8) (M : Mem) (Q : Int32 → Mem → Prop) (hw : wp_X9_linesUnlike j0 j1 M Q) : Ct G n l yX9_linesUnlike cX9_linesUnlike 4 (some .int) 7 160 [.ref (gad G 8 j0), .ref (gad G 8 j1)] M (Qi G n Q) := by
  refine ct_of (by decide) (Nat.le_of_ble_eq_true rfl) (lv := [(0, .ref (gad G 8 j0)), (1, .ref (gad G 8 j1))]) rfl (fun E C HR HT hE => ?_)
  replace C : Cx G n E RX9 cX9_linesUnlike 4 := C
  refine w_aload_n C 0 dX9_linesUnlike_0 rfl rfl ?_
  refine back_V (run_V C HR mt_X8_read (ci := 8) rfl (by decide) hj0 gw393 gw394 gw392 (by decide) rfl (Nat.le_of_ble_eq_true rfl) dX9_linesUnlike_1 (As := []) rfl (c_X8_read j0 hj0 _ _ hw)) (fun M1 hw => ?_)
  refine w_aload_n C 1 dX9_linesUnlike_4 rfl rfl ?_
  refine back_V (run_V C HR mt_X8_read (ci := 8) rfl (by decide) hj1 gw393 gw394 gw392 (by decide) rfl (Nat.le_of_ble_eq_true rfl) dX9_linesUnlike_5 (As := []) rfl (c_X8_read j1 hj1 _ _ hw)) (fun M2 hw => ?_)
  refine w_iconst C dX9_linesUnlike_8 kc_i_0 ?_
  refine w_istore_n C (lv' := [(2, .int 0), (0, .ref (gad G 8 j0)), (1, .ref (gad G 8 j1))]) dX9_linesUnlike_9 rfl (by decide) rfl ?_
  refine w_iconst C dX9_linesUnlike_10 kc_i_0 ?_
  refine w_istore_n C (lv' := [(3, .int 0), (2, .int 0), (0, .ref (gad G 8 j0)), (1, .ref (gad G 8 j1))]) dX9_linesUnlike_11 rfl (by decide) rfl ?_
  obtain ⟨f3, hw⟩ := hw
  exact w_sub [2, 3, 1, 0] rfl (s_X9_linesUnlike_12 C HR HT  f3 j0 j1 0 0 hj0 hj1 _ hw)
set_option maxRecDepth 100000 in
set_option maxHeartbeats 4000000 in
theorem s_X9_differ_22 {G : GG} {n : Nat} {E : EE} (C : Cx G n E RX9 cX9_differ 5) (HR : RM E 8 183) (HT : RT E (some .int)) {Q : Int32 → Mem → Prop}  : ∀   (M : Mem), w_X9_differ_22 Q   M → WW G n E 5 (QE G E (Qi G n Q)) 22 [] [] M := by
  intro  M hw
  refine w_bipush C dX9_differ_22 kc_b_m2 ?_
  refine w_goto C dX9_differ_24 (tgt := 33) rfl ?_
  exact ret_I C HT hw dX9_differ_33
set_option maxRecDepth 100000 in
set_option maxHeartbeats 4000000 in
theorem c_X9_differ {G : GG} {n : Nat} {l : Launch} (x1 : Int32) (x2 : Int32)  (M : Mem) (Q : Int32 → Mem → Prop) (hw : wp_X9_differ x1 x2 M Q) : Ct G n l yX9_differ cX9_differ 5 (some .int) 8 183 [.ref (gad G 9 0), .int x1, .int x2] M (Qi G n Q) := by
  refine ct_of (by decide) (Nat.le_of_ble_eq_true rfl) (lv := [(0, .ref (gad G 9 0)), (1, .int x1), (2, .int x2)]) rfl (fun E C HR HT hE => ?_)
  replace C : Cx G n E RX9 cX9_differ 5 := C
  refine w_aload_n C 0 dX9_differ_0 rfl rfl ?_
  refine w_iload_n C 1 dX9_differ_1 rfl rfl ?_
  refine back_R (run_V C HR mt_X9_versionAt (ci := 9) rfl (by decide) (Nat.le_of_ble_eq_true rfl) gw374 gw0 gw372 (by decide) rfl (Nat.le_of_ble_eq_true rfl) dX9_differ_2 (As := [.int x1]) rfl (c_X9_versionAt x1  _ _ hw)) (fun M1 hw => ?_) (fun j2 M1 hj2 hw => ?_)
  · replace hw := hw.1 rfl
    refine w_astore_nN C (lv' := [(3, .null), (0, .ref (gad G 9 0)), (1, .int x1), (2, .int x2)]) dX9_differ_5 rfl (by decide) rfl ?_
    refine w_aload_n C 1 dX9_differ_6 rfl rfl ?_
    refine w_iload_n C 3 dX9_differ_7 rfl rfl ?_
    refine back_R (run_V C HR mt_X9_versionAt (ci := 9) rfl (by decide) (Nat.le_of_ble_eq_true rfl) gw374 gw0 gw372 (by decide) rfl (Nat.le_of_ble_eq_true rfl) dX9_differ_8 (As := [.int x2]) rfl (c_X9_versionAt x2  _ _ hw)) (fun M4 hw => ?_) (fun j5 M4 hj5 hw => ?_)
    · replace hw := hw.1 rfl
      refine w_astoreN C (lv' := [(4, .null), (3, .null), (0, .ref (gad G 9 0)), (1, .int x1), (2, .int x2)]) dX9_differ_11 (by decide) rfl ?_
      refine w_aload_nN C 1 dX9_differ_13 rfl rfl ?_
      refine w_ifnullN C dX9_differ_14 (tgt := 22) rfl ?_
      exact w_sub [] rfl (s_X9_differ_22 C HR HT    _ hw)
    · replace hw := hw.2 j5 rfl
      refine w_astore C (lv' := [(4, .ref (gad G 8 j5)), (3, .null), (0, .ref (gad G 9 0)), (1, .int x1), (2, .int x2)]) dX9_differ_11 (by decide) rfl ?_
      refine w_aload_nN C 1 dX9_differ_13 rfl rfl ?_
      refine w_ifnullN C dX9_differ_14 (tgt := 22) rfl ?_
      exact w_sub [] rfl (s_X9_differ_22 C HR HT    _ hw)
  · replace hw := hw.2 j2 rfl
    refine w_astore_n C (lv' := [(3, .ref (gad G 8 j2)), (0, .ref (gad G 9 0)), (1, .int x1), (2, .int x2)]) dX9_differ_5 rfl (by decide) rfl ?_
    refine w_aload_n C 1 dX9_differ_6 rfl rfl ?_
    refine w_iload_n C 3 dX9_differ_7 rfl rfl ?_
    refine back_R (run_V C HR mt_X9_versionAt (ci := 9) rfl (by decide) (Nat.le_of_ble_eq_true rfl) gw374 gw0 gw372 (by decide) rfl (Nat.le_of_ble_eq_true rfl) dX9_differ_8 (As := [.int x2]) rfl (c_X9_versionAt x2  _ _ hw)) (fun M7 hw => ?_) (fun j8 M7 hj8 hw => ?_)
    · replace hw := hw.1 rfl
      refine w_astoreN C (lv' := [(4, .null), (3, .ref (gad G 8 j2)), (0, .ref (gad G 9 0)), (1, .int x1), (2, .int x2)]) dX9_differ_11 (by decide) rfl ?_
      refine w_aload_n C 1 dX9_differ_13 rfl rfl ?_
      refine w_ifnull C dX9_differ_14 ?_
      refine w_aloadN C 0 dX9_differ_17 rfl ?_
      refine w_ifnonnullN C dX9_differ_19 ?_
      exact w_sub [] rfl (s_X9_differ_22 C HR HT    _ hw)
    · replace hw := hw.2 j8 rfl
      refine w_astore C (lv' := [(4, .ref (gad G 8 j8)), (3, .ref (gad G 8 j2)), (0, .ref (gad G 9 0)), (1, .int x1), (2, .int x2)]) dX9_differ_11 (by decide) rfl ?_
      refine w_aload_n C 1 dX9_differ_13 rfl rfl ?_
      refine w_ifnull C dX9_differ_14 ?_
      refine w_aload C 0 dX9_differ_17 rfl ?_
      refine w_ifnonnull C dX9_differ_19 (tgt := 27) rfl ?_
      refine w_aload_n C 1 dX9_differ_27 rfl rfl ?_
      refine w_aload C 0 dX9_differ_28 rfl ?_
      refine back_I (run_S C HR mt_X9_linesUnlike gw511 gw510 (by decide) rfl (Nat.le_of_ble_eq_true rfl) dX9_differ_30 (As := [.ref (gad G 8 j2), .ref (gad G 8 j8)]) rfl (c_X9_linesUnlike j2 j8 hj2 hj8 _ _ hw)) (fun r11 M10 hw => ?_)
      exact ret_I C HT hw dX9_differ_33
set_option maxRecDepth 100000 in
set_option maxHeartbeats 4000000 in
theorem s_X9_endOfRun_61 {G : GG} {n : Nat} {E : EE} (C : Cx G n E RX9 cX9_endOfRun 8) (HR : RM E 2 51) (HT : RT E (some .int)) {Q : Int32 → Mem → Prop}  : ∀ (x3 : Int32) (x4 : Int32) (x5 : Int32) (x6 : Int32)  (M : Mem), w_X9_endOfRun_61 Q  x3 x4 x5 x6 M → WW G n E 8 (QE G E (Qi G n Q)) 61 [(3, .int x3), (4, .int x4), (5, .int x5), (6, .int x6)] [] M := by
  intro x3 x4 x5 x6 M hw
  refine w_iload_n C 0 dX9_endOfRun_61 rfl rfl ?_
  by_cases c3 : x3 = (0 : Int32)
  · replace hw := hw.1 c3
    refine w_swAt C c3 dX9_endOfRun_62 (off := 34) (tgt := 96) (by decide) rfl ?_
    refine w_iload C 1 dX9_endOfRun_96 rfl ?_
    refine w_bipush C dX9_endOfRun_98 kc_b_16 ?_
    refine w_ishr C dX9_endOfRun_100 ?_
    refine w_sipush C dX9_endOfRun_101 kc_s_255 ?_
    refine w_iand C dX9_endOfRun_104 ?_
    refine w_bipush C dX9_endOfRun_105 kc_b_99 ?_
    refine w_isub C dX9_endOfRun_107 ?_
    exact ret_I C HT hw dX9_endOfRun_108
  replace hw := hw.2
  by_cases c4 : x3 = (1 : Int32)
  · replace hw := hw.1 c4
    refine w_swAt C c4 dX9_endOfRun_62 (off := 47) (tgt := 109) (by decide) rfl ?_
    refine w_iload C 1 dX9_endOfRun_109 rfl ?_
    refine w_bipush C dX9_endOfRun_111 kc_b_8 ?_
    refine w_ishr C dX9_endOfRun_113 ?_
    refine w_sipush C dX9_endOfRun_114 kc_s_255 ?_
    refine w_iand C dX9_endOfRun_117 ?_
    refine w_bipush C dX9_endOfRun_118 kc_b_99 ?_
    refine w_isub C dX9_endOfRun_120 ?_
    exact ret_I C HT hw dX9_endOfRun_121
  replace hw := hw.2
  by_cases c5 : x3 = (2 : Int32)
  · replace hw := hw.1 c5
    refine w_swAt C c5 dX9_endOfRun_62 (off := 60) (tgt := 122) (by decide) rfl ?_
    refine w_iload C 1 dX9_endOfRun_122 rfl ?_
    refine back_I (run_S C HR mt_X9_ledgerOf gw568 gw567 (by decide) rfl (Nat.le_of_ble_eq_true rfl) dX9_endOfRun_124 (As := [.int x4]) rfl (c_X9_ledgerOf x4  _ _ hw)) (fun r7 M6 hw => ?_)
    exact ret_I C HT hw dX9_endOfRun_127
  replace hw := hw.2
  by_cases c8 : x3 = (3 : Int32)
  · replace hw := hw.1 c8
    refine w_swAt C c8 dX9_endOfRun_62 (off := 66) (tgt := 128) (by decide) rfl ?_
    refine w_iload C 1 dX9_endOfRun_128 rfl ?_
    refine back_I (run_S C HR mt_X9_modeOf gw557 gw570 (by decide) rfl (Nat.le_of_ble_eq_true rfl) dX9_endOfRun_130 (As := [.int x4]) rfl (c_X9_modeOf x4  _ _ hw)) (fun r10 M9 hw => ?_)
    exact ret_I C HT hw dX9_endOfRun_133
  replace hw := hw.2
  by_cases c11 : x3 = (4 : Int32)
  · replace hw := hw.1 c11
    refine w_swAt C c11 dX9_endOfRun_62 (off := 72) (tgt := 134) (by decide) rfl ?_
    refine w_iload C 2 dX9_endOfRun_134 rfl ?_
    exact ret_I C HT hw dX9_endOfRun_136
  replace hw := hw.2
  replace hw := hw c3 c4 c5 c8 c11
  refine w_swOut C dX9_endOfRun_62 (sw_out (N := 4) (by decide) (fun v hv => by
    match v, hv with
    | 0, _ => exact c3
    | 1, _ => exact c4
    | 2, _ => exact c5
    | 3, _ => exact c8
    | 4, _ => exact c11
    | w + 5, hv => exact absurd hv (by omega))) (tgt := 137) rfl ?_
  refine w_iload C 3 dX9_endOfRun_137 rfl ?_
  refine w_bipush C dX9_endOfRun_139 kc_b_7 ?_
  refine w_icmp_ne C dX9_endOfRun_141 (tgt := 158) rfl (fun c12 => ?_) (fun c12 => ?_)
  · replace hw := hw.2 c12
    refine w_iconst C dX9_endOfRun_158 kc_i_0 ?_
    exact ret_I C HT hw dX9_endOfRun_159
  · replace hw := hw.1 c12
    refine w_iload C 1 dX9_endOfRun_144 rfl ?_
    refine back_I (run_S C HR mt_X9_ledgerOf gw568 gw567 (by decide) rfl (Nat.le_of_ble_eq_true rfl) dX9_endOfRun_146 (As := [.int x4]) rfl (c_X9_ledgerOf x4  _ _ hw)) (fun r14 M13 hw => ?_)
    refine w_iload C 2 dX9_endOfRun_149 rfl ?_
    refine w_icmp_eq C dX9_endOfRun_151 (tgt := 158) rfl (fun c15 => ?_) (fun c15 => ?_)
    · replace hw := hw.1 c15
      refine w_iconst C dX9_endOfRun_158 kc_i_0 ?_
      exact ret_I C HT hw dX9_endOfRun_159
    · replace hw := hw.2 c15
      refine w_iconst C dX9_endOfRun_154 kc_i_1 ?_
      refine w_goto C dX9_endOfRun_155 (tgt := 159) rfl ?_
      exact ret_I C HT hw dX9_endOfRun_159
set_option maxRecDepth 100000 in
set_option maxHeartbeats 4000000 in
theorem s_X9_endOfRun_13 {G : GG} {n : Nat} {E : EE} (C : Cx G n E RX9 cX9_endOfRun 8) (HR : RM E 2 51) (HT : RT E (some .int)) {Q : Int32 → Mem → Prop}  : ∀ (f : Nat) (j1 : Nat) (x2 : Int32) (x3 : Int32) (x4 : Int32) (x5 : Int32) (x6 : Int32) (x7 : Int32) (hj1 : j1 < cnt n 42) (M : Mem), w_X9_endOfRun_13 Q  f j1 x2 x3 x4 x5 x6 x7 M → WW G n E 8 (QE G E (Qi G n Q)) 13 [(0, .ref (gad G 9 0)), (1, .ref (gad G 42 j1)), (2, .int x2), (3, .int x3), (4, .int x4), (5, .int x5), (6, .int x6), (7, .int x7)] [] M := by
  intro f
  induction f with
  | zero => intro j1 x2 x3 x4 x5 x6 x7 hj1 M hw; exact hw.elim
  | succ f ih =>
    intro j1 x2 x3 x4 x5 x6 x7 hj1 M hw
    refine w_iload C 7 dX9_endOfRun_13 rfl ?_
    refine w_iload_n C 2 dX9_endOfRun_15 rfl rfl ?_
    refine w_icmp_ge C dX9_endOfRun_16 (tgt := 61) rfl (fun c2 => ?_) (fun c2 => ?_)
    · replace hw := hw.1 c2
      exact w_sub [3, 4, 5, 6] rfl (s_X9_endOfRun_61 C HR HT  x3 x4 x5 x6  _ hw)
    · replace hw := hw.2 c2
      refine w_iload C 7 dX9_endOfRun_19 rfl ?_
      refine w_aload_n C 1 dX9_endOfRun_21 rfl rfl ?_
      refine v_alen C ak_42 rfl hj1 dX9_endOfRun_22 ?_
      refine w_icmp_ge C dX9_endOfRun_23 (tgt := 61) rfl (fun c16 => ?_) (fun c16 => ?_)
      · replace hw := hw.1 c16
        exact w_sub [3, 4, 5, 6] rfl (s_X9_endOfRun_61 C HR HT  x3 x4 x5 x6  _ hw)
      · replace hw := hw.2 c16
        refine w_aload_n C 1 dX9_endOfRun_26 rfl rfl ?_
        refine w_iload C 7 dX9_endOfRun_27 rfl ?_
        obtain ⟨b17, hw⟩ := hw
        refine v_iald C ak_42 rfl hj1 b17 dX9_endOfRun_29 ?_
        refine w_istoreV C dX9_endOfRun_30 (by decide) (fun a18 ea18 => w_lv (lv' := [(6, .int a18), (0, .ref (gad G 9 0)), (1, .ref (gad G 42 j1)), (2, .int x2), (3, .int x3), (4, .int x4), (5, .int x5), (7, .int x7)]) rfl ?_)
        replace hw := hw a18 ea18
        refine w_aload_n C 1 dX9_endOfRun_32 rfl rfl ?_
        refine gf_X9_85 C (Nat.le_of_ble_eq_true rfl) dX9_endOfRun_33 ?_
        refine w_iload C 5 dX9_endOfRun_36 rfl ?_
        refine w_iload C 0 dX9_endOfRun_38 rfl ?_
        refine back_I (run_V C HR mt_X4_after (ci := 4) rfl (by decide) (Nat.le_of_ble_eq_true rfl) gw549 gw550 gw548 (by decide) rfl (Nat.le_of_ble_eq_true rfl) dX9_endOfRun_40 (As := [.int x4, .int a18]) rfl (c_X4_after x4 a18  _ _ hw)) (fun r20 M19 hw => ?_)
        refine w_istore C (lv' := [(4, .int r20), (6, .int a18), (0, .ref (gad G 9 0)), (1, .ref (gad G 42 j1)), (2, .int x2), (3, .int x3), (5, .int x5), (7, .int x7)]) dX9_endOfRun_43 (by decide) rfl ?_
        refine w_iload C 6 dX9_endOfRun_45 rfl ?_
        refine w_iload C 1 dX9_endOfRun_47 rfl ?_
        refine back_I (run_S C HR mt_X9_coinsOf gw565 gw564 (by decide) rfl (Nat.le_of_ble_eq_true rfl) dX9_endOfRun_49 (As := [.int a18]) rfl (c_X9_coinsOf a18  _ _ hw)) (fun r22 M21 hw => ?_)
        refine w_iadd C dX9_endOfRun_52 ?_
        refine w_istoreV C dX9_endOfRun_53 (by decide) (fun a23 ea23 => w_lv (lv' := [(5, .int a23), (4, .int r20), (6, .int a18), (0, .ref (gad G 9 0)), (1, .ref (gad G 42 j1)), (2, .int x2), (3, .int x3), (7, .int x7)]) rfl ?_)
        replace hw := hw a23 ea23
        refine w_iincV C (lv' := [(7, .int (x7 + 1)), (5, .int a23), (4, .int r20), (6, .int a18), (0, .ref (gad G 9 0)), (1, .ref (gad G 42 j1)), (2, .int x2), (3, .int x3)]) 7 dX9_endOfRun_55 kc_i_1 rfl (by decide) rfl ?_
        refine w_goto C dX9_endOfRun_58 (tgt := 13) rfl ?_
        exact w_sub [4, 5, 6, 7, 2, 1, 3, 0] rfl (ih j1 x2 x3 r20 a23 a18 (x7 + 1) hj1 _ hw)
set_option maxRecDepth 100000 in
set_option maxHeartbeats 4000000 in
theorem c_X9_endOfRun {G : GG} {n : Nat} {l : Launch} (j1 : Nat) (x2 : Int32) (x3 : Int32) (hj1 : j1 < cnt n 42) (M : Mem) (Q : Int32 → Mem → Prop) (hw : wp_X9_endOfRun j1 x2 x3 M Q) : Ct G n l yX9_endOfRun cX9_endOfRun 8 (some .int) 2 51 [.ref (gad G 9 0), .ref (gad G 42 j1), .int x2, .int x3] M (Qi G n Q) := by
  refine ct_of (by decide) (Nat.le_of_ble_eq_true rfl) (lv := [(0, .ref (gad G 9 0)), (1, .ref (gad G 42 j1)), (2, .int x2), (3, .int x3)]) rfl (fun E C HR HT hE => ?_)
  replace C : Cx G n E RX9 cX9_endOfRun 8 := C
  refine w_ldc C dX9_endOfRun_0 gw547 ?_
  refine w_istore C (lv' := [(4, .int 6513507), (0, .ref (gad G 9 0)), (1, .ref (gad G 42 j1)), (2, .int x2), (3, .int x3)]) dX9_endOfRun_2 (by decide) rfl ?_
  refine w_iconst C dX9_endOfRun_4 kc_i_0 ?_
  refine w_istore C (lv' := [(5, .int 0), (4, .int 6513507), (0, .ref (gad G 9 0)), (1, .ref (gad G 42 j1)), (2, .int x2), (3, .int x3)]) dX9_endOfRun_5 (by decide) rfl ?_
  refine w_iconst C dX9_endOfRun_7 kc_i_m1 ?_
  refine w_istore C (lv' := [(6, .int (-1)), (5, .int 0), (4, .int 6513507), (0, .ref (gad G 9 0)), (1, .ref (gad G 42 j1)), (2, .int x2), (3, .int x3)]) dX9_endOfRun_8 (by decide) rfl ?_
  refine w_iconst C dX9_endOfRun_10 kc_i_0 ?_
  refine w_istore C (lv' := [(7, .int 0), (6, .int (-1)), (5, .int 0), (4, .int 6513507), (0, .ref (gad G 9 0)), (1, .ref (gad G 42 j1)), (2, .int x2), (3, .int x3)]) dX9_endOfRun_11 (by decide) rfl ?_
  obtain ⟨f1, hw⟩ := hw
  exact w_sub [4, 5, 6, 7, 3, 2, 1, 0] rfl (s_X9_endOfRun_13 C HR HT  f1 j1 x2 x3 6513507 0 (-1) 0 hj1 _ hw)
set_option maxRecDepth 100000 in
set_option maxHeartbeats 4000000 in
theorem c_X9_setMix {G : GG} {n : Nat} {l : Launch} (x1 : Int32) (x2 : Int32) (x3 : Int32)  (M : Mem) (Q : Int32 → Mem → Prop) (hw : wp_X9_setMix x1 x2 x3 M Q) : Ct G n l yX9_setMix cX9_setMix 6 (some .boolean) 8 183 [.ref (gad G 9 0), .int x1, .int x2, .int x3] M (Qi G n Q) := by
  refine ct_of (by decide) (Nat.le_of_ble_eq_true rfl) (lv := [(0, .ref (gad G 9 0)), (1, .int x1), (2, .int x2), (3, .int x3)]) rfl (fun E C HR HT hE => ?_)
  replace C : Cx G n E RX9 cX9_setMix 6 := C
  refine w_aload_n C 0 dX9_setMix_0 rfl rfl ?_
  refine w_iload_n C 1 dX9_setMix_1 rfl rfl ?_
  refine back_R (run_V C HR mt_X9_versionAt (ci := 9) rfl (by decide) (Nat.le_of_ble_eq_true rfl) gw374 gw0 gw372 (by decide) rfl (Nat.le_of_ble_eq_true rfl) dX9_setMix_2 (As := [.int x1]) rfl (c_X9_versionAt x1  _ _ hw)) (fun M1 hw => ?_) (fun j2 M1 hj2 hw => ?_)
  · replace hw := hw.1 rfl
    refine w_astoreN C (lv' := [(4, .null), (0, .ref (gad G 9 0)), (1, .int x1), (2, .int x2), (3, .int x3)]) dX9_setMix_5 (by decide) rfl ?_
    refine w_aload_n C 1 dX9_setMix_7 rfl rfl ?_
    refine w_iload_n C 3 dX9_setMix_8 rfl rfl ?_
    refine back_R (run_V C HR mt_X9_versionAt (ci := 9) rfl (by decide) (Nat.le_of_ble_eq_true rfl) gw374 gw0 gw372 (by decide) rfl (Nat.le_of_ble_eq_true rfl) dX9_setMix_9 (As := [.int x2]) rfl (c_X9_versionAt x2  _ _ hw)) (fun M4 hw => ?_) (fun j5 M4 hj5 hw => ?_)
    · replace hw := hw.1 rfl
      refine w_astoreN C (lv' := [(5, .null), (4, .null), (0, .ref (gad G 9 0)), (1, .int x1), (2, .int x2), (3, .int x3)]) dX9_setMix_12 (by decide) rfl ?_
      refine w_aloadN C 1 dX9_setMix_14 rfl ?_
      refine w_ifnullN C dX9_setMix_16 (tgt := 34) rfl ?_
      refine w_iconst C dX9_setMix_34 kc_i_0 ?_
      exact ret_Z C HT rfl hw dX9_setMix_35
    · replace hw := hw.2 j5 rfl
      refine w_astore C (lv' := [(5, .ref (gad G 8 j5)), (4, .null), (0, .ref (gad G 9 0)), (1, .int x1), (2, .int x2), (3, .int x3)]) dX9_setMix_12 (by decide) rfl ?_
      refine w_aloadN C 1 dX9_setMix_14 rfl ?_
      refine w_ifnullN C dX9_setMix_16 (tgt := 34) rfl ?_
      refine w_iconst C dX9_setMix_34 kc_i_0 ?_
      exact ret_Z C HT rfl hw dX9_setMix_35
  · replace hw := hw.2 j2 rfl
    refine w_astore C (lv' := [(4, .ref (gad G 8 j2)), (0, .ref (gad G 9 0)), (1, .int x1), (2, .int x2), (3, .int x3)]) dX9_setMix_5 (by decide) rfl ?_
    refine w_aload_n C 1 dX9_setMix_7 rfl rfl ?_
    refine w_iload_n C 3 dX9_setMix_8 rfl rfl ?_
    refine back_R (run_V C HR mt_X9_versionAt (ci := 9) rfl (by decide) (Nat.le_of_ble_eq_true rfl) gw374 gw0 gw372 (by decide) rfl (Nat.le_of_ble_eq_true rfl) dX9_setMix_9 (As := [.int x2]) rfl (c_X9_versionAt x2  _ _ hw)) (fun M7 hw => ?_) (fun j8 M7 hj8 hw => ?_)
    · replace hw := hw.1 rfl
      refine w_astoreN C (lv' := [(5, .null), (4, .ref (gad G 8 j2)), (0, .ref (gad G 9 0)), (1, .int x1), (2, .int x2), (3, .int x3)]) dX9_setMix_12 (by decide) rfl ?_
      refine w_aload C 1 dX9_setMix_14 rfl ?_
      refine w_ifnull C dX9_setMix_16 ?_
      refine w_aloadN C 0 dX9_setMix_19 rfl ?_
      refine w_ifnullN C dX9_setMix_21 (tgt := 34) rfl ?_
      refine w_iconst C dX9_setMix_34 kc_i_0 ?_
      exact ret_Z C HT rfl hw dX9_setMix_35
    · replace hw := hw.2 j8 rfl
      refine w_astore C (lv' := [(5, .ref (gad G 8 j8)), (4, .ref (gad G 8 j2)), (0, .ref (gad G 9 0)), (1, .int x1), (2, .int x2), (3, .int x3)]) dX9_setMix_12 (by decide) rfl ?_
      refine w_aload C 1 dX9_setMix_14 rfl ?_
      refine w_ifnull C dX9_setMix_16 ?_
      refine w_aload C 0 dX9_setMix_19 rfl ?_
      refine w_ifnull C dX9_setMix_21 ?_
      refine w_iload_n C 5 dX9_setMix_24 rfl rfl ?_
      refine w_if_lt C dX9_setMix_25 (tgt := 34) rfl (fun c10 => ?_) (fun c10 => ?_)
      · replace hw := hw.1 c10
        refine w_iconst C dX9_setMix_34 kc_i_0 ?_
        exact ret_Z C HT rfl hw dX9_setMix_35
      · replace hw := hw.2 c10
        refine w_iload_n C 5 dX9_setMix_28 rfl rfl ?_
        refine w_ldc C dX9_setMix_29 gw525 ?_
        refine w_icmp_le C dX9_setMix_31 (tgt := 36) rfl (fun c11 => ?_) (fun c11 => ?_)
        · replace hw := hw.1 c11
          refine w_aload_n C 2 dX9_setMix_36 rfl rfl ?_
          refine gf_X9_85 C (Nat.le_of_ble_eq_true rfl) dX9_setMix_37 ?_
          refine w_aload C 1 dX9_setMix_40 rfl ?_
          refine w_aload C 0 dX9_setMix_42 rfl ?_
          refine w_iload_n C 5 dX9_setMix_44 rfl rfl ?_
          refine back_V (run_V C HR mt_X4_set (ci := 4) rfl (by decide) (Nat.le_of_ble_eq_true rfl) gw527 gw528 gw526 (by decide) rfl (Nat.le_of_ble_eq_true rfl) dX9_setMix_45 (As := [.ref (gad G 8 j2), .ref (gad G 8 j8), .int x3]) rfl (c_X4_set j2 j8 x3 hj2 hj8 _ _ hw)) (fun M12 hw => ?_)
          refine w_iconst C dX9_setMix_48 kc_i_1 ?_
          exact ret_Z C HT rfl hw dX9_setMix_49
        · replace hw := hw.2 c11
          refine w_iconst C dX9_setMix_34 kc_i_0 ?_
          exact ret_Z C HT rfl hw dX9_setMix_35
set_option maxRecDepth 100000 in
set_option maxHeartbeats 4000000 in
theorem s_X9_sheetAt_9 {G : GG} {n : Nat} {E : EE} (C : Cx G n E RX9 cX9_sheetAt 2) (HR : RM E 0 0) (HT : RT E (some (.object "TrueLedger$Sheet"))) {Q : Option Nat → Mem → Prop}  : ∀   (M : Mem), w_X9_sheetAt_9 Q   M → WW G n E 2 (QE G E (Qr G n 7 Q)) 9 [] [] M := by
  intro  M hw
  refine w_null C dX9_sheetAt_9 ?_
  refine w_goto C dX9_sheetAt_10 (tgt := 19) rfl ?_
  exact ret_N C HT hw dX9_sheetAt_19
set_option maxRecDepth 100000 in
set_option maxHeartbeats 4000000 in
theorem c_X9_sheetAt {G : GG} {n : Nat} {l : Launch} (x1 : Int32)  (M : Mem) (Q : Option Nat → Mem → Prop) (hw : wp_X9_sheetAt x1 M Q) : Ct G n l yX9_sheetAt cX9_sheetAt 2 (some (.object "TrueLedger$Sheet")) 0 0 [.ref (gad G 9 0), .int x1] M (Qr G n 7 Q) := by
  refine ct_of (by decide) (Nat.le_of_ble_eq_true rfl) (lv := [(0, .ref (gad G 9 0)), (1, .int x1)]) rfl (fun E C HR HT hE => ?_)
  replace C : Cx G n E RX9 cX9_sheetAt 2 := C
  refine w_iload_n C 1 dX9_sheetAt_0 rfl rfl ?_
  refine w_if_lt C dX9_sheetAt_1 (tgt := 9) rfl (fun c1 => ?_) (fun c1 => ?_)
  · replace hw := hw.1 c1
    exact w_sub [] rfl (s_X9_sheetAt_9 C HR HT    _ hw)
  · replace hw := hw.2 c1
    refine w_iload_n C 1 dX9_sheetAt_4 rfl rfl ?_
    refine w_iconst C dX9_sheetAt_5 kc_i_4 ?_
    refine w_icmp_lt C dX9_sheetAt_6 (tgt := 13) rfl (fun c2 => ?_) (fun c2 => ?_)
    · replace hw := hw.1 c2
      refine w_aload_n C 0 dX9_sheetAt_13 rfl rfl ?_
      refine gf_X9_23 C (Nat.le_of_ble_eq_true rfl) dX9_sheetAt_14 ?_
      refine w_iload_n C 1 dX9_sheetAt_17 rfl rfl ?_
      obtain ⟨b3, hw⟩ := hw
      refine v_aaldS C b3 dX9_sheetAt_18 ?_
      exact ret_R C HT (vin_lt b3) hw dX9_sheetAt_19
    · replace hw := hw.2 c2
      exact w_sub [] rfl (s_X9_sheetAt_9 C HR HT    _ hw)
set_option maxRecDepth 100000 in
set_option maxHeartbeats 4000000 in
theorem s_X9_run_86 {G : GG} {n : Nat} {E : EE} (C : Cx G n E RX9 cX9_run 8) (HR : RM E 9 208) (HT : RT E (some .int)) {Q : Int32 → Mem → Prop}  : ∀ (y0 : Int32)  (M : Mem), w_X9_run_86 Q  y0 M → WW G n E 8 (QE G E (Qi G n Q)) 86 [] [.int y0, .ref (gad G 9 0)] M := by
  intro y0 M hw
  refine pf_X9_70 C (Nat.le_of_ble_eq_true rfl) dX9_run_86 (w_mem fun M13 eM13 => ?_)
  replace hw := hw M13 eM13
  refine w_sipush C dX9_run_89 kc_s_m1000 ?_
  exact ret_I C HT hw dX9_run_92
set_option maxRecDepth 100000 in
set_option maxHeartbeats 4000000 in
theorem s_X9_run_72 {G : GG} {n : Nat} {E : EE} (C : Cx G n E RX9 cX9_run 8) (HR : RM E 9 208) (HT : RT E (some .int)) {Q : Int32 → Mem → Prop}  : ∀ (j7 : Nat) (hj7 : j7 < cnt n 7) (M : Mem), w_X9_run_72 Q  j7 M → WW G n E 8 (QE G E (Qi G n Q)) 72 [(0, .ref (gad G 9 0)), (7, .ref (gad G 7 j7))] [] M := by
  intro j7 hj7 M hw
  refine w_aload_n C 0 dX9_run_72 rfl rfl ?_
  refine w_aload C 1 dX9_run_73 rfl ?_
  refine gf_X9_123 C hj7 dX9_run_75 ?_
  refine w_if_eq C dX9_run_78 (tgt := 85) rfl (fun c12 => ?_) (fun c12 => ?_)
  · replace hw := hw.1 c12
    refine w_iconst C dX9_run_85 kc_i_2 ?_
    exact w_sub [] rfl (s_X9_run_86 C HR HT  2  _ hw)
  · replace hw := hw.2 c12
    refine w_iconst C dX9_run_81 kc_i_1 ?_
    refine w_goto C dX9_run_82 (tgt := 86) rfl ?_
    exact w_sub [] rfl (s_X9_run_86 C HR HT  1  _ hw)
set_option maxRecDepth 100000 in
set_option maxHeartbeats 4000000 in
theorem c_X9_run {G : GG} {n : Nat} {l : Launch} (x1 : Int32) (x2 : Int32) (x3 : Int32) (x4 : Int32) (x5 : Int32) (x6 : Int32)  (M : Mem) (Q : Int32 → Mem → Prop) (hw : wp_X9_run x1 x2 x3 x4 x5 x6 M Q) : Ct G n l yX9_run cX9_run 8 (some .int) 9 208 [.ref (gad G 9 0), .int x1, .int x2, .int x3, .int x4, .int x5, .int x6] M (Qi G n Q) := by
  refine ct_of (by decide) (Nat.le_of_ble_eq_true rfl) (lv := [(0, .ref (gad G 9 0)), (1, .int x1), (2, .int x2), (3, .int x3), (4, .int x4), (5, .int x5), (6, .int x6)]) rfl (fun E C HR HT hE => ?_)
  replace C : Cx G n E RX9 cX9_run 8 := C
  refine w_aload_n C 0 dX9_run_0 rfl rfl ?_
  refine w_iload_n C 1 dX9_run_1 rfl rfl ?_
  refine w_iload_n C 2 dX9_run_2 rfl rfl ?_
  refine w_iload_n C 3 dX9_run_3 rfl rfl ?_
  refine back_I (run_V C HR mt_X9_setMix (ci := 9) rfl (by decide) (Nat.le_of_ble_eq_true rfl) gw523 gw3 gw521 (by decide) rfl (Nat.le_of_ble_eq_true rfl) dX9_run_4 (As := [.int x1, .int x2, .int x3]) rfl (c_X9_setMix x1 x2 x3  _ _ hw)) (fun r2 M1 hw => ?_)
  refine w_if_eq C dX9_run_7 (tgt := 33) rfl (fun c3 => ?_) (fun c3 => ?_)
  · replace hw := hw.1 c3
    refine w_sipush C dX9_run_33 kc_s_m1000 ?_
    exact ret_I C HT hw dX9_run_36
  · replace hw := hw.2 c3
    refine w_iload C 5 dX9_run_10 rfl ?_
    refine w_if_lt C dX9_run_12 (tgt := 33) rfl (fun c4 => ?_) (fun c4 => ?_)
    · replace hw := hw.1 c4
      refine w_sipush C dX9_run_33 kc_s_m1000 ?_
      exact ret_I C HT hw dX9_run_36
    · replace hw := hw.2 c4
      refine w_iload C 5 dX9_run_15 rfl ?_
      refine w_bipush C dX9_run_17 kc_b_40 ?_
      refine w_icmp_gt C dX9_run_19 (tgt := 33) rfl (fun c5 => ?_) (fun c5 => ?_)
      · replace hw := hw.1 c5
        refine w_sipush C dX9_run_33 kc_s_m1000 ?_
        exact ret_I C HT hw dX9_run_36
      · replace hw := hw.2 c5
        refine w_iload C 6 dX9_run_22 rfl ?_
        refine w_if_lt C dX9_run_24 (tgt := 33) rfl (fun c6 => ?_) (fun c6 => ?_)
        · replace hw := hw.1 c6
          refine w_sipush C dX9_run_33 kc_s_m1000 ?_
          exact ret_I C HT hw dX9_run_36
        · replace hw := hw.2 c6
          refine w_iload C 6 dX9_run_27 rfl ?_
          refine w_iconst C dX9_run_29 kc_i_5 ?_
          refine w_icmp_le C dX9_run_30 (tgt := 37) rfl (fun c7 => ?_) (fun c7 => ?_)
          · replace hw := hw.1 c7
            refine w_aload_n C 0 dX9_run_37 rfl rfl ?_
            refine w_iload C 4 dX9_run_38 rfl ?_
            refine back_R (run_V C HR mt_X9_sheetAt (ci := 9) rfl (by decide) (Nat.le_of_ble_eq_true rfl) gw533 gw4 gw531 (by decide) rfl (Nat.le_of_ble_eq_true rfl) dX9_run_40 (As := [.int x4]) rfl (c_X9_sheetAt x4  _ _ hw)) (fun M8 hw => ?_) (fun j9 M8 hj9 hw => ?_)
            · replace hw := hw.1 rfl
              refine w_astoreN C (lv' := [(7, .null), (0, .ref (gad G 9 0)), (1, .int x1), (2, .int x2), (3, .int x3), (4, .int x4), (5, .int x5), (6, .int x6)]) dX9_run_43 (by decide) rfl ?_
              refine w_aloadN C 0 dX9_run_45 rfl ?_
              refine w_ifnonnullN C dX9_run_47 ?_
              refine w_sipush C dX9_run_50 kc_s_m1000 ?_
              exact ret_I C HT hw dX9_run_53
            · replace hw := hw.2 j9 rfl
              refine w_astore C (lv' := [(7, .ref (gad G 7 j9)), (0, .ref (gad G 9 0)), (1, .int x1), (2, .int x2), (3, .int x3), (4, .int x4), (5, .int x5), (6, .int x6)]) dX9_run_43 (by decide) rfl ?_
              refine w_aload C 0 dX9_run_45 rfl ?_
              refine w_ifnonnull C dX9_run_47 (tgt := 54) rfl ?_
              refine w_aload C 0 dX9_run_54 rfl ?_
              refine gf_X9_123 C hj9 dX9_run_56 ?_
              refine w_if_ne C dX9_run_59 (tgt := 72) rfl (fun c11 => ?_) (fun c11 => ?_)
              · replace hw := hw.2 c11
                exact w_sub [1, 0] rfl (s_X9_run_72 C HR HT  j9 hj9 _ hw)
              · replace hw := hw.1 c11
                refine w_iload C 6 dX9_run_62 rfl ?_
                refine w_aload C 0 dX9_run_64 rfl ?_
                refine gf_X9_127 C hj9 dX9_run_66 ?_
                refine w_icmp_le C dX9_run_69 (tgt := 93) rfl (fun c14 => ?_) (fun c14 => ?_)
                · replace hw := hw.1 c14
                  refine w_aload C 0 dX9_run_93 rfl ?_
                  refine w_iload C 6 dX9_run_95 rfl ?_
                  refine back_I (run_V C HR mt_X7_countEvents (ci := 7) rfl (by decide) hj9 gw536 gw537 gw535 (by decide) rfl (Nat.le_of_ble_eq_true rfl) dX9_run_97 (As := [.int x5]) rfl (c_X7_countEvents j9 x5 hj9 _ _ hw)) (fun r16 M15 hw => ?_)
                  refine w_iload C 6 dX9_run_100 rfl ?_
                  refine w_icmp_ge C dX9_run_102 (tgt := 111) rfl (fun c17 => ?_) (fun c17 => ?_)
                  · replace hw := hw.1 c17
                    refine w_aload_n C 1 dX9_run_111 rfl rfl ?_
                    refine w_aload C 0 dX9_run_112 rfl ?_
                    refine gf_X9_133 C hj9 dX9_run_114 ?_
                    refine w_iload C 6 dX9_run_117 rfl ?_
                    refine w_iload C 7 dX9_run_119 rfl ?_
                    refine back_I (run_V C HR mt_X9_endOfRun (ci := 9) rfl (by decide) (Nat.le_of_ble_eq_true rfl) gw545 gw5 gw543 (by decide) rfl (Nat.le_of_ble_eq_true rfl) dX9_run_121 (As := [.ref (gad G 42 j9), .int x5, .int x6]) rfl (c_X9_endOfRun j9 x5 x6 hj9 _ _ hw)) (fun r19 M18 hw => ?_)
                    exact ret_I C HT hw dX9_run_124
                  · replace hw := hw.2 c17
                    refine w_sipush C dX9_run_105 kc_s_m1000 ?_
                    refine w_goto C dX9_run_108 (tgt := 124) rfl ?_
                    exact ret_I C HT hw dX9_run_124
                · replace hw := hw.2 c14
                  exact w_sub [1, 0] rfl (s_X9_run_72 C HR HT  j9 hj9 _ hw)
          · replace hw := hw.2 c7
            refine w_sipush C dX9_run_33 kc_s_m1000 ?_
            exact ret_I C HT hw dX9_run_36
set_option maxRecDepth 100000 in
set_option maxHeartbeats 4000000 in
theorem c_X9_seekParting {G : GG} {n : Nat} {l : Launch} (x1 : Int32) (x2 : Int32) (x3 : Int32)  (M : Mem) (Q : Int32 → Mem → Prop) (hw : wp_X9_seekParting x1 x2 x3 M Q) : Ct G n l yX9_seekParting cX9_seekParting 5 (some .int) 5 129 [.ref (gad G 9 0), .int x1, .int x2, .int x3] M (Qi G n Q) := by
  refine ct_of (by decide) (Nat.le_of_ble_eq_true rfl) (lv := [(0, .ref (gad G 9 0)), (1, .int x1), (2, .int x2), (3, .int x3)]) rfl (fun E C HR HT hE => ?_)
  replace C : Cx G n E RX9 cX9_seekParting 5 := C
  refine w_iload_n C 3 dX9_seekParting_0 rfl rfl ?_
  refine w_iconst C dX9_seekParting_1 kc_i_4 ?_
  refine w_ishl C dX9_seekParting_2 ?_
  refine w_iload_n C 2 dX9_seekParting_3 rfl rfl ?_
  refine w_iconst C dX9_seekParting_4 kc_i_2 ?_
  refine w_ishl C dX9_seekParting_5 ?_
  refine w_ior C dX9_seekParting_6 ?_
  refine w_iload_n C 1 dX9_seekParting_7 rfl rfl ?_
  refine w_ior C dX9_seekParting_8 ?_
  refine w_istoreV C dX9_seekParting_9 (by decide) (fun a1 ea1 => w_lv (lv' := [(4, .int a1), (0, .ref (gad G 9 0)), (1, .int x1), (2, .int x2), (3, .int x3)]) rfl ?_)
  replace hw := hw a1 ea1
  refine w_iload C 0 dX9_seekParting_11 rfl ?_
  refine w_aload_n C 1 dX9_seekParting_13 rfl rfl ?_
  refine gf_X9_73 C (Nat.le_of_ble_eq_true rfl) dX9_seekParting_14 ?_
  refine w_icmp_eq C dX9_seekParting_17 (tgt := 42) rfl (fun c2 => ?_) (fun c2 => ?_)
  · replace hw := hw.1 c2
    refine w_aload_n C 1 dX9_seekParting_42 rfl rfl ?_
    refine gf_X9_76 C (Nat.le_of_ble_eq_true rfl) dX9_seekParting_43 ?_
    exact ret_I C HT hw dX9_seekParting_46
  · replace hw := hw.2 c2
    refine w_aload_n C 1 dX9_seekParting_20 rfl rfl ?_
    refine w_aload_n C 1 dX9_seekParting_21 rfl rfl ?_
    refine gf_X9_34 C (Nat.le_of_ble_eq_true rfl) dX9_seekParting_22 ?_
    refine w_aload_n C 1 dX9_seekParting_25 rfl rfl ?_
    refine gf_X9_85 C (Nat.le_of_ble_eq_true rfl) dX9_seekParting_26 ?_
    refine w_iconst C dX9_seekParting_29 kc_i_5 ?_
    refine back_I (run_V C HR mt_X6_find (ci := 6) rfl (by decide) (Nat.le_of_ble_eq_true rfl) gw580 gw581 gw579 (by decide) rfl (Nat.le_of_ble_eq_true rfl) dX9_seekParting_30 (As := [.ref (gad G 4 0), .int 5]) rfl (c_X6_find 5  _ _ hw)) (fun r4 M3 hw => ?_)
    refine pf_X9_76 C (Nat.le_of_ble_eq_true rfl) dX9_seekParting_33 (w_mem fun M5 eM5 => ?_)
    replace hw := hw M5 eM5
    refine w_aload_n C 1 dX9_seekParting_36 rfl rfl ?_
    refine w_iload C 0 dX9_seekParting_37 rfl ?_
    refine pf_X9_73 C (Nat.le_of_ble_eq_true rfl) dX9_seekParting_39 (w_mem fun M6 eM6 => ?_)
    replace hw := hw M6 eM6
    refine w_aload_n C 1 dX9_seekParting_42 rfl rfl ?_
    refine gf_X9_76 C (Nat.le_of_ble_eq_true rfl) dX9_seekParting_43 ?_
    exact ret_I C HT hw dX9_seekParting_46
set_option maxRecDepth 100000 in
set_option maxHeartbeats 4000000 in
theorem c_X9_parting {G : GG} {n : Nat} {l : Launch} (x1 : Int32) (x2 : Int32) (x3 : Int32)  (M : Mem) (Q : Int32 → Mem → Prop) (hw : wp_X9_parting x1 x2 x3 M Q) : Ct G n l yX9_parting cX9_parting 4 (some .int) 9 208 [.ref (gad G 9 0), .int x1, .int x2, .int x3] M (Qi G n Q) := by
  refine ct_of (by decide) (Nat.le_of_ble_eq_true rfl) (lv := [(0, .ref (gad G 9 0)), (1, .int x1), (2, .int x2), (3, .int x3)]) rfl (fun E C HR HT hE => ?_)
  replace C : Cx G n E RX9 cX9_parting 4 := C
  refine w_aload_n C 0 dX9_parting_0 rfl rfl ?_
  refine w_iload_n C 1 dX9_parting_1 rfl rfl ?_
  refine w_iload_n C 2 dX9_parting_2 rfl rfl ?_
  refine w_iload_n C 3 dX9_parting_3 rfl rfl ?_
  refine back_I (run_V C HR mt_X9_setMix (ci := 9) rfl (by decide) (Nat.le_of_ble_eq_true rfl) gw523 gw3 gw521 (by decide) rfl (Nat.le_of_ble_eq_true rfl) dX9_parting_4 (As := [.int x1, .int x2, .int x3]) rfl (c_X9_setMix x1 x2 x3  _ _ hw)) (fun r2 M1 hw => ?_)
  refine w_if_eq C dX9_parting_7 (tgt := 20) rfl (fun c3 => ?_) (fun c3 => ?_)
  · replace hw := hw.1 c3
    refine w_bipush C dX9_parting_20 kc_b_m2 ?_
    exact ret_I C HT hw dX9_parting_22
  · replace hw := hw.2 c3
    refine w_aload_n C 0 dX9_parting_10 rfl rfl ?_
    refine w_iload_n C 1 dX9_parting_11 rfl rfl ?_
    refine w_iload_n C 2 dX9_parting_12 rfl rfl ?_
    refine w_iload_n C 3 dX9_parting_13 rfl rfl ?_
    refine back_I (run_V C HR mt_X9_seekParting (ci := 9) rfl (by decide) (Nat.le_of_ble_eq_true rfl) gw577 gw7 gw575 (by decide) rfl (Nat.le_of_ble_eq_true rfl) dX9_parting_14 (As := [.int x1, .int x2, .int x3]) rfl (c_X9_seekParting x1 x2 x3  _ _ hw)) (fun r5 M4 hw => ?_)
    refine w_goto C dX9_parting_17 (tgt := 22) rfl ?_
    exact ret_I C HT hw dX9_parting_22
set_option maxRecDepth 100000 in
set_option maxHeartbeats 4000000 in
theorem c_X9_event {G : GG} {n : Nat} {l : Launch} (x1 : Int32) (x2 : Int32) (x3 : Int32) (x4 : Int32)  (M : Mem) (Q : Int32 → Mem → Prop) (hw : wp_X9_event x1 x2 x3 x4 M Q) : Ct G n l yX9_event cX9_event 6 (some .int) 9 208 [.ref (gad G 9 0), .int x1, .int x2, .int x3, .int x4] M (Qi G n Q) := by
  refine ct_of (by decide) (Nat.le_of_ble_eq_true rfl) (lv := [(0, .ref (gad G 9 0)), (1, .int x1), (2, .int x2), (3, .int x3), (4, .int x4)]) rfl (fun E C HR HT hE => ?_)
  replace C : Cx G n E RX9 cX9_event 6 := C
  refine w_iload C 4 dX9_event_0 rfl ?_
  refine w_if_lt C dX9_event_2 (tgt := 15) rfl (fun c1 => ?_) (fun c1 => ?_)
  · replace hw := hw.1 c1
    refine w_bipush C dX9_event_15 kc_b_m2 ?_
    exact ret_I C HT hw dX9_event_17
  · replace hw := hw.2 c1
    refine w_aload_n C 0 dX9_event_5 rfl rfl ?_
    refine w_iload_n C 1 dX9_event_6 rfl rfl ?_
    refine w_iload_n C 2 dX9_event_7 rfl rfl ?_
    refine w_iload_n C 3 dX9_event_8 rfl rfl ?_
    refine back_I (run_V C HR mt_X9_setMix (ci := 9) rfl (by decide) (Nat.le_of_ble_eq_true rfl) gw523 gw3 gw521 (by decide) rfl (Nat.le_of_ble_eq_true rfl) dX9_event_9 (As := [.int x1, .int x2, .int x3]) rfl (c_X9_setMix x1 x2 x3  _ _ hw)) (fun r3 M2 hw => ?_)
    refine w_if_ne C dX9_event_12 (tgt := 18) rfl (fun c4 => ?_) (fun c4 => ?_)
    · replace hw := hw.2 c4
      refine w_aload_n C 0 dX9_event_18 rfl rfl ?_
      refine w_iload_n C 1 dX9_event_19 rfl rfl ?_
      refine w_iload_n C 2 dX9_event_20 rfl rfl ?_
      refine w_iload_n C 3 dX9_event_21 rfl rfl ?_
      refine back_I (run_V C HR mt_X9_seekParting (ci := 9) rfl (by decide) (Nat.le_of_ble_eq_true rfl) gw577 gw7 gw575 (by decide) rfl (Nat.le_of_ble_eq_true rfl) dX9_event_22 (As := [.int x1, .int x2, .int x3]) rfl (c_X9_seekParting x1 x2 x3  _ _ hw)) (fun r6 M5 hw => ?_)
      refine w_istore C (lv' := [(5, .int r6), (0, .ref (gad G 9 0)), (1, .int x1), (2, .int x2), (3, .int x3), (4, .int x4)]) dX9_event_25 (by decide) rfl ?_
      refine w_iload C 5 dX9_event_27 rfl ?_
      refine w_iload C 0 dX9_event_29 rfl ?_
      refine w_icmp_ge C dX9_event_31 (tgt := 53) rfl (fun c7 => ?_) (fun c7 => ?_)
      · replace hw := hw.1 c7
        refine w_iconst C dX9_event_53 kc_i_m1 ?_
        exact ret_I C HT hw dX9_event_54
      · replace hw := hw.2 c7
        refine w_iload C 5 dX9_event_34 rfl ?_
        refine w_iconst C dX9_event_36 kc_i_5 ?_
        refine w_icmp_ge C dX9_event_37 (tgt := 53) rfl (fun c8 => ?_) (fun c8 => ?_)
        · replace hw := hw.1 c8
          refine w_iconst C dX9_event_53 kc_i_m1 ?_
          exact ret_I C HT hw dX9_event_54
        · replace hw := hw.2 c8
          refine w_aload_n C 1 dX9_event_40 rfl rfl ?_
          refine gf_X9_34 C (Nat.le_of_ble_eq_true rfl) dX9_event_41 ?_
          refine gf_X9_144 C (Nat.le_of_ble_eq_true rfl) dX9_event_44 ?_
          refine w_iload C 5 dX9_event_47 rfl ?_
          obtain ⟨b9, hw⟩ := hw
          refine v_iald C ak_41 rfl (Nat.le_of_ble_eq_true rfl) b9 dX9_event_49 ?_
          refine w_goto C dX9_event_50 (tgt := 54) rfl ?_
          exact ret_I C HT hw dX9_event_54
    · replace hw := hw.1 c4
      refine w_bipush C dX9_event_15 kc_b_m2 ?_
      exact ret_I C HT hw dX9_event_17
set_option maxRecDepth 100000 in
set_option maxHeartbeats 4000000 in
theorem c_X9_mended {G : GG} {n : Nat} {l : Launch} (x1 : Int32) (x2 : Int32)  (M : Mem) (Q : Int32 → Mem → Prop) (hw : wp_X9_mended x1 x2 M Q) : Ct G n l yX9_mended cX9_mended 6 (some .int) 8 183 [.ref (gad G 9 0), .int x1, .int x2] M (Qi G n Q) := by
  refine ct_of (by decide) (Nat.le_of_ble_eq_true rfl) (lv := [(0, .ref (gad G 9 0)), (1, .int x1), (2, .int x2)]) rfl (fun E C HR HT hE => ?_)
  replace C : Cx G n E RX9 cX9_mended 6 := C
  refine w_aload_n C 0 dX9_mended_0 rfl rfl ?_
  refine w_iload_n C 1 dX9_mended_1 rfl rfl ?_
  refine back_R (run_V C HR mt_X9_versionAt (ci := 9) rfl (by decide) (Nat.le_of_ble_eq_true rfl) gw374 gw0 gw372 (by decide) rfl (Nat.le_of_ble_eq_true rfl) dX9_mended_2 (As := [.int x1]) rfl (c_X9_versionAt x1  _ _ hw)) (fun M1 hw => ?_) (fun j2 M1 hj2 hw => ?_)
  · replace hw := hw.1 rfl
    refine w_astore_nN C (lv' := [(3, .null), (0, .ref (gad G 9 0)), (1, .int x1), (2, .int x2)]) dX9_mended_5 rfl (by decide) rfl ?_
    refine w_aload_n C 1 dX9_mended_6 rfl rfl ?_
    refine w_iload_n C 3 dX9_mended_7 rfl rfl ?_
    refine back_R (run_V C HR mt_X9_versionAt (ci := 9) rfl (by decide) (Nat.le_of_ble_eq_true rfl) gw374 gw0 gw372 (by decide) rfl (Nat.le_of_ble_eq_true rfl) dX9_mended_8 (As := [.int x2]) rfl (c_X9_versionAt x2  _ _ hw)) (fun M4 hw => ?_) (fun j5 M4 hj5 hw => ?_)
    · replace hw := hw.1 rfl
      refine w_astoreN C (lv' := [(4, .null), (3, .null), (0, .ref (gad G 9 0)), (1, .int x1), (2, .int x2)]) dX9_mended_11 (by decide) rfl ?_
      refine w_aload_nN C 1 dX9_mended_13 rfl rfl ?_
      refine w_ifnullN C dX9_mended_14 (tgt := 22) rfl ?_
      refine w_bipush C dX9_mended_22 kc_b_m2 ?_
      exact ret_I C HT hw dX9_mended_24
    · replace hw := hw.2 j5 rfl
      refine w_astore C (lv' := [(4, .ref (gad G 8 j5)), (3, .null), (0, .ref (gad G 9 0)), (1, .int x1), (2, .int x2)]) dX9_mended_11 (by decide) rfl ?_
      refine w_aload_nN C 1 dX9_mended_13 rfl rfl ?_
      refine w_ifnullN C dX9_mended_14 (tgt := 22) rfl ?_
      refine w_bipush C dX9_mended_22 kc_b_m2 ?_
      exact ret_I C HT hw dX9_mended_24
  · replace hw := hw.2 j2 rfl
    refine w_astore_n C (lv' := [(3, .ref (gad G 8 j2)), (0, .ref (gad G 9 0)), (1, .int x1), (2, .int x2)]) dX9_mended_5 rfl (by decide) rfl ?_
    refine w_aload_n C 1 dX9_mended_6 rfl rfl ?_
    refine w_iload_n C 3 dX9_mended_7 rfl rfl ?_
    refine back_R (run_V C HR mt_X9_versionAt (ci := 9) rfl (by decide) (Nat.le_of_ble_eq_true rfl) gw374 gw0 gw372 (by decide) rfl (Nat.le_of_ble_eq_true rfl) dX9_mended_8 (As := [.int x2]) rfl (c_X9_versionAt x2  _ _ hw)) (fun M7 hw => ?_) (fun j8 M7 hj8 hw => ?_)
    · replace hw := hw.1 rfl
      refine w_astoreN C (lv' := [(4, .null), (3, .ref (gad G 8 j2)), (0, .ref (gad G 9 0)), (1, .int x1), (2, .int x2)]) dX9_mended_11 (by decide) rfl ?_
      refine w_aload_n C 1 dX9_mended_13 rfl rfl ?_
      refine w_ifnull C dX9_mended_14 ?_
      refine w_aloadN C 0 dX9_mended_17 rfl ?_
      refine w_ifnonnullN C dX9_mended_19 ?_
      refine w_bipush C dX9_mended_22 kc_b_m2 ?_
      exact ret_I C HT hw dX9_mended_24
    · replace hw := hw.2 j8 rfl
      refine w_astore C (lv' := [(4, .ref (gad G 8 j8)), (3, .ref (gad G 8 j2)), (0, .ref (gad G 9 0)), (1, .int x1), (2, .int x2)]) dX9_mended_11 (by decide) rfl ?_
      refine w_aload_n C 1 dX9_mended_13 rfl rfl ?_
      refine w_ifnull C dX9_mended_14 ?_
      refine w_aload C 0 dX9_mended_17 rfl ?_
      refine w_ifnonnull C dX9_mended_19 (tgt := 25) rfl ?_
      refine w_aload_n C 1 dX9_mended_25 rfl rfl ?_
      refine w_aload C 0 dX9_mended_26 rfl ?_
      refine back_I (run_S C HR mt_X9_linesUnlike gw511 gw510 (by decide) rfl (Nat.le_of_ble_eq_true rfl) dX9_mended_28 (As := [.ref (gad G 8 j2), .ref (gad G 8 j8)]) rfl (c_X9_linesUnlike j2 j8 hj2 hj8 _ _ hw)) (fun r11 M10 hw => ?_)
      refine w_istore C (lv' := [(5, .int r11), (4, .ref (gad G 8 j8)), (3, .ref (gad G 8 j2)), (0, .ref (gad G 9 0)), (1, .int x1), (2, .int x2)]) dX9_mended_31 (by decide) rfl ?_
      refine w_iload C 0 dX9_mended_33 rfl ?_
      refine back_I (run_S C HR mt_J6_bitCount_0f7a4 gw627 gw626 (by decide) rfl (Nat.le_of_ble_eq_true rfl) dX9_mended_35 (As := [.int r11]) rfl (c_J6_bitCount_0f7a4 r11  _ _ hw)) (fun r13 M12 hw => ?_)
      refine w_bipush C dX9_mended_38 kc_b_8 ?_
      refine w_icmp_le C dX9_mended_40 (tgt := 46) rfl (fun c14 => ?_) (fun c14 => ?_)
      · replace hw := hw.1 c14
        refine w_aload_n C 3 dX9_mended_46 rfl rfl ?_
        refine gf_X9_85 C (Nat.le_of_ble_eq_true rfl) dX9_mended_47 ?_
        refine w_aload_n C 2 dX9_mended_50 rfl rfl ?_
        refine w_aload C 1 dX9_mended_51 rfl ?_
        refine w_iconst C dX9_mended_53 kc_i_0 ?_
        refine back_V (run_V C HR mt_X4_set (ci := 4) rfl (by decide) (Nat.le_of_ble_eq_true rfl) gw527 gw528 gw526 (by decide) rfl (Nat.le_of_ble_eq_true rfl) dX9_mended_54 (As := [.ref (gad G 8 j2), .ref (gad G 8 j8), .int 0]) rfl (c_X4_set j2 j8 0 hj2 hj8 _ _ hw)) (fun M15 hw => ?_)
        refine w_aload_n C 3 dX9_mended_57 rfl rfl ?_
        refine w_iconst C dX9_mended_58 kc_i_m1 ?_
        refine pf_X9_73 C (Nat.le_of_ble_eq_true rfl) dX9_mended_59 (w_mem fun M16 eM16 => ?_)
        replace hw := hw M16 eM16
        refine w_aload_n C 3 dX9_mended_62 rfl rfl ?_
        refine gf_X9_41 C (Nat.le_of_ble_eq_true rfl) dX9_mended_63 ?_
        refine w_aload_n C 3 dX9_mended_66 rfl rfl ?_
        refine gf_X9_85 C (Nat.le_of_ble_eq_true rfl) dX9_mended_67 ?_
        refine w_aload_n C 3 dX9_mended_70 rfl rfl ?_
        refine gf_X9_34 C (Nat.le_of_ble_eq_true rfl) dX9_mended_71 ?_
        refine w_iload C 0 dX9_mended_74 rfl ?_
        refine back_I (run_V C HR mt_X3_fewestLines (ci := 3) rfl (by decide) (Nat.le_of_ble_eq_true rfl) gw633 gw634 gw632 (by decide) rfl (Nat.le_of_ble_eq_true rfl) dX9_mended_76 (As := [.ref (gad G 4 0), .ref (gad G 6 0), .int r11]) rfl (c_X3_fewestLines r11  _ _ hw)) (fun r18 M17 hw => ?_)
        exact ret_I C HT hw dX9_mended_79
      · replace hw := hw.2 c14
        refine w_bipush C dX9_mended_43 kc_b_m4 ?_
        exact ret_I C HT hw dX9_mended_45
set_option maxRecDepth 100000 in
set_option maxHeartbeats 4000000 in
theorem s_X9_counterAt_18 {G : GG} {n : Nat} {E : EE} (C : Cx G n E RX9 cX9_counterAt 2) (HR : RM E 0 0) (HT : RT E (some (.object "TrueLedger$Counter"))) {Q : Option Nat → Mem → Prop}  : ∀   (M : Mem), w_X9_counterAt_18 Q   M → WW G n E 2 (QE G E (Qr G n 0 Q)) 18 [] [] M := by
  intro  M hw
  refine w_null C dX9_counterAt_18 ?_
  refine w_goto C dX9_counterAt_19 (tgt := 28) rfl ?_
  exact ret_N C HT hw dX9_counterAt_28
set_option maxRecDepth 100000 in
set_option maxHeartbeats 4000000 in
theorem c_X9_counterAt {G : GG} {n : Nat} {l : Launch} (x1 : Int32)  (M : Mem) (Q : Option Nat → Mem → Prop) (hw : wp_X9_counterAt x1 M Q) : Ct G n l yX9_counterAt cX9_counterAt 2 (some (.object "TrueLedger$Counter")) 0 0 [.ref (gad G 9 0), .int x1] M (Qr G n 0 Q) := by
  refine ct_of (by decide) (Nat.le_of_ble_eq_true rfl) (lv := [(0, .ref (gad G 9 0)), (1, .int x1)]) rfl (fun E C HR HT hE => ?_)
  replace C : Cx G n E RX9 cX9_counterAt 2 := C
  refine w_iload_n C 1 dX9_counterAt_0 rfl rfl ?_
  refine w_if_lt C dX9_counterAt_1 (tgt := 18) rfl (fun c1 => ?_) (fun c1 => ?_)
  · replace hw := hw.1 c1
    exact w_sub [] rfl (s_X9_counterAt_18 C HR HT    _ hw)
  · replace hw := hw.2 c1
    refine w_iload_n C 1 dX9_counterAt_4 rfl rfl ?_
    refine w_aload_n C 0 dX9_counterAt_5 rfl rfl ?_
    refine gf_X9_66 C (Nat.le_of_ble_eq_true rfl) dX9_counterAt_6 ?_
    refine w_icmp_ge C dX9_counterAt_9 (tgt := 18) rfl (fun c2 => ?_) (fun c2 => ?_)
    · replace hw := hw.1 c2
      exact w_sub [] rfl (s_X9_counterAt_18 C HR HT    _ hw)
    · replace hw := hw.2 c2
      refine w_iload_n C 1 dX9_counterAt_12 rfl rfl ?_
      refine w_bipush C dX9_counterAt_13 kc_b_12 ?_
      refine w_icmp_lt C dX9_counterAt_15 (tgt := 22) rfl (fun c3 => ?_) (fun c3 => ?_)
      · replace hw := hw.1 c3
        refine w_aload_n C 0 dX9_counterAt_22 rfl rfl ?_
        refine gf_X9_17 C (Nat.le_of_ble_eq_true rfl) dX9_counterAt_23 ?_
        refine w_iload_n C 1 dX9_counterAt_26 rfl rfl ?_
        obtain ⟨b4, hw⟩ := hw
        refine v_aaldC C b4 dX9_counterAt_27 (fun c5 b6 => ?_) (fun c5 => ?_)
        · replace hw := hw.1 c5
          exact ret_R C HT b6 hw dX9_counterAt_28
        · replace hw := hw.2 c5
          exact ret_N C HT hw dX9_counterAt_28
      · replace hw := hw.2 c3
        exact w_sub [] rfl (s_X9_counterAt_18 C HR HT    _ hw)
set_option maxRecDepth 100000 in
set_option maxHeartbeats 4000000 in
theorem c_X9_finding {G : GG} {n : Nat} {l : Launch} (x1 : Int32)  (M : Mem) (Q : Int32 → Mem → Prop) (hw : wp_X9_finding x1 M Q) : Ct G n l yX9_finding cX9_finding 2 (some .int) 0 0 [.ref (gad G 9 0), .int x1] M (Qi G n Q) := by
  refine ct_of (by decide) (Nat.le_of_ble_eq_true rfl) (lv := [(0, .ref (gad G 9 0)), (1, .int x1)]) rfl (fun E C HR HT hE => ?_)
  replace C : Cx G n E RX9 cX9_finding 2 := C
  refine w_aload_n C 0 dX9_finding_0 rfl rfl ?_
  refine w_iload_n C 1 dX9_finding_1 rfl rfl ?_
  refine pf_X9_70 C (Nat.le_of_ble_eq_true rfl) dX9_finding_2 (w_mem fun M1 eM1 => ?_)
  replace hw := hw M1 eM1
  refine w_bipush C dX9_finding_5 kc_b_m10 ?_
  refine w_iload_n C 1 dX9_finding_7 rfl rfl ?_
  refine w_isub C dX9_finding_8 ?_
  exact ret_I C HT hw dX9_finding_9
set_option maxRecDepth 100000 in
set_option maxHeartbeats 4000000 in
theorem s_X9_log_68 {G : GG} {n : Nat} {E : EE} (C : Cx G n E RX9 cX9_log 6) (HR : RM E 2 46) (HT : RT E (some .int)) {Q : Int32 → Mem → Prop}  : ∀ (y0 : Int32)  (M : Mem), w_X9_log_68 Q  y0 M → WW G n E 6 (QE G E (Qi G n Q)) 68 [] [.int y0, .ref (gad G 9 0)] M := by
  intro y0 M hw
  refine back_I (run_V C HR mt_X9_finding (ci := 9) rfl (by decide) (Nat.le_of_ble_eq_true rfl) gw730 gw15 gw728 (by decide) rfl (Nat.le_of_ble_eq_true rfl) dX9_log_68 (As := [.int y0]) rfl (c_X9_finding y0  _ _ hw)) (fun r15 M14 hw => ?_)
  exact ret_I C HT hw dX9_log_71
set_option maxRecDepth 100000 in
set_option maxHeartbeats 4000000 in
theorem s_X9_log_54 {G : GG} {n : Nat} {E : EE} (C : Cx G n E RX9 cX9_log 6) (HR : RM E 2 46) (HT : RT E (some .int)) {Q : Int32 → Mem → Prop}  : ∀ (j5 : Nat) (hj5 : j5 < cnt n 7) (M : Mem), w_X9_log_54 Q  j5 M → WW G n E 6 (QE G E (Qi G n Q)) 54 [(0, .ref (gad G 9 0)), (5, .ref (gad G 7 j5))] [] M := by
  intro j5 hj5 M hw
  refine w_aload_n C 0 dX9_log_54 rfl rfl ?_
  refine w_aload C 1 dX9_log_55 rfl ?_
  refine gf_X9_123 C hj5 dX9_log_57 ?_
  refine w_if_eq C dX9_log_60 (tgt := 67) rfl (fun c13 => ?_) (fun c13 => ?_)
  · replace hw := hw.1 c13
    refine w_iconst C dX9_log_67 kc_i_2 ?_
    exact w_sub [] rfl (s_X9_log_68 C HR HT  2  _ hw)
  · replace hw := hw.2 c13
    refine w_iconst C dX9_log_63 kc_i_1 ?_
    refine w_goto C dX9_log_64 (tgt := 68) rfl ?_
    exact w_sub [] rfl (s_X9_log_68 C HR HT  1  _ hw)
set_option maxRecDepth 100000 in
set_option maxHeartbeats 4000000 in
theorem c_X9_log {G : GG} {n : Nat} {l : Launch} (x1 : Int32) (x2 : Int32) (x3 : Int32)  (M : Mem) (Q : Int32 → Mem → Prop) (hw : wp_X9_log x1 x2 x3 M Q) : Ct G n l yX9_log cX9_log 6 (some .int) 2 46 [.ref (gad G 9 0), .int x1, .int x2, .int x3] M (Qi G n Q) := by
  refine ct_of (by decide) (Nat.le_of_ble_eq_true rfl) (lv := [(0, .ref (gad G 9 0)), (1, .int x1), (2, .int x2), (3, .int x3)]) rfl (fun E C HR HT hE => ?_)
  replace C : Cx G n E RX9 cX9_log 6 := C
  refine w_aload_n C 0 dX9_log_0 rfl rfl ?_
  refine w_iload_n C 1 dX9_log_1 rfl rfl ?_
  refine back_R (run_V C HR mt_X9_counterAt (ci := 9) rfl (by decide) (Nat.le_of_ble_eq_true rfl) gw726 gw14 gw724 (by decide) rfl (Nat.le_of_ble_eq_true rfl) dX9_log_2 (As := [.int x1]) rfl (c_X9_counterAt x1  _ _ hw)) (fun M1 hw => ?_) (fun j2 M1 hj2 hw => ?_)
  · replace hw := hw.1 rfl
    refine w_astoreN C (lv' := [(4, .null), (0, .ref (gad G 9 0)), (1, .int x1), (2, .int x2), (3, .int x3)]) dX9_log_5 (by decide) rfl ?_
    refine w_aload_n C 1 dX9_log_7 rfl rfl ?_
    refine w_iload_n C 3 dX9_log_8 rfl rfl ?_
    refine back_R (run_V C HR mt_X9_sheetAt (ci := 9) rfl (by decide) (Nat.le_of_ble_eq_true rfl) gw533 gw4 gw531 (by decide) rfl (Nat.le_of_ble_eq_true rfl) dX9_log_9 (As := [.int x2]) rfl (c_X9_sheetAt x2  _ _ hw)) (fun M4 hw => ?_) (fun j5 M4 hj5 hw => ?_)
    · replace hw := hw.1 rfl
      refine w_astoreN C (lv' := [(5, .null), (4, .null), (0, .ref (gad G 9 0)), (1, .int x1), (2, .int x2), (3, .int x3)]) dX9_log_12 (by decide) rfl ?_
      refine w_aloadN C 1 dX9_log_14 rfl ?_
      refine w_ifnullN C dX9_log_16 (tgt := 34) rfl ?_
      refine w_bipush C dX9_log_34 kc_b_m2 ?_
      exact ret_I C HT hw dX9_log_36
    · replace hw := hw.2 j5 rfl
      refine w_astore C (lv' := [(5, .ref (gad G 7 j5)), (4, .null), (0, .ref (gad G 9 0)), (1, .int x1), (2, .int x2), (3, .int x3)]) dX9_log_12 (by decide) rfl ?_
      refine w_aloadN C 1 dX9_log_14 rfl ?_
      refine w_ifnullN C dX9_log_16 (tgt := 34) rfl ?_
      refine w_bipush C dX9_log_34 kc_b_m2 ?_
      exact ret_I C HT hw dX9_log_36
  · replace hw := hw.2 j2 rfl
    refine w_astore C (lv' := [(4, .ref (gad G 0 j2)), (0, .ref (gad G 9 0)), (1, .int x1), (2, .int x2), (3, .int x3)]) dX9_log_5 (by decide) rfl ?_
    refine w_aload_n C 1 dX9_log_7 rfl rfl ?_
    refine w_iload_n C 3 dX9_log_8 rfl rfl ?_
    refine back_R (run_V C HR mt_X9_sheetAt (ci := 9) rfl (by decide) (Nat.le_of_ble_eq_true rfl) gw533 gw4 gw531 (by decide) rfl (Nat.le_of_ble_eq_true rfl) dX9_log_9 (As := [.int x2]) rfl (c_X9_sheetAt x2  _ _ hw)) (fun M7 hw => ?_) (fun j8 M7 hj8 hw => ?_)
    · replace hw := hw.1 rfl
      refine w_astoreN C (lv' := [(5, .null), (4, .ref (gad G 0 j2)), (0, .ref (gad G 9 0)), (1, .int x1), (2, .int x2), (3, .int x3)]) dX9_log_12 (by decide) rfl ?_
      refine w_aload C 1 dX9_log_14 rfl ?_
      refine w_ifnull C dX9_log_16 ?_
      refine w_aloadN C 0 dX9_log_19 rfl ?_
      refine w_ifnullN C dX9_log_21 (tgt := 34) rfl ?_
      refine w_bipush C dX9_log_34 kc_b_m2 ?_
      exact ret_I C HT hw dX9_log_36
    · replace hw := hw.2 j8 rfl
      refine w_astore C (lv' := [(5, .ref (gad G 7 j8)), (4, .ref (gad G 0 j2)), (0, .ref (gad G 9 0)), (1, .int x1), (2, .int x2), (3, .int x3)]) dX9_log_12 (by decide) rfl ?_
      refine w_aload C 1 dX9_log_14 rfl ?_
      refine w_ifnull C dX9_log_16 ?_
      refine w_aload C 0 dX9_log_19 rfl ?_
      refine w_ifnull C dX9_log_21 ?_
      refine w_iload_n C 5 dX9_log_24 rfl rfl ?_
      refine w_if_lt C dX9_log_25 (tgt := 34) rfl (fun c10 => ?_) (fun c10 => ?_)
      · replace hw := hw.1 c10
        refine w_bipush C dX9_log_34 kc_b_m2 ?_
        exact ret_I C HT hw dX9_log_36
      · replace hw := hw.2 c10
        refine w_iload_n C 5 dX9_log_28 rfl rfl ?_
        refine w_bipush C dX9_log_29 kc_b_12 ?_
        refine w_icmp_le C dX9_log_31 (tgt := 37) rfl (fun c11 => ?_) (fun c11 => ?_)
        · replace hw := hw.1 c11
          refine w_aload C 0 dX9_log_37 rfl ?_
          refine gf_X9_123 C hj8 dX9_log_39 ?_
          refine w_if_ne C dX9_log_42 (tgt := 54) rfl (fun c12 => ?_) (fun c12 => ?_)
          · replace hw := hw.2 c12
            exact w_sub [2, 0] rfl (s_X9_log_54 C HR HT  j8 hj8 _ hw)
          · replace hw := hw.1 c12
            refine w_iload_n C 5 dX9_log_45 rfl rfl ?_
            refine w_aload C 0 dX9_log_46 rfl ?_
            refine gf_X9_127 C hj8 dX9_log_48 ?_
            refine w_icmp_le C dX9_log_51 (tgt := 72) rfl (fun c16 => ?_) (fun c16 => ?_)
            · replace hw := hw.1 c16
              refine w_iload_n C 5 dX9_log_72 rfl rfl ?_
              refine w_aload C 0 dX9_log_73 rfl ?_
              refine w_iload_n C 5 dX9_log_75 rfl rfl ?_
              refine back_I (run_V C HR mt_X7_countEvents (ci := 7) rfl (by decide) hj8 gw536 gw537 gw535 (by decide) rfl (Nat.le_of_ble_eq_true rfl) dX9_log_76 (As := [.int x3]) rfl (c_X7_countEvents j8 x3 hj8 _ _ hw)) (fun r18 M17 hw => ?_)
              refine w_isub C dX9_log_79 ?_
              refine w_iconst C dX9_log_80 kc_i_3 ?_
              refine w_icmp_le C dX9_log_81 (tgt := 87) rfl (fun c19 => ?_) (fun c19 => ?_)
              · replace hw := hw.1 c19
                refine w_aload C 1 dX9_log_87 rfl ?_
                refine w_aload C 0 dX9_log_89 rfl ?_
                refine w_iload_n C 5 dX9_log_91 rfl rfl ?_
                refine back_I (run_V C HR mt_X0_takeLog (ci := 0) rfl (by decide) hj2 gw733 gw734 gw732 (by decide) rfl (Nat.le_of_ble_eq_true rfl) dX9_log_92 (As := [.ref (gad G 7 j8), .int x3]) rfl (c_X0_takeLog j2 j8 x3 hj2 hj8 _ _ hw)) (fun r21 M20 hw => ?_)
                exact ret_I C HT hw dX9_log_95
              · replace hw := hw.2 c19
                refine w_bipush C dX9_log_84 kc_b_m3 ?_
                exact ret_I C HT hw dX9_log_86
            · replace hw := hw.2 c16
              exact w_sub [2, 0] rfl (s_X9_log_54 C HR HT  j8 hj8 _ hw)
        · replace hw := hw.2 c11
          refine w_bipush C dX9_log_34 kc_b_m2 ?_
          exact ret_I C HT hw dX9_log_36
set_option maxRecDepth 100000 in
set_option maxHeartbeats 4000000 in
theorem c_X9_claim {G : GG} {n : Nat} {l : Launch} (x1 : Int32) (x2 : Int32) (x3 : Int32)  (M : Mem) (Q : Int32 → Mem → Prop) (hw : wp_X9_claim x1 x2 x3 M Q) : Ct G n l yX9_claim cX9_claim 5 (some .int) 1 21 [.ref (gad G 9 0), .int x1, .int x2, .int x3] M (Qi G n Q) := by
  refine ct_of (by decide) (Nat.le_of_ble_eq_true rfl) (lv := [(0, .ref (gad G 9 0)), (1, .int x1), (2, .int x2), (3, .int x3)]) rfl (fun E C HR HT hE => ?_)
  replace C : Cx G n E RX9 cX9_claim 5 := C
  refine w_aload_n C 0 dX9_claim_0 rfl rfl ?_
  refine w_iload_n C 1 dX9_claim_1 rfl rfl ?_
  refine back_R (run_V C HR mt_X9_counterAt (ci := 9) rfl (by decide) (Nat.le_of_ble_eq_true rfl) gw726 gw14 gw724 (by decide) rfl (Nat.le_of_ble_eq_true rfl) dX9_claim_2 (As := [.int x1]) rfl (c_X9_counterAt x1  _ _ hw)) (fun M1 hw => ?_) (fun j2 M1 hj2 hw => ?_)
  · replace hw := hw.1 rfl
    refine w_astoreN C (lv' := [(4, .null), (0, .ref (gad G 9 0)), (1, .int x1), (2, .int x2), (3, .int x3)]) dX9_claim_5 (by decide) rfl ?_
    refine w_aloadN C 0 dX9_claim_7 rfl ?_
    refine w_ifnullN C dX9_claim_9 (tgt := 32) rfl ?_
    refine w_bipush C dX9_claim_32 kc_b_m2 ?_
    exact ret_I C HT hw dX9_claim_34
  · replace hw := hw.2 j2 rfl
    refine w_astore C (lv' := [(4, .ref (gad G 0 j2)), (0, .ref (gad G 9 0)), (1, .int x1), (2, .int x2), (3, .int x3)]) dX9_claim_5 (by decide) rfl ?_
    refine w_aload C 0 dX9_claim_7 rfl ?_
    refine w_ifnull C dX9_claim_9 ?_
    refine w_iload_n C 3 dX9_claim_12 rfl rfl ?_
    refine w_iload_n C 4 dX9_claim_13 rfl rfl ?_
    refine back_I (run_S C HR mt_J9_max_7cf53 gw436 gw742 (by decide) rfl (Nat.le_of_ble_eq_true rfl) dX9_claim_14 (As := [.int x2, .int x3]) rfl (c_J9_max_7cf53 x2 x3  _ _ hw)) (fun r5 M4 hw => ?_)
    refine w_bipush C dX9_claim_17 kc_b_99 ?_
    refine w_icmp_gt C dX9_claim_19 (tgt := 32) rfl (fun c6 => ?_) (fun c6 => ?_)
    · replace hw := hw.1 c6
      refine w_bipush C dX9_claim_32 kc_b_m2 ?_
      exact ret_I C HT hw dX9_claim_34
    · replace hw := hw.2 c6
      refine w_iload_n C 3 dX9_claim_22 rfl rfl ?_
      refine w_iload_n C 4 dX9_claim_23 rfl rfl ?_
      refine back_I (run_S C HR mt_J9_min_7cf53 gw439 gw743 (by decide) rfl (Nat.le_of_ble_eq_true rfl) dX9_claim_24 (As := [.int x2, .int x3]) rfl (c_J9_min_7cf53 x2 x3  _ _ hw)) (fun r8 M7 hw => ?_)
      refine w_bipush C dX9_claim_27 kc_b_m99 ?_
      refine w_icmp_ge C dX9_claim_29 (tgt := 35) rfl (fun c9 => ?_) (fun c9 => ?_)
      · replace hw := hw.1 c9
        refine w_aload C 0 dX9_claim_35 rfl ?_
        refine w_iload_n C 3 dX9_claim_37 rfl rfl ?_
        refine pf_X9_205 C hj2 dX9_claim_38 (w_mem fun M10 eM10 => ?_)
        replace hw := hw M10 eM10
        refine w_aload C 0 dX9_claim_41 rfl ?_
        refine w_iload_n C 4 dX9_claim_43 rfl rfl ?_
        refine pf_X9_208 C hj2 dX9_claim_44 (w_mem fun M11 eM11 => ?_)
        replace hw := hw M11 eM11
        refine w_aload C 0 dX9_claim_47 rfl ?_
        refine w_iconst C dX9_claim_49 kc_i_m1 ?_
        refine pf_X9_211 C hj2 dX9_claim_50 (w_mem fun M12 eM12 => ?_)
        replace hw := hw M12 eM12
        refine w_iconst C dX9_claim_53 kc_i_1 ?_
        exact ret_I C HT hw dX9_claim_54
      · replace hw := hw.2 c9
        refine w_bipush C dX9_claim_32 kc_b_m2 ?_
        exact ret_I C HT hw dX9_claim_34
set_option maxRecDepth 100000 in
set_option maxHeartbeats 4000000 in
theorem c_X9_about {G : GG} {n : Nat} {l : Launch} (x1 : Int32) (x2 : Int32)  (M : Mem) (Q : Int32 → Mem → Prop) (hw : wp_X9_about x1 x2 M Q) : Ct G n l yX9_about cX9_about 4 (some .int) 2 41 [.ref (gad G 9 0), .int x1, .int x2] M (Qi G n Q) := by
  refine ct_of (by decide) (Nat.le_of_ble_eq_true rfl) (lv := [(0, .ref (gad G 9 0)), (1, .int x1), (2, .int x2)]) rfl (fun E C HR HT hE => ?_)
  replace C : Cx G n E RX9 cX9_about 4 := C
  refine w_aload_n C 0 dX9_about_0 rfl rfl ?_
  refine w_iload_n C 1 dX9_about_1 rfl rfl ?_
  refine back_R (run_V C HR mt_X9_counterAt (ci := 9) rfl (by decide) (Nat.le_of_ble_eq_true rfl) gw726 gw14 gw724 (by decide) rfl (Nat.le_of_ble_eq_true rfl) dX9_about_2 (As := [.int x1]) rfl (c_X9_counterAt x1  _ _ hw)) (fun M1 hw => ?_) (fun j2 M1 hj2 hw => ?_)
  · replace hw := hw.1 rfl
    refine w_astore_nN C (lv' := [(3, .null), (0, .ref (gad G 9 0)), (1, .int x1), (2, .int x2)]) dX9_about_5 rfl (by decide) rfl ?_
    refine w_aload_nN C 0 dX9_about_6 rfl rfl ?_
    refine w_ifnonnullN C dX9_about_7 ?_
    refine w_sipush C dX9_about_10 kc_s_m1000 ?_
    refine w_goto C dX9_about_13 (tgt := 21) rfl ?_
    exact ret_I C HT hw dX9_about_21
  · replace hw := hw.2 j2 rfl
    refine w_astore_n C (lv' := [(3, .ref (gad G 0 j2)), (0, .ref (gad G 9 0)), (1, .int x1), (2, .int x2)]) dX9_about_5 rfl (by decide) rfl ?_
    refine w_aload_n C 0 dX9_about_6 rfl rfl ?_
    refine w_ifnonnull C dX9_about_7 (tgt := 16) rfl ?_
    refine w_aload_n C 0 dX9_about_16 rfl rfl ?_
    refine w_iload_n C 3 dX9_about_17 rfl rfl ?_
    refine back_I (run_V C HR mt_X0_told (ci := 0) rfl (by decide) hj2 gw749 gw750 gw748 (by decide) rfl (Nat.le_of_ble_eq_true rfl) dX9_about_18 (As := [.int x2]) rfl (c_X0_told j2 x2 hj2 _ _ hw)) (fun r5 M4 hw => ?_)
    exact ret_I C HT hw dX9_about_21
set_option maxRecDepth 100000 in
set_option maxHeartbeats 4000000 in
theorem c_X9_tell {G : GG} {n : Nat} {l : Launch} (x1 : Int32) (x2 : Int32) (x3 : Int32)  (M : Mem) (Q : Int32 → Mem → Prop) (hw : wp_X9_tell x1 x2 x3 M Q) : Ct G n l yX9_tell cX9_tell 5 (some .int) 1 23 [.ref (gad G 9 0), .int x1, .int x2, .int x3] M (Qi G n Q) := by
  refine ct_of (by decide) (Nat.le_of_ble_eq_true rfl) (lv := [(0, .ref (gad G 9 0)), (1, .int x1), (2, .int x2), (3, .int x3)]) rfl (fun E C HR HT hE => ?_)
  replace C : Cx G n E RX9 cX9_tell 5 := C
  refine w_aload_n C 0 dX9_tell_0 rfl rfl ?_
  refine w_iload_n C 1 dX9_tell_1 rfl rfl ?_
  refine back_R (run_V C HR mt_X9_counterAt (ci := 9) rfl (by decide) (Nat.le_of_ble_eq_true rfl) gw726 gw14 gw724 (by decide) rfl (Nat.le_of_ble_eq_true rfl) dX9_tell_2 (As := [.int x1]) rfl (c_X9_counterAt x1  _ _ hw)) (fun M1 hw => ?_) (fun j2 M1 hj2 hw => ?_)
  · replace hw := hw.1 rfl
    refine w_astoreN C (lv' := [(4, .null), (0, .ref (gad G 9 0)), (1, .int x1), (2, .int x2), (3, .int x3)]) dX9_tell_5 (by decide) rfl ?_
    refine w_aloadN C 0 dX9_tell_7 rfl ?_
    refine w_ifnonnullN C dX9_tell_9 ?_
    refine w_bipush C dX9_tell_12 kc_b_m2 ?_
    refine w_goto C dX9_tell_14 (tgt := 24) rfl ?_
    exact ret_I C HT hw dX9_tell_24
  · replace hw := hw.2 j2 rfl
    refine w_astore C (lv' := [(4, .ref (gad G 0 j2)), (0, .ref (gad G 9 0)), (1, .int x1), (2, .int x2), (3, .int x3)]) dX9_tell_5 (by decide) rfl ?_
    refine w_aload C 0 dX9_tell_7 rfl ?_
    refine w_ifnonnull C dX9_tell_9 (tgt := 17) rfl ?_
    refine w_aload C 0 dX9_tell_17 rfl ?_
    refine w_iload_n C 3 dX9_tell_19 rfl rfl ?_
    refine w_iload_n C 4 dX9_tell_20 rfl rfl ?_
    refine back_I (run_V C HR mt_X0_change (ci := 0) rfl (by decide) hj2 gw761 gw762 gw760 (by decide) rfl (Nat.le_of_ble_eq_true rfl) dX9_tell_21 (As := [.int x2, .int x3]) rfl (c_X0_change j2 x2 x3 hj2 _ _ hw)) (fun r5 M4 hw => ?_)
    exact ret_I C HT hw dX9_tell_24
set_option maxRecDepth 100000 in
set_option maxHeartbeats 4000000 in
theorem s_X9_logged_22 {G : GG} {n : Nat} {E : EE} (C : Cx G n E RX9 cX9_logged 4) (HR : RM E 1 21) (HT : RT E (some .int)) {Q : Int32 → Mem → Prop}  : ∀   (M : Mem), w_X9_logged_22 Q   M → WW G n E 4 (QE G E (Qi G n Q)) 22 [] [] M := by
  intro  M hw
  refine w_bipush C dX9_logged_22 kc_b_m2 ?_
  refine w_goto C dX9_logged_24 (tgt := 33) rfl ?_
  exact ret_I C HT hw dX9_logged_33
set_option maxRecDepth 100000 in
set_option maxHeartbeats 4000000 in
theorem c_X9_logged {G : GG} {n : Nat} {l : Launch} (x1 : Int32) (x2 : Int32)  (M : Mem) (Q : Int32 → Mem → Prop) (hw : wp_X9_logged x1 x2 M Q) : Ct G n l yX9_logged cX9_logged 4 (some .int) 1 21 [.ref (gad G 9 0), .int x1, .int x2] M (Qi G n Q) := by
  refine ct_of (by decide) (Nat.le_of_ble_eq_true rfl) (lv := [(0, .ref (gad G 9 0)), (1, .int x1), (2, .int x2)]) rfl (fun E C HR HT hE => ?_)
  replace C : Cx G n E RX9 cX9_logged 4 := C
  refine w_aload_n C 0 dX9_logged_0 rfl rfl ?_
  refine w_iload_n C 1 dX9_logged_1 rfl rfl ?_
  refine back_R (run_V C HR mt_X9_counterAt (ci := 9) rfl (by decide) (Nat.le_of_ble_eq_true rfl) gw726 gw14 gw724 (by decide) rfl (Nat.le_of_ble_eq_true rfl) dX9_logged_2 (As := [.int x1]) rfl (c_X9_counterAt x1  _ _ hw)) (fun M1 hw => ?_) (fun j2 M1 hj2 hw => ?_)
  · replace hw := hw.1 rfl
    refine w_astore_nN C (lv' := [(3, .null), (0, .ref (gad G 9 0)), (1, .int x1), (2, .int x2)]) dX9_logged_5 rfl (by decide) rfl ?_
    refine w_aload_nN C 0 dX9_logged_6 rfl rfl ?_
    refine w_ifnullN C dX9_logged_7 (tgt := 22) rfl ?_
    exact w_sub [] rfl (s_X9_logged_22 C HR HT    _ hw)
  · replace hw := hw.2 j2 rfl
    refine w_astore_n C (lv' := [(3, .ref (gad G 0 j2)), (0, .ref (gad G 9 0)), (1, .int x1), (2, .int x2)]) dX9_logged_5 rfl (by decide) rfl ?_
    refine w_aload_n C 0 dX9_logged_6 rfl rfl ?_
    refine w_ifnull C dX9_logged_7 ?_
    refine w_iload_n C 3 dX9_logged_10 rfl rfl ?_
    refine w_if_lt C dX9_logged_11 (tgt := 22) rfl (fun c4 => ?_) (fun c4 => ?_)
    · replace hw := hw.1 c4
      exact w_sub [] rfl (s_X9_logged_22 C HR HT    _ hw)
    · replace hw := hw.2 c4
      refine w_iload_n C 3 dX9_logged_14 rfl rfl ?_
      refine w_aload_n C 0 dX9_logged_15 rfl rfl ?_
      refine gf_X9_220 C hj2 dX9_logged_16 ?_
      refine w_icmp_lt C dX9_logged_19 (tgt := 27) rfl (fun c5 => ?_) (fun c5 => ?_)
      · replace hw := hw.1 c5
        refine w_aload_n C 0 dX9_logged_27 rfl rfl ?_
        refine gf_X9_221 C hj2 dX9_logged_28 ?_
        refine w_iload_n C 3 dX9_logged_31 rfl rfl ?_
        obtain ⟨b6, hw⟩ := hw
        refine v_iald C ak_20 rfl hj2 b6 dX9_logged_32 ?_
        exact ret_I C HT hw dX9_logged_33
      · replace hw := hw.2 c5
        exact w_sub [] rfl (s_X9_logged_22 C HR HT    _ hw)
set_option maxRecDepth 100000 in
set_option maxHeartbeats 4000000 in
theorem c_X9_judge {G : GG} {n : Nat} {l : Launch} (j1 : Nat) (hj1 : j1 < cnt n 0) (M : Mem) (Q : Mem → Prop) (hw : wp_X9_judge j1 M Q) : Ct G n l yX9_judge cX9_judge 3 none 8 183 [.ref (gad G 9 0), .ref (gad G 0 j1)] M (Qv G n Q) := by
  refine ct_of (by decide) (Nat.le_of_ble_eq_true rfl) (lv := [(0, .ref (gad G 9 0)), (1, .ref (gad G 0 j1))]) rfl (fun E C HR HT hE => ?_)
  replace C : Cx G n E RX9 cX9_judge 3 := C
  refine w_aload_n C 0 dX9_judge_0 rfl rfl ?_
  refine w_aload_n C 1 dX9_judge_1 rfl rfl ?_
  refine gf_X9_244 C hj1 dX9_judge_2 ?_
  refine back_R (run_V C HR mt_X9_versionAt (ci := 9) rfl (by decide) (Nat.le_of_ble_eq_true rfl) gw374 gw0 gw372 (by decide) rfl (Nat.le_of_ble_eq_true rfl) dX9_judge_5 (As := [.int (M 200 j1 0)]) rfl (c_X9_versionAt (M 200 j1 0)  _ _ hw)) (fun M1 hw => ?_) (fun j2 M1 hj2 hw => ?_)
  · replace hw := hw.1 rfl
    refine w_astore_nN C (lv' := [(2, .null), (0, .ref (gad G 9 0)), (1, .ref (gad G 0 j1))]) dX9_judge_8 rfl (by decide) rfl ?_
    refine w_aload_nN C 0 dX9_judge_9 rfl rfl ?_
    refine w_ifnullN C dX9_judge_10 (tgt := 54) rfl ?_
    exact ret_V C HT hw dX9_judge_54
  · replace hw := hw.2 j2 rfl
    refine w_astore_n C (lv' := [(2, .ref (gad G 8 j2)), (0, .ref (gad G 9 0)), (1, .ref (gad G 0 j1))]) dX9_judge_8 rfl (by decide) rfl ?_
    refine w_aload_n C 0 dX9_judge_9 rfl rfl ?_
    refine w_ifnull C dX9_judge_10 ?_
    refine w_aload_n C 2 dX9_judge_13 rfl rfl ?_
    refine gf_X9_211 C hj1 dX9_judge_14 ?_
    refine w_aload_n C 0 dX9_judge_17 rfl rfl ?_
    refine gf_X9_251 C hj2 dX9_judge_18 ?_
    refine w_icmp_eq C dX9_judge_21 (tgt := 54) rfl (fun c4 => ?_) (fun c4 => ?_)
    · replace hw := hw.1 c4
      exact ret_V C HT hw dX9_judge_54
    · replace hw := hw.2 c4
      refine w_aload_n C 1 dX9_judge_24 rfl rfl ?_
      refine gf_X9_85 C (Nat.le_of_ble_eq_true rfl) dX9_judge_25 ?_
      refine w_aload_n C 0 dX9_judge_28 rfl rfl ?_
      refine w_aload_n C 0 dX9_judge_29 rfl rfl ?_
      refine w_iconst C dX9_judge_30 kc_i_0 ?_
      refine back_V (run_V C HR mt_X4_set (ci := 4) rfl (by decide) (Nat.le_of_ble_eq_true rfl) gw527 gw528 gw526 (by decide) rfl (Nat.le_of_ble_eq_true rfl) dX9_judge_31 (As := [.ref (gad G 8 j2), .ref (gad G 8 j2), .int 0]) rfl (c_X4_set j2 j2 0 hj2 hj2 _ _ hw)) (fun M5 hw => ?_)
      refine w_aload_n C 1 dX9_judge_34 rfl rfl ?_
      refine gf_X9_48 C (Nat.le_of_ble_eq_true rfl) dX9_judge_35 ?_
      refine w_aload_n C 2 dX9_judge_38 rfl rfl ?_
      refine w_aload_n C 1 dX9_judge_39 rfl rfl ?_
      refine gf_X9_85 C (Nat.le_of_ble_eq_true rfl) dX9_judge_40 ?_
      refine back_V (run_V C HR mt_X2_judge (ci := 2) rfl (by decide) (Nat.le_of_ble_eq_true rfl) gw777 gw778 gw776 (by decide) rfl (Nat.le_of_ble_eq_true rfl) dX9_judge_43 (As := [.ref (gad G 0 j1), .ref (gad G 4 0)]) rfl (c_X2_judge j1 hj1 _ _ hw)) (fun M6 hw => ?_)
      refine w_aload_n C 2 dX9_judge_46 rfl rfl ?_
      refine w_aload_n C 0 dX9_judge_47 rfl rfl ?_
      refine gf_X9_251 C hj2 dX9_judge_48 ?_
      refine pf_X9_211 C hj1 dX9_judge_51 (w_mem fun M7 eM7 => ?_)
      replace hw := hw M7 eM7
      exact ret_V C HT hw dX9_judge_54
set_option maxRecDepth 100000 in
set_option maxHeartbeats 4000000 in
theorem c_X9_fills {G : GG} {n : Nat} {l : Launch} (x1 : Int32) (x2 : Int32)  (M : Mem) (Q : Int32 → Mem → Prop) (hw : wp_X9_fills x1 x2 M Q) : Ct G n l yX9_fills cX9_fills 4 (some .int) 9 205 [.ref (gad G 9 0), .int x1, .int x2] M (Qi G n Q) := by
  refine ct_of (by decide) (Nat.le_of_ble_eq_true rfl) (lv := [(0, .ref (gad G 9 0)), (1, .int x1), (2, .int x2)]) rfl (fun E C HR HT hE => ?_)
  replace C : Cx G n E RX9 cX9_fills 4 := C
  refine w_aload_n C 0 dX9_fills_0 rfl rfl ?_
  refine w_iload_n C 1 dX9_fills_1 rfl rfl ?_
  refine back_R (run_V C HR mt_X9_counterAt (ci := 9) rfl (by decide) (Nat.le_of_ble_eq_true rfl) gw726 gw14 gw724 (by decide) rfl (Nat.le_of_ble_eq_true rfl) dX9_fills_2 (As := [.int x1]) rfl (c_X9_counterAt x1  _ _ hw)) (fun M1 hw => ?_) (fun j2 M1 hj2 hw => ?_)
  · replace hw := hw.1 rfl
    refine w_astore_nN C (lv' := [(3, .null), (0, .ref (gad G 9 0)), (1, .int x1), (2, .int x2)]) dX9_fills_5 rfl (by decide) rfl ?_
    refine w_aload_nN C 0 dX9_fills_6 rfl rfl ?_
    refine w_ifnullN C dX9_fills_7 (tgt := 19) rfl ?_
    refine w_bipush C dX9_fills_19 kc_b_m2 ?_
    exact ret_I C HT hw dX9_fills_21
  · replace hw := hw.2 j2 rfl
    refine w_astore_n C (lv' := [(3, .ref (gad G 0 j2)), (0, .ref (gad G 9 0)), (1, .int x1), (2, .int x2)]) dX9_fills_5 rfl (by decide) rfl ?_
    refine w_aload_n C 0 dX9_fills_6 rfl rfl ?_
    refine w_ifnull C dX9_fills_7 ?_
    refine w_iload_n C 3 dX9_fills_10 rfl rfl ?_
    refine w_if_lt C dX9_fills_11 (tgt := 19) rfl (fun c4 => ?_) (fun c4 => ?_)
    · replace hw := hw.1 c4
      refine w_bipush C dX9_fills_19 kc_b_m2 ?_
      exact ret_I C HT hw dX9_fills_21
    · replace hw := hw.2 c4
      refine w_iload_n C 3 dX9_fills_14 rfl rfl ?_
      refine w_iconst C dX9_fills_15 kc_i_3 ?_
      refine w_icmp_le C dX9_fills_16 (tgt := 22) rfl (fun c5 => ?_) (fun c5 => ?_)
      · replace hw := hw.1 c5
        refine w_aload_n C 1 dX9_fills_22 rfl rfl ?_
        refine w_aload_n C 0 dX9_fills_23 rfl rfl ?_
        refine back_V (run_V C HR mt_X9_judge (ci := 9) rfl (by decide) (Nat.le_of_ble_eq_true rfl) gw774 gw16 gw772 (by decide) rfl (Nat.le_of_ble_eq_true rfl) dX9_fills_24 (As := [.ref (gad G 0 j2)]) rfl (c_X9_judge j2 hj2 _ _ hw)) (fun M6 hw => ?_)
        refine w_aload_n C 0 dX9_fills_27 rfl rfl ?_
        refine gf_X9_228 C hj2 dX9_fills_28 ?_
        refine w_iload_n C 3 dX9_fills_31 rfl rfl ?_
        obtain ⟨b7, hw⟩ := hw
        refine v_iald C ak_21 rfl hj2 b7 dX9_fills_32 ?_
        exact ret_I C HT hw dX9_fills_33
      · replace hw := hw.2 c5
        refine w_bipush C dX9_fills_19 kc_b_m2 ?_
        exact ret_I C HT hw dX9_fills_21
set_option maxRecDepth 100000 in
set_option maxHeartbeats 4000000 in
theorem c_X9_causes {G : GG} {n : Nat} {l : Launch} (x1 : Int32)  (M : Mem) (Q : Int32 → Mem → Prop) (hw : wp_X9_causes x1 M Q) : Ct G n l yX9_causes cX9_causes 3 (some .int) 9 205 [.ref (gad G 9 0), .int x1] M (Qi G n Q) := by
  refine ct_of (by decide) (Nat.le_of_ble_eq_true rfl) (lv := [(0, .ref (gad G 9 0)), (1, .int x1)]) rfl (fun E C HR HT hE => ?_)
  replace C : Cx G n E RX9 cX9_causes 3 := C
  refine w_aload_n C 0 dX9_causes_0 rfl rfl ?_
  refine w_iload_n C 1 dX9_causes_1 rfl rfl ?_
  refine back_R (run_V C HR mt_X9_counterAt (ci := 9) rfl (by decide) (Nat.le_of_ble_eq_true rfl) gw726 gw14 gw724 (by decide) rfl (Nat.le_of_ble_eq_true rfl) dX9_causes_2 (As := [.int x1]) rfl (c_X9_counterAt x1  _ _ hw)) (fun M1 hw => ?_) (fun j2 M1 hj2 hw => ?_)
  · replace hw := hw.1 rfl
    refine w_astore_nN C (lv' := [(2, .null), (0, .ref (gad G 9 0)), (1, .int x1)]) dX9_causes_5 rfl (by decide) rfl ?_
    refine w_aload_nN C 0 dX9_causes_6 rfl rfl ?_
    refine w_ifnonnullN C dX9_causes_7 ?_
    refine w_bipush C dX9_causes_10 kc_b_m2 ?_
    exact ret_I C HT hw dX9_causes_12
  · replace hw := hw.2 j2 rfl
    refine w_astore_n C (lv' := [(2, .ref (gad G 0 j2)), (0, .ref (gad G 9 0)), (1, .int x1)]) dX9_causes_5 rfl (by decide) rfl ?_
    refine w_aload_n C 0 dX9_causes_6 rfl rfl ?_
    refine w_ifnonnull C dX9_causes_7 (tgt := 13) rfl ?_
    refine w_aload_n C 1 dX9_causes_13 rfl rfl ?_
    refine w_aload_n C 0 dX9_causes_14 rfl rfl ?_
    refine back_V (run_V C HR mt_X9_judge (ci := 9) rfl (by decide) (Nat.le_of_ble_eq_true rfl) gw774 gw16 gw772 (by decide) rfl (Nat.le_of_ble_eq_true rfl) dX9_causes_15 (As := [.ref (gad G 0 j2)]) rfl (c_X9_judge j2 hj2 _ _ hw)) (fun M4 hw => ?_)
    refine w_aload_n C 0 dX9_causes_18 rfl rfl ?_
    refine gf_X9_231 C hj2 dX9_causes_19 ?_
    exact ret_I C HT hw dX9_causes_22
set_option maxRecDepth 100000 in
set_option maxHeartbeats 4000000 in
theorem c_X9_settling {G : GG} {n : Nat} {l : Launch} (x1 : Int32) (x2 : Int32)  (M : Mem) (Q : Int32 → Mem → Prop) (hw : wp_X9_settling x1 x2 M Q) : Ct G n l yX9_settling cX9_settling 4 (some .int) 9 205 [.ref (gad G 9 0), .int x1, .int x2] M (Qi G n Q) := by
  refine ct_of (by decide) (Nat.le_of_ble_eq_true rfl) (lv := [(0, .ref (gad G 9 0)), (1, .int x1), (2, .int x2)]) rfl (fun E C HR HT hE => ?_)
  replace C : Cx G n E RX9 cX9_settling 4 := C
  refine w_aload_n C 0 dX9_settling_0 rfl rfl ?_
  refine w_iload_n C 1 dX9_settling_1 rfl rfl ?_
  refine back_R (run_V C HR mt_X9_counterAt (ci := 9) rfl (by decide) (Nat.le_of_ble_eq_true rfl) gw726 gw14 gw724 (by decide) rfl (Nat.le_of_ble_eq_true rfl) dX9_settling_2 (As := [.int x1]) rfl (c_X9_counterAt x1  _ _ hw)) (fun M1 hw => ?_) (fun j2 M1 hj2 hw => ?_)
  · replace hw := hw.1 rfl
    refine w_astore_nN C (lv' := [(3, .null), (0, .ref (gad G 9 0)), (1, .int x1), (2, .int x2)]) dX9_settling_5 rfl (by decide) rfl ?_
    refine w_aload_nN C 0 dX9_settling_6 rfl rfl ?_
    refine w_ifnullN C dX9_settling_7 (tgt := 19) rfl ?_
    refine w_bipush C dX9_settling_19 kc_b_m2 ?_
    exact ret_I C HT hw dX9_settling_21
  · replace hw := hw.2 j2 rfl
    refine w_astore_n C (lv' := [(3, .ref (gad G 0 j2)), (0, .ref (gad G 9 0)), (1, .int x1), (2, .int x2)]) dX9_settling_5 rfl (by decide) rfl ?_
    refine w_aload_n C 0 dX9_settling_6 rfl rfl ?_
    refine w_ifnull C dX9_settling_7 ?_
    refine w_iload_n C 3 dX9_settling_10 rfl rfl ?_
    refine w_if_lt C dX9_settling_11 (tgt := 19) rfl (fun c4 => ?_) (fun c4 => ?_)
    · replace hw := hw.1 c4
      refine w_bipush C dX9_settling_19 kc_b_m2 ?_
      exact ret_I C HT hw dX9_settling_21
    · replace hw := hw.2 c4
      refine w_iload_n C 3 dX9_settling_14 rfl rfl ?_
      refine w_iconst C dX9_settling_15 kc_i_1 ?_
      refine w_icmp_le C dX9_settling_16 (tgt := 22) rfl (fun c5 => ?_) (fun c5 => ?_)
      · replace hw := hw.1 c5
        refine w_aload_n C 1 dX9_settling_22 rfl rfl ?_
        refine w_aload_n C 0 dX9_settling_23 rfl rfl ?_
        refine back_V (run_V C HR mt_X9_judge (ci := 9) rfl (by decide) (Nat.le_of_ble_eq_true rfl) gw774 gw16 gw772 (by decide) rfl (Nat.le_of_ble_eq_true rfl) dX9_settling_24 (As := [.ref (gad G 0 j2)]) rfl (c_X9_judge j2 hj2 _ _ hw)) (fun M6 hw => ?_)
        refine w_aload_n C 0 dX9_settling_27 rfl rfl ?_
        refine gf_X9_231 C hj2 dX9_settling_28 ?_
        refine w_if_ne C dX9_settling_31 (tgt := 37) rfl (fun c7 => ?_) (fun c7 => ?_)
        · replace hw := hw.2 c7
          refine w_iload_n C 3 dX9_settling_37 rfl rfl ?_
          refine w_if_ne C dX9_settling_38 (tgt := 48) rfl (fun c8 => ?_) (fun c8 => ?_)
          · replace hw := hw.2 c8
            refine w_aload_n C 0 dX9_settling_48 rfl rfl ?_
            refine gf_X9_234 C hj2 dX9_settling_49 ?_
            refine back_I (run_S C HR mt_J6_bitCount_0f7a4 gw627 gw626 (by decide) rfl (Nat.le_of_ble_eq_true rfl) dX9_settling_52 (As := [.int (M6 211 j2 0)]) rfl (c_J6_bitCount_0f7a4 (M6 211 j2 0)  _ _ hw)) (fun r10 M9 hw => ?_)
            refine w_aload_n C 0 dX9_settling_55 rfl rfl ?_
            refine gf_X9_237 C hj2 dX9_settling_56 ?_
            refine w_imul C dX9_settling_59 ?_
            exact ret_I C HT hw dX9_settling_60
          · replace hw := hw.1 c8
            refine w_aload_n C 0 dX9_settling_41 rfl rfl ?_
            refine gf_X9_234 C hj2 dX9_settling_42 ?_
            refine w_goto C dX9_settling_45 (tgt := 60) rfl ?_
            exact ret_I C HT hw dX9_settling_60
        · replace hw := hw.1 c7
          refine w_bipush C dX9_settling_34 kc_b_m3 ?_
          exact ret_I C HT hw dX9_settling_36
      · replace hw := hw.2 c5
        refine w_bipush C dX9_settling_19 kc_b_m2 ?_
        exact ret_I C HT hw dX9_settling_21
set_option maxRecDepth 100000 in
set_option maxHeartbeats 4000000 in
theorem s_X9_like_107 {G : GG} {n : Nat} {E : EE} (C : Cx G n E RX9 cX9_like 7) (HR : RM E 2 48) (HT : RT E (some .int)) {Q : Int32 → Mem → Prop} {K48 : Int32 → Int32 → Nat → Int32 → Int32 → Mem → Prop} (g48 : ∀ (x1 : Int32) (x2 : Int32) (j3 : Nat) (x4 : Int32) (x5 : Int32) (hj3 : j3 < cnt n 0) (M : Mem), K48 x1 x2 j3 x4 x5 M → WW G n E 7 (QE G E (Qi G n Q)) 48 [(0, .ref (gad G 9 0)), (1, .int x1), (2, .int x2), (3, .ref (gad G 0 j3)), (4, .int x4), (5, .int x5)] [] M) : ∀ (x1 : Int32) (x2 : Int32) (j3 : Nat) (x4 : Int32) (x5 : Int32) (hj3 : j3 < cnt n 0) (M : Mem), w_X9_like_107 Q K48 x1 x2 j3 x4 x5 M → WW G n E 7 (QE G E (Qi G n Q)) 107 [(0, .ref (gad G 9 0)), (1, .int x1), (2, .int x2), (3, .ref (gad G 0 j3)), (4, .int x4), (5, .int x5)] [] M := by
  intro x1 x2 j3 x4 x5 hj3 M hw
  refine w_iincV C (lv' := [(5, .int (x5 + 1)), (0, .ref (gad G 9 0)), (1, .int x1), (2, .int x2), (3, .ref (gad G 0 j3)), (4, .int x4)]) 5 dX9_like_107 kc_i_1 rfl (by decide) rfl ?_
  refine w_goto C dX9_like_110 (tgt := 48) rfl ?_
  exact w_sub [1, 2, 3, 4, 5, 0] rfl (g48 x1 x2 j3 x4 (x5 + 1) hj3 _ hw)
set_option maxRecDepth 100000 in
set_option maxHeartbeats 4000000 in
theorem s_X9_like_48 {G : GG} {n : Nat} {E : EE} (C : Cx G n E RX9 cX9_like 7) (HR : RM E 2 48) (HT : RT E (some .int)) {Q : Int32 → Mem → Prop}  : ∀ (f : Nat) (x1 : Int32) (x2 : Int32) (j3 : Nat) (x4 : Int32) (x5 : Int32) (hj3 : j3 < cnt n 0) (M : Mem), w_X9_like_48 Q  f x1 x2 j3 x4 x5 M → WW G n E 7 (QE G E (Qi G n Q)) 48 [(0, .ref (gad G 9 0)), (1, .int x1), (2, .int x2), (3, .ref (gad G 0 j3)), (4, .int x4), (5, .int x5)] [] M := by
  intro f
  induction f with
  | zero => intro x1 x2 j3 x4 x5 hj3 M hw; exact hw.elim
  | succ f ih =>
    intro x1 x2 j3 x4 x5 hj3 M hw
    refine w_iload C 5 dX9_like_48 rfl ?_
    refine w_aload_n C 0 dX9_like_50 rfl rfl ?_
    refine gf_X9_66 C (Nat.le_of_ble_eq_true rfl) dX9_like_51 ?_
    refine w_icmp_ge C dX9_like_54 (tgt := 113) rfl (fun c10 => ?_) (fun c10 => ?_)
    · replace hw := hw.1 c10
      refine w_iload C 4 dX9_like_113 rfl ?_
      exact ret_I C HT hw dX9_like_115
    · replace hw := hw.2 c10
      refine w_aload_n C 0 dX9_like_57 rfl rfl ?_
      refine w_iload C 5 dX9_like_58 rfl ?_
      refine back_R (run_V C HR mt_X9_counterAt (ci := 9) rfl (by decide) (Nat.le_of_ble_eq_true rfl) gw726 gw14 gw724 (by decide) rfl (Nat.le_of_ble_eq_true rfl) dX9_like_60 (As := [.int x5]) rfl (c_X9_counterAt x5  _ _ hw)) (fun M11 hw => ?_) (fun j12 M11 hj12 hw => ?_)
      · replace hw := hw.1 rfl
        refine w_astoreN C (lv' := [(6, .null), (0, .ref (gad G 9 0)), (1, .int x1), (2, .int x2), (3, .ref (gad G 0 j3)), (4, .int x4), (5, .int x5)]) dX9_like_63 (by decide) rfl ?_
        refine w_iload C 6 dX9_like_65 rfl ?_
        refine w_iload_n C 2 dX9_like_67 rfl rfl ?_
        refine w_icmp_eq C dX9_like_68 (tgt := 107) rfl (fun c14 => ?_) (fun c14 => ?_)
        · replace hw := hw.1 c14
          exact w_sub [1, 2, 3, 4, 5, 6] rfl (s_X9_like_107 C HR HT ih x1 x2 j3 x4 x5 hj3 _ hw)
        · replace hw := hw.2 c14
          refine w_aloadN C 0 dX9_like_71 rfl ?_
          refine w_ifnullN C dX9_like_73 (tgt := 107) rfl ?_
          exact w_sub [1, 2, 3, 4, 5, 6] rfl (s_X9_like_107 C HR HT ih x1 x2 j3 x4 x5 hj3 _ hw)
      · replace hw := hw.2 j12 rfl
        refine w_astore C (lv' := [(6, .ref (gad G 0 j12)), (0, .ref (gad G 9 0)), (1, .int x1), (2, .int x2), (3, .ref (gad G 0 j3)), (4, .int x4), (5, .int x5)]) dX9_like_63 (by decide) rfl ?_
        refine w_iload C 6 dX9_like_65 rfl ?_
        refine w_iload_n C 2 dX9_like_67 rfl rfl ?_
        refine w_icmp_eq C dX9_like_68 (tgt := 107) rfl (fun c15 => ?_) (fun c15 => ?_)
        · replace hw := hw.1 c15
          exact w_sub [1, 2, 3, 4, 5, 6] rfl (s_X9_like_107 C HR HT ih x1 x2 j3 x4 x5 hj3 _ hw)
        · replace hw := hw.2 c15
          refine w_aload C 0 dX9_like_71 rfl ?_
          refine w_ifnull C dX9_like_73 ?_
          refine w_aload C 0 dX9_like_76 rfl ?_
          refine gf_X9_244 C hj12 dX9_like_78 ?_
          refine w_aload_n C 4 dX9_like_81 rfl rfl ?_
          refine gf_X9_244 C hj3 dX9_like_82 ?_
          refine w_icmp_ne C dX9_like_85 (tgt := 107) rfl (fun c16 => ?_) (fun c16 => ?_)
          · replace hw := hw.2 c16
            exact w_sub [1, 2, 3, 4, 5, 6] rfl (s_X9_like_107 C HR HT ih x1 x2 j3 x4 x5 hj3 _ hw)
          · replace hw := hw.1 c16
            refine w_aload C 0 dX9_like_88 rfl ?_
            refine w_aload_n C 4 dX9_like_90 rfl rfl ?_
            refine w_iload_n C 3 dX9_like_91 rfl rfl ?_
            refine back_I (run_V C HR mt_X0_holdsEndOf (ci := 0) rfl (by decide) hj12 gw863 gw864 gw862 (by decide) rfl (Nat.le_of_ble_eq_true rfl) dX9_like_92 (As := [.ref (gad G 0 j3), .int x2]) rfl (c_X0_holdsEndOf j12 j3 x2 hj12 hj3 _ _ hw)) (fun r18 M17 hw => ?_)
            refine w_if_eq C dX9_like_95 (tgt := 107) rfl (fun c19 => ?_) (fun c19 => ?_)
            · replace hw := hw.1 c19
              exact w_sub [1, 2, 3, 4, 5, 6] rfl (s_X9_like_107 C HR HT ih x1 x2 j3 x4 x5 hj3 _ hw)
            · replace hw := hw.2 c19
              refine w_iload C 5 dX9_like_98 rfl ?_
              refine w_iconst C dX9_like_100 kc_i_1 ?_
              refine w_iload C 6 dX9_like_101 rfl ?_
              refine w_ishl C dX9_like_103 ?_
              refine w_ior C dX9_like_104 ?_
              refine w_istoreV C dX9_like_105 (by decide) (fun a20 ea20 => w_lv (lv' := [(4, .int a20), (6, .ref (gad G 0 j12)), (0, .ref (gad G 9 0)), (1, .int x1), (2, .int x2), (3, .ref (gad G 0 j3)), (5, .int x5)]) rfl ?_)
              replace hw := hw a20 ea20
              exact w_sub [2, 3, 4, 5, 0, 6] rfl (s_X9_like_107 C HR HT ih x1 x2 j3 a20 x5 hj3 _ hw)
set_option maxRecDepth 100000 in
set_option maxHeartbeats 4000000 in
theorem c_X9_like {G : GG} {n : Nat} {l : Launch} (x1 : Int32) (x2 : Int32)  (M : Mem) (Q : Int32 → Mem → Prop) (hw : wp_X9_like x1 x2 M Q) : Ct G n l yX9_like cX9_like 7 (some .int) 2 48 [.ref (gad G 9 0), .int x1, .int x2] M (Qi G n Q) := by
  refine ct_of (by decide) (Nat.le_of_ble_eq_true rfl) (lv := [(0, .ref (gad G 9 0)), (1, .int x1), (2, .int x2)]) rfl (fun E C HR HT hE => ?_)
  replace C : Cx G n E RX9 cX9_like 7 := C
  refine w_aload_n C 0 dX9_like_0 rfl rfl ?_
  refine w_iload_n C 1 dX9_like_1 rfl rfl ?_
  refine back_R (run_V C HR mt_X9_counterAt (ci := 9) rfl (by decide) (Nat.le_of_ble_eq_true rfl) gw726 gw14 gw724 (by decide) rfl (Nat.le_of_ble_eq_true rfl) dX9_like_2 (As := [.int x1]) rfl (c_X9_counterAt x1  _ _ hw)) (fun M1 hw => ?_) (fun j2 M1 hj2 hw => ?_)
  · replace hw := hw.1 rfl
    refine w_astore_nN C (lv' := [(3, .null), (0, .ref (gad G 9 0)), (1, .int x1), (2, .int x2)]) dX9_like_5 rfl (by decide) rfl ?_
    refine w_aload_nN C 0 dX9_like_6 rfl rfl ?_
    refine w_ifnullN C dX9_like_7 (tgt := 23) rfl ?_
    refine w_bipush C dX9_like_23 kc_b_m2 ?_
    exact ret_I C HT hw dX9_like_25
  · replace hw := hw.2 j2 rfl
    refine w_astore_n C (lv' := [(3, .ref (gad G 0 j2)), (0, .ref (gad G 9 0)), (1, .int x1), (2, .int x2)]) dX9_like_5 rfl (by decide) rfl ?_
    refine w_aload_n C 0 dX9_like_6 rfl rfl ?_
    refine w_ifnull C dX9_like_7 ?_
    refine w_iload_n C 3 dX9_like_10 rfl rfl ?_
    refine w_iconst C dX9_like_11 kc_i_1 ?_
    refine w_icmp_lt C dX9_like_12 (tgt := 23) rfl (fun c4 => ?_) (fun c4 => ?_)
    · replace hw := hw.1 c4
      refine w_bipush C dX9_like_23 kc_b_m2 ?_
      exact ret_I C HT hw dX9_like_25
    · replace hw := hw.2 c4
      refine w_iload_n C 3 dX9_like_15 rfl rfl ?_
      refine w_aload_n C 0 dX9_like_16 rfl rfl ?_
      refine gf_X9_220 C hj2 dX9_like_17 ?_
      refine w_icmp_le C dX9_like_20 (tgt := 26) rfl (fun c5 => ?_) (fun c5 => ?_)
      · replace hw := hw.1 c5
        refine w_aload_n C 0 dX9_like_26 rfl rfl ?_
        refine w_aload_n C 0 dX9_like_27 rfl rfl ?_
        refine gf_X9_220 C hj2 dX9_like_28 ?_
        refine w_iload_n C 3 dX9_like_31 rfl rfl ?_
        refine w_isub C dX9_like_32 ?_
        refine back_I (run_V C HR mt_X0_hasLostFrom (ci := 0) rfl (by decide) hj2 gw858 gw859 gw857 (by decide) rfl (Nat.le_of_ble_eq_true rfl) dX9_like_33 (As := [.int ((M1 202 j2 0) - x2)]) rfl (c_X0_hasLostFrom j2 ((M1 202 j2 0) - x2) hj2 _ _ hw)) (fun r7 M6 hw => ?_)
        refine w_if_eq C dX9_like_36 (tgt := 42) rfl (fun c8 => ?_) (fun c8 => ?_)
        · replace hw := hw.1 c8
          refine w_iconst C dX9_like_42 kc_i_0 ?_
          refine w_istore C (lv' := [(4, .int 0), (3, .ref (gad G 0 j2)), (0, .ref (gad G 9 0)), (1, .int x1), (2, .int x2)]) dX9_like_43 (by decide) rfl ?_
          refine w_iconst C dX9_like_45 kc_i_0 ?_
          refine w_istore C (lv' := [(5, .int 0), (4, .int 0), (3, .ref (gad G 0 j2)), (0, .ref (gad G 9 0)), (1, .int x1), (2, .int x2)]) dX9_like_46 (by decide) rfl ?_
          obtain ⟨f9, hw⟩ := hw
          exact w_sub [3, 4, 5, 2, 1, 0] rfl (s_X9_like_48 C HR HT  f9 x1 x2 j2 0 0 hj2 _ hw)
        · replace hw := hw.2 c8
          refine w_bipush C dX9_like_39 kc_b_m3 ?_
          exact ret_I C HT hw dX9_like_41
      · replace hw := hw.2 c5
        refine w_bipush C dX9_like_23 kc_b_m2 ?_
        exact ret_I C HT hw dX9_like_25
set_option maxRecDepth 100000 in
set_option maxHeartbeats 4000000 in
theorem c_X9_isDay {G : GG} {n : Nat} {l : Launch} (x0 : Int32)  (M : Mem) (Q : Int32 → Mem → Prop) (hw : wp_X9_isDay x0 M Q) : Ct G n l yX9_isDay cX9_isDay 1 (some .boolean) 0 0 [.int x0] M (Qi G n Q) := by
  refine ct_of (by decide) (Nat.le_of_ble_eq_true rfl) (lv := [(0, .int x0)]) rfl (fun E C HR HT hE => ?_)
  replace C : Cx G n E RX9 cX9_isDay 1 := C
  refine w_iload_n C 0 dX9_isDay_0 rfl rfl ?_
  refine w_if_lt C dX9_isDay_1 (tgt := 15) rfl (fun c1 => ?_) (fun c1 => ?_)
  · replace hw := hw.1 c1
    refine w_iconst C dX9_isDay_15 kc_i_0 ?_
    exact ret_Z C HT rfl hw dX9_isDay_16
  · replace hw := hw.2 c1
    refine w_iload_n C 0 dX9_isDay_4 rfl rfl ?_
    refine w_sipush C dX9_isDay_5 kc_s_399 ?_
    refine w_icmp_gt C dX9_isDay_8 (tgt := 15) rfl (fun c2 => ?_) (fun c2 => ?_)
    · replace hw := hw.1 c2
      refine w_iconst C dX9_isDay_15 kc_i_0 ?_
      exact ret_Z C HT rfl hw dX9_isDay_16
    · replace hw := hw.2 c2
      refine w_iconst C dX9_isDay_11 kc_i_1 ?_
      refine w_goto C dX9_isDay_12 (tgt := 16) rfl ?_
      exact ret_Z C HT rfl hw dX9_isDay_16
set_option maxRecDepth 100000 in
set_option maxHeartbeats 4000000 in
theorem c_X9_pay {G : GG} {n : Nat} {l : Launch} (x1 : Int32) (x2 : Int32) (x3 : Int32)  (M : Mem) (Q : Int32 → Mem → Prop) (hw : wp_X9_pay x1 x2 x3 M Q) : Ct G n l yX9_pay cX9_pay 4 (some .int) 1 23 [.ref (gad G 9 0), .int x1, .int x2, .int x3] M (Qi G n Q) := by
  refine ct_of (by decide) (Nat.le_of_ble_eq_true rfl) (lv := [(0, .ref (gad G 9 0)), (1, .int x1), (2, .int x2), (3, .int x3)]) rfl (fun E C HR HT hE => ?_)
  replace C : Cx G n E RX9 cX9_pay 4 := C
  refine w_aload_n C 0 dX9_pay_0 rfl rfl ?_
  refine w_iload_n C 1 dX9_pay_1 rfl rfl ?_
  refine back_R (run_V C HR mt_X9_counterAt (ci := 9) rfl (by decide) (Nat.le_of_ble_eq_true rfl) gw726 gw14 gw724 (by decide) rfl (Nat.le_of_ble_eq_true rfl) dX9_pay_2 (As := [.int x1]) rfl (c_X9_counterAt x1  _ _ hw)) (fun M1 hw => ?_) (fun j2 M1 hj2 hw => ?_)
  · replace hw := hw.1 rfl
    refine w_ifnullN C dX9_pay_5 (tgt := 27) rfl ?_
    refine w_bipush C dX9_pay_27 kc_b_m2 ?_
    exact ret_I C HT hw dX9_pay_29
  · replace hw := hw.2 j2 rfl
    refine w_ifnull C dX9_pay_5 ?_
    refine w_iload_n C 2 dX9_pay_8 rfl rfl ?_
    refine back_I (run_S C HR mt_X9_isDay gw875 gw874 (by decide) rfl (Nat.le_of_ble_eq_true rfl) dX9_pay_9 (As := [.int x2]) rfl (c_X9_isDay x2  _ _ hw)) (fun r5 M4 hw => ?_)
    refine w_if_eq C dX9_pay_12 (tgt := 27) rfl (fun c6 => ?_) (fun c6 => ?_)
    · replace hw := hw.1 c6
      refine w_bipush C dX9_pay_27 kc_b_m2 ?_
      exact ret_I C HT hw dX9_pay_29
    · replace hw := hw.2 c6
      refine w_iload_n C 3 dX9_pay_15 rfl rfl ?_
      refine w_iconst C dX9_pay_16 kc_i_1 ?_
      refine w_icmp_lt C dX9_pay_17 (tgt := 27) rfl (fun c7 => ?_) (fun c7 => ?_)
      · replace hw := hw.1 c7
        refine w_bipush C dX9_pay_27 kc_b_m2 ?_
        exact ret_I C HT hw dX9_pay_29
      · replace hw := hw.2 c7
        refine w_iload_n C 3 dX9_pay_20 rfl rfl ?_
        refine w_sipush C dX9_pay_21 kc_s_1000 ?_
        refine w_icmp_le C dX9_pay_24 (tgt := 30) rfl (fun c8 => ?_) (fun c8 => ?_)
        · replace hw := hw.1 c8
          refine w_aload_n C 0 dX9_pay_30 rfl rfl ?_
          refine gf_X9_55 C (Nat.le_of_ble_eq_true rfl) dX9_pay_31 ?_
          refine w_iload_n C 1 dX9_pay_34 rfl rfl ?_
          refine w_iload_n C 2 dX9_pay_35 rfl rfl ?_
          refine w_iload_n C 3 dX9_pay_36 rfl rfl ?_
          refine back_I (run_V C HR mt_X5_add (ci := 5) rfl (by decide) (Nat.le_of_ble_eq_true rfl) gw878 gw879 gw877 (by decide) rfl (Nat.le_of_ble_eq_true rfl) dX9_pay_37 (As := [.int x1, .int x2, .int x3]) rfl (c_X5_add x1 x2 x3  _ _ hw)) (fun r10 M9 hw => ?_)
          exact ret_I C HT hw dX9_pay_40
        · replace hw := hw.2 c8
          refine w_bipush C dX9_pay_27 kc_b_m2 ?_
          exact ret_I C HT hw dX9_pay_29
set_option maxRecDepth 100000 in
set_option maxHeartbeats 4000000 in
theorem c_X9_interest {G : GG} {n : Nat} {l : Launch} (x1 : Int32)  (M : Mem) (Q : Int32 → Mem → Prop) (hw : wp_X9_interest x1 M Q) : Ct G n l yX9_interest cX9_interest 3 (some .int) 0 0 [.ref (gad G 9 0), .int x1] M (Qi G n Q) := by
  refine ct_of (by decide) (Nat.le_of_ble_eq_true rfl) (lv := [(0, .ref (gad G 9 0)), (1, .int x1)]) rfl (fun E C HR HT hE => ?_)
  replace C : Cx G n E RX9 cX9_interest 3 := C
  refine w_iload_n C 1 dX9_interest_0 rfl rfl ?_
  refine w_if_lt C dX9_interest_1 (tgt := 10) rfl (fun c1 => ?_) (fun c1 => ?_)
  · replace hw := hw.1 c1
    refine w_bipush C dX9_interest_10 kc_b_m2 ?_
    exact ret_I C HT hw dX9_interest_12
  · replace hw := hw.2 c1
    refine w_iload_n C 1 dX9_interest_4 rfl rfl ?_
    refine w_bipush C dX9_interest_5 kc_b_100 ?_
    refine w_icmp_le C dX9_interest_7 (tgt := 13) rfl (fun c2 => ?_) (fun c2 => ?_)
    · replace hw := hw.1 c2
      refine w_aload_n C 0 dX9_interest_13 rfl rfl ?_
      refine gf_X9_55 C (Nat.le_of_ble_eq_true rfl) dX9_interest_14 ?_
      refine gf_X9_263 C (Nat.le_of_ble_eq_true rfl) dX9_interest_17 ?_
      refine w_istore_nV C dX9_interest_20 rfl (by decide) (fun a3 ea3 => w_lv (lv' := [(2, .int a3), (0, .ref (gad G 9 0)), (1, .int x1)]) rfl ?_)
      replace hw := hw a3 ea3
      refine w_aload_n C 1 dX9_interest_21 rfl rfl ?_
      refine gf_X9_55 C (Nat.le_of_ble_eq_true rfl) dX9_interest_22 ?_
      refine w_iload_n C 2 dX9_interest_25 rfl rfl ?_
      refine pf_X9_263 C (Nat.le_of_ble_eq_true rfl) dX9_interest_26 (w_mem fun M4 eM4 => ?_)
      replace hw := hw M4 eM4
      refine w_iload_n C 0 dX9_interest_29 rfl rfl ?_
      exact ret_I C HT hw dX9_interest_30
    · replace hw := hw.2 c2
      refine w_bipush C dX9_interest_10 kc_b_m2 ?_
      exact ret_I C HT hw dX9_interest_12
set_option maxRecDepth 100000 in
set_option maxHeartbeats 4000000 in
theorem s_X9_owedOn_92 {G : GG} {n : Nat} {E : EE} (C : Cx G n E RX9 cX9_owedOn 6) (HR : RM E 9 205) (HT : RT E (some .int)) {Q : Int32 → Mem → Prop} {K5 : Int32 → Int32 → Int32 → Int32 → Mem → Prop} (g5 : ∀ (x1 : Int32) (x2 : Int32) (x3 : Int32) (x4 : Int32)  (M : Mem), K5 x1 x2 x3 x4 M → WW G n E 6 (QE G E (Qi G n Q)) 5 [(0, .ref (gad G 9 0)), (1, .int x1), (2, .int x2), (3, .int x3), (4, .int x4)] [] M) : ∀ (x1 : Int32) (x2 : Int32) (x3 : Int32) (x4 : Int32)  (M : Mem), w_X9_owedOn_92 Q K5 x1 x2 x3 x4 M → WW G n E 6 (QE G E (Qi G n Q)) 92 [(0, .ref (gad G 9 0)), (1, .int x1), (2, .int x2), (3, .int x3), (4, .int x4)] [] M := by
  intro x1 x2 x3 x4 M hw
  refine w_iincV C (lv' := [(4, .int (x4 + 1)), (0, .ref (gad G 9 0)), (1, .int x1), (2, .int x2), (3, .int x3)]) 4 dX9_owedOn_92 kc_i_1 rfl (by decide) rfl ?_
  refine w_goto C dX9_owedOn_95 (tgt := 5) rfl ?_
  exact w_sub [1, 2, 3, 4, 0] rfl (g5 x1 x2 x3 (x4 + 1)  _ hw)
set_option maxRecDepth 100000 in
set_option maxHeartbeats 4000000 in
theorem s_X9_owedOn_33 {G : GG} {n : Nat} {E : EE} (C : Cx G n E RX9 cX9_owedOn 6) (HR : RM E 9 205) (HT : RT E (some .int)) {Q : Int32 → Mem → Prop} {K5 : Int32 → Int32 → Int32 → Int32 → Mem → Prop} (g5 : ∀ (x1 : Int32) (x2 : Int32) (x3 : Int32) (x4 : Int32)  (M : Mem), K5 x1 x2 x3 x4 M → WW G n E 6 (QE G E (Qi G n Q)) 5 [(0, .ref (gad G 9 0)), (1, .int x1), (2, .int x2), (3, .int x3), (4, .int x4)] [] M) : ∀ (x1 : Int32) (x2 : Int32) (x3 : Int32) (x4 : Int32)  (M : Mem), w_X9_owedOn_33 Q K5 x1 x2 x3 x4 M → WW G n E 6 (QE G E (Qi G n Q)) 33 [(0, .ref (gad G 9 0)), (1, .int x1), (2, .int x2), (3, .int x3), (4, .int x4), (5, .null)] [] M := by
  intro x1 x2 x3 x4 M hw
  refine w_aloadN C 5 dX9_owedOn_33 rfl ?_
  refine w_ifnullN C dX9_owedOn_35 (tgt := 92) rfl ?_
  exact w_sub [0, 1, 2, 3, 4] rfl (s_X9_owedOn_92 C HR HT g5 x1 x2 x3 x4  _ hw)
set_option maxRecDepth 100000 in
set_option maxHeartbeats 4000000 in
theorem s_X9_owedOn_90 {G : GG} {n : Nat} {E : EE} (C : Cx G n E RX9 cX9_owedOn 6) (HR : RM E 9 205) (HT : RT E (some .int)) {Q : Int32 → Mem → Prop} {K5 : Int32 → Int32 → Int32 → Int32 → Mem → Prop} (g5 : ∀ (x1 : Int32) (x2 : Int32) (x3 : Int32) (x4 : Int32)  (M : Mem), K5 x1 x2 x3 x4 M → WW G n E 6 (QE G E (Qi G n Q)) 5 [(0, .ref (gad G 9 0)), (1, .int x1), (2, .int x2), (3, .int x3), (4, .int x4)] [] M) : ∀ (x1 : Int32) (x2 : Int32) (x4 : Int32) (y0 : Int32) (y1 : Int32)  (M : Mem), w_X9_owedOn_90 Q K5 x1 x2 x4 y0 y1 M → WW G n E 6 (QE G E (Qi G n Q)) 90 [(0, .ref (gad G 9 0)), (1, .int x1), (2, .int x2), (4, .int x4)] [.int y0, .int y1] M := by
  intro x1 x2 x4 y0 y1 M hw
  refine w_iadd C dX9_owedOn_90 ?_
  refine w_istore_nV C dX9_owedOn_91 rfl (by decide) (fun a17 ea17 => w_lv (lv' := [(3, .int a17), (0, .ref (gad G 9 0)), (1, .int x1), (2, .int x2), (4, .int x4)]) rfl ?_)
  replace hw := hw a17 ea17
  exact w_sub [1, 2, 3, 0, 4] rfl (s_X9_owedOn_92 C HR HT g5 x1 x2 a17 x4  _ hw)
set_option maxRecDepth 100000 in
set_option maxHeartbeats 4000000 in
theorem s_X9_owedOn_33_1 {G : GG} {n : Nat} {E : EE} (C : Cx G n E RX9 cX9_owedOn 6) (HR : RM E 9 205) (HT : RT E (some .int)) {Q : Int32 → Mem → Prop} {K5 : Int32 → Int32 → Int32 → Int32 → Mem → Prop} (g5 : ∀ (x1 : Int32) (x2 : Int32) (x3 : Int32) (x4 : Int32)  (M : Mem), K5 x1 x2 x3 x4 M → WW G n E 6 (QE G E (Qi G n Q)) 5 [(0, .ref (gad G 9 0)), (1, .int x1), (2, .int x2), (3, .int x3), (4, .int x4)] [] M) : ∀ (x1 : Int32) (x2 : Int32) (x3 : Int32) (x4 : Int32) (j5 : Nat) (hj5 : j5 < cnt n 0) (M : Mem), w_X9_owedOn_33_1 Q K5 x1 x2 x3 x4 j5 M → WW G n E 6 (QE G E (Qi G n Q)) 33 [(0, .ref (gad G 9 0)), (1, .int x1), (2, .int x2), (3, .int x3), (4, .int x4), (5, .ref (gad G 0 j5))] [] M := by
  intro x1 x2 x3 x4 j5 hj5 M hw
  refine w_aload C 5 dX9_owedOn_33 rfl ?_
  refine w_ifnull C dX9_owedOn_35 ?_
  refine w_aload C 5 dX9_owedOn_38 rfl ?_
  refine back_I (run_V C HR mt_X0_isShort (ci := 0) rfl (by decide) hj5 gw753 gw754 gw893 (by decide) rfl (Nat.le_of_ble_eq_true rfl) dX9_owedOn_40 (As := []) rfl (c_X0_isShort j5 hj5 _ _ hw)) (fun r10 M9 hw => ?_)
  refine w_if_eq C dX9_owedOn_43 (tgt := 92) rfl (fun c11 => ?_) (fun c11 => ?_)
  · replace hw := hw.1 c11
    exact w_sub [0, 1, 2, 3, 4] rfl (s_X9_owedOn_92 C HR HT g5 x1 x2 x3 x4  _ hw)
  · replace hw := hw.2 c11
    refine w_aload_n C 0 dX9_owedOn_46 rfl rfl ?_
    refine gf_X9_55 C (Nat.le_of_ble_eq_true rfl) dX9_owedOn_47 ?_
    refine w_iload C 4 dX9_owedOn_50 rfl ?_
    refine w_iload_n C 2 dX9_owedOn_52 rfl rfl ?_
    refine back_I (run_V C HR mt_X5_hasAny (ci := 5) rfl (by decide) (Nat.le_of_ble_eq_true rfl) gw895 gw896 gw894 (by decide) rfl (Nat.le_of_ble_eq_true rfl) dX9_owedOn_53 (As := [.int x4, .int x2]) rfl (c_X5_hasAny x4 x2  _ _ hw)) (fun r13 M12 hw => ?_)
    refine w_if_eq C dX9_owedOn_56 (tgt := 92) rfl (fun c14 => ?_) (fun c14 => ?_)
    · replace hw := hw.1 c14
      exact w_sub [0, 1, 2, 3, 4] rfl (s_X9_owedOn_92 C HR HT g5 x1 x2 x3 x4  _ hw)
    · replace hw := hw.2 c14
      refine w_aload_n C 0 dX9_owedOn_59 rfl rfl ?_
      refine w_aload C 5 dX9_owedOn_60 rfl ?_
      refine back_V (run_V C HR mt_X9_judge (ci := 9) rfl (by decide) (Nat.le_of_ble_eq_true rfl) gw774 gw16 gw772 (by decide) rfl (Nat.le_of_ble_eq_true rfl) dX9_owedOn_62 (As := [.ref (gad G 0 j5)]) rfl (c_X9_judge j5 hj5 _ _ hw)) (fun M15 hw => ?_)
      refine w_iload_n C 3 dX9_owedOn_65 rfl rfl ?_
      refine w_aload C 5 dX9_owedOn_66 rfl ?_
      refine gf_X9_231 C hj5 dX9_owedOn_68 ?_
      refine w_iconst C dX9_owedOn_71 kc_i_1 ?_
      refine w_iand C dX9_owedOn_72 ?_
      refine w_if_eq C dX9_owedOn_73 (tgt := 89) rfl (fun c16 => ?_) (fun c16 => ?_)
      · replace hw := hw.1 c16
        refine w_iconst C dX9_owedOn_89 kc_i_0 ?_
        exact w_sub [0, 1, 2, 4] rfl (s_X9_owedOn_90 C HR HT g5 x1 x2 x4 0 x3  _ hw)
      · replace hw := hw.2 c16
        refine w_aload_n C 0 dX9_owedOn_76 rfl rfl ?_
        refine gf_X9_55 C (Nat.le_of_ble_eq_true rfl) dX9_owedOn_77 ?_
        refine w_iload C 4 dX9_owedOn_80 rfl ?_
        refine w_iload_n C 2 dX9_owedOn_82 rfl rfl ?_
        refine back_I (run_V C HR mt_X5_withInterest (ci := 5) rfl (by decide) (Nat.le_of_ble_eq_true rfl) gw899 gw900 gw898 (by decide) rfl (Nat.le_of_ble_eq_true rfl) dX9_owedOn_83 (As := [.int x4, .int x2]) rfl (c_X5_withInterest x4 x2  _ _ hw)) (fun r19 M18 hw => ?_)
        refine w_goto C dX9_owedOn_86 (tgt := 90) rfl ?_
        exact w_sub [0, 1, 2, 4] rfl (s_X9_owedOn_90 C HR HT g5 x1 x2 x4 r19 x3  _ hw)
set_option maxRecDepth 100000 in
set_option maxHeartbeats 4000000 in
theorem s_X9_owedOn_5 {G : GG} {n : Nat} {E : EE} (C : Cx G n E RX9 cX9_owedOn 6) (HR : RM E 9 205) (HT : RT E (some .int)) {Q : Int32 → Mem → Prop}  : ∀ (f : Nat) (x1 : Int32) (x2 : Int32) (x3 : Int32) (x4 : Int32)  (M : Mem), w_X9_owedOn_5 Q  f x1 x2 x3 x4 M → WW G n E 6 (QE G E (Qi G n Q)) 5 [(0, .ref (gad G 9 0)), (1, .int x1), (2, .int x2), (3, .int x3), (4, .int x4)] [] M := by
  intro f
  induction f with
  | zero => intro x1 x2 x3 x4 M hw; exact hw.elim
  | succ f ih =>
    intro x1 x2 x3 x4 M hw
    refine w_iload C 4 dX9_owedOn_5 rfl ?_
    refine w_aload_n C 0 dX9_owedOn_7 rfl rfl ?_
    refine gf_X9_66 C (Nat.le_of_ble_eq_true rfl) dX9_owedOn_8 ?_
    refine w_icmp_ge C dX9_owedOn_11 (tgt := 98) rfl (fun c2 => ?_) (fun c2 => ?_)
    · replace hw := hw.1 c2
      refine w_iload_n C 3 dX9_owedOn_98 rfl rfl ?_
      exact ret_I C HT hw dX9_owedOn_99
    · replace hw := hw.2 c2
      refine w_aload_n C 0 dX9_owedOn_14 rfl rfl ?_
      refine w_iload C 4 dX9_owedOn_15 rfl ?_
      refine back_R (run_V C HR mt_X9_counterAt (ci := 9) rfl (by decide) (Nat.le_of_ble_eq_true rfl) gw726 gw14 gw724 (by decide) rfl (Nat.le_of_ble_eq_true rfl) dX9_owedOn_17 (As := [.int x4]) rfl (c_X9_counterAt x4  _ _ hw)) (fun M3 hw => ?_) (fun j4 M3 hj4 hw => ?_)
      · replace hw := hw.1 rfl
        refine w_astoreN C (lv' := [(5, .null), (0, .ref (gad G 9 0)), (1, .int x1), (2, .int x2), (3, .int x3), (4, .int x4)]) dX9_owedOn_20 (by decide) rfl ?_
        refine w_iload_n C 2 dX9_owedOn_22 rfl rfl ?_
        refine w_iconst C dX9_owedOn_23 kc_i_m1 ?_
        refine w_icmp_eq C dX9_owedOn_24 (tgt := 33) rfl (fun c6 => ?_) (fun c6 => ?_)
        · replace hw := hw.1 c6
          exact w_sub [1, 2, 3, 4, 5, 0] rfl (s_X9_owedOn_33 C HR HT ih x1 x2 x3 x4  _ hw)
        · replace hw := hw.2 c6
          refine w_iload_n C 2 dX9_owedOn_27 rfl rfl ?_
          refine w_iload C 5 dX9_owedOn_28 rfl ?_
          refine w_icmp_ne C dX9_owedOn_30 (tgt := 92) rfl (fun c7 => ?_) (fun c7 => ?_)
          · replace hw := hw.2 c7
            exact w_sub [1, 2, 3, 4, 5] rfl (s_X9_owedOn_92 C HR HT ih x1 x2 x3 x4  _ hw)
          · replace hw := hw.1 c7
            exact w_sub [1, 2, 3, 4, 5, 0] rfl (s_X9_owedOn_33 C HR HT ih x1 x2 x3 x4  _ hw)
      · replace hw := hw.2 j4 rfl
        refine w_astore C (lv' := [(5, .ref (gad G 0 j4)), (0, .ref (gad G 9 0)), (1, .int x1), (2, .int x2), (3, .int x3), (4, .int x4)]) dX9_owedOn_20 (by decide) rfl ?_
        refine w_iload_n C 2 dX9_owedOn_22 rfl rfl ?_
        refine w_iconst C dX9_owedOn_23 kc_i_m1 ?_
        refine w_icmp_eq C dX9_owedOn_24 (tgt := 33) rfl (fun c8 => ?_) (fun c8 => ?_)
        · replace hw := hw.1 c8
          exact w_sub [1, 2, 3, 4, 5, 0] rfl (s_X9_owedOn_33_1 C HR HT ih x1 x2 x3 x4 j4 hj4 _ hw)
        · replace hw := hw.2 c8
          refine w_iload_n C 2 dX9_owedOn_27 rfl rfl ?_
          refine w_iload C 5 dX9_owedOn_28 rfl ?_
          refine w_icmp_ne C dX9_owedOn_30 (tgt := 92) rfl (fun c20 => ?_) (fun c20 => ?_)
          · replace hw := hw.2 c20
            exact w_sub [1, 2, 3, 4, 5] rfl (s_X9_owedOn_92 C HR HT ih x1 x2 x3 x4  _ hw)
          · replace hw := hw.1 c20
            exact w_sub [1, 2, 3, 4, 5, 0] rfl (s_X9_owedOn_33_1 C HR HT ih x1 x2 x3 x4 j4 hj4 _ hw)
set_option maxRecDepth 100000 in
set_option maxHeartbeats 4000000 in
theorem c_X9_owedOn {G : GG} {n : Nat} {l : Launch} (x1 : Int32) (x2 : Int32)  (M : Mem) (Q : Int32 → Mem → Prop) (hw : wp_X9_owedOn x1 x2 M Q) : Ct G n l yX9_owedOn cX9_owedOn 6 (some .int) 9 205 [.ref (gad G 9 0), .int x1, .int x2] M (Qi G n Q) := by
  refine ct_of (by decide) (Nat.le_of_ble_eq_true rfl) (lv := [(0, .ref (gad G 9 0)), (1, .int x1), (2, .int x2)]) rfl (fun E C HR HT hE => ?_)
  replace C : Cx G n E RX9 cX9_owedOn 6 := C
  refine w_iconst C dX9_owedOn_0 kc_i_0 ?_
  refine w_istore_n C (lv' := [(3, .int 0), (0, .ref (gad G 9 0)), (1, .int x1), (2, .int x2)]) dX9_owedOn_1 rfl (by decide) rfl ?_
  refine w_iconst C dX9_owedOn_2 kc_i_0 ?_
  refine w_istore C (lv' := [(4, .int 0), (3, .int 0), (0, .ref (gad G 9 0)), (1, .int x1), (2, .int x2)]) dX9_owedOn_3 (by decide) rfl ?_
  obtain ⟨f1, hw⟩ := hw
  exact w_sub [2, 3, 4, 1, 0] rfl (s_X9_owedOn_5 C HR HT  f1 x1 x2 0 0  _ hw)
set_option maxRecDepth 100000 in
set_option maxHeartbeats 4000000 in
theorem s_X9_owed_13 {G : GG} {n : Nat} {E : EE} (C : Cx G n E RX9 cX9_owed 3) (HR : RM E 10 230) (HT : RT E (some .int)) {Q : Int32 → Mem → Prop}  : ∀ (x1 : Int32) (x2 : Int32)  (M : Mem), w_X9_owed_13 Q  x1 x2 M → WW G n E 3 (QE G E (Qi G n Q)) 13 [(0, .ref (gad G 9 0)), (1, .int x1), (2, .int x2)] [] M := by
  intro x1 x2 M hw
  refine w_iload_n C 2 dX9_owed_13 rfl rfl ?_
  refine back_I (run_S C HR mt_X9_isDay gw875 gw874 (by decide) rfl (Nat.le_of_ble_eq_true rfl) dX9_owed_14 (As := [.int x2]) rfl (c_X9_isDay x2  _ _ hw)) (fun r3 M2 hw => ?_)
  refine w_if_ne C dX9_owed_17 (tgt := 23) rfl (fun c4 => ?_) (fun c4 => ?_)
  · replace hw := hw.2 c4
    refine w_aload_n C 0 dX9_owed_23 rfl rfl ?_
    refine w_iload_n C 1 dX9_owed_24 rfl rfl ?_
    refine w_iload_n C 2 dX9_owed_25 rfl rfl ?_
    refine back_I (run_V C HR mt_X9_owedOn (ci := 9) rfl (by decide) (Nat.le_of_ble_eq_true rfl) gw891 gw31 gw889 (by decide) rfl (Nat.le_of_ble_eq_true rfl) dX9_owed_26 (As := [.int x1, .int x2]) rfl (c_X9_owedOn x1 x2  _ _ hw)) (fun r6 M5 hw => ?_)
    exact ret_I C HT hw dX9_owed_29
  · replace hw := hw.1 c4
    refine w_bipush C dX9_owed_20 kc_b_m2 ?_
    exact ret_I C HT hw dX9_owed_22
set_option maxRecDepth 100000 in
set_option maxHeartbeats 4000000 in
theorem c_X9_owed {G : GG} {n : Nat} {l : Launch} (x1 : Int32) (x2 : Int32)  (M : Mem) (Q : Int32 → Mem → Prop) (hw : wp_X9_owed x1 x2 M Q) : Ct G n l yX9_owed cX9_owed 3 (some .int) 10 230 [.ref (gad G 9 0), .int x1, .int x2] M (Qi G n Q) := by
  refine ct_of (by decide) (Nat.le_of_ble_eq_true rfl) (lv := [(0, .ref (gad G 9 0)), (1, .int x1), (2, .int x2)]) rfl (fun E C HR HT hE => ?_)
  replace C : Cx G n E RX9 cX9_owed 3 := C
  refine w_iload_n C 1 dX9_owed_0 rfl rfl ?_
  refine w_iconst C dX9_owed_1 kc_i_m1 ?_
  refine w_icmp_eq C dX9_owed_2 (tgt := 13) rfl (fun c1 => ?_) (fun c1 => ?_)
  · replace hw := hw.1 c1
    exact w_sub [0, 1, 2] rfl (s_X9_owed_13 C HR HT  x1 x2  _ hw)
  · replace hw := hw.2 c1
    refine w_aload_n C 0 dX9_owed_5 rfl rfl ?_
    refine w_iload_n C 1 dX9_owed_6 rfl rfl ?_
    refine back_R (run_V C HR mt_X9_counterAt (ci := 9) rfl (by decide) (Nat.le_of_ble_eq_true rfl) gw726 gw14 gw724 (by decide) rfl (Nat.le_of_ble_eq_true rfl) dX9_owed_7 (As := [.int x1]) rfl (c_X9_counterAt x1  _ _ hw)) (fun M7 hw => ?_) (fun j8 M7 hj8 hw => ?_)
    · replace hw := hw.1 rfl
      refine w_ifnullN C dX9_owed_10 (tgt := 20) rfl ?_
      refine w_bipush C dX9_owed_20 kc_b_m2 ?_
      exact ret_I C HT hw dX9_owed_22
    · replace hw := hw.2 j8 rfl
      refine w_ifnull C dX9_owed_10 ?_
      exact w_sub [0, 1, 2] rfl (s_X9_owed_13 C HR HT  x1 x2  _ hw)
set_option maxRecDepth 100000 in
set_option maxHeartbeats 4000000 in
theorem c_X9_judgment {G : GG} {n : Nat} {l : Launch} (x1 : Int32) (x2 : Int32)  (M : Mem) (Q : Int32 → Mem → Prop) (hw : wp_X9_judgment x1 x2 M Q) : Ct G n l yX9_judgment cX9_judgment 3 (some .int) 1 22 [.ref (gad G 9 0), .int x1, .int x2] M (Qi G n Q) := by
  refine ct_of (by decide) (Nat.le_of_ble_eq_true rfl) (lv := [(0, .ref (gad G 9 0)), (1, .int x1), (2, .int x2)]) rfl (fun E C HR HT hE => ?_)
  replace C : Cx G n E RX9 cX9_judgment 3 := C
  refine w_iload_n C 1 dX9_judgment_0 rfl rfl ?_
  refine w_if_lt C dX9_judgment_1 (tgt := 22) rfl (fun c1 => ?_) (fun c1 => ?_)
  · replace hw := hw.1 c1
    refine w_bipush C dX9_judgment_22 kc_b_m2 ?_
    exact ret_I C HT hw dX9_judgment_24
  · replace hw := hw.2 c1
    refine w_iload_n C 1 dX9_judgment_4 rfl rfl ?_
    refine w_ldcw C dX9_judgment_5 gw906 ?_
    refine w_icmp_gt C dX9_judgment_8 (tgt := 22) rfl (fun c2 => ?_) (fun c2 => ?_)
    · replace hw := hw.1 c2
      refine w_bipush C dX9_judgment_22 kc_b_m2 ?_
      exact ret_I C HT hw dX9_judgment_24
    · replace hw := hw.2 c2
      refine w_iload_n C 2 dX9_judgment_11 rfl rfl ?_
      refine w_if_lt C dX9_judgment_12 (tgt := 22) rfl (fun c3 => ?_) (fun c3 => ?_)
      · replace hw := hw.1 c3
        refine w_bipush C dX9_judgment_22 kc_b_m2 ?_
        exact ret_I C HT hw dX9_judgment_24
      · replace hw := hw.2 c3
        refine w_iload_n C 2 dX9_judgment_15 rfl rfl ?_
        refine w_ldcw C dX9_judgment_16 gw906 ?_
        refine w_icmp_le C dX9_judgment_19 (tgt := 25) rfl (fun c4 => ?_) (fun c4 => ?_)
        · replace hw := hw.1 c4
          refine w_aload_n C 0 dX9_judgment_25 rfl rfl ?_
          refine gf_X9_62 C (Nat.le_of_ble_eq_true rfl) dX9_judgment_26 ?_
          refine w_iload_n C 1 dX9_judgment_29 rfl rfl ?_
          refine w_iload_n C 2 dX9_judgment_30 rfl rfl ?_
          refine back_I (run_V C HR mt_X1_add (ci := 1) rfl (by decide) (Nat.le_of_ble_eq_true rfl) gw908 gw909 gw907 (by decide) rfl (Nat.le_of_ble_eq_true rfl) dX9_judgment_31 (As := [.int x1, .int x2]) rfl (c_X1_add x1 x2  _ _ hw)) (fun r6 M5 hw => ?_)
          exact ret_I C HT hw dX9_judgment_34
        · replace hw := hw.2 c4
          refine w_bipush C dX9_judgment_22 kc_b_m2 ?_
          exact ret_I C HT hw dX9_judgment_24
set_option maxRecDepth 100000 in
set_option maxHeartbeats 4000000 in
theorem s_X9_ground_44 {G : GG} {n : Nat} {E : EE} (C : Cx G n E RX9 cX9_ground 4) (HR : RM E 0 0) (HT : RT E (some .int)) {Q : Int32 → Mem → Prop}  : ∀ (y0 : Int32)  (M : Mem), w_X9_ground_44 Q  y0 M → WW G n E 4 (QE G E (Qi G n Q)) 44 [(0, .ref (gad G 9 0))] [.int y0] M := by
  intro y0 M hw
  refine w_istore_n C (lv' := [(3, .int y0), (0, .ref (gad G 9 0))]) dX9_ground_44 rfl (by decide) rfl ?_
  refine w_iload_n C 0 dX9_ground_45 rfl rfl ?_
  refine w_aload_n C 1 dX9_ground_46 rfl rfl ?_
  refine gf_X9_62 C (Nat.le_of_ble_eq_true rfl) dX9_ground_47 ?_
  refine gf_X9_283 C (Nat.le_of_ble_eq_true rfl) dX9_ground_50 ?_
  refine w_icmp_ne C dX9_ground_53 (tgt := 58) rfl (fun c4 => ?_) (fun c4 => ?_)
  · replace hw := hw.2 c4
    refine w_aload_n C 1 dX9_ground_58 rfl rfl ?_
    refine gf_X9_62 C (Nat.le_of_ble_eq_true rfl) dX9_ground_59 ?_
    refine w_iload_n C 0 dX9_ground_62 rfl rfl ?_
    refine pf_X9_283 C (Nat.le_of_ble_eq_true rfl) dX9_ground_63 (w_mem fun M5 eM5 => ?_)
    replace hw := hw M5 eM5
    refine w_iconst C dX9_ground_66 kc_i_1 ?_
    exact ret_I C HT hw dX9_ground_67
  · replace hw := hw.1 c4
    refine w_iconst C dX9_ground_56 kc_i_0 ?_
    exact ret_I C HT hw dX9_ground_57
set_option maxRecDepth 100000 in
set_option maxHeartbeats 4000000 in
theorem c_X9_ground {G : GG} {n : Nat} {l : Launch} (x1 : Int32) (x2 : Int32)  (M : Mem) (Q : Int32 → Mem → Prop) (hw : wp_X9_ground x1 x2 M Q) : Ct G n l yX9_ground cX9_ground 4 (some .int) 0 0 [.ref (gad G 9 0), .int x1, .int x2] M (Qi G n Q) := by
  refine ct_of (by decide) (Nat.le_of_ble_eq_true rfl) (lv := [(0, .ref (gad G 9 0)), (1, .int x1), (2, .int x2)]) rfl (fun E C HR HT hE => ?_)
  replace C : Cx G n E RX9 cX9_ground 4 := C
  refine w_iload_n C 1 dX9_ground_0 rfl rfl ?_
  refine w_if_lt C dX9_ground_1 (tgt := 10) rfl (fun c1 => ?_) (fun c1 => ?_)
  · replace hw := hw.1 c1
    refine w_bipush C dX9_ground_10 kc_b_m2 ?_
    exact ret_I C HT hw dX9_ground_12
  · replace hw := hw.2 c1
    refine w_iload_n C 1 dX9_ground_4 rfl rfl ?_
    refine w_bipush C dX9_ground_5 kc_b_8 ?_
    refine w_icmp_lt C dX9_ground_7 (tgt := 13) rfl (fun c2 => ?_) (fun c2 => ?_)
    · replace hw := hw.1 c2
      refine w_iload_n C 2 dX9_ground_13 rfl rfl ?_
      refine w_if_eq C dX9_ground_14 (tgt := 31) rfl (fun c3 => ?_) (fun c3 => ?_)
      · replace hw := hw.1 c3
        refine w_aload_n C 0 dX9_ground_31 rfl rfl ?_
        refine gf_X9_62 C (Nat.le_of_ble_eq_true rfl) dX9_ground_32 ?_
        refine gf_X9_283 C (Nat.le_of_ble_eq_true rfl) dX9_ground_35 ?_
        refine w_iconst C dX9_ground_38 kc_i_1 ?_
        refine w_iload_n C 1 dX9_ground_39 rfl rfl ?_
        refine w_ishl C dX9_ground_40 ?_
        refine w_iconst C dX9_ground_41 kc_i_m1 ?_
        refine w_ixor C dX9_ground_42 ?_
        refine w_iand C dX9_ground_43 ?_
        exact w_sub [0] rfl (s_X9_ground_44 C HR HT  ((M 253 0 0) &&& ((1 <<< (x1 &&& 31)) ^^^ (-1)))  _ hw)
      · replace hw := hw.2 c3
        refine w_aload_n C 0 dX9_ground_17 rfl rfl ?_
        refine gf_X9_62 C (Nat.le_of_ble_eq_true rfl) dX9_ground_18 ?_
        refine gf_X9_283 C (Nat.le_of_ble_eq_true rfl) dX9_ground_21 ?_
        refine w_iconst C dX9_ground_24 kc_i_1 ?_
        refine w_iload_n C 1 dX9_ground_25 rfl rfl ?_
        refine w_ishl C dX9_ground_26 ?_
        refine w_ior C dX9_ground_27 ?_
        refine w_goto C dX9_ground_28 (tgt := 44) rfl ?_
        exact w_sub [0] rfl (s_X9_ground_44 C HR HT  ((M 253 0 0) ||| (1 <<< (x1 &&& 31)))  _ hw)
    · replace hw := hw.2 c2
      refine w_bipush C dX9_ground_10 kc_b_m2 ?_
      exact ret_I C HT hw dX9_ground_12
set_option maxRecDepth 100000 in
set_option maxHeartbeats 4000000 in
theorem c_X9_standing {G : GG} {n : Nat} {l : Launch}   (M : Mem) (Q : Int32 → Mem → Prop) (hw : wp_X9_standing  M Q) : Ct G n l yX9_standing cX9_standing 1 (some .int) 1 25 [.ref (gad G 9 0)] M (Qi G n Q) := by
  refine ct_of (by decide) (Nat.le_of_ble_eq_true rfl) (lv := [(0, .ref (gad G 9 0))]) rfl (fun E C HR HT hE => ?_)
  replace C : Cx G n E RX9 cX9_standing 1 := C
  refine w_aload_n C 0 dX9_standing_0 rfl rfl ?_
  refine gf_X9_62 C (Nat.le_of_ble_eq_true rfl) dX9_standing_1 ?_
  refine w_aload_n C 0 dX9_standing_4 rfl rfl ?_
  refine gf_X9_62 C (Nat.le_of_ble_eq_true rfl) dX9_standing_5 ?_
  refine gf_X9_283 C (Nat.le_of_ble_eq_true rfl) dX9_standing_8 ?_
  refine back_I (run_V C HR mt_X1_ledBackTo (ci := 1) rfl (by decide) (Nat.le_of_ble_eq_true rfl) gw920 gw921 gw919 (by decide) rfl (Nat.le_of_ble_eq_true rfl) dX9_standing_11 (As := [.int (M 253 0 0)]) rfl (c_X1_ledBackTo (M 253 0 0)  _ _ hw)) (fun r2 M1 hw => ?_)
  exact ret_I C HT hw dX9_standing_14
set_option maxRecDepth 100000 in
set_option maxHeartbeats 4000000 in
theorem c_X9_falling {G : GG} {n : Nat} {l : Launch} (x1 : Int32)  (M : Mem) (Q : Int32 → Mem → Prop) (hw : wp_X9_falling x1 M Q) : Ct G n l yX9_falling cX9_falling 2 (some .int) 1 25 [.ref (gad G 9 0), .int x1] M (Qi G n Q) := by
  refine ct_of (by decide) (Nat.le_of_ble_eq_true rfl) (lv := [(0, .ref (gad G 9 0)), (1, .int x1)]) rfl (fun E C HR HT hE => ?_)
  replace C : Cx G n E RX9 cX9_falling 2 := C
  refine w_iload_n C 1 dX9_falling_0 rfl rfl ?_
  refine w_if_lt C dX9_falling_1 (tgt := 10) rfl (fun c1 => ?_) (fun c1 => ?_)
  · replace hw := hw.1 c1
    refine w_bipush C dX9_falling_10 kc_b_m2 ?_
    exact ret_I C HT hw dX9_falling_12
  · replace hw := hw.2 c1
    refine w_iload_n C 1 dX9_falling_4 rfl rfl ?_
    refine w_bipush C dX9_falling_5 kc_b_8 ?_
    refine w_icmp_lt C dX9_falling_7 (tgt := 13) rfl (fun c2 => ?_) (fun c2 => ?_)
    · replace hw := hw.1 c2
      refine w_aload_n C 0 dX9_falling_13 rfl rfl ?_
      refine gf_X9_62 C (Nat.le_of_ble_eq_true rfl) dX9_falling_14 ?_
      refine w_aload_n C 0 dX9_falling_17 rfl rfl ?_
      refine gf_X9_62 C (Nat.le_of_ble_eq_true rfl) dX9_falling_18 ?_
      refine gf_X9_283 C (Nat.le_of_ble_eq_true rfl) dX9_falling_21 ?_
      refine back_I (run_V C HR mt_X1_ledBackTo (ci := 1) rfl (by decide) (Nat.le_of_ble_eq_true rfl) gw920 gw921 gw919 (by decide) rfl (Nat.le_of_ble_eq_true rfl) dX9_falling_24 (As := [.int (M 253 0 0)]) rfl (c_X1_ledBackTo (M 253 0 0)  _ _ hw)) (fun r4 M3 hw => ?_)
      refine w_aload_n C 0 dX9_falling_27 rfl rfl ?_
      refine gf_X9_62 C (Nat.le_of_ble_eq_true rfl) dX9_falling_28 ?_
      refine w_aload_n C 0 dX9_falling_31 rfl rfl ?_
      refine gf_X9_62 C (Nat.le_of_ble_eq_true rfl) dX9_falling_32 ?_
      refine gf_X9_283 C (Nat.le_of_ble_eq_true rfl) dX9_falling_35 ?_
      refine w_iconst C dX9_falling_38 kc_i_1 ?_
      refine w_iload_n C 1 dX9_falling_39 rfl rfl ?_
      refine w_ishl C dX9_falling_40 ?_
      refine w_iconst C dX9_falling_41 kc_i_m1 ?_
      refine w_ixor C dX9_falling_42 ?_
      refine w_iand C dX9_falling_43 ?_
      refine back_I (run_V C HR mt_X1_ledBackTo (ci := 1) rfl (by decide) (Nat.le_of_ble_eq_true rfl) gw920 gw921 gw919 (by decide) rfl (Nat.le_of_ble_eq_true rfl) dX9_falling_44 (As := [.int ((M3 253 0 0) &&& ((1 <<< (x1 &&& 31)) ^^^ (-1)))]) rfl (c_X1_ledBackTo ((M3 253 0 0) &&& ((1 <<< (x1 &&& 31)) ^^^ (-1)))  _ _ hw)) (fun r6 M5 hw => ?_)
      refine w_iconst C dX9_falling_47 kc_i_m1 ?_
      refine w_ixor C dX9_falling_48 ?_
      refine w_iand C dX9_falling_49 ?_
      exact ret_I C HT hw dX9_falling_50
    · replace hw := hw.2 c2
      refine w_bipush C dX9_falling_10 kc_b_m2 ?_
      exact ret_I C HT hw dX9_falling_12
set_option maxRecDepth 100000 in
set_option maxHeartbeats 4000000 in
theorem s_X9_costOfQueue_56 {G : GG} {n : Nat} {E : EE} (C : Cx G n E RX9 cX9_costOfQueue 6) (HR : RM E 1 21) (HT : RT E (some .int)) {Q : Int32 → Mem → Prop} {K7 : Int32 → Int32 → Int32 → Int32 → Mem → Prop} (g7 : ∀ (x1 : Int32) (x2 : Int32) (x3 : Int32) (x4 : Int32)  (M : Mem), K7 x1 x2 x3 x4 M → WW G n E 6 (QE G E (Qi G n Q)) 7 [(0, .ref (gad G 9 0)), (1, .int x1), (2, .int x2), (3, .int x3), (4, .int x4)] [] M) : ∀ (x1 : Int32) (x2 : Int32) (x3 : Int32) (x4 : Int32)  (M : Mem), w_X9_costOfQueue_56 Q K7 x1 x2 x3 x4 M → WW G n E 6 (QE G E (Qi G n Q)) 56 [(0, .ref (gad G 9 0)), (1, .int x1), (2, .int x2), (3, .int x3), (4, .int x4)] [] M := by
  intro x1 x2 x3 x4 M hw
  refine w_iincV C (lv' := [(4, .int (x4 + 1)), (0, .ref (gad G 9 0)), (1, .int x1), (2, .int x2), (3, .int x3)]) 4 dX9_costOfQueue_56 kc_i_1 rfl (by decide) rfl ?_
  refine w_goto C dX9_costOfQueue_59 (tgt := 7) rfl ?_
  exact w_sub [1, 2, 3, 4, 0] rfl (g7 x1 x2 x3 (x4 + 1)  _ hw)
set_option maxRecDepth 100000 in
set_option maxHeartbeats 4000000 in
theorem s_X9_costOfQueue_7 {G : GG} {n : Nat} {E : EE} (C : Cx G n E RX9 cX9_costOfQueue 6) (HR : RM E 1 21) (HT : RT E (some .int)) {Q : Int32 → Mem → Prop}  : ∀ (f : Nat) (x1 : Int32) (x2 : Int32) (x3 : Int32) (x4 : Int32)  (M : Mem), w_X9_costOfQueue_7 Q  f x1 x2 x3 x4 M → WW G n E 6 (QE G E (Qi G n Q)) 7 [(0, .ref (gad G 9 0)), (1, .int x1), (2, .int x2), (3, .int x3), (4, .int x4)] [] M := by
  intro f
  induction f with
  | zero => intro x1 x2 x3 x4 M hw; exact hw.elim
  | succ f ih =>
    intro x1 x2 x3 x4 M hw
    refine w_iload C 4 dX9_costOfQueue_7 rfl ?_
    refine w_iload_n C 1 dX9_costOfQueue_9 rfl rfl ?_
    refine w_icmp_ge C dX9_costOfQueue_10 (tgt := 62) rfl (fun c2 => ?_) (fun c2 => ?_)
    · replace hw := hw.1 c2
      refine w_iload_n C 2 dX9_costOfQueue_62 rfl rfl ?_
      exact ret_I C HT hw dX9_costOfQueue_63
    · replace hw := hw.2 c2
      refine w_iload C 4 dX9_costOfQueue_13 rfl ?_
      refine w_bipush C dX9_costOfQueue_15 kc_b_8 ?_
      refine w_icmp_ge C dX9_costOfQueue_17 (tgt := 62) rfl (fun c3 => ?_) (fun c3 => ?_)
      · replace hw := hw.1 c3
        refine w_iload_n C 2 dX9_costOfQueue_62 rfl rfl ?_
        exact ret_I C HT hw dX9_costOfQueue_63
      · replace hw := hw.2 c3
        refine w_aload_n C 0 dX9_costOfQueue_20 rfl rfl ?_
        refine w_aload_n C 0 dX9_costOfQueue_21 rfl rfl ?_
        refine gf_X9_27 C (Nat.le_of_ble_eq_true rfl) dX9_costOfQueue_22 ?_
        refine w_iload C 4 dX9_costOfQueue_25 rfl ?_
        obtain ⟨b4, hw⟩ := hw
        refine v_iald C ak_52 rfl (Nat.le_of_ble_eq_true rfl) b4 dX9_costOfQueue_27 ?_
        refine back_R (run_V C HR mt_X9_counterAt (ci := 9) rfl (by decide) (Nat.le_of_ble_eq_true rfl) gw726 gw14 gw724 (by decide) rfl (Nat.le_of_ble_eq_true rfl) dX9_costOfQueue_28 (As := [.int (M 52 0 x4.toNatClampNeg)]) rfl (c_X9_counterAt (M 52 0 x4.toNatClampNeg)  _ _ hw)) (fun M5 hw => ?_) (fun j6 M5 hj6 hw => ?_)
        · replace hw := hw.1 rfl
          refine w_astoreN C (lv' := [(5, .null), (0, .ref (gad G 9 0)), (1, .int x1), (2, .int x2), (3, .int x3), (4, .int x4)]) dX9_costOfQueue_31 (by decide) rfl ?_
          refine w_aloadN C 0 dX9_costOfQueue_33 rfl ?_
          refine w_ifnullN C dX9_costOfQueue_35 (tgt := 56) rfl ?_
          exact w_sub [1, 2, 3, 4, 5] rfl (s_X9_costOfQueue_56 C HR HT ih x1 x2 x3 x4  _ hw)
        · replace hw := hw.2 j6 rfl
          refine w_astore C (lv' := [(5, .ref (gad G 0 j6)), (0, .ref (gad G 9 0)), (1, .int x1), (2, .int x2), (3, .int x3), (4, .int x4)]) dX9_costOfQueue_31 (by decide) rfl ?_
          refine w_aload C 0 dX9_costOfQueue_33 rfl ?_
          refine w_ifnull C dX9_costOfQueue_35 ?_
          refine w_iload_n C 4 dX9_costOfQueue_38 rfl rfl ?_
          refine w_aload C 0 dX9_costOfQueue_39 rfl ?_
          refine gf_X9_299 C hj6 dX9_costOfQueue_41 ?_
          refine w_iadd C dX9_costOfQueue_44 ?_
          refine w_istore_nV C dX9_costOfQueue_45 rfl (by decide) (fun a8 ea8 => w_lv (lv' := [(3, .int a8), (5, .ref (gad G 0 j6)), (0, .ref (gad G 9 0)), (1, .int x1), (2, .int x2), (4, .int x4)]) rfl ?_)
          replace hw := hw a8 ea8
          refine w_iload_n C 4 dX9_costOfQueue_46 rfl rfl ?_
          refine w_iload_n C 0 dX9_costOfQueue_47 rfl rfl ?_
          refine w_aload C 1 dX9_costOfQueue_48 rfl ?_
          refine gf_X9_302 C hj6 dX9_costOfQueue_50 ?_
          refine w_imul C dX9_costOfQueue_53 ?_
          refine w_iadd C dX9_costOfQueue_54 ?_
          refine w_istore_nV C dX9_costOfQueue_55 rfl (by decide) (fun a9 ea9 => w_lv (lv' := [(2, .int a9), (3, .int a8), (5, .ref (gad G 0 j6)), (0, .ref (gad G 9 0)), (1, .int x1), (4, .int x4)]) rfl ?_)
          replace hw := hw a9 ea9
          exact w_sub [3, 4, 0, 1, 5] rfl (s_X9_costOfQueue_56 C HR HT ih x1 a9 a8 x4  _ hw)
set_option maxRecDepth 100000 in
set_option maxHeartbeats 4000000 in
theorem c_X9_costOfQueue {G : GG} {n : Nat} {l : Launch} (x1 : Int32)  (M : Mem) (Q : Int32 → Mem → Prop) (hw : wp_X9_costOfQueue x1 M Q) : Ct G n l yX9_costOfQueue cX9_costOfQueue 6 (some .int) 1 21 [.ref (gad G 9 0), .int x1] M (Qi G n Q) := by
  refine ct_of (by decide) (Nat.le_of_ble_eq_true rfl) (lv := [(0, .ref (gad G 9 0)), (1, .int x1)]) rfl (fun E C HR HT hE => ?_)
  replace C : Cx G n E RX9 cX9_costOfQueue 6 := C
  refine w_iconst C dX9_costOfQueue_0 kc_i_0 ?_
  refine w_istore_n C (lv' := [(2, .int 0), (0, .ref (gad G 9 0)), (1, .int x1)]) dX9_costOfQueue_1 rfl (by decide) rfl ?_
  refine w_iconst C dX9_costOfQueue_2 kc_i_0 ?_
  refine w_istore_n C (lv' := [(3, .int 0), (2, .int 0), (0, .ref (gad G 9 0)), (1, .int x1)]) dX9_costOfQueue_3 rfl (by decide) rfl ?_
  refine w_iconst C dX9_costOfQueue_4 kc_i_0 ?_
  refine w_istore C (lv' := [(4, .int 0), (3, .int 0), (2, .int 0), (0, .ref (gad G 9 0)), (1, .int x1)]) dX9_costOfQueue_5 (by decide) rfl ?_
  obtain ⟨f1, hw⟩ := hw
  exact w_sub [3, 4, 2, 1, 0] rfl (s_X9_costOfQueue_7 C HR HT  f1 x1 0 0 0  _ hw)
set_option maxRecDepth 100000 in
set_option maxHeartbeats 4000000 in
theorem c_X9_isBefore {G : GG} {n : Nat} {l : Launch} (x1 : Int32) (x2 : Int32)  (M : Mem) (Q : Int32 → Mem → Prop) (hw : wp_X9_isBefore x1 x2 M Q) : Ct G n l yX9_isBefore cX9_isBefore 5 (some .boolean) 1 21 [.ref (gad G 9 0), .int x1, .int x2] M (Qi G n Q) := by
  refine ct_of (by decide) (Nat.le_of_ble_eq_true rfl) (lv := [(0, .ref (gad G 9 0)), (1, .int x1), (2, .int x2)]) rfl (fun E C HR HT hE => ?_)
  replace C : Cx G n E RX9 cX9_isBefore 5 := C
  refine w_aload_n C 0 dX9_isBefore_0 rfl rfl ?_
  refine w_iload_n C 1 dX9_isBefore_1 rfl rfl ?_
  refine back_R (run_V C HR mt_X9_counterAt (ci := 9) rfl (by decide) (Nat.le_of_ble_eq_true rfl) gw726 gw14 gw724 (by decide) rfl (Nat.le_of_ble_eq_true rfl) dX9_isBefore_2 (As := [.int x1]) rfl (c_X9_counterAt x1  _ _ hw)) (fun M1 hw => ?_) (fun j2 M1 hj2 hw => ?_)
  · replace hw := hw.1 rfl
    refine w_astore_nN C (lv' := [(3, .null), (0, .ref (gad G 9 0)), (1, .int x1), (2, .int x2)]) dX9_isBefore_5 rfl (by decide) rfl ?_
    refine w_aload_n C 1 dX9_isBefore_6 rfl rfl ?_
    refine w_iload_n C 3 dX9_isBefore_7 rfl rfl ?_
    refine back_R (run_V C HR mt_X9_counterAt (ci := 9) rfl (by decide) (Nat.le_of_ble_eq_true rfl) gw726 gw14 gw724 (by decide) rfl (Nat.le_of_ble_eq_true rfl) dX9_isBefore_8 (As := [.int x2]) rfl (c_X9_counterAt x2  _ _ hw)) (fun M4 hw => ?_) (fun j5 M4 hj5 hw => ?_)
    · replace hw := hw.1 rfl
      refine w_astoreN C (lv' := [(4, .null), (3, .null), (0, .ref (gad G 9 0)), (1, .int x1), (2, .int x2)]) dX9_isBefore_11 (by decide) rfl ?_
      refine w_aload_nN C 1 dX9_isBefore_13 rfl rfl ?_
      refine w_ifnullN C dX9_isBefore_14 (tgt := 49) rfl ?_
      refine w_iconst C dX9_isBefore_49 kc_i_0 ?_
      exact ret_Z C HT rfl hw dX9_isBefore_50
    · replace hw := hw.2 j5 rfl
      refine w_astore C (lv' := [(4, .ref (gad G 0 j5)), (3, .null), (0, .ref (gad G 9 0)), (1, .int x1), (2, .int x2)]) dX9_isBefore_11 (by decide) rfl ?_
      refine w_aload_nN C 1 dX9_isBefore_13 rfl rfl ?_
      refine w_ifnullN C dX9_isBefore_14 (tgt := 49) rfl ?_
      refine w_iconst C dX9_isBefore_49 kc_i_0 ?_
      exact ret_Z C HT rfl hw dX9_isBefore_50
  · replace hw := hw.2 j2 rfl
    refine w_astore_n C (lv' := [(3, .ref (gad G 0 j2)), (0, .ref (gad G 9 0)), (1, .int x1), (2, .int x2)]) dX9_isBefore_5 rfl (by decide) rfl ?_
    refine w_aload_n C 1 dX9_isBefore_6 rfl rfl ?_
    refine w_iload_n C 3 dX9_isBefore_7 rfl rfl ?_
    refine back_R (run_V C HR mt_X9_counterAt (ci := 9) rfl (by decide) (Nat.le_of_ble_eq_true rfl) gw726 gw14 gw724 (by decide) rfl (Nat.le_of_ble_eq_true rfl) dX9_isBefore_8 (As := [.int x2]) rfl (c_X9_counterAt x2  _ _ hw)) (fun M7 hw => ?_) (fun j8 M7 hj8 hw => ?_)
    · replace hw := hw.1 rfl
      refine w_astoreN C (lv' := [(4, .null), (3, .ref (gad G 0 j2)), (0, .ref (gad G 9 0)), (1, .int x1), (2, .int x2)]) dX9_isBefore_11 (by decide) rfl ?_
      refine w_aload_n C 1 dX9_isBefore_13 rfl rfl ?_
      refine w_ifnull C dX9_isBefore_14 ?_
      refine w_aloadN C 0 dX9_isBefore_17 rfl ?_
      refine w_ifnullN C dX9_isBefore_19 (tgt := 49) rfl ?_
      refine w_iconst C dX9_isBefore_49 kc_i_0 ?_
      exact ret_Z C HT rfl hw dX9_isBefore_50
    · replace hw := hw.2 j8 rfl
      refine w_astore C (lv' := [(4, .ref (gad G 0 j8)), (3, .ref (gad G 0 j2)), (0, .ref (gad G 9 0)), (1, .int x1), (2, .int x2)]) dX9_isBefore_11 (by decide) rfl ?_
      refine w_aload_n C 1 dX9_isBefore_13 rfl rfl ?_
      refine w_ifnull C dX9_isBefore_14 ?_
      refine w_aload C 0 dX9_isBefore_17 rfl ?_
      refine w_ifnull C dX9_isBefore_19 ?_
      refine w_aload_n C 1 dX9_isBefore_22 rfl rfl ?_
      refine gf_X9_299 C hj2 dX9_isBefore_23 ?_
      refine w_aload C 0 dX9_isBefore_26 rfl ?_
      refine gf_X9_302 C hj8 dX9_isBefore_28 ?_
      refine w_imul C dX9_isBefore_31 ?_
      refine w_aload C 0 dX9_isBefore_32 rfl ?_
      refine gf_X9_299 C hj8 dX9_isBefore_34 ?_
      refine w_aload_n C 1 dX9_isBefore_37 rfl rfl ?_
      refine gf_X9_302 C hj2 dX9_isBefore_38 ?_
      refine w_imul C dX9_isBefore_41 ?_
      refine w_icmp_ge C dX9_isBefore_42 (tgt := 49) rfl (fun c10 => ?_) (fun c10 => ?_)
      · replace hw := hw.1 c10
        refine w_iconst C dX9_isBefore_49 kc_i_0 ?_
        exact ret_Z C HT rfl hw dX9_isBefore_50
      · replace hw := hw.2 c10
        refine w_iconst C dX9_isBefore_45 kc_i_1 ?_
        refine w_goto C dX9_isBefore_46 (tgt := 50) rfl ?_
        exact ret_Z C HT rfl hw dX9_isBefore_50
set_option maxRecDepth 100000 in
set_option maxHeartbeats 4000000 in
theorem s_X9_enqueue_53 {G : GG} {n : Nat} {E : EE} (C : Cx G n E RX9 cX9_enqueue 4) (HR : RM E 2 45) (HT : RT E none) {Q : Mem → Prop}  : ∀ (x1 : Int32) (x3 : Int32)  (M : Mem), w_X9_enqueue_53 Q  x1 x3 M → WW G n E 4 (QE G E (Qv G n Q)) 53 [(0, .ref (gad G 9 0)), (1, .int x1), (3, .int x3)] [] M := by
  intro x1 x3 M hw
  refine w_aload_n C 0 dX9_enqueue_53 rfl rfl ?_
  refine gf_X9_27 C (Nat.le_of_ble_eq_true rfl) dX9_enqueue_54 ?_
  refine w_iload_n C 2 dX9_enqueue_57 rfl rfl ?_
  refine w_iload_n C 1 dX9_enqueue_58 rfl rfl ?_
  obtain ⟨b5, hw⟩ := hw
  refine v_iast C ak_52 rfl (Nat.le_of_ble_eq_true rfl) b5 dX9_enqueue_59 (w_mem fun M6 eM6 => ?_)
  replace hw := hw M6 eM6
  exact ret_V C HT hw dX9_enqueue_60
set_option maxRecDepth 100000 in
set_option maxHeartbeats 4000000 in
theorem s_X9_enqueue_13 {G : GG} {n : Nat} {E : EE} (C : Cx G n E RX9 cX9_enqueue 4) (HR : RM E 2 45) (HT : RT E none) {Q : Mem → Prop}  : ∀ (f : Nat) (x1 : Int32) (x3 : Int32)  (M : Mem), w_X9_enqueue_13 Q  f x1 x3 M → WW G n E 4 (QE G E (Qv G n Q)) 13 [(0, .ref (gad G 9 0)), (1, .int x1), (3, .int x3)] [] M := by
  intro f
  induction f with
  | zero => intro x1 x3 M hw; exact hw.elim
  | succ f ih =>
    intro x1 x3 M hw
    refine w_iload_n C 2 dX9_enqueue_13 rfl rfl ?_
    refine w_if_le C dX9_enqueue_14 (tgt := 53) rfl (fun c4 => ?_) (fun c4 => ?_)
    · replace hw := hw.1 c4
      exact w_sub [0, 1, 2] rfl (s_X9_enqueue_53 C HR HT  x1 x3  _ hw)
    · replace hw := hw.2 c4
      refine w_aload_n C 0 dX9_enqueue_17 rfl rfl ?_
      refine w_iload_n C 1 dX9_enqueue_18 rfl rfl ?_
      refine w_aload_n C 0 dX9_enqueue_19 rfl rfl ?_
      refine gf_X9_27 C (Nat.le_of_ble_eq_true rfl) dX9_enqueue_20 ?_
      refine w_iload_n C 2 dX9_enqueue_23 rfl rfl ?_
      refine w_iconst C dX9_enqueue_24 kc_i_1 ?_
      refine w_isub C dX9_enqueue_25 ?_
      obtain ⟨b7, hw⟩ := hw
      refine v_iald C ak_52 rfl (Nat.le_of_ble_eq_true rfl) b7 dX9_enqueue_26 ?_
      refine back_I (run_V C HR mt_X9_isBefore (ci := 9) rfl (by decide) (Nat.le_of_ble_eq_true rfl) gw937 gw33 gw935 (by decide) rfl (Nat.le_of_ble_eq_true rfl) dX9_enqueue_27 (As := [.int x1, .int (M 52 0 (x3 - 1).toNatClampNeg)]) rfl (c_X9_isBefore x1 (M 52 0 (x3 - 1).toNatClampNeg)  _ _ hw)) (fun r9 M8 hw => ?_)
      refine w_if_eq C dX9_enqueue_30 (tgt := 53) rfl (fun c10 => ?_) (fun c10 => ?_)
      · replace hw := hw.1 c10
        exact w_sub [0, 1, 2] rfl (s_X9_enqueue_53 C HR HT  x1 x3  _ hw)
      · replace hw := hw.2 c10
        refine w_aload_n C 0 dX9_enqueue_33 rfl rfl ?_
        refine gf_X9_27 C (Nat.le_of_ble_eq_true rfl) dX9_enqueue_34 ?_
        refine w_iload_n C 2 dX9_enqueue_37 rfl rfl ?_
        refine w_aload_n C 0 dX9_enqueue_38 rfl rfl ?_
        refine gf_X9_27 C (Nat.le_of_ble_eq_true rfl) dX9_enqueue_39 ?_
        refine w_iload_n C 2 dX9_enqueue_42 rfl rfl ?_
        refine w_iconst C dX9_enqueue_43 kc_i_1 ?_
        refine w_isub C dX9_enqueue_44 ?_
        obtain ⟨b11, hw⟩ := hw
        refine v_iald C ak_52 rfl (Nat.le_of_ble_eq_true rfl) b11 dX9_enqueue_45 ?_
        obtain ⟨b12, hw⟩ := hw
        refine v_iast C ak_52 rfl (Nat.le_of_ble_eq_true rfl) b12 dX9_enqueue_46 (w_mem fun M13 eM13 => ?_)
        replace hw := hw M13 eM13
        refine w_iincV C (lv' := [(3, .int (x3 + (-1))), (0, .ref (gad G 9 0)), (1, .int x1)]) 2 dX9_enqueue_47 kc_i_m1 rfl (by decide) rfl ?_
        refine w_goto C dX9_enqueue_50 (tgt := 13) rfl ?_
        exact w_sub [1, 2, 0] rfl (ih x1 (x3 + (-1))  _ hw)
set_option maxRecDepth 100000 in
set_option maxHeartbeats 4000000 in
theorem c_X9_enqueue {G : GG} {n : Nat} {l : Launch} (x1 : Int32) (x2 : Int32)  (M : Mem) (Q : Mem → Prop) (hw : wp_X9_enqueue x1 x2 M Q) : Ct G n l yX9_enqueue cX9_enqueue 4 none 2 45 [.ref (gad G 9 0), .int x1, .int x2] M (Qv G n Q) := by
  refine ct_of (by decide) (Nat.le_of_ble_eq_true rfl) (lv := [(0, .ref (gad G 9 0)), (1, .int x1), (2, .int x2)]) rfl (fun E C HR HT hE => ?_)
  replace C : Cx G n E RX9 cX9_enqueue 4 := C
  refine w_iload_n C 2 dX9_enqueue_0 rfl rfl ?_
  refine w_if_lt C dX9_enqueue_1 (tgt := 10) rfl (fun c1 => ?_) (fun c1 => ?_)
  · replace hw := hw.1 c1
    exact ret_V C HT hw dX9_enqueue_10
  · replace hw := hw.2 c1
    refine w_iload_n C 2 dX9_enqueue_4 rfl rfl ?_
    refine w_bipush C dX9_enqueue_5 kc_b_8 ?_
    refine w_icmp_lt C dX9_enqueue_7 (tgt := 11) rfl (fun c2 => ?_) (fun c2 => ?_)
    · replace hw := hw.1 c2
      refine w_iload_n C 2 dX9_enqueue_11 rfl rfl ?_
      refine w_istore_n C (lv' := [(3, .int x2), (0, .ref (gad G 9 0)), (1, .int x1), (2, .int x2)]) dX9_enqueue_12 rfl (by decide) rfl ?_
      obtain ⟨f3, hw⟩ := hw
      exact w_sub [1, 2, 0] rfl (s_X9_enqueue_13 C HR HT  f3 x1 x2  _ hw)
    · replace hw := hw.2 c2
      exact ret_V C HT hw dX9_enqueue_10
set_option maxRecDepth 100000 in
set_option maxHeartbeats 4000000 in
theorem s_X9_order_74 {G : GG} {n : Nat} {E : EE} (C : Cx G n E RX9 cX9_order 6) (HR : RM E 3 68) (HT : RT E (some .int)) {Q : Int32 → Mem → Prop} {K44 : Int32 → Int32 → Int32 → Int32 → Mem → Prop} (g44 : ∀ (x1 : Int32) (x2 : Int32) (x4 : Int32) (x5 : Int32)  (M : Mem), K44 x1 x2 x4 x5 M → WW G n E 6 (QE G E (Qi G n Q)) 44 [(0, .ref (gad G 9 0)), (1, .int x1), (2, .int x2), (4, .int x4), (5, .int x5)] [] M) : ∀ (x1 : Int32) (x2 : Int32) (x4 : Int32) (x5 : Int32)  (M : Mem), w_X9_order_74 Q K44 x1 x2 x4 x5 M → WW G n E 6 (QE G E (Qi G n Q)) 74 [(0, .ref (gad G 9 0)), (1, .int x1), (2, .int x2), (4, .int x4), (5, .int x5)] [] M := by
  intro x1 x2 x4 x5 M hw
  refine w_iincV C (lv' := [(5, .int (x5 + 1)), (0, .ref (gad G 9 0)), (1, .int x1), (2, .int x2), (4, .int x4)]) 4 dX9_order_74 kc_i_1 rfl (by decide) rfl ?_
  refine w_goto C dX9_order_77 (tgt := 44) rfl ?_
  exact w_sub [1, 2, 3, 4, 0] rfl (g44 x1 x2 x4 (x5 + 1)  _ hw)
set_option maxRecDepth 100000 in
set_option maxHeartbeats 4000000 in
theorem s_X9_order_44 {G : GG} {n : Nat} {E : EE} (C : Cx G n E RX9 cX9_order 6) (HR : RM E 3 68) (HT : RT E (some .int)) {Q : Int32 → Mem → Prop}  : ∀ (f : Nat) (x1 : Int32) (x2 : Int32) (x4 : Int32) (x5 : Int32)  (M : Mem), w_X9_order_44 Q  f x1 x2 x4 x5 M → WW G n E 6 (QE G E (Qi G n Q)) 44 [(0, .ref (gad G 9 0)), (1, .int x1), (2, .int x2), (4, .int x4), (5, .int x5)] [] M := by
  intro f
  induction f with
  | zero => intro x1 x2 x4 x5 M hw; exact hw.elim
  | succ f ih =>
    intro x1 x2 x4 x5 M hw
    refine w_iload C 4 dX9_order_44 rfl ?_
    refine w_aload_n C 0 dX9_order_46 rfl rfl ?_
    refine gf_X9_66 C (Nat.le_of_ble_eq_true rfl) dX9_order_47 ?_
    refine w_icmp_ge C dX9_order_50 (tgt := 80) rfl (fun c9 => ?_) (fun c9 => ?_)
    · replace hw := hw.1 c9
      refine w_iload_n C 2 dX9_order_80 rfl rfl ?_
      refine w_iconst C dX9_order_81 kc_i_m1 ?_
      refine w_icmp_ne C dX9_order_82 (tgt := 94) rfl (fun c10 => ?_) (fun c10 => ?_)
      · replace hw := hw.2 c10
        refine w_aload_n C 0 dX9_order_94 rfl rfl ?_
        refine gf_X9_27 C (Nat.le_of_ble_eq_true rfl) dX9_order_95 ?_
        refine w_iload_n C 2 dX9_order_98 rfl rfl ?_
        obtain ⟨b11, hw⟩ := hw
        refine v_iald C ak_52 rfl (Nat.le_of_ble_eq_true rfl) b11 dX9_order_99 ?_
        exact ret_I C HT hw dX9_order_100
      · replace hw := hw.1 c10
        refine w_aload_n C 0 dX9_order_85 rfl rfl ?_
        refine w_iload C 3 dX9_order_86 rfl ?_
        refine back_I (run_V C HR mt_X9_costOfQueue (ci := 9) rfl (by decide) (Nat.le_of_ble_eq_true rfl) gw941 gw34 gw939 (by decide) rfl (Nat.le_of_ble_eq_true rfl) dX9_order_88 (As := [.int x4]) rfl (c_X9_costOfQueue x4  _ _ hw)) (fun r13 M12 hw => ?_)
        refine w_goto C dX9_order_91 (tgt := 100) rfl ?_
        exact ret_I C HT hw dX9_order_100
    · replace hw := hw.2 c9
      refine w_iload_n C 1 dX9_order_53 rfl rfl ?_
      refine w_iload C 4 dX9_order_54 rfl ?_
      refine w_ishr C dX9_order_56 ?_
      refine w_iconst C dX9_order_57 kc_i_1 ?_
      refine w_iand C dX9_order_58 ?_
      refine w_iconst C dX9_order_59 kc_i_1 ?_
      refine w_icmp_ne C dX9_order_60 (tgt := 74) rfl (fun c14 => ?_) (fun c14 => ?_)
      · replace hw := hw.2 c14
        exact w_sub [0, 1, 2, 3, 4] rfl (s_X9_order_74 C HR HT ih x1 x2 x4 x5  _ hw)
      · replace hw := hw.1 c14
        refine w_aload_n C 0 dX9_order_63 rfl rfl ?_
        refine w_iload C 4 dX9_order_64 rfl ?_
        refine w_iload C 3 dX9_order_66 rfl ?_
        refine back_V (run_V C HR mt_X9_enqueue (ci := 9) rfl (by decide) (Nat.le_of_ble_eq_true rfl) gw933 gw32 gw931 (by decide) rfl (Nat.le_of_ble_eq_true rfl) dX9_order_68 (As := [.int x5, .int x4]) rfl (c_X9_enqueue x5 x4  _ _ hw)) (fun M15 hw => ?_)
        refine w_iincV C (lv' := [(4, .int (x4 + 1)), (0, .ref (gad G 9 0)), (1, .int x1), (2, .int x2), (5, .int x5)]) 3 dX9_order_71 kc_i_1 rfl (by decide) rfl ?_
        exact w_sub [1, 2, 3, 0, 4] rfl (s_X9_order_74 C HR HT ih x1 x2 (x4 + 1) x5  _ hw)
set_option maxRecDepth 100000 in
set_option maxHeartbeats 4000000 in
theorem c_X9_order {G : GG} {n : Nat} {l : Launch} (x1 : Int32) (x2 : Int32)  (M : Mem) (Q : Int32 → Mem → Prop) (hw : wp_X9_order x1 x2 M Q) : Ct G n l yX9_order cX9_order 6 (some .int) 3 68 [.ref (gad G 9 0), .int x1, .int x2] M (Qi G n Q) := by
  refine ct_of (by decide) (Nat.le_of_ble_eq_true rfl) (lv := [(0, .ref (gad G 9 0)), (1, .int x1), (2, .int x2)]) rfl (fun E C HR HT hE => ?_)
  replace C : Cx G n E RX9 cX9_order 6 := C
  refine w_iload_n C 1 dX9_order_0 rfl rfl ?_
  refine back_I (run_S C HR mt_J6_bitCount_0f7a4 gw627 gw626 (by decide) rfl (Nat.le_of_ble_eq_true rfl) dX9_order_1 (As := [.int x1]) rfl (c_J6_bitCount_0f7a4 x1  _ _ hw)) (fun r2 M1 hw => ?_)
  refine w_istore_n C (lv' := [(3, .int r2), (0, .ref (gad G 9 0)), (1, .int x1), (2, .int x2)]) dX9_order_4 rfl (by decide) rfl ?_
  refine w_iload_n C 2 dX9_order_5 rfl rfl ?_
  refine w_if_lt C dX9_order_6 (tgt := 35) rfl (fun c3 => ?_) (fun c3 => ?_)
  · replace hw := hw.1 c3
    refine w_bipush C dX9_order_35 kc_b_m2 ?_
    exact ret_I C HT hw dX9_order_37
  · replace hw := hw.2 c3
    refine w_iload_n C 2 dX9_order_9 rfl rfl ?_
    refine w_iconst C dX9_order_10 kc_i_1 ?_
    refine w_aload_n C 1 dX9_order_11 rfl rfl ?_
    refine gf_X9_66 C (Nat.le_of_ble_eq_true rfl) dX9_order_12 ?_
    refine w_ishl C dX9_order_15 ?_
    refine w_icmp_ge C dX9_order_16 (tgt := 35) rfl (fun c4 => ?_) (fun c4 => ?_)
    · replace hw := hw.1 c4
      refine w_bipush C dX9_order_35 kc_b_m2 ?_
      exact ret_I C HT hw dX9_order_37
    · replace hw := hw.2 c4
      refine w_iload_n C 0 dX9_order_19 rfl rfl ?_
      refine w_bipush C dX9_order_20 kc_b_8 ?_
      refine w_icmp_gt C dX9_order_22 (tgt := 35) rfl (fun c5 => ?_) (fun c5 => ?_)
      · replace hw := hw.1 c5
        refine w_bipush C dX9_order_35 kc_b_m2 ?_
        exact ret_I C HT hw dX9_order_37
      · replace hw := hw.2 c5
        refine w_iload_n C 3 dX9_order_25 rfl rfl ?_
        refine w_iconst C dX9_order_26 kc_i_m1 ?_
        refine w_icmp_lt C dX9_order_27 (tgt := 35) rfl (fun c6 => ?_) (fun c6 => ?_)
        · replace hw := hw.1 c6
          refine w_bipush C dX9_order_35 kc_b_m2 ?_
          exact ret_I C HT hw dX9_order_37
        · replace hw := hw.2 c6
          refine w_iload_n C 3 dX9_order_30 rfl rfl ?_
          refine w_iload_n C 0 dX9_order_31 rfl rfl ?_
          refine w_icmp_lt C dX9_order_32 (tgt := 38) rfl (fun c7 => ?_) (fun c7 => ?_)
          · replace hw := hw.1 c7
            refine w_iconst C dX9_order_38 kc_i_0 ?_
            refine w_istore C (lv' := [(4, .int 0), (3, .int r2), (0, .ref (gad G 9 0)), (1, .int x1), (2, .int x2)]) dX9_order_39 (by decide) rfl ?_
            refine w_iconst C dX9_order_41 kc_i_0 ?_
            refine w_istore C (lv' := [(5, .int 0), (4, .int 0), (3, .int r2), (0, .ref (gad G 9 0)), (1, .int x1), (2, .int x2)]) dX9_order_42 (by decide) rfl ?_
            obtain ⟨f8, hw⟩ := hw
            exact w_sub [3, 4, 5, 1, 0] rfl (s_X9_order_44 C HR HT  f8 x1 x2 0 0  _ hw)
          · replace hw := hw.2 c7
            refine w_bipush C dX9_order_35 kc_b_m2 ?_
            exact ret_I C HT hw dX9_order_37
set_option maxRecDepth 100000 in
set_option maxHeartbeats 4000000 in
theorem c_X9_isType {G : GG} {n : Nat} {l : Launch} (x0 : Int32)  (M : Mem) (Q : Int32 → Mem → Prop) (hw : wp_X9_isType x0 M Q) : Ct G n l yX9_isType cX9_isType 1 (some .boolean) 0 0 [.int x0] M (Qi G n Q) := by
  refine ct_of (by decide) (Nat.le_of_ble_eq_true rfl) (lv := [(0, .int x0)]) rfl (fun E C HR HT hE => ?_)
  replace C : Cx G n E RX9 cX9_isType 1 := C
  refine w_iload_n C 0 dX9_isType_0 rfl rfl ?_
  refine w_if_lt C dX9_isType_1 (tgt := 13) rfl (fun c1 => ?_) (fun c1 => ?_)
  · replace hw := hw.1 c1
    refine w_iconst C dX9_isType_13 kc_i_0 ?_
    exact ret_Z C HT rfl hw dX9_isType_14
  · replace hw := hw.2 c1
    refine w_iload_n C 0 dX9_isType_4 rfl rfl ?_
    refine w_iconst C dX9_isType_5 kc_i_3 ?_
    refine w_icmp_ge C dX9_isType_6 (tgt := 13) rfl (fun c2 => ?_) (fun c2 => ?_)
    · replace hw := hw.1 c2
      refine w_iconst C dX9_isType_13 kc_i_0 ?_
      exact ret_Z C HT rfl hw dX9_isType_14
    · replace hw := hw.2 c2
      refine w_iconst C dX9_isType_9 kc_i_1 ?_
      refine w_goto C dX9_isType_10 (tgt := 14) rfl ?_
      exact ret_Z C HT rfl hw dX9_isType_14
set_option maxRecDepth 100000 in
set_option maxHeartbeats 4000000 in
theorem c_X9_sheet {G : GG} {n : Nat} {l : Launch} (x1 : Int32) (x2 : Int32) (x3 : Int32)  (M : Mem) (Q : Int32 → Mem → Prop) (hw : wp_X9_sheet x1 x2 x3 M Q) : Ct G n l yX9_sheet cX9_sheet 5 (some .int) 2 45 [.ref (gad G 9 0), .int x1, .int x2, .int x3] M (Qi G n Q) := by
  refine ct_of (by decide) (Nat.le_of_ble_eq_true rfl) (lv := [(0, .ref (gad G 9 0)), (1, .int x1), (2, .int x2), (3, .int x3)]) rfl (fun E C HR HT hE => ?_)
  replace C : Cx G n E RX9 cX9_sheet 5 := C
  refine w_aload_n C 0 dX9_sheet_0 rfl rfl ?_
  refine w_iload_n C 1 dX9_sheet_1 rfl rfl ?_
  refine back_R (run_V C HR mt_X9_sheetAt (ci := 9) rfl (by decide) (Nat.le_of_ble_eq_true rfl) gw533 gw4 gw531 (by decide) rfl (Nat.le_of_ble_eq_true rfl) dX9_sheet_2 (As := [.int x1]) rfl (c_X9_sheetAt x1  _ _ hw)) (fun M1 hw => ?_) (fun j2 M1 hj2 hw => ?_)
  · replace hw := hw.1 rfl
    refine w_astoreN C (lv' := [(4, .null), (0, .ref (gad G 9 0)), (1, .int x1), (2, .int x2), (3, .int x3)]) dX9_sheet_5 (by decide) rfl ?_
    refine w_aloadN C 0 dX9_sheet_7 rfl ?_
    refine w_ifnullN C dX9_sheet_9 (tgt := 25) rfl ?_
    refine w_bipush C dX9_sheet_25 kc_b_m2 ?_
    exact ret_I C HT hw dX9_sheet_27
  · replace hw := hw.2 j2 rfl
    refine w_astore C (lv' := [(4, .ref (gad G 7 j2)), (0, .ref (gad G 9 0)), (1, .int x1), (2, .int x2), (3, .int x3)]) dX9_sheet_5 (by decide) rfl ?_
    refine w_aload C 0 dX9_sheet_7 rfl ?_
    refine w_ifnull C dX9_sheet_9 ?_
    refine w_iload_n C 3 dX9_sheet_12 rfl rfl ?_
    refine back_I (run_S C HR mt_X9_isType gw948 gw947 (by decide) rfl (Nat.le_of_ble_eq_true rfl) dX9_sheet_13 (As := [.int x2]) rfl (c_X9_isType x2  _ _ hw)) (fun r5 M4 hw => ?_)
    refine w_if_eq C dX9_sheet_16 (tgt := 25) rfl (fun c6 => ?_) (fun c6 => ?_)
    · replace hw := hw.1 c6
      refine w_bipush C dX9_sheet_25 kc_b_m2 ?_
      exact ret_I C HT hw dX9_sheet_27
    · replace hw := hw.2 c6
      refine w_iload_n C 4 dX9_sheet_19 rfl rfl ?_
      refine w_bipush C dX9_sheet_20 kc_b_40 ?_
      refine w_icmp_le C dX9_sheet_22 (tgt := 28) rfl (fun c7 => ?_) (fun c7 => ?_)
      · replace hw := hw.1 c7
        refine w_iload_n C 4 dX9_sheet_28 rfl rfl ?_
        refine w_if_ge C dX9_sheet_29 (tgt := 38) rfl (fun c8 => ?_) (fun c8 => ?_)
        · replace hw := hw.1 c8
          refine w_aload C 0 dX9_sheet_38 rfl ?_
          refine w_iload_n C 3 dX9_sheet_40 rfl rfl ?_
          refine w_iload_n C 4 dX9_sheet_41 rfl rfl ?_
          refine back_V (run_V C HR mt_X7_renew (ci := 7) rfl (by decide) hj2 gw951 gw952 gw950 (by decide) rfl (Nat.le_of_ble_eq_true rfl) dX9_sheet_42 (As := [.int x2, .int x3]) rfl (c_X7_renew j2 x2 x3 hj2 _ _ hw)) (fun M9 hw => ?_)
          refine w_iload_n C 4 dX9_sheet_45 rfl rfl ?_
          exact ret_I C HT hw dX9_sheet_46
        · replace hw := hw.2 c8
          refine w_aload_n C 1 dX9_sheet_32 rfl rfl ?_
          refine w_iconst C dX9_sheet_33 kc_i_5 ?_
          refine back_I (run_V C HR mt_X9_finding (ci := 9) rfl (by decide) (Nat.le_of_ble_eq_true rfl) gw730 gw15 gw728 (by decide) rfl (Nat.le_of_ble_eq_true rfl) dX9_sheet_34 (As := [.int 5]) rfl (c_X9_finding 5  _ _ hw)) (fun r11 M10 hw => ?_)
          exact ret_I C HT hw dX9_sheet_37
      · replace hw := hw.2 c7
        refine w_bipush C dX9_sheet_25 kc_b_m2 ?_
        exact ret_I C HT hw dX9_sheet_27
set_option maxRecDepth 100000 in
set_option maxHeartbeats 4000000 in
theorem c_X9_lose {G : GG} {n : Nat} {l : Launch} (x1 : Int32)  (M : Mem) (Q : Int32 → Mem → Prop) (hw : wp_X9_lose x1 M Q) : Ct G n l yX9_lose cX9_lose 3 (some .int) 1 21 [.ref (gad G 9 0), .int x1] M (Qi G n Q) := by
  refine ct_of (by decide) (Nat.le_of_ble_eq_true rfl) (lv := [(0, .ref (gad G 9 0)), (1, .int x1)]) rfl (fun E C HR HT hE => ?_)
  replace C : Cx G n E RX9 cX9_lose 3 := C
  refine w_aload_n C 0 dX9_lose_0 rfl rfl ?_
  refine w_iload_n C 1 dX9_lose_1 rfl rfl ?_
  refine back_R (run_V C HR mt_X9_sheetAt (ci := 9) rfl (by decide) (Nat.le_of_ble_eq_true rfl) gw533 gw4 gw531 (by decide) rfl (Nat.le_of_ble_eq_true rfl) dX9_lose_2 (As := [.int x1]) rfl (c_X9_sheetAt x1  _ _ hw)) (fun M1 hw => ?_) (fun j2 M1 hj2 hw => ?_)
  · replace hw := hw.1 rfl
    refine w_astore_nN C (lv' := [(2, .null), (0, .ref (gad G 9 0)), (1, .int x1)]) dX9_lose_5 rfl (by decide) rfl ?_
    refine w_aload_nN C 0 dX9_lose_6 rfl rfl ?_
    refine w_ifnonnullN C dX9_lose_7 ?_
    refine w_bipush C dX9_lose_10 kc_b_m2 ?_
    exact ret_I C HT hw dX9_lose_12
  · replace hw := hw.2 j2 rfl
    refine w_astore_n C (lv' := [(2, .ref (gad G 7 j2)), (0, .ref (gad G 9 0)), (1, .int x1)]) dX9_lose_5 rfl (by decide) rfl ?_
    refine w_aload_n C 0 dX9_lose_6 rfl rfl ?_
    refine w_ifnonnull C dX9_lose_7 (tgt := 13) rfl ?_
    refine w_aload_n C 0 dX9_lose_13 rfl rfl ?_
    refine gf_X9_123 C hj2 dX9_lose_14 ?_
    refine w_if_eq C dX9_lose_17 (tgt := 26) rfl (fun c4 => ?_) (fun c4 => ?_)
    · replace hw := hw.1 c4
      refine w_aload_n C 0 dX9_lose_26 rfl rfl ?_
      refine w_iconst C dX9_lose_27 kc_i_1 ?_
      refine pf_X9_123 C hj2 rfl rfl dX9_lose_28 (w_mem fun M5 eM5 => ?_)
      replace hw := hw M5 eM5
      refine w_aload_n C 0 dX9_lose_31 rfl rfl ?_
      refine gf_X9_127 C hj2 dX9_lose_32 ?_
      exact ret_I C HT hw dX9_lose_35
    · replace hw := hw.2 c4
      refine w_aload_n C 1 dX9_lose_20 rfl rfl ?_
      refine w_iconst C dX9_lose_21 kc_i_1 ?_
      refine back_I (run_V C HR mt_X9_finding (ci := 9) rfl (by decide) (Nat.le_of_ble_eq_true rfl) gw730 gw15 gw728 (by decide) rfl (Nat.le_of_ble_eq_true rfl) dX9_lose_22 (As := [.int 1]) rfl (c_X9_finding 1  _ _ hw)) (fun r7 M6 hw => ?_)
      exact ret_I C HT hw dX9_lose_25
set_option maxRecDepth 100000 in
set_option maxHeartbeats 4000000 in
theorem c_X9_put {G : GG} {n : Nat} {l : Launch} (x1 : Int32) (x2 : Int32) (x3 : Int32) (x4 : Int32)  (M : Mem) (Q : Int32 → Mem → Prop) (hw : wp_X9_put x1 x2 x3 x4 M Q) : Ct G n l yX9_put cX9_put 7 (some .int) 1 22 [.ref (gad G 9 0), .int x1, .int x2, .int x3, .int x4] M (Qi G n Q) := by
  refine ct_of (by decide) (Nat.le_of_ble_eq_true rfl) (lv := [(0, .ref (gad G 9 0)), (1, .int x1), (2, .int x2), (3, .int x3), (4, .int x4)]) rfl (fun E C HR HT hE => ?_)
  replace C : Cx G n E RX9 cX9_put 7 := C
  refine w_aload_n C 0 dX9_put_0 rfl rfl ?_
  refine w_iload_n C 1 dX9_put_1 rfl rfl ?_
  refine back_R (run_V C HR mt_X9_sheetAt (ci := 9) rfl (by decide) (Nat.le_of_ble_eq_true rfl) gw533 gw4 gw531 (by decide) rfl (Nat.le_of_ble_eq_true rfl) dX9_put_2 (As := [.int x1]) rfl (c_X9_sheetAt x1  _ _ hw)) (fun M1 hw => ?_) (fun j2 M1 hj2 hw => ?_)
  · replace hw := hw.1 rfl
    refine w_astoreN C (lv' := [(5, .null), (0, .ref (gad G 9 0)), (1, .int x1), (2, .int x2), (3, .int x3), (4, .int x4)]) dX9_put_5 (by decide) rfl ?_
    refine w_aloadN C 0 dX9_put_7 rfl ?_
    refine w_ifnullN C dX9_put_9 (tgt := 19) rfl ?_
    refine w_bipush C dX9_put_19 kc_b_m2 ?_
    exact ret_I C HT hw dX9_put_21
  · replace hw := hw.2 j2 rfl
    refine w_astore C (lv' := [(5, .ref (gad G 7 j2)), (0, .ref (gad G 9 0)), (1, .int x1), (2, .int x2), (3, .int x3), (4, .int x4)]) dX9_put_5 (by decide) rfl ?_
    refine w_aload C 0 dX9_put_7 rfl ?_
    refine w_ifnull C dX9_put_9 ?_
    refine w_iload_n C 3 dX9_put_12 rfl rfl ?_
    refine back_I (run_S C HR mt_X9_isType gw948 gw947 (by decide) rfl (Nat.le_of_ble_eq_true rfl) dX9_put_13 (As := [.int x2]) rfl (c_X9_isType x2  _ _ hw)) (fun r5 M4 hw => ?_)
    refine w_if_ne C dX9_put_16 (tgt := 22) rfl (fun c6 => ?_) (fun c6 => ?_)
    · replace hw := hw.2 c6
      refine w_aload C 0 dX9_put_22 rfl ?_
      refine w_iload_n C 3 dX9_put_24 rfl rfl ?_
      refine w_iload_n C 4 dX9_put_25 rfl rfl ?_
      refine back_I (run_V C HR mt_X7_findingAt (ci := 7) rfl (by decide) hj2 gw965 gw966 gw964 (by decide) rfl (Nat.le_of_ble_eq_true rfl) dX9_put_26 (As := [.int x2, .int x3]) rfl (c_X7_findingAt j2 x2 x3 hj2 _ _ hw)) (fun r8 M7 hw => ?_)
      refine w_istore C (lv' := [(6, .int r8), (5, .ref (gad G 7 j2)), (0, .ref (gad G 9 0)), (1, .int x1), (2, .int x2), (3, .int x3), (4, .int x4)]) dX9_put_29 (by decide) rfl ?_
      refine w_iload C 0 dX9_put_31 rfl ?_
      refine w_if_eq C dX9_put_33 (tgt := 43) rfl (fun c9 => ?_) (fun c9 => ?_)
      · replace hw := hw.1 c9
        refine w_aload C 1 dX9_put_43 rfl ?_
        refine w_iload_n C 5 dX9_put_45 rfl rfl ?_
        refine w_iload C 6 dX9_put_46 rfl ?_
        refine back_V (run_V C HR mt_X7_store (ci := 7) rfl (by decide) hj2 gw969 gw970 gw968 (by decide) rfl (Nat.le_of_ble_eq_true rfl) dX9_put_48 (As := [.int x3, .int x4]) rfl (c_X7_store j2 x3 x4 hj2 _ _ hw)) (fun M10 hw => ?_)
        refine w_iconst C dX9_put_51 kc_i_1 ?_
        exact ret_I C HT hw dX9_put_52
      · replace hw := hw.2 c9
        refine w_aload_n C 2 dX9_put_36 rfl rfl ?_
        refine w_iload C 0 dX9_put_37 rfl ?_
        refine back_I (run_V C HR mt_X9_finding (ci := 9) rfl (by decide) (Nat.le_of_ble_eq_true rfl) gw730 gw15 gw728 (by decide) rfl (Nat.le_of_ble_eq_true rfl) dX9_put_39 (As := [.int r8]) rfl (c_X9_finding r8  _ _ hw)) (fun r12 M11 hw => ?_)
        exact ret_I C HT hw dX9_put_42
    · replace hw := hw.1 c6
      refine w_bipush C dX9_put_19 kc_b_m2 ?_
      exact ret_I C HT hw dX9_put_21
set_option maxRecDepth 100000 in
set_option maxHeartbeats 4000000 in
theorem c_X9_get {G : GG} {n : Nat} {l : Launch} (x1 : Int32) (x2 : Int32) (x3 : Int32)  (M : Mem) (Q : Int32 → Mem → Prop) (hw : wp_X9_get x1 x2 x3 M Q) : Ct G n l yX9_get cX9_get 6 (some .int) 1 22 [.ref (gad G 9 0), .int x1, .int x2, .int x3] M (Qi G n Q) := by
  refine ct_of (by decide) (Nat.le_of_ble_eq_true rfl) (lv := [(0, .ref (gad G 9 0)), (1, .int x1), (2, .int x2), (3, .int x3)]) rfl (fun E C HR HT hE => ?_)
  replace C : Cx G n E RX9 cX9_get 6 := C
  refine w_aload_n C 0 dX9_get_0 rfl rfl ?_
  refine w_iload_n C 1 dX9_get_1 rfl rfl ?_
  refine back_R (run_V C HR mt_X9_sheetAt (ci := 9) rfl (by decide) (Nat.le_of_ble_eq_true rfl) gw533 gw4 gw531 (by decide) rfl (Nat.le_of_ble_eq_true rfl) dX9_get_2 (As := [.int x1]) rfl (c_X9_sheetAt x1  _ _ hw)) (fun M1 hw => ?_) (fun j2 M1 hj2 hw => ?_)
  · replace hw := hw.1 rfl
    refine w_astoreN C (lv' := [(4, .null), (0, .ref (gad G 9 0)), (1, .int x1), (2, .int x2), (3, .int x3)]) dX9_get_5 (by decide) rfl ?_
    refine w_aloadN C 0 dX9_get_7 rfl ?_
    refine w_ifnullN C dX9_get_9 (tgt := 19) rfl ?_
    refine w_ldcw C dX9_get_19 gw976 ?_
    exact ret_I C HT hw dX9_get_22
  · replace hw := hw.2 j2 rfl
    refine w_astore C (lv' := [(4, .ref (gad G 7 j2)), (0, .ref (gad G 9 0)), (1, .int x1), (2, .int x2), (3, .int x3)]) dX9_get_5 (by decide) rfl ?_
    refine w_aload C 0 dX9_get_7 rfl ?_
    refine w_ifnull C dX9_get_9 ?_
    refine w_iload_n C 3 dX9_get_12 rfl rfl ?_
    refine back_I (run_S C HR mt_X9_isType gw948 gw947 (by decide) rfl (Nat.le_of_ble_eq_true rfl) dX9_get_13 (As := [.int x2]) rfl (c_X9_isType x2  _ _ hw)) (fun r5 M4 hw => ?_)
    refine w_if_ne C dX9_get_16 (tgt := 23) rfl (fun c6 => ?_) (fun c6 => ?_)
    · replace hw := hw.2 c6
      refine w_aload C 0 dX9_get_23 rfl ?_
      refine w_iload_n C 3 dX9_get_25 rfl rfl ?_
      refine w_iload_n C 4 dX9_get_26 rfl rfl ?_
      refine back_I (run_V C HR mt_X7_findingAt (ci := 7) rfl (by decide) hj2 gw965 gw966 gw964 (by decide) rfl (Nat.le_of_ble_eq_true rfl) dX9_get_27 (As := [.int x2, .int x3]) rfl (c_X7_findingAt j2 x2 x3 hj2 _ _ hw)) (fun r8 M7 hw => ?_)
      refine w_istore C (lv' := [(5, .int r8), (4, .ref (gad G 7 j2)), (0, .ref (gad G 9 0)), (1, .int x1), (2, .int x2), (3, .int x3)]) dX9_get_30 (by decide) rfl ?_
      refine w_iload C 0 dX9_get_32 rfl ?_
      refine w_if_eq C dX9_get_34 (tgt := 47) rfl (fun c9 => ?_) (fun c9 => ?_)
      · replace hw := hw.1 c9
        refine w_aload C 1 dX9_get_47 rfl ?_
        refine gf_X9_133 C hj2 dX9_get_49 ?_
        refine w_iload_n C 5 dX9_get_52 rfl rfl ?_
        obtain ⟨b10, hw⟩ := hw
        refine v_iald C ak_42 rfl hj2 b10 dX9_get_53 ?_
        exact ret_I C HT hw dX9_get_54
      · replace hw := hw.2 c9
        refine w_aload_n C 2 dX9_get_37 rfl rfl ?_
        refine w_iload C 0 dX9_get_38 rfl ?_
        refine pf_X9_70 C (Nat.le_of_ble_eq_true rfl) dX9_get_40 (w_mem fun M11 eM11 => ?_)
        replace hw := hw M11 eM11
        refine w_ldcw C dX9_get_43 gw976 ?_
        exact ret_I C HT hw dX9_get_46
    · replace hw := hw.1 c6
      refine w_ldcw C dX9_get_19 gw976 ?_
      exact ret_I C HT hw dX9_get_22
set_option maxRecDepth 100000 in
set_option maxHeartbeats 4000000 in
theorem s_X9_copy_43 {G : GG} {n : Nat} {E : EE} (C : Cx G n E RX9 cX9_copy 8) (HR : RM E 1 64) (HT : RT E (some .int)) {Q : Int32 → Mem → Prop}  : ∀   (M : Mem), w_X9_copy_43 Q   M → WW G n E 8 (QE G E (Qi G n Q)) 43 [(0, .ref (gad G 9 0))] [] M := by
  intro  M hw
  refine w_aload_n C 0 dX9_copy_43 rfl rfl ?_
  refine w_iconst C dX9_copy_44 kc_i_1 ?_
  refine back_I (run_V C HR mt_X9_finding (ci := 9) rfl (by decide) (Nat.le_of_ble_eq_true rfl) gw730 gw15 gw728 (by decide) rfl (Nat.le_of_ble_eq_true rfl) dX9_copy_45 (As := [.int 1]) rfl (c_X9_finding 1  _ _ hw)) (fun r12 M11 hw => ?_)
  exact ret_I C HT hw dX9_copy_48
set_option maxRecDepth 100000 in
set_option maxHeartbeats 4000000 in
theorem s_X9_copy_91 {G : GG} {n : Nat} {E : EE} (C : Cx G n E RX9 cX9_copy 8) (HR : RM E 1 64) (HT : RT E (some .int)) {Q : Int32 → Mem → Prop}  : ∀   (M : Mem), w_X9_copy_91 Q   M → WW G n E 8 (QE G E (Qi G n Q)) 91 [(0, .ref (gad G 9 0))] [] M := by
  intro  M hw
  refine w_aload_n C 0 dX9_copy_91 rfl rfl ?_
  refine w_iconst C dX9_copy_92 kc_i_2 ?_
  refine back_I (run_V C HR mt_X9_finding (ci := 9) rfl (by decide) (Nat.le_of_ble_eq_true rfl) gw730 gw15 gw728 (by decide) rfl (Nat.le_of_ble_eq_true rfl) dX9_copy_93 (As := [.int 2]) rfl (c_X9_finding 2  _ _ hw)) (fun r19 M18 hw => ?_)
  exact ret_I C HT hw dX9_copy_96
set_option maxRecDepth 100000 in
set_option maxHeartbeats 4000000 in
theorem c_X9_copy {G : GG} {n : Nat} {l : Launch} (x1 : Int32) (x2 : Int32) (x3 : Int32) (x4 : Int32) (x5 : Int32)  (M : Mem) (Q : Int32 → Mem → Prop) (hw : wp_X9_copy x1 x2 x3 x4 x5 M Q) : Ct G n l yX9_copy cX9_copy 8 (some .int) 1 64 [.ref (gad G 9 0), .int x1, .int x2, .int x3, .int x4, .int x5] M (Qi G n Q) := by
  refine ct_of (by decide) (Nat.le_of_ble_eq_true rfl) (lv := [(0, .ref (gad G 9 0)), (1, .int x1), (2, .int x2), (3, .int x3), (4, .int x4), (5, .int x5)]) rfl (fun E C HR HT hE => ?_)
  replace C : Cx G n E RX9 cX9_copy 8 := C
  refine w_aload_n C 0 dX9_copy_0 rfl rfl ?_
  refine w_iload_n C 1 dX9_copy_1 rfl rfl ?_
  refine back_R (run_V C HR mt_X9_sheetAt (ci := 9) rfl (by decide) (Nat.le_of_ble_eq_true rfl) gw533 gw4 gw531 (by decide) rfl (Nat.le_of_ble_eq_true rfl) dX9_copy_2 (As := [.int x1]) rfl (c_X9_sheetAt x1  _ _ hw)) (fun M1 hw => ?_) (fun j2 M1 hj2 hw => ?_)
  · replace hw := hw.1 rfl
    refine w_astoreN C (lv' := [(6, .null), (0, .ref (gad G 9 0)), (1, .int x1), (2, .int x2), (3, .int x3), (4, .int x4), (5, .int x5)]) dX9_copy_5 (by decide) rfl ?_
    refine w_aload_n C 1 dX9_copy_7 rfl rfl ?_
    refine w_iload_n C 4 dX9_copy_8 rfl rfl ?_
    refine back_R (run_V C HR mt_X9_sheetAt (ci := 9) rfl (by decide) (Nat.le_of_ble_eq_true rfl) gw533 gw4 gw531 (by decide) rfl (Nat.le_of_ble_eq_true rfl) dX9_copy_9 (As := [.int x3]) rfl (c_X9_sheetAt x3  _ _ hw)) (fun M4 hw => ?_) (fun j5 M4 hj5 hw => ?_)
    · replace hw := hw.1 rfl
      refine w_astoreN C (lv' := [(7, .null), (6, .null), (0, .ref (gad G 9 0)), (1, .int x1), (2, .int x2), (3, .int x3), (4, .int x4), (5, .int x5)]) dX9_copy_12 (by decide) rfl ?_
      refine w_aloadN C 1 dX9_copy_14 rfl ?_
      refine w_ifnullN C dX9_copy_16 (tgt := 24) rfl ?_
      refine w_bipush C dX9_copy_24 kc_b_m2 ?_
      exact ret_I C HT hw dX9_copy_26
    · replace hw := hw.2 j5 rfl
      refine w_astore C (lv' := [(7, .ref (gad G 7 j5)), (6, .null), (0, .ref (gad G 9 0)), (1, .int x1), (2, .int x2), (3, .int x3), (4, .int x4), (5, .int x5)]) dX9_copy_12 (by decide) rfl ?_
      refine w_aloadN C 1 dX9_copy_14 rfl ?_
      refine w_ifnullN C dX9_copy_16 (tgt := 24) rfl ?_
      refine w_bipush C dX9_copy_24 kc_b_m2 ?_
      exact ret_I C HT hw dX9_copy_26
  · replace hw := hw.2 j2 rfl
    refine w_astore C (lv' := [(6, .ref (gad G 7 j2)), (0, .ref (gad G 9 0)), (1, .int x1), (2, .int x2), (3, .int x3), (4, .int x4), (5, .int x5)]) dX9_copy_5 (by decide) rfl ?_
    refine w_aload_n C 1 dX9_copy_7 rfl rfl ?_
    refine w_iload_n C 4 dX9_copy_8 rfl rfl ?_
    refine back_R (run_V C HR mt_X9_sheetAt (ci := 9) rfl (by decide) (Nat.le_of_ble_eq_true rfl) gw533 gw4 gw531 (by decide) rfl (Nat.le_of_ble_eq_true rfl) dX9_copy_9 (As := [.int x3]) rfl (c_X9_sheetAt x3  _ _ hw)) (fun M7 hw => ?_) (fun j8 M7 hj8 hw => ?_)
    · replace hw := hw.1 rfl
      refine w_astoreN C (lv' := [(7, .null), (6, .ref (gad G 7 j2)), (0, .ref (gad G 9 0)), (1, .int x1), (2, .int x2), (3, .int x3), (4, .int x4), (5, .int x5)]) dX9_copy_12 (by decide) rfl ?_
      refine w_aload C 1 dX9_copy_14 rfl ?_
      refine w_ifnull C dX9_copy_16 ?_
      refine w_aloadN C 0 dX9_copy_19 rfl ?_
      refine w_ifnonnullN C dX9_copy_21 ?_
      refine w_bipush C dX9_copy_24 kc_b_m2 ?_
      exact ret_I C HT hw dX9_copy_26
    · replace hw := hw.2 j8 rfl
      refine w_astore C (lv' := [(7, .ref (gad G 7 j8)), (6, .ref (gad G 7 j2)), (0, .ref (gad G 9 0)), (1, .int x1), (2, .int x2), (3, .int x3), (4, .int x4), (5, .int x5)]) dX9_copy_12 (by decide) rfl ?_
      refine w_aload C 1 dX9_copy_14 rfl ?_
      refine w_ifnull C dX9_copy_16 ?_
      refine w_aload C 0 dX9_copy_19 rfl ?_
      refine w_ifnonnull C dX9_copy_21 (tgt := 27) rfl ?_
      refine w_aload C 1 dX9_copy_27 rfl ?_
      refine gf_X9_123 C hj2 dX9_copy_29 ?_
      refine w_if_ne C dX9_copy_32 (tgt := 43) rfl (fun c10 => ?_) (fun c10 => ?_)
      · replace hw := hw.2 c10
        exact w_sub [2] rfl (s_X9_copy_43 C HR HT    _ hw)
      · replace hw := hw.1 c10
        refine w_aload C 0 dX9_copy_35 rfl ?_
        refine gf_X9_123 C hj8 dX9_copy_37 ?_
        refine w_if_eq C dX9_copy_40 (tgt := 49) rfl (fun c13 => ?_) (fun c13 => ?_)
        · replace hw := hw.1 c13
          refine w_aload C 1 dX9_copy_49 rfl ?_
          refine gf_X9_318 C hj2 dX9_copy_51 ?_
          refine w_aload C 0 dX9_copy_54 rfl ?_
          refine gf_X9_318 C hj8 dX9_copy_56 ?_
          refine w_icmp_eq C dX9_copy_59 (tgt := 68) rfl (fun c14 => ?_) (fun c14 => ?_)
          · replace hw := hw.1 c14
            refine w_aload C 1 dX9_copy_68 rfl ?_
            refine w_iload_n C 4 dX9_copy_70 rfl rfl ?_
            refine w_iload C 7 dX9_copy_71 rfl ?_
            refine back_I (run_V C HR mt_X7_hasItems (ci := 7) rfl (by decide) hj2 gw982 gw983 gw981 (by decide) rfl (Nat.le_of_ble_eq_true rfl) dX9_copy_73 (As := [.int x2, .int x5]) rfl (c_X7_hasItems j2 x2 x5 hj2 _ _ hw)) (fun r16 M15 hw => ?_)
            refine w_if_eq C dX9_copy_76 (tgt := 91) rfl (fun c17 => ?_) (fun c17 => ?_)
            · replace hw := hw.1 c17
              exact w_sub [2] rfl (s_X9_copy_91 C HR HT    _ hw)
            · replace hw := hw.2 c17
              refine w_aload C 0 dX9_copy_79 rfl ?_
              refine w_iload C 6 dX9_copy_81 rfl ?_
              refine w_iload C 7 dX9_copy_83 rfl ?_
              refine back_I (run_V C HR mt_X7_hasItems (ci := 7) rfl (by decide) hj8 gw982 gw983 gw981 (by decide) rfl (Nat.le_of_ble_eq_true rfl) dX9_copy_85 (As := [.int x4, .int x5]) rfl (c_X7_hasItems j8 x4 x5 hj8 _ _ hw)) (fun r21 M20 hw => ?_)
              refine w_if_ne C dX9_copy_88 (tgt := 97) rfl (fun c22 => ?_) (fun c22 => ?_)
              · replace hw := hw.2 c22
                refine w_aload C 1 dX9_copy_97 rfl ?_
                refine gf_X9_133 C hj2 dX9_copy_99 ?_
                refine w_iload_n C 4 dX9_copy_102 rfl rfl ?_
                refine w_aload C 0 dX9_copy_103 rfl ?_
                refine gf_X9_133 C hj8 dX9_copy_105 ?_
                refine w_iload C 6 dX9_copy_108 rfl ?_
                refine w_iload C 7 dX9_copy_110 rfl ?_
                obtain ⟨p1, p2, p3, p4, p5, hw⟩ := hw
                refine w_acopy C HR ak_42.1 ak_42.2.1 ak_42.2.2.1 ak_42.2.2.2 hj2 ak_42.1 ak_42.2.1 ak_42.2.2.1 ak_42.2.2.2 hj8 gw985 gw987 gw986 gw95 p1 p2 p3 p4 p5 (by decide) (by decide) dX9_copy_112 (w_mem fun M23 eM23 => ?_)
                replace hw := hw M23 eM23
                refine w_iconst C dX9_copy_115 kc_i_1 ?_
                exact ret_I C HT hw dX9_copy_116
              · replace hw := hw.1 c22
                exact w_sub [2] rfl (s_X9_copy_91 C HR HT    _ hw)
          · replace hw := hw.2 c14
            refine w_aload_n C 2 dX9_copy_62 rfl rfl ?_
            refine w_iconst C dX9_copy_63 kc_i_4 ?_
            refine back_I (run_V C HR mt_X9_finding (ci := 9) rfl (by decide) (Nat.le_of_ble_eq_true rfl) gw730 gw15 gw728 (by decide) rfl (Nat.le_of_ble_eq_true rfl) dX9_copy_64 (As := [.int 4]) rfl (c_X9_finding 4  _ _ hw)) (fun r25 M24 hw => ?_)
            exact ret_I C HT hw dX9_copy_67
        · replace hw := hw.2 c13
          exact w_sub [2] rfl (s_X9_copy_43 C HR HT    _ hw)
