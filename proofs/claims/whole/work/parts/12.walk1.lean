set_option maxRecDepth 100000 in
set_option maxHeartbeats 4000000 in
theorem c_J9_min_7cf53 {G : GG} {n : Nat} {l : Launch} (x0 : Int32) (x1 : Int32)  (M : Mem) (Q : Int32 → Mem → Prop) (hw : wp_J9_min_7cf53 x0 x1 M Q) : Ct G n l yJ9_min_7cf53 cJ9_min_7cf53 2 (some .int) 0 0 [.int x0, .int x1] M (Qi G n Q) := by
  refine ct_ofF (by decide +kernel) (Nat.le_of_ble_eq_true rfl) (lv := [(0, .int x0), (1, .int x1)]) rfl (fun E C HR HT hE => ?_)
  replace C : Cx G n E RJ9 cJ9_min_7cf53 2 := C
  refine w_iload_n C 0 dJ9_min_7cf53_0 rfl rfl ?_
  refine w_iload_n C 1 dJ9_min_7cf53_1 rfl rfl ?_
  refine w_icmp_gt C dJ9_min_7cf53_2 (tgt := 9) rfl (fun c1 => ?_) (fun c1 => ?_)
  · replace hw := hw.1 c1
    refine w_iload_n C 1 dJ9_min_7cf53_9 rfl rfl ?_
    exact ret_I C HT hw dJ9_min_7cf53_10
  · replace hw := hw.2 c1
    refine w_iload_n C 0 dJ9_min_7cf53_5 rfl rfl ?_
    refine w_goto C dJ9_min_7cf53_6 (tgt := 10) rfl ?_
    exact ret_I C HT hw dJ9_min_7cf53_10
set_option maxRecDepth 100000 in
set_option maxHeartbeats 4000000 in
theorem c_X7_holdsEvent {G : GG} {n : Nat} {l : Launch} (jt : Nat) (x1 : Int32) (hjt : jt < cnt n 7) (M : Mem) (Q : Int32 → Mem → Prop) (hw : wp_X7_holdsEvent jt x1 M Q) : Ct G n l yX7_holdsEvent cX7_holdsEvent 2 (some .boolean) 0 0 [.ref (gad G 7 jt), .int x1] M (Qi G n Q) := by
  refine ct_of (by decide) (Nat.le_of_ble_eq_true rfl) (lv := [(0, .ref (gad G 7 jt)), (1, .int x1)]) rfl (fun E C HR HT hE => ?_)
  replace C : Cx G n E RX7 cX7_holdsEvent 2 := C
  refine w_iload_n C 1 dX7_holdsEvent_0 rfl rfl ?_
  refine w_if_lt C dX7_holdsEvent_1 (tgt := 36) rfl (fun c1 => ?_) (fun c1 => ?_)
  · replace hw := hw.1 c1
    refine w_iconst C dX7_holdsEvent_36 kc_i_0 ?_
    exact ret_Z C HT rfl hw dX7_holdsEvent_37
  · replace hw := hw.2 c1
    refine w_iload_n C 1 dX7_holdsEvent_4 rfl rfl ?_
    refine w_aload_n C 0 dX7_holdsEvent_5 rfl rfl ?_
    refine gf_X7_23 C hjt dX7_holdsEvent_6 ?_
    refine w_icmp_ge C dX7_holdsEvent_9 (tgt := 36) rfl (fun c2 => ?_) (fun c2 => ?_)
    · replace hw := hw.1 c2
      refine w_iconst C dX7_holdsEvent_36 kc_i_0 ?_
      exact ret_Z C HT rfl hw dX7_holdsEvent_37
    · replace hw := hw.2 c2
      refine w_aload_n C 0 dX7_holdsEvent_12 rfl rfl ?_
      refine gf_X7_9 C hjt dX7_holdsEvent_13 ?_
      refine w_iload_n C 1 dX7_holdsEvent_16 rfl rfl ?_
      obtain ⟨b3, hw⟩ := hw
      refine v_iald C ak_42 rfl hjt b3 dX7_holdsEvent_17 ?_
      refine w_if_lt C dX7_holdsEvent_18 (tgt := 36) rfl (fun c4 => ?_) (fun c4 => ?_)
      · replace hw := hw.1 c4
        refine w_iconst C dX7_holdsEvent_36 kc_i_0 ?_
        exact ret_Z C HT rfl hw dX7_holdsEvent_37
      · replace hw := hw.2 c4
        refine w_aload_n C 0 dX7_holdsEvent_21 rfl rfl ?_
        refine gf_X7_9 C hjt dX7_holdsEvent_22 ?_
        refine w_iload_n C 1 dX7_holdsEvent_25 rfl rfl ?_
        obtain ⟨b5, hw⟩ := hw
        refine v_iald C ak_42 rfl hjt b5 dX7_holdsEvent_26 ?_
        refine w_bipush C dX7_holdsEvent_27 kc_b_8 ?_
        refine w_icmp_ge C dX7_holdsEvent_29 (tgt := 36) rfl (fun c6 => ?_) (fun c6 => ?_)
        · replace hw := hw.1 c6
          refine w_iconst C dX7_holdsEvent_36 kc_i_0 ?_
          exact ret_Z C HT rfl hw dX7_holdsEvent_37
        · replace hw := hw.2 c6
          refine w_iconst C dX7_holdsEvent_32 kc_i_1 ?_
          refine w_goto C dX7_holdsEvent_33 (tgt := 37) rfl ?_
          exact ret_Z C HT rfl hw dX7_holdsEvent_37
set_option maxRecDepth 100000 in
set_option maxHeartbeats 4000000 in
theorem s_X0_takeLog_78 {G : GG} {n : Nat} {E : EE} (C : Cx G n E RX0 cX0_takeLog 6) (HR : RM E 1 21) (HT : RT E (some .int)) {Q : Int32 → Mem → Prop} {K23 : Nat → Nat → Int32 → Int32 → Mem → Prop} (g23 : ∀ (j0 : Nat) (j1 : Nat) (x3 : Int32) (x4 : Int32) (hj0 : j0 < cnt n 0) (hj1 : j1 < cnt n 7) (M : Mem), K23 j0 j1 x3 x4 M → WW G n E 6 (QE G E (Qi G n Q)) 23 [(0, .ref (gad G 0 j0)), (1, .ref (gad G 7 j1)), (3, .int x3), (4, .int x4)] [] M) : ∀ (j0 : Nat) (j1 : Nat) (x3 : Int32) (x4 : Int32) (y0 : Int32) (y1 : Int32) (j2 : Nat) (hj0 : j0 < cnt n 0) (hj1 : j1 < cnt n 7) (hj2 : j2 < cnt n 0) (M : Mem), w_X0_takeLog_78 Q K23 j0 j1 x3 x4 y0 y1 j2 M → WW G n E 6 (QE G E (Qi G n Q)) 78 [(0, .ref (gad G 0 j0)), (1, .ref (gad G 7 j1)), (3, .int x3), (4, .int x4)] [.int y0, .int y1, .ref (gad G 0 j2)] M := by
  intro j0 j1 x3 x4 y0 y1 j2 hj0 hj1 hj2 M hw
  refine w_iadd C dX0_takeLog_78 ?_
  refine pf_X0_19 C hj2 dX0_takeLog_79 (w_mem fun M15 eM15 => ?_)
  replace hw := hw M15 eM15
  refine w_iincV C (lv' := [(4, .int (x4 + 1)), (0, .ref (gad G 0 j0)), (1, .ref (gad G 7 j1)), (3, .int x3)]) 3 dX0_takeLog_82 kc_i_1 rfl (by decide) rfl ?_
  refine w_goto C dX0_takeLog_85 (tgt := 23) rfl ?_
  exact w_sub [1, 2, 3, 0] rfl (g23 j0 j1 x3 (x4 + 1) hj0 hj1 _ hw)
set_option maxRecDepth 100000 in
set_option maxHeartbeats 4000000 in
theorem s_X0_takeLog_62 {G : GG} {n : Nat} {E : EE} (C : Cx G n E RX0 cX0_takeLog 6) (HR : RM E 1 21) (HT : RT E (some .int)) {Q : Int32 → Mem → Prop} {K23 : Nat → Nat → Int32 → Int32 → Mem → Prop} (g23 : ∀ (j0 : Nat) (j1 : Nat) (x3 : Int32) (x4 : Int32) (hj0 : j0 < cnt n 0) (hj1 : j1 < cnt n 7) (M : Mem), K23 j0 j1 x3 x4 M → WW G n E 6 (QE G E (Qi G n Q)) 23 [(0, .ref (gad G 0 j0)), (1, .ref (gad G 7 j1)), (3, .int x3), (4, .int x4)] [] M) : ∀ (j0 : Nat) (j1 : Nat) (x3 : Int32) (x4 : Int32) (x5 : Int32) (y0 : Int32) (y1 : Int32) (j2 : Nat) (hj0 : j0 < cnt n 0) (hj1 : j1 < cnt n 7) (hj2 : j2 < cnt n 20) (M : Mem), w_X0_takeLog_62 Q K23 j0 j1 x3 x4 x5 y0 y1 j2 M → WW G n E 6 (QE G E (Qi G n Q)) 62 [(0, .ref (gad G 0 j0)), (1, .ref (gad G 7 j1)), (3, .int x3), (4, .int x4), (5, .int x5)] [.int y0, .int y1, .ref (gad G 20 j2)] M := by
  intro j0 j1 x3 x4 x5 y0 y1 j2 hj0 hj1 hj2 M hw
  obtain ⟨b12, hw⟩ := hw
  refine v_iast C ak_20 rfl hj2 b12 dX0_takeLog_62 (w_mem fun M13 eM13 => ?_)
  replace hw := hw M13 eM13
  refine w_aload_n C 0 dX0_takeLog_63 rfl rfl ?_
  refine w_dup C dX0_takeLog_64 rfl ?_
  refine gf_X0_19 C hj0 dX0_takeLog_65 ?_
  refine w_iload C 4 dX0_takeLog_68 rfl ?_
  refine w_if_eq C dX0_takeLog_70 (tgt := 77) rfl (fun c14 => ?_) (fun c14 => ?_)
  · replace hw := hw.1 c14
    refine w_iconst C dX0_takeLog_77 kc_i_1 ?_
    exact w_sub [0, 1, 2, 3] rfl (s_X0_takeLog_78 C HR HT g23 j0 j1 x3 x4 1 (M13 203 j0 0) j0 hj0 hj1 hj0 _ hw)
  · replace hw := hw.2 c14
    refine w_iconst C dX0_takeLog_73 kc_i_0 ?_
    refine w_goto C dX0_takeLog_74 (tgt := 78) rfl ?_
    exact w_sub [0, 1, 2, 3] rfl (s_X0_takeLog_78 C HR HT g23 j0 j1 x3 x4 0 (M13 203 j0 0) j0 hj0 hj1 hj0 _ hw)
set_option maxRecDepth 100000 in
set_option maxHeartbeats 4000000 in
theorem s_X0_takeLog_23 {G : GG} {n : Nat} {E : EE} (C : Cx G n E RX0 cX0_takeLog 6) (HR : RM E 1 21) (HT : RT E (some .int)) {Q : Int32 → Mem → Prop}  : ∀ (f : Nat) (j0 : Nat) (j1 : Nat) (x3 : Int32) (x4 : Int32) (hj0 : j0 < cnt n 0) (hj1 : j1 < cnt n 7) (M : Mem), w_X0_takeLog_23 Q  f j0 j1 x3 x4 M → WW G n E 6 (QE G E (Qi G n Q)) 23 [(0, .ref (gad G 0 j0)), (1, .ref (gad G 7 j1)), (3, .int x3), (4, .int x4)] [] M := by
  intro f
  induction f with
  | zero => intro j0 j1 x3 x4 hj0 hj1 M hw; exact hw.elim
  | succ f ih =>
    intro j0 j1 x3 x4 hj0 hj1 M hw
    refine w_iload C 3 dX0_takeLog_23 rfl ?_
    refine w_aload_n C 0 dX0_takeLog_25 rfl rfl ?_
    refine gf_X0_15 C hj0 dX0_takeLog_26 ?_
    refine w_icmp_ge C dX0_takeLog_29 (tgt := 88) rfl (fun c7 => ?_) (fun c7 => ?_)
    · replace hw := hw.1 c7
      refine w_aload_n C 0 dX0_takeLog_88 rfl rfl ?_
      refine w_iconst C dX0_takeLog_89 kc_i_m1 ?_
      refine pf_X0_46 C hj0 dX0_takeLog_90 (w_mem fun M8 eM8 => ?_)
      replace hw := hw M8 eM8
      refine w_iload_n C 2 dX0_takeLog_93 rfl rfl ?_
      exact ret_I C HT hw dX0_takeLog_94
    · replace hw := hw.2 c7
      refine w_aload_n C 1 dX0_takeLog_32 rfl rfl ?_
      refine w_iload C 3 dX0_takeLog_33 rfl ?_
      refine back_I (run_V C HR mt_X7_holdsEvent (ci := 7) rfl (by decide) hj1 gw540 gw541 gw737 (by decide) rfl (Nat.le_of_ble_eq_true rfl) dX0_takeLog_35 (As := [.int x4]) rfl (c_X7_holdsEvent j1 x4 hj1 _ _ hw)) (fun r10 M9 hw => ?_)
      refine w_istore C (lv' := [(5, .int r10), (0, .ref (gad G 0 j0)), (1, .ref (gad G 7 j1)), (3, .int x3), (4, .int x4)]) dX0_takeLog_38 (by decide) rfl ?_
      refine w_aload_n C 1 dX0_takeLog_40 rfl rfl ?_
      refine gf_X0_9 C hj0 dX0_takeLog_41 ?_
      refine w_iload C 4 dX0_takeLog_44 rfl ?_
      refine w_iload C 0 dX0_takeLog_46 rfl ?_
      refine w_if_eq C dX0_takeLog_48 (tgt := 61) rfl (fun c11 => ?_) (fun c11 => ?_)
      · replace hw := hw.1 c11
        refine w_iconst C dX0_takeLog_61 kc_i_m1 ?_
        exact w_sub [1, 2, 3, 4, 0] rfl (s_X0_takeLog_62 C HR HT ih j0 j1 x3 x4 r10 (-1) x4 j0 hj0 hj1 hj0 _ hw)
      · replace hw := hw.2 c11
        refine w_aload_n C 2 dX0_takeLog_51 rfl rfl ?_
        refine gf_X0_64 C hj1 dX0_takeLog_52 ?_
        refine w_iload C 4 dX0_takeLog_55 rfl ?_
        obtain ⟨b16, hw⟩ := hw
        refine v_iald C ak_42 rfl hj1 b16 dX0_takeLog_57 ?_
        refine w_goto C dX0_takeLog_58 (tgt := 62) rfl ?_
        exact w_sub [1, 2, 3, 4, 0] rfl (s_X0_takeLog_62 C HR HT ih j0 j1 x3 x4 r10 (M9 42 j1 x4.toNatClampNeg) x4 j0 hj0 hj1 hj0 _ hw)
set_option maxRecDepth 100000 in
set_option maxHeartbeats 4000000 in
theorem c_X0_takeLog {G : GG} {n : Nat} {l : Launch} (jt : Nat) (j1 : Nat) (x2 : Int32) (hjt : jt < cnt n 0) (hj1 : j1 < cnt n 7) (M : Mem) (Q : Int32 → Mem → Prop) (hw : wp_X0_takeLog jt j1 x2 M Q) : Ct G n l yX0_takeLog cX0_takeLog 6 (some .int) 1 21 [.ref (gad G 0 jt), .ref (gad G 7 j1), .int x2] M (Qi G n Q) := by
  refine ct_of (by decide) (Nat.le_of_ble_eq_true rfl) (lv := [(0, .ref (gad G 0 jt)), (1, .ref (gad G 7 j1)), (2, .int x2)]) rfl (fun E C HR HT hE => ?_)
  replace C : Cx G n E RX0 cX0_takeLog 6 := C
  refine w_aload_n C 0 dX0_takeLog_0 rfl rfl ?_
  refine gf_X0_15 C hjt dX0_takeLog_1 ?_
  refine w_istore_nV C dX0_takeLog_4 rfl (by decide) (fun a1 ea1 => w_lv (lv' := [(3, .int a1), (0, .ref (gad G 0 jt)), (1, .ref (gad G 7 j1)), (2, .int x2)]) rfl ?_)
  replace hw := hw a1 ea1
  refine w_aload_n C 1 dX0_takeLog_5 rfl rfl ?_
  refine w_iload_n C 3 dX0_takeLog_6 rfl rfl ?_
  refine w_bipush C dX0_takeLog_7 kc_b_12 ?_
  refine back_I (run_S C HR mt_J9_min_7cf53 gw439 gw736 (by decide) rfl (Nat.le_of_ble_eq_true rfl) dX0_takeLog_9 (As := [.int x2, .int 12]) rfl (c_J9_min_7cf53 x2 12  _ _ hw)) (fun r3 M2 hw => ?_)
  refine pf_X0_15 C hjt dX0_takeLog_12 (w_mem fun M4 eM4 => ?_)
  replace hw := hw M4 eM4
  refine w_aload_n C 1 dX0_takeLog_15 rfl rfl ?_
  refine w_iconst C dX0_takeLog_16 kc_i_0 ?_
  refine pf_X0_19 C hjt dX0_takeLog_17 (w_mem fun M5 eM5 => ?_)
  replace hw := hw M5 eM5
  refine w_iconst C dX0_takeLog_20 kc_i_0 ?_
  refine w_istore C (lv' := [(4, .int 0), (3, .int a1), (0, .ref (gad G 0 jt)), (1, .ref (gad G 7 j1)), (2, .int x2)]) dX0_takeLog_21 (by decide) rfl ?_
  obtain ⟨f6, hw⟩ := hw
  exact w_sub [2, 3, 1, 0] rfl (s_X0_takeLog_23 C HR HT  f6 jt j1 a1 0 hjt hj1 _ hw)
set_option maxRecDepth 100000 in
set_option maxHeartbeats 4000000 in
theorem c_X0_isShort {G : GG} {n : Nat} {l : Launch} (jt : Nat) (hjt : jt < cnt n 0) (M : Mem) (Q : Int32 → Mem → Prop) (hw : wp_X0_isShort jt M Q) : Ct G n l yX0_isShort cX0_isShort 1 (some .boolean) 0 0 [.ref (gad G 0 jt)] M (Qi G n Q) := by
  refine ct_of (by decide) (Nat.le_of_ble_eq_true rfl) (lv := [(0, .ref (gad G 0 jt))]) rfl (fun E C HR HT hE => ?_)
  replace C : Cx G n E RX0 cX0_isShort 1 := C
  refine w_aload_n C 0 dX0_isShort_0 rfl rfl ?_
  refine gf_X0_25 C hjt dX0_isShort_1 ?_
  refine w_aload_n C 0 dX0_isShort_4 rfl rfl ?_
  refine gf_X0_22 C hjt dX0_isShort_5 ?_
  refine w_icmp_le C dX0_isShort_8 (tgt := 15) rfl (fun c1 => ?_) (fun c1 => ?_)
  · replace hw := hw.1 c1
    refine w_iconst C dX0_isShort_15 kc_i_0 ?_
    exact ret_Z C HT rfl hw dX0_isShort_16
  · replace hw := hw.2 c1
    refine w_iconst C dX0_isShort_11 kc_i_1 ?_
    refine w_goto C dX0_isShort_12 (tgt := 16) rfl ?_
    exact ret_Z C HT rfl hw dX0_isShort_16
set_option maxRecDepth 100000 in
set_option maxHeartbeats 4000000 in
theorem c_X0_told {G : GG} {n : Nat} {l : Launch} (jt : Nat) (x1 : Int32) (hjt : jt < cnt n 0) (M : Mem) (Q : Int32 → Mem → Prop) (hw : wp_X0_told jt x1 M Q) : Ct G n l yX0_told cX0_told 2 (some .int) 1 20 [.ref (gad G 0 jt), .int x1] M (Qi G n Q) := by
  refine ct_of (by decide) (Nat.le_of_ble_eq_true rfl) (lv := [(0, .ref (gad G 0 jt)), (1, .int x1)]) rfl (fun E C HR HT hE => ?_)
  replace C : Cx G n E RX0 cX0_told 2 := C
  refine w_iload_n C 1 dX0_told_0 rfl rfl ?_
  by_cases c1 : x1 = (0 : Int32)
  · replace hw := hw.1 c1
    refine w_swAt C c1 dX0_told_1 (off := 51) (tgt := 52) (by decide) rfl ?_
    refine w_aload_n C 0 dX0_told_52 rfl rfl ?_
    refine gf_X0_49 C hjt dX0_told_53 ?_
    exact ret_I C HT hw dX0_told_56
  replace hw := hw.2
  by_cases c2 : x1 = (1 : Int32)
  · replace hw := hw.1 c2
    refine w_swAt C c2 dX0_told_1 (off := 56) (tgt := 57) (by decide) rfl ?_
    refine w_aload_n C 0 dX0_told_57 rfl rfl ?_
    refine gf_X0_15 C hjt dX0_told_58 ?_
    exact ret_I C HT hw dX0_told_61
  replace hw := hw.2
  by_cases c3 : x1 = (2 : Int32)
  · replace hw := hw.1 c3
    refine w_swAt C c3 dX0_told_1 (off := 61) (tgt := 62) (by decide) rfl ?_
    refine w_aload_n C 0 dX0_told_62 rfl rfl ?_
    refine gf_X0_19 C hjt dX0_told_63 ?_
    exact ret_I C HT hw dX0_told_66
  replace hw := hw.2
  by_cases c4 : x1 = (3 : Int32)
  · replace hw := hw.1 c4
    refine w_swAt C c4 dX0_told_1 (off := 66) (tgt := 67) (by decide) rfl ?_
    refine w_aload_n C 0 dX0_told_67 rfl rfl ?_
    refine gf_X0_22 C hjt dX0_told_68 ?_
    exact ret_I C HT hw dX0_told_71
  replace hw := hw.2
  by_cases c5 : x1 = (4 : Int32)
  · replace hw := hw.1 c5
    refine w_swAt C c5 dX0_told_1 (off := 71) (tgt := 72) (by decide) rfl ?_
    refine w_aload_n C 0 dX0_told_72 rfl rfl ?_
    refine gf_X0_25 C hjt dX0_told_73 ?_
    exact ret_I C HT hw dX0_told_76
  replace hw := hw.2
  by_cases c6 : x1 = (5 : Int32)
  · replace hw := hw.1 c6
    refine w_swAt C c6 dX0_told_1 (off := 76) (tgt := 77) (by decide) rfl ?_
    refine w_aload_n C 0 dX0_told_77 rfl rfl ?_
    refine back_I (run_V C HR mt_X0_isShort (ci := 0) rfl (by decide) hjt gw753 gw754 gw752 (by decide) rfl (Nat.le_of_ble_eq_true rfl) dX0_told_78 (As := []) rfl (c_X0_isShort jt hjt _ _ hw)) (fun r8 M7 hw => ?_)
    refine w_if_eq C dX0_told_81 (tgt := 88) rfl (fun c9 => ?_) (fun c9 => ?_)
    · replace hw := hw.1 c9
      refine w_iconst C dX0_told_88 kc_i_0 ?_
      exact ret_I C HT hw dX0_told_89
    · replace hw := hw.2 c9
      refine w_iconst C dX0_told_84 kc_i_1 ?_
      refine w_goto C dX0_told_85 (tgt := 89) rfl ?_
      exact ret_I C HT hw dX0_told_89
  replace hw := hw.2
  by_cases c10 : x1 = (6 : Int32)
  · replace hw := hw.1 c10
    refine w_swAt C c10 dX0_told_1 (off := 89) (tgt := 90) (by decide) rfl ?_
    refine w_aload_n C 0 dX0_told_90 rfl rfl ?_
    refine gf_X0_28 C hjt dX0_told_91 ?_
    exact ret_I C HT hw dX0_told_94
  replace hw := hw.2
  by_cases c11 : x1 = (7 : Int32)
  · replace hw := hw.1 c11
    refine w_swAt C c11 dX0_told_1 (off := 94) (tgt := 95) (by decide) rfl ?_
    refine w_aload_n C 0 dX0_told_95 rfl rfl ?_
    refine gf_X0_31 C hjt dX0_told_96 ?_
    exact ret_I C HT hw dX0_told_99
  replace hw := hw.2
  by_cases c12 : x1 = (8 : Int32)
  · replace hw := hw.1 c12
    refine w_swAt C c12 dX0_told_1 (off := 99) (tgt := 100) (by decide) rfl ?_
    refine w_aload_n C 0 dX0_told_100 rfl rfl ?_
    refine gf_X0_34 C hjt dX0_told_101 ?_
    exact ret_I C HT hw dX0_told_104
  replace hw := hw.2
  replace hw := hw c1 c2 c3 c4 c5 c6 c10 c11 c12
  refine w_swOut C dX0_told_1 (sw_out (N := 8) (by decide) (fun v hv => by
    match v, hv with
    | 0, _ => exact c1
    | 1, _ => exact c2
    | 2, _ => exact c3
    | 3, _ => exact c4
    | 4, _ => exact c5
    | 5, _ => exact c6
    | 6, _ => exact c10
    | 7, _ => exact c11
    | 8, _ => exact c12
    | w + 9, hv => exact absurd hv (by omega))) (tgt := 105) rfl ?_
  refine w_sipush C dX0_told_105 kc_s_m1000 ?_
  exact ret_I C HT hw dX0_told_108
set_option maxRecDepth 100000 in
set_option maxHeartbeats 4000000 in
theorem s_X0_change_59 {G : GG} {n : Nat} {E : EE} (C : Cx G n E RX0 cX0_change 4) (HR : RM E 0 0) (HT : RT E (some .int)) {Q : Int32 → Mem → Prop}  : ∀ (j0 : Nat) (x1 : Int32) (x2 : Int32) (x3 : Int32) (hj0 : j0 < cnt n 0) (M : Mem), w_X0_change_59 Q  j0 x1 x2 x3 M → WW G n E 4 (QE G E (Qi G n Q)) 59 [(0, .ref (gad G 0 j0)), (1, .int x1), (2, .int x2), (3, .int x3)] [] M := by
  intro j0 x1 x2 x3 hj0 M hw
  refine w_iload_n C 1 dX0_change_59 rfl rfl ?_
  refine w_iconst C dX0_change_60 kc_i_2 ?_
  refine w_icmp_ne C dX0_change_61 (tgt := 84) rfl (fun c3 => ?_) (fun c3 => ?_)
  · replace hw := hw.2 c3
    refine w_iload_n C 3 dX0_change_84 rfl rfl ?_
    exact ret_I C HT hw dX0_change_85
  · replace hw := hw.1 c3
    refine w_iload_n C 2 dX0_change_64 rfl rfl ?_
    refine w_if_lt C dX0_change_65 (tgt := 84) rfl (fun c4 => ?_) (fun c4 => ?_)
    · replace hw := hw.1 c4
      refine w_iload_n C 3 dX0_change_84 rfl rfl ?_
      exact ret_I C HT hw dX0_change_85
    · replace hw := hw.2 c4
      refine w_iload_n C 2 dX0_change_68 rfl rfl ?_
      refine w_bipush C dX0_change_69 kc_b_50 ?_
      refine w_icmp_gt C dX0_change_71 (tgt := 84) rfl (fun c5 => ?_) (fun c5 => ?_)
      · replace hw := hw.1 c5
        refine w_iload_n C 3 dX0_change_84 rfl rfl ?_
        exact ret_I C HT hw dX0_change_85
      · replace hw := hw.2 c5
        refine w_aload_n C 0 dX0_change_74 rfl rfl ?_
        refine gf_X0_34 C hj0 dX0_change_75 ?_
        refine w_istore_nV C dX0_change_78 rfl (by decide) (fun a6 ea6 => w_lv (lv' := [(3, .int a6), (0, .ref (gad G 0 j0)), (1, .int x1), (2, .int x2)]) rfl ?_)
        replace hw := hw a6 ea6
        refine w_aload_n C 1 dX0_change_79 rfl rfl ?_
        refine w_iload_n C 3 dX0_change_80 rfl rfl ?_
        refine pf_X0_34 C hj0 dX0_change_81 (w_mem fun M7 eM7 => ?_)
        replace hw := hw M7 eM7
        refine w_iload_n C 0 dX0_change_84 rfl rfl ?_
        exact ret_I C HT hw dX0_change_85
set_option maxRecDepth 100000 in
set_option maxHeartbeats 4000000 in
theorem s_X0_change_30 {G : GG} {n : Nat} {E : EE} (C : Cx G n E RX0 cX0_change 4) (HR : RM E 0 0) (HT : RT E (some .int)) {Q : Int32 → Mem → Prop}  : ∀ (j0 : Nat) (x1 : Int32) (x2 : Int32) (x3 : Int32) (hj0 : j0 < cnt n 0) (M : Mem), w_X0_change_30 Q  j0 x1 x2 x3 M → WW G n E 4 (QE G E (Qi G n Q)) 30 [(0, .ref (gad G 0 j0)), (1, .int x1), (2, .int x2), (3, .int x3)] [] M := by
  intro j0 x1 x2 x3 hj0 M hw
  refine w_iload_n C 1 dX0_change_30 rfl rfl ?_
  refine w_iconst C dX0_change_31 kc_i_1 ?_
  refine w_icmp_ne C dX0_change_32 (tgt := 59) rfl (fun c2 => ?_) (fun c2 => ?_)
  · replace hw := hw.2 c2
    exact w_sub [0, 1, 2, 3] rfl (s_X0_change_59 C HR HT  j0 x1 x2 x3 hj0 _ hw)
  · replace hw := hw.1 c2
    refine w_iload_n C 2 dX0_change_35 rfl rfl ?_
    refine w_iconst C dX0_change_36 kc_i_1 ?_
    refine w_icmp_lt C dX0_change_37 (tgt := 59) rfl (fun c8 => ?_) (fun c8 => ?_)
    · replace hw := hw.1 c8
      exact w_sub [0, 1, 2, 3] rfl (s_X0_change_59 C HR HT  j0 x1 x2 x3 hj0 _ hw)
    · replace hw := hw.2 c8
      refine w_iload_n C 2 dX0_change_40 rfl rfl ?_
      refine w_bipush C dX0_change_41 kc_b_50 ?_
      refine w_icmp_gt C dX0_change_43 (tgt := 59) rfl (fun c9 => ?_) (fun c9 => ?_)
      · replace hw := hw.1 c9
        exact w_sub [0, 1, 2, 3] rfl (s_X0_change_59 C HR HT  j0 x1 x2 x3 hj0 _ hw)
      · replace hw := hw.2 c9
        refine w_aload_n C 0 dX0_change_46 rfl rfl ?_
        refine gf_X0_31 C hj0 dX0_change_47 ?_
        refine w_istore_nV C dX0_change_50 rfl (by decide) (fun a10 ea10 => w_lv (lv' := [(3, .int a10), (0, .ref (gad G 0 j0)), (1, .int x1), (2, .int x2)]) rfl ?_)
        replace hw := hw a10 ea10
        refine w_aload_n C 1 dX0_change_51 rfl rfl ?_
        refine w_iload_n C 3 dX0_change_52 rfl rfl ?_
        refine pf_X0_31 C hj0 dX0_change_53 (w_mem fun M11 eM11 => ?_)
        replace hw := hw M11 eM11
        refine w_goto C dX0_change_56 (tgt := 84) rfl ?_
        refine w_iload_n C 0 dX0_change_84 rfl rfl ?_
        exact ret_I C HT hw dX0_change_85
set_option maxRecDepth 100000 in
set_option maxHeartbeats 4000000 in
theorem c_X0_change {G : GG} {n : Nat} {l : Launch} (jt : Nat) (x1 : Int32) (x2 : Int32) (hjt : jt < cnt n 0) (M : Mem) (Q : Int32 → Mem → Prop) (hw : wp_X0_change jt x1 x2 M Q) : Ct G n l yX0_change cX0_change 4 (some .int) 0 0 [.ref (gad G 0 jt), .int x1, .int x2] M (Qi G n Q) := by
  refine ct_of (by decide) (Nat.le_of_ble_eq_true rfl) (lv := [(0, .ref (gad G 0 jt)), (1, .int x1), (2, .int x2)]) rfl (fun E C HR HT hE => ?_)
  replace C : Cx G n E RX0 cX0_change 4 := C
  refine w_bipush C dX0_change_0 kc_b_m2 ?_
  refine w_istore_n C (lv' := [(3, .int (-2)), (0, .ref (gad G 0 jt)), (1, .int x1), (2, .int x2)]) dX0_change_2 rfl (by decide) rfl ?_
  refine w_iload_n C 2 dX0_change_3 rfl rfl ?_
  refine w_if_ne C dX0_change_4 (tgt := 30) rfl (fun c1 => ?_) (fun c1 => ?_)
  · replace hw := hw.2 c1
    exact w_sub [1, 2, 3, 0] rfl (s_X0_change_30 C HR HT  jt x1 x2 (-2) hjt _ hw)
  · replace hw := hw.1 c1
    refine w_iload_n C 3 dX0_change_7 rfl rfl ?_
    refine w_if_lt C dX0_change_8 (tgt := 30) rfl (fun c12 => ?_) (fun c12 => ?_)
    · replace hw := hw.1 c12
      exact w_sub [1, 2, 3, 0] rfl (s_X0_change_30 C HR HT  jt x1 x2 (-2) hjt _ hw)
    · replace hw := hw.2 c12
      refine w_iload_n C 3 dX0_change_11 rfl rfl ?_
      refine w_bipush C dX0_change_12 kc_b_99 ?_
      refine w_icmp_gt C dX0_change_14 (tgt := 30) rfl (fun c13 => ?_) (fun c13 => ?_)
      · replace hw := hw.1 c13
        exact w_sub [1, 2, 3, 0] rfl (s_X0_change_30 C HR HT  jt x1 x2 (-2) hjt _ hw)
      · replace hw := hw.2 c13
        refine w_aload_n C 1 dX0_change_17 rfl rfl ?_
        refine gf_X0_28 C hjt dX0_change_18 ?_
        refine w_istore_nV C dX0_change_21 rfl (by decide) (fun a14 ea14 => w_lv (lv' := [(3, .int a14), (0, .ref (gad G 0 jt)), (1, .int x1), (2, .int x2)]) rfl ?_)
        replace hw := hw a14 ea14
        refine w_aload_n C 1 dX0_change_22 rfl rfl ?_
        refine w_iload_n C 3 dX0_change_23 rfl rfl ?_
        refine pf_X0_28 C hjt dX0_change_24 (w_mem fun M15 eM15 => ?_)
        replace hw := hw M15 eM15
        refine w_goto C dX0_change_27 (tgt := 84) rfl ?_
        refine w_iload_n C 0 dX0_change_84 rfl rfl ?_
        exact ret_I C HT hw dX0_change_85
set_option maxRecDepth 100000 in
set_option maxHeartbeats 4000000 in
theorem c_J9_max_7cf53 {G : GG} {n : Nat} {l : Launch} (x0 : Int32) (x1 : Int32)  (M : Mem) (Q : Int32 → Mem → Prop) (hw : wp_J9_max_7cf53 x0 x1 M Q) : Ct G n l yJ9_max_7cf53 cJ9_max_7cf53 2 (some .int) 0 0 [.int x0, .int x1] M (Qi G n Q) := by
  refine ct_ofF (by decide +kernel) (Nat.le_of_ble_eq_true rfl) (lv := [(0, .int x0), (1, .int x1)]) rfl (fun E C HR HT hE => ?_)
  replace C : Cx G n E RJ9 cJ9_max_7cf53 2 := C
  refine w_iload_n C 0 dJ9_max_7cf53_0 rfl rfl ?_
  refine w_iload_n C 1 dJ9_max_7cf53_1 rfl rfl ?_
  refine w_icmp_lt C dJ9_max_7cf53_2 (tgt := 9) rfl (fun c1 => ?_) (fun c1 => ?_)
  · replace hw := hw.1 c1
    refine w_iload_n C 1 dJ9_max_7cf53_9 rfl rfl ?_
    exact ret_I C HT hw dJ9_max_7cf53_10
  · replace hw := hw.2 c1
    refine w_iload_n C 0 dJ9_max_7cf53_5 rfl rfl ?_
    refine w_goto C dJ9_max_7cf53_6 (tgt := 10) rfl ?_
    exact ret_I C HT hw dJ9_max_7cf53_10
set_option maxRecDepth 100000 in
set_option maxHeartbeats 4000000 in
theorem s_X0_hasLostFrom_6 {G : GG} {n : Nat} {E : EE} (C : Cx G n E RX0 cX0_hasLostFrom 3) (HR : RM E 1 21) (HT : RT E (some .boolean)) {Q : Int32 → Mem → Prop}  : ∀ (f : Nat) (j0 : Nat) (x2 : Int32) (hj0 : j0 < cnt n 0) (M : Mem), w_X0_hasLostFrom_6 Q  f j0 x2 M → WW G n E 3 (QE G E (Qi G n Q)) 6 [(0, .ref (gad G 0 j0)), (2, .int x2)] [] M := by
  intro f
  induction f with
  | zero => intro j0 x2 hj0 M hw; exact hw.elim
  | succ f ih =>
    intro j0 x2 hj0 M hw
    refine w_iload_n C 1 dX0_hasLostFrom_6 rfl rfl ?_
    refine w_aload_n C 0 dX0_hasLostFrom_7 rfl rfl ?_
    refine gf_X0_15 C hj0 dX0_hasLostFrom_8 ?_
    refine w_icmp_ge C dX0_hasLostFrom_11 (tgt := 32) rfl (fun c4 => ?_) (fun c4 => ?_)
    · replace hw := hw.1 c4
      refine w_iconst C dX0_hasLostFrom_32 kc_i_0 ?_
      exact ret_Z C HT rfl hw dX0_hasLostFrom_33
    · replace hw := hw.2 c4
      refine w_aload_n C 0 dX0_hasLostFrom_14 rfl rfl ?_
      refine gf_X0_9 C hj0 dX0_hasLostFrom_15 ?_
      refine w_iload_n C 1 dX0_hasLostFrom_18 rfl rfl ?_
      obtain ⟨b5, hw⟩ := hw
      refine v_iald C ak_20 rfl hj0 b5 dX0_hasLostFrom_19 ?_
      refine w_iconst C dX0_hasLostFrom_20 kc_i_m1 ?_
      refine w_icmp_ne C dX0_hasLostFrom_21 (tgt := 26) rfl (fun c6 => ?_) (fun c6 => ?_)
      · replace hw := hw.2 c6
        refine w_iincV C (lv' := [(2, .int (x2 + 1)), (0, .ref (gad G 0 j0))]) 1 dX0_hasLostFrom_26 kc_i_1 rfl (by decide) rfl ?_
        refine w_goto C dX0_hasLostFrom_29 (tgt := 6) rfl ?_
        exact w_sub [1, 0] rfl (ih j0 (x2 + 1) hj0 _ hw)
      · replace hw := hw.1 c6
        refine w_iconst C dX0_hasLostFrom_24 kc_i_1 ?_
        exact ret_Z C HT rfl hw dX0_hasLostFrom_25
set_option maxRecDepth 100000 in
set_option maxHeartbeats 4000000 in
theorem c_X0_hasLostFrom {G : GG} {n : Nat} {l : Launch} (jt : Nat) (x1 : Int32) (hjt : jt < cnt n 0) (M : Mem) (Q : Int32 → Mem → Prop) (hw : wp_X0_hasLostFrom jt x1 M Q) : Ct G n l yX0_hasLostFrom cX0_hasLostFrom 3 (some .boolean) 1 21 [.ref (gad G 0 jt), .int x1] M (Qi G n Q) := by
  refine ct_of (by decide) (Nat.le_of_ble_eq_true rfl) (lv := [(0, .ref (gad G 0 jt)), (1, .int x1)]) rfl (fun E C HR HT hE => ?_)
  replace C : Cx G n E RX0 cX0_hasLostFrom 3 := C
  refine w_iload_n C 1 dX0_hasLostFrom_0 rfl rfl ?_
  refine w_iconst C dX0_hasLostFrom_1 kc_i_0 ?_
  refine back_I (run_S C HR mt_J9_max_7cf53 gw436 gw861 (by decide) rfl (Nat.le_of_ble_eq_true rfl) dX0_hasLostFrom_2 (As := [.int x1, .int 0]) rfl (c_J9_max_7cf53 x1 0  _ _ hw)) (fun r2 M1 hw => ?_)
  refine w_istore_n C (lv' := [(2, .int r2), (0, .ref (gad G 0 jt)), (1, .int x1)]) dX0_hasLostFrom_5 rfl (by decide) rfl ?_
  obtain ⟨f3, hw⟩ := hw
  exact w_sub [1, 0] rfl (s_X0_hasLostFrom_6 C HR HT  f3 jt r2 hjt _ hw)
set_option maxRecDepth 100000 in
set_option maxHeartbeats 4000000 in
theorem s_X0_holdsAt_61 {G : GG} {n : Nat} {E : EE} (C : Cx G n E RX0 cX0_holdsAt 6) (HR : RM E 0 0) (HT : RT E (some .boolean)) {Q : Int32 → Mem → Prop} {K18 : Nat → Int32 → Nat → Int32 → Int32 → Int32 → Mem → Prop} (g18 : ∀ (j0 : Nat) (x1 : Int32) (j2 : Nat) (x3 : Int32) (x4 : Int32) (x5 : Int32) (hj0 : j0 < cnt n 0) (hj2 : j2 < cnt n 0) (M : Mem), K18 j0 x1 j2 x3 x4 x5 M → WW G n E 6 (QE G E (Qi G n Q)) 18 [(0, .ref (gad G 0 j0)), (1, .int x1), (2, .ref (gad G 0 j2)), (3, .int x3), (4, .int x4), (5, .int x5)] [] M) : ∀ (j0 : Nat) (x1 : Int32) (j2 : Nat) (x3 : Int32) (x4 : Int32) (x5 : Int32) (hj0 : j0 < cnt n 0) (hj2 : j2 < cnt n 0) (M : Mem), w_X0_holdsAt_61 Q K18 j0 x1 j2 x3 x4 x5 M → WW G n E 6 (QE G E (Qi G n Q)) 61 [(0, .ref (gad G 0 j0)), (1, .int x1), (2, .ref (gad G 0 j2)), (3, .int x3), (4, .int x4), (5, .int x5)] [] M := by
  intro j0 x1 j2 x3 x4 x5 hj0 hj2 M hw
  refine w_iincV C (lv' := [(5, .int (x5 + 1)), (0, .ref (gad G 0 j0)), (1, .int x1), (2, .ref (gad G 0 j2)), (3, .int x3), (4, .int x4)]) 5 dX0_holdsAt_61 kc_i_1 rfl (by decide) rfl ?_
  refine w_goto C dX0_holdsAt_64 (tgt := 18) rfl ?_
  exact w_sub [1, 2, 3, 4, 5, 0] rfl (g18 j0 x1 j2 x3 x4 (x5 + 1) hj0 hj2 _ hw)
set_option maxRecDepth 100000 in
set_option maxHeartbeats 4000000 in
theorem s_X0_holdsAt_18 {G : GG} {n : Nat} {E : EE} (C : Cx G n E RX0 cX0_holdsAt 6) (HR : RM E 0 0) (HT : RT E (some .boolean)) {Q : Int32 → Mem → Prop}  : ∀ (f : Nat) (j0 : Nat) (x1 : Int32) (j2 : Nat) (x3 : Int32) (x4 : Int32) (x5 : Int32) (hj0 : j0 < cnt n 0) (hj2 : j2 < cnt n 0) (M : Mem), w_X0_holdsAt_18 Q  f j0 x1 j2 x3 x4 x5 M → WW G n E 6 (QE G E (Qi G n Q)) 18 [(0, .ref (gad G 0 j0)), (1, .int x1), (2, .ref (gad G 0 j2)), (3, .int x3), (4, .int x4), (5, .int x5)] [] M := by
  intro f
  induction f with
  | zero => intro j0 x1 j2 x3 x4 x5 hj0 hj2 M hw; exact hw.elim
  | succ f ih =>
    intro j0 x1 j2 x3 x4 x5 hj0 hj2 M hw
    refine w_iload C 5 dX0_holdsAt_18 rfl ?_
    refine w_iload_n C 3 dX0_holdsAt_20 rfl rfl ?_
    refine w_icmp_ge C dX0_holdsAt_21 (tgt := 67) rfl (fun c4 => ?_) (fun c4 => ?_)
    · replace hw := hw.1 c4
      refine w_iconst C dX0_holdsAt_67 kc_i_1 ?_
      exact ret_Z C HT rfl hw dX0_holdsAt_68
    · replace hw := hw.2 c4
      refine w_aload_n C 0 dX0_holdsAt_24 rfl rfl ?_
      refine gf_X0_9 C hj0 dX0_holdsAt_25 ?_
      refine w_iload_n C 1 dX0_holdsAt_28 rfl rfl ?_
      refine w_iload C 5 dX0_holdsAt_29 rfl ?_
      refine w_iadd C dX0_holdsAt_31 ?_
      obtain ⟨b5, hw⟩ := hw
      refine v_iald C ak_20 rfl hj0 b5 dX0_holdsAt_32 ?_
      refine w_iconst C dX0_holdsAt_33 kc_i_m1 ?_
      refine w_icmp_eq C dX0_holdsAt_34 (tgt := 61) rfl (fun c6 => ?_) (fun c6 => ?_)
      · replace hw := hw.1 c6
        exact w_sub [0, 1, 2, 3, 4, 5] rfl (s_X0_holdsAt_61 C HR HT ih j0 x1 j2 x3 x4 x5 hj0 hj2 _ hw)
      · replace hw := hw.2 c6
        refine w_aload_n C 0 dX0_holdsAt_37 rfl rfl ?_
        refine gf_X0_9 C hj0 dX0_holdsAt_38 ?_
        refine w_iload_n C 1 dX0_holdsAt_41 rfl rfl ?_
        refine w_iload C 5 dX0_holdsAt_42 rfl ?_
        refine w_iadd C dX0_holdsAt_44 ?_
        obtain ⟨b7, hw⟩ := hw
        refine v_iald C ak_20 rfl hj0 b7 dX0_holdsAt_45 ?_
        refine w_aload_n C 2 dX0_holdsAt_46 rfl rfl ?_
        refine gf_X0_9 C hj2 dX0_holdsAt_47 ?_
        refine w_iload C 4 dX0_holdsAt_50 rfl ?_
        refine w_iload C 5 dX0_holdsAt_52 rfl ?_
        refine w_iadd C dX0_holdsAt_54 ?_
        obtain ⟨b8, hw⟩ := hw
        refine v_iald C ak_20 rfl hj2 b8 dX0_holdsAt_55 ?_
        refine w_icmp_eq C dX0_holdsAt_56 (tgt := 61) rfl (fun c9 => ?_) (fun c9 => ?_)
        · replace hw := hw.1 c9
          exact w_sub [0, 1, 2, 3, 4, 5] rfl (s_X0_holdsAt_61 C HR HT ih j0 x1 j2 x3 x4 x5 hj0 hj2 _ hw)
        · replace hw := hw.2 c9
          refine w_iconst C dX0_holdsAt_59 kc_i_0 ?_
          exact ret_Z C HT rfl hw dX0_holdsAt_60
set_option maxRecDepth 100000 in
set_option maxHeartbeats 4000000 in
theorem c_X0_holdsAt {G : GG} {n : Nat} {l : Launch} (jt : Nat) (x1 : Int32) (j2 : Nat) (x3 : Int32) (hjt : jt < cnt n 0) (hj2 : j2 < cnt n 0) (M : Mem) (Q : Int32 → Mem → Prop) (hw : wp_X0_holdsAt jt x1 j2 x3 M Q) : Ct G n l yX0_holdsAt cX0_holdsAt 6 (some .boolean) 0 0 [.ref (gad G 0 jt), .int x1, .ref (gad G 0 j2), .int x3] M (Qi G n Q) := by
  refine ct_of (by decide) (Nat.le_of_ble_eq_true rfl) (lv := [(0, .ref (gad G 0 jt)), (1, .int x1), (2, .ref (gad G 0 j2)), (3, .int x3)]) rfl (fun E C HR HT hE => ?_)
  replace C : Cx G n E RX0 cX0_holdsAt 6 := C
  refine w_aload_n C 2 dX0_holdsAt_0 rfl rfl ?_
  refine gf_X0_15 C hj2 dX0_holdsAt_1 ?_
  refine w_iload_n C 3 dX0_holdsAt_4 rfl rfl ?_
  refine w_isub C dX0_holdsAt_5 ?_
  refine w_istoreV C dX0_holdsAt_6 (by decide) (fun a1 ea1 => w_lv (lv' := [(4, .int a1), (0, .ref (gad G 0 jt)), (1, .int x1), (2, .ref (gad G 0 j2)), (3, .int x3)]) rfl ?_)
  replace hw := hw a1 ea1
  refine w_iload C 0 dX0_holdsAt_8 rfl ?_
  refine w_if_ge C dX0_holdsAt_10 (tgt := 15) rfl (fun c2 => ?_) (fun c2 => ?_)
  · replace hw := hw.1 c2
    refine w_iconst C dX0_holdsAt_15 kc_i_0 ?_
    refine w_istore C (lv' := [(5, .int 0), (4, .int a1), (0, .ref (gad G 0 jt)), (1, .int x1), (2, .ref (gad G 0 j2)), (3, .int x3)]) dX0_holdsAt_16 (by decide) rfl ?_
    obtain ⟨f3, hw⟩ := hw
    exact w_sub [2, 3, 4, 5, 1, 0] rfl (s_X0_holdsAt_18 C HR HT  f3 jt x1 j2 x3 a1 0 hjt hj2 _ hw)
  · replace hw := hw.2 c2
    refine w_iconst C dX0_holdsAt_13 kc_i_0 ?_
    exact ret_Z C HT rfl hw dX0_holdsAt_14
set_option maxRecDepth 100000 in
set_option maxHeartbeats 4000000 in
theorem s_X0_holdsEndOf_2 {G : GG} {n : Nat} {E : EE} (C : Cx G n E RX0 cX0_holdsEndOf 4) (HR : RM E 1 25) (HT : RT E (some .boolean)) {Q : Int32 → Mem → Prop}  : ∀ (f : Nat) (j0 : Nat) (j1 : Nat) (x2 : Int32) (x3 : Int32) (hj0 : j0 < cnt n 0) (hj1 : j1 < cnt n 0) (M : Mem), w_X0_holdsEndOf_2 Q  f j0 j1 x2 x3 M → WW G n E 4 (QE G E (Qi G n Q)) 2 [(0, .ref (gad G 0 j0)), (1, .ref (gad G 0 j1)), (2, .int x2), (3, .int x3)] [] M := by
  intro f
  induction f with
  | zero => intro j0 j1 x2 x3 hj0 hj1 M hw; exact hw.elim
  | succ f ih =>
    intro j0 j1 x2 x3 hj0 hj1 M hw
    refine w_iload_n C 3 dX0_holdsEndOf_2 rfl rfl ?_
    refine w_iload_n C 2 dX0_holdsEndOf_3 rfl rfl ?_
    refine w_iadd C dX0_holdsEndOf_4 ?_
    refine w_aload_n C 0 dX0_holdsEndOf_5 rfl rfl ?_
    refine gf_X0_15 C hj0 dX0_holdsEndOf_6 ?_
    refine w_icmp_gt C dX0_holdsEndOf_9 (tgt := 30) rfl (fun c2 => ?_) (fun c2 => ?_)
    · replace hw := hw.1 c2
      refine w_iconst C dX0_holdsEndOf_30 kc_i_0 ?_
      exact ret_Z C HT rfl hw dX0_holdsEndOf_31
    · replace hw := hw.2 c2
      refine w_aload_n C 0 dX0_holdsEndOf_12 rfl rfl ?_
      refine w_iload_n C 3 dX0_holdsEndOf_13 rfl rfl ?_
      refine w_aload_n C 1 dX0_holdsEndOf_14 rfl rfl ?_
      refine w_iload_n C 2 dX0_holdsEndOf_15 rfl rfl ?_
      refine back_I (run_V C HR mt_X0_holdsAt (ci := 0) rfl (by decide) hj0 gw868 gw30 gw866 (by decide) rfl (Nat.le_of_ble_eq_true rfl) dX0_holdsEndOf_16 (As := [.int x3, .ref (gad G 0 j1), .int x2]) rfl (c_X0_holdsAt j0 x3 j1 x2 hj0 hj1 _ _ hw)) (fun r4 M3 hw => ?_)
      refine w_if_eq C dX0_holdsEndOf_19 (tgt := 24) rfl (fun c5 => ?_) (fun c5 => ?_)
      · replace hw := hw.1 c5
        refine w_iincV C (lv' := [(3, .int (x3 + 1)), (0, .ref (gad G 0 j0)), (1, .ref (gad G 0 j1)), (2, .int x2)]) 3 dX0_holdsEndOf_24 kc_i_1 rfl (by decide) rfl ?_
        refine w_goto C dX0_holdsEndOf_27 (tgt := 2) rfl ?_
        exact w_sub [1, 2, 3, 0] rfl (ih j0 j1 x2 (x3 + 1) hj0 hj1 _ hw)
      · replace hw := hw.2 c5
        refine w_iconst C dX0_holdsEndOf_22 kc_i_1 ?_
        exact ret_Z C HT rfl hw dX0_holdsEndOf_23
set_option maxRecDepth 100000 in
set_option maxHeartbeats 4000000 in
theorem c_X0_holdsEndOf {G : GG} {n : Nat} {l : Launch} (jt : Nat) (j1 : Nat) (x2 : Int32) (hjt : jt < cnt n 0) (hj1 : j1 < cnt n 0) (M : Mem) (Q : Int32 → Mem → Prop) (hw : wp_X0_holdsEndOf jt j1 x2 M Q) : Ct G n l yX0_holdsEndOf cX0_holdsEndOf 4 (some .boolean) 1 25 [.ref (gad G 0 jt), .ref (gad G 0 j1), .int x2] M (Qi G n Q) := by
  refine ct_of (by decide) (Nat.le_of_ble_eq_true rfl) (lv := [(0, .ref (gad G 0 jt)), (1, .ref (gad G 0 j1)), (2, .int x2)]) rfl (fun E C HR HT hE => ?_)
  replace C : Cx G n E RX0 cX0_holdsEndOf 4 := C
  refine w_iconst C dX0_holdsEndOf_0 kc_i_0 ?_
  refine w_istore_n C (lv' := [(3, .int 0), (0, .ref (gad G 0 jt)), (1, .ref (gad G 0 j1)), (2, .int x2)]) dX0_holdsEndOf_1 rfl (by decide) rfl ?_
  obtain ⟨f1, hw⟩ := hw
  exact w_sub [1, 2, 3, 0] rfl (s_X0_holdsEndOf_2 C HR HT  f1 jt j1 x2 0 hjt hj1 _ hw)
set_option maxRecDepth 100000 in
set_option maxHeartbeats 4000000 in
theorem c_X1_add {G : GG} {n : Nat} {l : Launch} (x1 : Int32) (x2 : Int32)  (M : Mem) (Q : Int32 → Mem → Prop) (hw : wp_X1_add x1 x2 M Q) : Ct G n l yX1_add cX1_add 3 (some .int) 0 0 [.ref (gad G 1 0), .int x1, .int x2] M (Qi G n Q) := by
  refine ct_of (by decide) (Nat.le_of_ble_eq_true rfl) (lv := [(0, .ref (gad G 1 0)), (1, .int x1), (2, .int x2)]) rfl (fun E C HR HT hE => ?_)
  replace C : Cx G n E RX1 cX1_add 3 := C
  refine w_aload_n C 0 dX1_add_0 rfl rfl ?_
  refine gf_X1_18 C (Nat.le_of_ble_eq_true rfl) dX1_add_1 ?_
  refine w_bipush C dX1_add_4 kc_b_16 ?_
  refine w_icmp_lt C dX1_add_6 (tgt := 12) rfl (fun c1 => ?_) (fun c1 => ?_)
  · replace hw := hw.1 c1
    refine w_aload_n C 0 dX1_add_12 rfl rfl ?_
    refine gf_X1_9 C (Nat.le_of_ble_eq_true rfl) dX1_add_13 ?_
    refine w_aload_n C 0 dX1_add_16 rfl rfl ?_
    refine gf_X1_18 C (Nat.le_of_ble_eq_true rfl) dX1_add_17 ?_
    refine w_iload_n C 1 dX1_add_20 rfl rfl ?_
    obtain ⟨b2, hw⟩ := hw
    refine v_iast C ak_22 rfl (Nat.le_of_ble_eq_true rfl) b2 dX1_add_21 (w_mem fun M3 eM3 => ?_)
    replace hw := hw M3 eM3
    refine w_aload_n C 0 dX1_add_22 rfl rfl ?_
    refine gf_X1_15 C (Nat.le_of_ble_eq_true rfl) dX1_add_23 ?_
    refine w_aload_n C 0 dX1_add_26 rfl rfl ?_
    refine gf_X1_18 C (Nat.le_of_ble_eq_true rfl) dX1_add_27 ?_
    refine w_iload_n C 2 dX1_add_30 rfl rfl ?_
    obtain ⟨b4, hw⟩ := hw
    refine v_iast C ak_23 rfl (Nat.le_of_ble_eq_true rfl) b4 dX1_add_31 (w_mem fun M5 eM5 => ?_)
    replace hw := hw M5 eM5
    refine w_aload_n C 0 dX1_add_32 rfl rfl ?_
    refine w_dup C dX1_add_33 rfl ?_
    refine gf_X1_18 C (Nat.le_of_ble_eq_true rfl) dX1_add_34 ?_
    refine w_iconst C dX1_add_37 kc_i_1 ?_
    refine w_iadd C dX1_add_38 ?_
    refine pf_X1_18 C (Nat.le_of_ble_eq_true rfl) dX1_add_39 (w_mem fun M6 eM6 => ?_)
    replace hw := hw M6 eM6
    refine w_aload_n C 0 dX1_add_42 rfl rfl ?_
    refine gf_X1_18 C (Nat.le_of_ble_eq_true rfl) dX1_add_43 ?_
    refine w_iconst C dX1_add_46 kc_i_1 ?_
    refine w_isub C dX1_add_47 ?_
    exact ret_I C HT hw dX1_add_48
  · replace hw := hw.2 c1
    refine w_bipush C dX1_add_9 kc_b_m4 ?_
    exact ret_I C HT hw dX1_add_11
set_option maxRecDepth 100000 in
set_option maxHeartbeats 4000000 in
theorem s_X1_ledBackTo_79 {G : GG} {n : Nat} {E : EE} (C : Cx G n E RX1 cX1_ledBackTo 6) (HR : RM E 0 0) (HT : RT E (some .int)) {Q : Int32 → Mem → Prop} {K7 : Int32 → Int32 → Int32 → Mem → Prop} (g7 : ∀ (x2 : Int32) (x3 : Int32) (x4 : Int32)  (M : Mem), K7 x2 x3 x4 M → WW G n E 6 (QE G E (Qi G n Q)) 7 [(0, .ref (gad G 1 0)), (2, .int x2), (3, .int x3), (4, .int x4)] [] M) {K24 : Int32 → Int32 → Int32 → Int32 → Mem → Prop} (g24 : ∀ (x2 : Int32) (x3 : Int32) (x4 : Int32) (x5 : Int32)  (M : Mem), K24 x2 x3 x4 x5 M → WW G n E 6 (QE G E (Qi G n Q)) 24 [(0, .ref (gad G 1 0)), (2, .int x2), (3, .int x3), (4, .int x4), (5, .int x5)] [] M) : ∀ (x2 : Int32) (x3 : Int32) (x4 : Int32) (x5 : Int32)  (M : Mem), w_X1_ledBackTo_79 Q K7 K24 x2 x3 x4 x5 M → WW G n E 6 (QE G E (Qi G n Q)) 79 [(0, .ref (gad G 1 0)), (2, .int x2), (3, .int x3), (4, .int x4), (5, .int x5)] [] M := by
  intro x2 x3 x4 x5 M hw
  refine w_iincV C (lv' := [(5, .int (x5 + 1)), (0, .ref (gad G 1 0)), (2, .int x2), (3, .int x3), (4, .int x4)]) 4 dX1_ledBackTo_79 kc_i_1 rfl (by decide) rfl ?_
  refine w_goto C dX1_ledBackTo_82 (tgt := 24) rfl ?_
  exact w_sub [1, 2, 3, 4, 0] rfl (g24 x2 x3 x4 (x5 + 1)  _ hw)
set_option maxRecDepth 100000 in
set_option maxHeartbeats 4000000 in
theorem s_X1_ledBackTo_69 {G : GG} {n : Nat} {E : EE} (C : Cx G n E RX1 cX1_ledBackTo 6) (HR : RM E 0 0) (HT : RT E (some .int)) {Q : Int32 → Mem → Prop} {K7 : Int32 → Int32 → Int32 → Mem → Prop} (g7 : ∀ (x2 : Int32) (x3 : Int32) (x4 : Int32)  (M : Mem), K7 x2 x3 x4 M → WW G n E 6 (QE G E (Qi G n Q)) 7 [(0, .ref (gad G 1 0)), (2, .int x2), (3, .int x3), (4, .int x4)] [] M) {K24 : Int32 → Int32 → Int32 → Int32 → Mem → Prop} (g24 : ∀ (x2 : Int32) (x3 : Int32) (x4 : Int32) (x5 : Int32)  (M : Mem), K24 x2 x3 x4 x5 M → WW G n E 6 (QE G E (Qi G n Q)) 24 [(0, .ref (gad G 1 0)), (2, .int x2), (3, .int x3), (4, .int x4), (5, .int x5)] [] M) : ∀ (x2 : Int32) (x3 : Int32) (x4 : Int32) (x5 : Int32)  (M : Mem), w_X1_ledBackTo_69 Q K7 K24 x2 x3 x4 x5 M → WW G n E 6 (QE G E (Qi G n Q)) 69 [(0, .ref (gad G 1 0)), (2, .int x2), (3, .int x3), (4, .int x4), (5, .int x5)] [] M := by
  intro x2 x3 x4 x5 M hw
  refine w_iload_n C 1 dX1_ledBackTo_69 rfl rfl ?_
  refine w_iconst C dX1_ledBackTo_70 kc_i_1 ?_
  refine w_bipush C dX1_ledBackTo_71 kc_b_8 ?_
  refine w_iload C 4 dX1_ledBackTo_73 rfl ?_
  refine w_iadd C dX1_ledBackTo_75 ?_
  refine w_ishl C dX1_ledBackTo_76 ?_
  refine w_ior C dX1_ledBackTo_77 ?_
  refine w_istore_nV C dX1_ledBackTo_78 rfl (by decide) (fun a10 ea10 => w_lv (lv' := [(2, .int a10), (0, .ref (gad G 1 0)), (3, .int x3), (4, .int x4), (5, .int x5)]) rfl ?_)
  replace hw := hw a10 ea10
  exact w_sub [1, 0, 2, 3, 4] rfl (s_X1_ledBackTo_79 C HR HT g7 g24 a10 x3 x4 x5  _ hw)
set_option maxRecDepth 100000 in
set_option maxHeartbeats 4000000 in
theorem s_X1_ledBackTo_24 {G : GG} {n : Nat} {E : EE} (C : Cx G n E RX1 cX1_ledBackTo 6) (HR : RM E 0 0) (HT : RT E (some .int)) {Q : Int32 → Mem → Prop} {K7 : Int32 → Int32 → Int32 → Mem → Prop} (g7 : ∀ (x2 : Int32) (x3 : Int32) (x4 : Int32)  (M : Mem), K7 x2 x3 x4 M → WW G n E 6 (QE G E (Qi G n Q)) 7 [(0, .ref (gad G 1 0)), (2, .int x2), (3, .int x3), (4, .int x4)] [] M) : ∀ (f : Nat) (x2 : Int32) (x3 : Int32) (x4 : Int32) (x5 : Int32)  (M : Mem), w_X1_ledBackTo_24 Q K7 f x2 x3 x4 x5 M → WW G n E 6 (QE G E (Qi G n Q)) 24 [(0, .ref (gad G 1 0)), (2, .int x2), (3, .int x3), (4, .int x4), (5, .int x5)] [] M := by
  intro f
  induction f with
  | zero => intro x2 x3 x4 x5 M hw; exact hw.elim
  | succ f ih =>
    intro x2 x3 x4 x5 M hw
    refine w_iload C 4 dX1_ledBackTo_24 rfl ?_
    refine w_aload_n C 0 dX1_ledBackTo_26 rfl rfl ?_
    refine gf_X1_18 C (Nat.le_of_ble_eq_true rfl) dX1_ledBackTo_27 ?_
    refine w_icmp_ge C dX1_ledBackTo_30 (tgt := 85) rfl (fun c5 => ?_) (fun c5 => ?_)
    · replace hw := hw.1 c5
      refine w_iincV C (lv' := [(4, .int (x4 + 1)), (0, .ref (gad G 1 0)), (2, .int x2), (3, .int x3), (5, .int x5)]) 3 dX1_ledBackTo_85 kc_i_1 rfl (by decide) rfl ?_
      refine w_goto C dX1_ledBackTo_88 (tgt := 7) rfl ?_
      exact w_sub [1, 2, 3, 0] rfl (g7 x2 x3 (x4 + 1)  _ hw)
    · replace hw := hw.2 c5
      refine w_aload_n C 0 dX1_ledBackTo_33 rfl rfl ?_
      refine gf_X1_9 C (Nat.le_of_ble_eq_true rfl) dX1_ledBackTo_34 ?_
      refine w_iload C 4 dX1_ledBackTo_37 rfl ?_
      obtain ⟨b6, hw⟩ := hw
      refine v_iald C ak_22 rfl (Nat.le_of_ble_eq_true rfl) b6 dX1_ledBackTo_39 ?_
      refine w_iload_n C 1 dX1_ledBackTo_40 rfl rfl ?_
      refine w_iconst C dX1_ledBackTo_41 kc_i_m1 ?_
      refine w_ixor C dX1_ledBackTo_42 ?_
      refine w_iand C dX1_ledBackTo_43 ?_
      refine w_if_ne C dX1_ledBackTo_44 (tgt := 79) rfl (fun c7 => ?_) (fun c7 => ?_)
      · replace hw := hw.2 c7
        exact w_sub [0, 1, 2, 3, 4] rfl (s_X1_ledBackTo_79 C HR HT g7 ih x2 x3 x4 x5  _ hw)
      · replace hw := hw.1 c7
        refine w_aload_n C 0 dX1_ledBackTo_47 rfl rfl ?_
        refine gf_X1_15 C (Nat.le_of_ble_eq_true rfl) dX1_ledBackTo_48 ?_
        refine w_iload C 4 dX1_ledBackTo_51 rfl ?_
        obtain ⟨b8, hw⟩ := hw
        refine v_iald C ak_23 rfl (Nat.le_of_ble_eq_true rfl) b8 dX1_ledBackTo_53 ?_
        refine w_if_eq C dX1_ledBackTo_54 (tgt := 69) rfl (fun c9 => ?_) (fun c9 => ?_)
        · replace hw := hw.1 c9
          exact w_sub [0, 1, 2, 3, 4] rfl (s_X1_ledBackTo_69 C HR HT g7 ih x2 x3 x4 x5  _ hw)
        · replace hw := hw.2 c9
          refine w_aload_n C 0 dX1_ledBackTo_57 rfl rfl ?_
          refine gf_X1_15 C (Nat.le_of_ble_eq_true rfl) dX1_ledBackTo_58 ?_
          refine w_iload C 4 dX1_ledBackTo_61 rfl ?_
          obtain ⟨b11, hw⟩ := hw
          refine v_iald C ak_23 rfl (Nat.le_of_ble_eq_true rfl) b11 dX1_ledBackTo_63 ?_
          refine w_iload_n C 1 dX1_ledBackTo_64 rfl rfl ?_
          refine w_iand C dX1_ledBackTo_65 ?_
          refine w_if_eq C dX1_ledBackTo_66 (tgt := 79) rfl (fun c12 => ?_) (fun c12 => ?_)
          · replace hw := hw.1 c12
            exact w_sub [0, 1, 2, 3, 4] rfl (s_X1_ledBackTo_79 C HR HT g7 ih x2 x3 x4 x5  _ hw)
          · replace hw := hw.2 c12
            exact w_sub [0, 1, 2, 3, 4] rfl (s_X1_ledBackTo_69 C HR HT g7 ih x2 x3 x4 x5  _ hw)
set_option maxRecDepth 100000 in
set_option maxHeartbeats 4000000 in
theorem s_X1_ledBackTo_7 {G : GG} {n : Nat} {E : EE} (C : Cx G n E RX1 cX1_ledBackTo 6) (HR : RM E 0 0) (HT : RT E (some .int)) {Q : Int32 → Mem → Prop}  : ∀ (f : Nat) (x2 : Int32) (x3 : Int32) (x4 : Int32)  (M : Mem), w_X1_ledBackTo_7 Q  f x2 x3 x4 M → WW G n E 6 (QE G E (Qi G n Q)) 7 [(0, .ref (gad G 1 0)), (2, .int x2), (3, .int x3), (4, .int x4)] [] M := by
  intro f
  induction f with
  | zero => intro x2 x3 x4 M hw; exact hw.elim
  | succ f ih =>
    intro x2 x3 x4 M hw
    refine w_iload C 3 dX1_ledBackTo_7 rfl ?_
    refine w_bipush C dX1_ledBackTo_9 kc_b_16 ?_
    refine w_icmp_gt C dX1_ledBackTo_11 (tgt := 91) rfl (fun c2 => ?_) (fun c2 => ?_)
    · replace hw := hw.1 c2
      refine w_iload_n C 1 dX1_ledBackTo_91 rfl rfl ?_
      refine w_bipush C dX1_ledBackTo_92 kc_b_8 ?_
      refine w_ishr C dX1_ledBackTo_94 ?_
      exact ret_I C HT hw dX1_ledBackTo_95
    · replace hw := hw.2 c2
      refine w_iload_n C 1 dX1_ledBackTo_14 rfl rfl ?_
      refine w_iload_n C 2 dX1_ledBackTo_15 rfl rfl ?_
      refine w_icmp_eq C dX1_ledBackTo_16 (tgt := 91) rfl (fun c3 => ?_) (fun c3 => ?_)
      · replace hw := hw.1 c3
        refine w_iload_n C 1 dX1_ledBackTo_91 rfl rfl ?_
        refine w_bipush C dX1_ledBackTo_92 kc_b_8 ?_
        refine w_ishr C dX1_ledBackTo_94 ?_
        exact ret_I C HT hw dX1_ledBackTo_95
      · replace hw := hw.2 c3
        refine w_iload_n C 1 dX1_ledBackTo_19 rfl rfl ?_
        refine w_istore_n C (lv' := [(3, .int x2), (0, .ref (gad G 1 0)), (2, .int x2), (4, .int x4)]) dX1_ledBackTo_20 rfl (by decide) rfl ?_
        refine w_iconst C dX1_ledBackTo_21 kc_i_0 ?_
        refine w_istore C (lv' := [(5, .int 0), (3, .int x2), (0, .ref (gad G 1 0)), (2, .int x2), (4, .int x4)]) dX1_ledBackTo_22 (by decide) rfl ?_
        obtain ⟨f4, hw⟩ := hw
        exact w_sub [2, 3, 1, 4, 0] rfl (s_X1_ledBackTo_24 C HR HT ih f4 x2 x2 x4 0  _ hw)
set_option maxRecDepth 100000 in
set_option maxHeartbeats 4000000 in
theorem c_X1_ledBackTo {G : GG} {n : Nat} {l : Launch} (x1 : Int32)  (M : Mem) (Q : Int32 → Mem → Prop) (hw : wp_X1_ledBackTo x1 M Q) : Ct G n l yX1_ledBackTo cX1_ledBackTo 6 (some .int) 0 0 [.ref (gad G 1 0), .int x1] M (Qi G n Q) := by
  refine ct_of (by decide) (Nat.le_of_ble_eq_true rfl) (lv := [(0, .ref (gad G 1 0)), (1, .int x1)]) rfl (fun E C HR HT hE => ?_)
  replace C : Cx G n E RX1 cX1_ledBackTo 6 := C
  refine w_iload_n C 1 dX1_ledBackTo_0 rfl rfl ?_
  refine w_istore_n C (lv' := [(2, .int x1), (0, .ref (gad G 1 0)), (1, .int x1)]) dX1_ledBackTo_1 rfl (by decide) rfl ?_
  refine w_iconst C dX1_ledBackTo_2 kc_i_m1 ?_
  refine w_istore_n C (lv' := [(3, .int (-1)), (2, .int x1), (0, .ref (gad G 1 0)), (1, .int x1)]) dX1_ledBackTo_3 rfl (by decide) rfl ?_
  refine w_iconst C dX1_ledBackTo_4 kc_i_0 ?_
  refine w_istore C (lv' := [(4, .int 0), (3, .int (-1)), (2, .int x1), (0, .ref (gad G 1 0)), (1, .int x1)]) dX1_ledBackTo_5 (by decide) rfl ?_
  obtain ⟨f1, hw⟩ := hw
  exact w_sub [3, 2, 1, 0] rfl (s_X1_ledBackTo_7 C HR HT  f1 x1 (-1) 0  _ hw)
set_option maxRecDepth 100000 in
set_option maxHeartbeats 4000000 in
theorem s_J7_fill_53178_5 {G : GG} {n : Nat} {E : EE} (C : Cx G n E RJ7 cJ7_fill_53178 4) (HR : RM E 0 0) (HT : RT E none) {Q : Mem → Prop}  : ∀ (f : Nat) (k0 : Nat) (j0 : Nat) (x1 : Int32) (x2 : Int32) (x3 : Int32) (hk0 : AK k0 0) (hj0 : j0 < cnt n k0) (M : Mem), w_J7_fill_53178_5 Q  f k0 j0 x1 x2 x3 M → WW G n E 4 (QE G E (Qv G n Q)) 5 [(0, .ref (gad G k0 j0)), (1, .int x1), (2, .int x2), (3, .int x3)] [] M := by
  intro f
  induction f with
  | zero => intro k0 j0 x1 x2 x3 hk0 hj0 M hw; exact hw.elim
  | succ f ih =>
    intro k0 j0 x1 x2 x3 hk0 hj0 M hw
    refine w_iload_n C 2 dJ7_fill_53178_5 rfl rfl ?_
    refine w_iload_n C 3 dJ7_fill_53178_6 rfl rfl ?_
    refine w_icmp_ge C dJ7_fill_53178_7 (tgt := 20) rfl (fun c3 => ?_) (fun c3 => ?_)
    · replace hw := hw.1 c3
      exact ret_V C HT hw dJ7_fill_53178_20
    · replace hw := hw.2 c3
      refine w_aload_n C 0 dJ7_fill_53178_10 rfl rfl ?_
      refine w_iload_n C 2 dJ7_fill_53178_11 rfl rfl ?_
      refine w_iload_n C 1 dJ7_fill_53178_12 rfl rfl ?_
      obtain ⟨b4, hw⟩ := hw
      refine v_iast C hk0 rfl hj0 b4 dJ7_fill_53178_13 (w_mem fun M5 eM5 => ?_)
      replace hw := hw M5 eM5
      refine w_iincV C (lv' := [(2, .int (x2 + 1)), (0, .ref (gad G k0 j0)), (1, .int x1), (3, .int x3)]) 2 dJ7_fill_53178_14 kc_i_1 rfl (by decide) rfl ?_
      refine w_goto C dJ7_fill_53178_17 (tgt := 5) rfl ?_
      exact w_sub [1, 2, 0, 3] rfl (ih k0 j0 x1 (x2 + 1) x3 hk0 hj0 _ hw)
set_option maxRecDepth 100000 in
set_option maxHeartbeats 4000000 in
theorem c_J7_fill_53178 {G : GG} {n : Nat} {l : Launch} (k0 : Nat) (j0 : Nat) (x1 : Int32) (hk0 : AK k0 0) (hj0 : j0 < cnt n k0) (M : Mem) (Q : Mem → Prop) (hw : wp_J7_fill_53178 k0 j0 x1 M Q) : Ct G n l yJ7_fill_53178 cJ7_fill_53178 4 none 0 0 [.ref (gad G k0 j0), .int x1] M (Qv G n Q) := by
  refine ct_ofF (by decide +kernel) (Nat.le_of_ble_eq_true rfl) (lv := [(0, .ref (gad G k0 j0)), (1, .int x1)]) rfl (fun E C HR HT hE => ?_)
  replace C : Cx G n E RJ7 cJ7_fill_53178 4 := C
  refine w_iconst C dJ7_fill_53178_0 kc_i_0 ?_
  refine w_istore_n C (lv' := [(2, .int 0), (0, .ref (gad G k0 j0)), (1, .int x1)]) dJ7_fill_53178_1 rfl (by decide) rfl ?_
  refine w_aload_n C 1 dJ7_fill_53178_2 rfl rfl ?_
  refine v_alen C hk0 rfl hj0 dJ7_fill_53178_3 ?_
  refine w_istore_nV C dJ7_fill_53178_4 rfl (by decide) (fun a1 ea1 => w_lv (lv' := [(3, .int a1), (2, .int 0), (0, .ref (gad G k0 j0)), (1, .int x1)]) rfl ?_)
  replace hw := hw a1 ea1
  obtain ⟨f2, hw⟩ := hw
  exact w_sub [2, 3, 1, 0] rfl (s_J7_fill_53178_5 C HR HT  f2 k0 j0 x1 0 a1 hk0 hj0 _ hw)
set_option maxRecDepth 100000 in
set_option maxHeartbeats 4000000 in
theorem s_X2_addPosted_10 {G : GG} {n : Nat} {E : EE} (C : Cx G n E RX2 cX2_addPosted 5) (HR : RM E 0 0) (HT : RT E none) {Q : Mem → Prop}  : ∀ (f : Nat) (x1 : Int32) (x2 : Int32) (x3 : Int32) (x4 : Int32)  (M : Mem), w_X2_addPosted_10 Q  f x1 x2 x3 x4 M → WW G n E 5 (QE G E (Qv G n Q)) 10 [(0, .ref (gad G 2 0)), (1, .int x1), (2, .int x2), (3, .int x3), (4, .int x4)] [] M := by
  intro f
  induction f with
  | zero => intro x1 x2 x3 x4 M hw; exact hw.elim
  | succ f ih =>
    intro x1 x2 x3 x4 M hw
    refine w_iload C 4 dX2_addPosted_10 rfl ?_
    refine w_iload_n C 3 dX2_addPosted_12 rfl rfl ?_
    refine w_icmp_ge C dX2_addPosted_13 (tgt := 36) rfl (fun c4 => ?_) (fun c4 => ?_)
    · replace hw := hw.1 c4
      refine w_iload_n C 3 dX2_addPosted_36 rfl rfl ?_
      refine w_bipush C dX2_addPosted_37 kc_b_78 ?_
      refine w_icmp_ge C dX2_addPosted_39 (tgt := 61) rfl (fun c5 => ?_) (fun c5 => ?_)
      · replace hw := hw.1 c5
        exact ret_V C HT hw dX2_addPosted_61
      · replace hw := hw.2 c5
        refine w_aload_n C 0 dX2_addPosted_42 rfl rfl ?_
        refine gf_X2_23 C (Nat.le_of_ble_eq_true rfl) dX2_addPosted_43 ?_
        refine w_iload_n C 1 dX2_addPosted_46 rfl rfl ?_
        obtain ⟨b6, hw⟩ := hw
        refine v_aaldP C b6 dX2_addPosted_47 ?_
        refine w_iload_n C 3 dX2_addPosted_48 rfl rfl ?_
        refine w_iload_n C 2 dX2_addPosted_49 rfl rfl ?_
        obtain ⟨b7, hw⟩ := hw
        refine v_iast C ak_86 rfl (vin_lt b6) b7 dX2_addPosted_50 (w_mem fun M8 eM8 => ?_)
        replace hw := hw M8 eM8
        refine w_aload_n C 0 dX2_addPosted_51 rfl rfl ?_
        refine gf_X2_26 C (Nat.le_of_ble_eq_true rfl) dX2_addPosted_52 ?_
        refine w_iload_n C 1 dX2_addPosted_55 rfl rfl ?_
        refine w_dup2 C dX2_addPosted_56 rfl rfl ?_
        obtain ⟨b9, hw⟩ := hw
        refine v_iald C ak_28 rfl (Nat.le_of_ble_eq_true rfl) b9 dX2_addPosted_57 ?_
        refine w_iconst C dX2_addPosted_58 kc_i_1 ?_
        refine w_iadd C dX2_addPosted_59 ?_
        obtain ⟨b10, hw⟩ := hw
        refine v_iast C ak_28 rfl (Nat.le_of_ble_eq_true rfl) b10 dX2_addPosted_60 (w_mem fun M11 eM11 => ?_)
        replace hw := hw M11 eM11
        exact ret_V C HT hw dX2_addPosted_61
    · replace hw := hw.2 c4
      refine w_aload_n C 0 dX2_addPosted_16 rfl rfl ?_
      refine gf_X2_23 C (Nat.le_of_ble_eq_true rfl) dX2_addPosted_17 ?_
      refine w_iload_n C 1 dX2_addPosted_20 rfl rfl ?_
      obtain ⟨b12, hw⟩ := hw
      refine v_aaldP C b12 dX2_addPosted_21 ?_
      refine w_iload C 4 dX2_addPosted_22 rfl ?_
      obtain ⟨b13, hw⟩ := hw
      refine v_iald C ak_86 rfl (vin_lt b12) b13 dX2_addPosted_24 ?_
      refine w_iload_n C 2 dX2_addPosted_25 rfl rfl ?_
      refine w_icmp_ne C dX2_addPosted_26 (tgt := 30) rfl (fun c14 => ?_) (fun c14 => ?_)
      · replace hw := hw.2 c14
        refine w_iincV C (lv' := [(4, .int (x4 + 1)), (0, .ref (gad G 2 0)), (1, .int x1), (2, .int x2), (3, .int x3)]) 4 dX2_addPosted_30 kc_i_1 rfl (by decide) rfl ?_
        refine w_goto C dX2_addPosted_33 (tgt := 10) rfl ?_
        exact w_sub [1, 2, 3, 4, 0] rfl (ih x1 x2 x3 (x4 + 1)  _ hw)
      · replace hw := hw.1 c14
        exact ret_V C HT hw dX2_addPosted_29
set_option maxRecDepth 100000 in
set_option maxHeartbeats 4000000 in
theorem c_X2_addPosted {G : GG} {n : Nat} {l : Launch} (x1 : Int32) (x2 : Int32)  (M : Mem) (Q : Mem → Prop) (hw : wp_X2_addPosted x1 x2 M Q) : Ct G n l yX2_addPosted cX2_addPosted 5 none 0 0 [.ref (gad G 2 0), .int x1, .int x2] M (Qv G n Q) := by
  refine ct_of (by decide) (Nat.le_of_ble_eq_true rfl) (lv := [(0, .ref (gad G 2 0)), (1, .int x1), (2, .int x2)]) rfl (fun E C HR HT hE => ?_)
  replace C : Cx G n E RX2 cX2_addPosted 5 := C
  refine w_aload_n C 0 dX2_addPosted_0 rfl rfl ?_
  refine gf_X2_26 C (Nat.le_of_ble_eq_true rfl) dX2_addPosted_1 ?_
  refine w_iload_n C 1 dX2_addPosted_4 rfl rfl ?_
  obtain ⟨b1, hw⟩ := hw
  refine v_iald C ak_28 rfl (Nat.le_of_ble_eq_true rfl) b1 dX2_addPosted_5 ?_
  refine w_istore_nV C dX2_addPosted_6 rfl (by decide) (fun a2 ea2 => w_lv (lv' := [(3, .int a2), (0, .ref (gad G 2 0)), (1, .int x1), (2, .int x2)]) rfl ?_)
  replace hw := hw a2 ea2
  refine w_iconst C dX2_addPosted_7 kc_i_0 ?_
  refine w_istore C (lv' := [(4, .int 0), (3, .int a2), (0, .ref (gad G 2 0)), (1, .int x1), (2, .int x2)]) dX2_addPosted_8 (by decide) rfl ?_
  obtain ⟨f3, hw⟩ := hw
  exact w_sub [2, 3, 4, 1, 0] rfl (s_X2_addPosted_10 C HR HT  f3 x1 x2 a2 0  _ hw)
set_option maxRecDepth 100000 in
set_option maxHeartbeats 4000000 in
theorem c_X9_ledgerOf {G : GG} {n : Nat} {l : Launch} (x0 : Int32)  (M : Mem) (Q : Int32 → Mem → Prop) (hw : wp_X9_ledgerOf x0 M Q) : Ct G n l yX9_ledgerOf cX9_ledgerOf 1 (some .int) 0 0 [.int x0] M (Qi G n Q) := by
  refine ct_of (by decide) (Nat.le_of_ble_eq_true rfl) (lv := [(0, .int x0)]) rfl (fun E C HR HT hE => ?_)
  replace C : Cx G n E RX9 cX9_ledgerOf 1 := C
  refine w_iload_n C 0 dX9_ledgerOf_0 rfl rfl ?_
  refine w_sipush C dX9_ledgerOf_1 kc_s_255 ?_
  refine w_iand C dX9_ledgerOf_4 ?_
  refine w_bipush C dX9_ledgerOf_5 kc_b_99 ?_
  refine w_isub C dX9_ledgerOf_7 ?_
  exact ret_I C HT hw dX9_ledgerOf_8
set_option maxRecDepth 100000 in
set_option maxHeartbeats 4000000 in
theorem s_X2_postFromAfar_12 {G : GG} {n : Nat} {E : EE} (C : Cx G n E RX2 cX2_postFromAfar 6) (HR : RM E 1 24) (HT : RT E none) {Q : Mem → Prop}  : ∀ (f : Nat) (x1 : Int32) (x2 : Int32) (x3 : Int32)  (M : Mem), w_X2_postFromAfar_12 Q  f x1 x2 x3 M → WW G n E 6 (QE G E (Qv G n Q)) 12 [(0, .ref (gad G 2 0)), (1, .int x1), (2, .int x2), (3, .int x3)] [] M := by
  intro f
  induction f with
  | zero => intro x1 x2 x3 M hw; exact hw.elim
  | succ f ih =>
    intro x1 x2 x3 M hw
    refine w_iload_n C 3 dX2_postFromAfar_12 rfl rfl ?_
    refine w_iconst C dX2_postFromAfar_13 kc_i_3 ?_
    refine w_icmp_gt C dX2_postFromAfar_14 (tgt := 75) rfl (fun c5 => ?_) (fun c5 => ?_)
    · replace hw := hw.1 c5
      exact ret_V C HT hw dX2_postFromAfar_75
    · replace hw := hw.2 c5
      refine w_iload_n C 2 dX2_postFromAfar_17 rfl rfl ?_
      refine w_iload_n C 3 dX2_postFromAfar_18 rfl rfl ?_
      refine w_isub C dX2_postFromAfar_19 ?_
      refine w_bipush C dX2_postFromAfar_20 kc_b_m99 ?_
      refine back_I (run_S C HR mt_J9_max_7cf53 gw436 gw790 (by decide) rfl (Nat.le_of_ble_eq_true rfl) dX2_postFromAfar_22 (As := [.int (x2 - x3), .int (-99)]) rfl (c_J9_max_7cf53 (x2 - x3) (-99)  _ _ hw)) (fun r7 M6 hw => ?_)
      refine w_istore C (lv' := [(4, .int r7), (0, .ref (gad G 2 0)), (1, .int x1), (2, .int x2), (3, .int x3)]) dX2_postFromAfar_25 (by decide) rfl ?_
      refine w_iload_n C 3 dX2_postFromAfar_27 rfl rfl ?_
      refine w_iload_n C 4 dX2_postFromAfar_28 rfl rfl ?_
      refine w_iadd C dX2_postFromAfar_29 ?_
      refine w_bipush C dX2_postFromAfar_30 kc_b_99 ?_
      refine back_I (run_S C HR mt_J9_min_7cf53 gw439 gw791 (by decide) rfl (Nat.le_of_ble_eq_true rfl) dX2_postFromAfar_32 (As := [.int (x2 + x3), .int 99]) rfl (c_J9_min_7cf53 (x2 + x3) 99  _ _ hw)) (fun r9 M8 hw => ?_)
      refine w_istore C (lv' := [(5, .int r9), (4, .int r7), (0, .ref (gad G 2 0)), (1, .int x1), (2, .int x2), (3, .int x3)]) dX2_postFromAfar_35 (by decide) rfl ?_
      refine w_aload_n C 2 dX2_postFromAfar_37 rfl rfl ?_
      refine w_iload_n C 3 dX2_postFromAfar_38 rfl rfl ?_
      refine w_aload_n C 2 dX2_postFromAfar_39 rfl rfl ?_
      refine gf_X2_18 C (Nat.le_of_ble_eq_true rfl) dX2_postFromAfar_40 ?_
      refine w_iload_n C 3 dX2_postFromAfar_43 rfl rfl ?_
      obtain ⟨b10, hw⟩ := hw
      refine v_iald C ak_26 rfl (Nat.le_of_ble_eq_true rfl) b10 dX2_postFromAfar_44 ?_
      refine w_iload C 1 dX2_postFromAfar_45 rfl ?_
      refine w_iadd C dX2_postFromAfar_47 ?_
      refine w_iload_n C 4 dX2_postFromAfar_48 rfl rfl ?_
      refine w_isub C dX2_postFromAfar_49 ?_
      refine back_V (run_V C HR mt_X2_addPosted (ci := 2) rfl (by decide) (Nat.le_of_ble_eq_true rfl) gw794 gw19 gw792 (by decide) rfl (Nat.le_of_ble_eq_true rfl) dX2_postFromAfar_50 (As := [.int x1, .int (((M8 26 0 x1.toNatClampNeg) + r7) - x2)]) rfl (c_X2_addPosted x1 (((M8 26 0 x1.toNatClampNeg) + r7) - x2)  _ _ hw)) (fun M11 hw => ?_)
      refine w_aload_n C 2 dX2_postFromAfar_53 rfl rfl ?_
      refine w_iload_n C 3 dX2_postFromAfar_54 rfl rfl ?_
      refine w_aload_n C 2 dX2_postFromAfar_55 rfl rfl ?_
      refine gf_X2_18 C (Nat.le_of_ble_eq_true rfl) dX2_postFromAfar_56 ?_
      refine w_iload_n C 3 dX2_postFromAfar_59 rfl rfl ?_
      obtain ⟨b12, hw⟩ := hw
      refine v_iald C ak_26 rfl (Nat.le_of_ble_eq_true rfl) b12 dX2_postFromAfar_60 ?_
      refine w_iload C 0 dX2_postFromAfar_61 rfl ?_
      refine w_iadd C dX2_postFromAfar_63 ?_
      refine w_iload_n C 4 dX2_postFromAfar_64 rfl rfl ?_
      refine w_isub C dX2_postFromAfar_65 ?_
      refine back_V (run_V C HR mt_X2_addPosted (ci := 2) rfl (by decide) (Nat.le_of_ble_eq_true rfl) gw794 gw19 gw792 (by decide) rfl (Nat.le_of_ble_eq_true rfl) dX2_postFromAfar_66 (As := [.int x1, .int (((M11 26 0 x1.toNatClampNeg) + r9) - x2)]) rfl (c_X2_addPosted x1 (((M11 26 0 x1.toNatClampNeg) + r9) - x2)  _ _ hw)) (fun M13 hw => ?_)
      refine w_iincV C (lv' := [(3, .int (x3 + 1)), (5, .int r9), (4, .int r7), (0, .ref (gad G 2 0)), (1, .int x1), (2, .int x2)]) 5 dX2_postFromAfar_69 kc_i_1 rfl (by decide) rfl ?_
      refine w_goto C dX2_postFromAfar_72 (tgt := 12) rfl ?_
      exact w_sub [3, 4, 5, 0] rfl (ih x1 x2 (x3 + 1)  _ hw)
set_option maxRecDepth 100000 in
set_option maxHeartbeats 4000000 in
theorem c_X2_postFromAfar {G : GG} {n : Nat} {l : Launch} (x1 : Int32)  (M : Mem) (Q : Mem → Prop) (hw : wp_X2_postFromAfar x1 M Q) : Ct G n l yX2_postFromAfar cX2_postFromAfar 6 none 1 24 [.ref (gad G 2 0), .int x1] M (Qv G n Q) := by
  refine ct_of (by decide) (Nat.le_of_ble_eq_true rfl) (lv := [(0, .ref (gad G 2 0)), (1, .int x1)]) rfl (fun E C HR HT hE => ?_)
  replace C : Cx G n E RX2 cX2_postFromAfar 6 := C
  refine w_aload_n C 0 dX2_postFromAfar_0 rfl rfl ?_
  refine gf_X2_18 C (Nat.le_of_ble_eq_true rfl) dX2_postFromAfar_1 ?_
  refine w_iload_n C 1 dX2_postFromAfar_4 rfl rfl ?_
  obtain ⟨b1, hw⟩ := hw
  refine v_iald C ak_26 rfl (Nat.le_of_ble_eq_true rfl) b1 dX2_postFromAfar_5 ?_
  refine back_I (run_SN C HR mt_X9_ledgerOf gw568 nw789 (by decide) rfl (Nat.le_of_ble_eq_true rfl) dX2_postFromAfar_6 (As := [.int (M 26 0 x1.toNatClampNeg)]) rfl (c_X9_ledgerOf (M 26 0 x1.toNatClampNeg)  _ _ hw)) (fun r3 M2 hw => ?_)
  refine w_istore_n C (lv' := [(2, .int r3), (0, .ref (gad G 2 0)), (1, .int x1)]) dX2_postFromAfar_9 rfl (by decide) rfl ?_
  refine w_iconst C dX2_postFromAfar_10 kc_i_1 ?_
  refine w_istore_n C (lv' := [(3, .int 1), (2, .int r3), (0, .ref (gad G 2 0)), (1, .int x1)]) dX2_postFromAfar_11 rfl (by decide) rfl ?_
  obtain ⟨f4, hw⟩ := hw
  exact w_sub [2, 3, 1, 0] rfl (s_X2_postFromAfar_12 C HR HT  f4 x1 r3 1  _ hw)
set_option maxRecDepth 100000 in
set_option maxHeartbeats 4000000 in
theorem s_X2_begin_73 {G : GG} {n : Nat} {E : EE} (C : Cx G n E RX2 cX2_begin 3) (HR : RM E 2 49) (HT : RT E none) {Q : Mem → Prop} {K15 : Nat → Int32 → Mem → Prop} (g15 : ∀ (j1 : Nat) (x2 : Int32) (hj1 : j1 < cnt n 0) (M : Mem), K15 j1 x2 M → WW G n E 3 (QE G E (Qv G n Q)) 15 [(0, .ref (gad G 2 0)), (1, .ref (gad G 0 j1)), (2, .int x2)] [] M) : ∀ (j1 : Nat) (x2 : Int32) (hj1 : j1 < cnt n 0) (M : Mem), w_X2_begin_73 Q K15 j1 x2 M → WW G n E 3 (QE G E (Qv G n Q)) 73 [(0, .ref (gad G 2 0)), (1, .ref (gad G 0 j1)), (2, .int x2)] [] M := by
  intro j1 x2 hj1 M hw
  refine w_iincV C (lv' := [(2, .int (x2 + 1)), (0, .ref (gad G 2 0)), (1, .ref (gad G 0 j1))]) 2 dX2_begin_73 kc_i_1 rfl (by decide) rfl ?_
  refine w_goto C dX2_begin_76 (tgt := 15) rfl ?_
  exact w_sub [1, 2, 0] rfl (g15 j1 (x2 + 1) hj1 _ hw)
set_option maxRecDepth 100000 in
set_option maxHeartbeats 4000000 in
theorem s_X2_begin_15 {G : GG} {n : Nat} {E : EE} (C : Cx G n E RX2 cX2_begin 3) (HR : RM E 2 49) (HT : RT E none) {Q : Mem → Prop}  : ∀ (f : Nat) (j1 : Nat) (x2 : Int32) (hj1 : j1 < cnt n 0) (M : Mem), w_X2_begin_15 Q  f j1 x2 M → WW G n E 3 (QE G E (Qv G n Q)) 15 [(0, .ref (gad G 2 0)), (1, .ref (gad G 0 j1)), (2, .int x2)] [] M := by
  intro f
  induction f with
  | zero => intro j1 x2 hj1 M hw; exact hw.elim
  | succ f ih =>
    intro j1 x2 hj1 M hw
    refine w_iload_n C 2 dX2_begin_15 rfl rfl ?_
    refine w_aload_n C 0 dX2_begin_16 rfl rfl ?_
    refine gf_X2_39 C (Nat.le_of_ble_eq_true rfl) dX2_begin_17 ?_
    refine w_icmp_ge C dX2_begin_20 (tgt := 79) rfl (fun c4 => ?_) (fun c4 => ?_)
    · replace hw := hw.1 c4
      refine w_aload_n C 0 dX2_begin_79 rfl rfl ?_
      refine gf_X2_18 C (Nat.le_of_ble_eq_true rfl) dX2_begin_80 ?_
      refine w_iconst C dX2_begin_83 kc_i_0 ?_
      refine w_ldc C dX2_begin_84 gw784 ?_
      obtain ⟨b5, hw⟩ := hw
      refine v_iast C ak_26 rfl (Nat.le_of_ble_eq_true rfl) b5 dX2_begin_86 (w_mem fun M6 eM6 => ?_)
      replace hw := hw M6 eM6
      refine w_aload_n C 0 dX2_begin_87 rfl rfl ?_
      refine w_iconst C dX2_begin_88 kc_i_0 ?_
      refine pf_X2_46 C (Nat.le_of_ble_eq_true rfl) dX2_begin_89 (w_mem fun M7 eM7 => ?_)
      replace hw := hw M7 eM7
      refine w_aload_n C 0 dX2_begin_92 rfl rfl ?_
      refine gf_X2_26 C (Nat.le_of_ble_eq_true rfl) dX2_begin_93 ?_
      refine w_iconst C dX2_begin_96 kc_i_0 ?_
      refine w_iconst C dX2_begin_97 kc_i_0 ?_
      obtain ⟨b8, hw⟩ := hw
      refine v_iast C ak_28 rfl (Nat.le_of_ble_eq_true rfl) b8 dX2_begin_98 (w_mem fun M9 eM9 => ?_)
      replace hw := hw M9 eM9
      refine w_aload_n C 0 dX2_begin_99 rfl rfl ?_
      refine w_iconst C dX2_begin_100 kc_i_0 ?_
      refine back_V (run_V C HR mt_X2_postFromAfar (ci := 2) rfl (by decide) (Nat.le_of_ble_eq_true rfl) gw787 gw18 gw785 (by decide) rfl (Nat.le_of_ble_eq_true rfl) dX2_begin_101 (As := [.int 0]) rfl (c_X2_postFromAfar 0  _ _ hw)) (fun M10 hw => ?_)
      refine w_aload_n C 0 dX2_begin_104 rfl rfl ?_
      refine w_iconst C dX2_begin_105 kc_i_0 ?_
      refine pf_X2_49 C (Nat.le_of_ble_eq_true rfl) dX2_begin_106 (w_mem fun M11 eM11 => ?_)
      replace hw := hw M11 eM11
      exact ret_V C HT hw dX2_begin_109
    · replace hw := hw.2 c4
      refine w_aload_n C 0 dX2_begin_23 rfl rfl ?_
      refine gf_X2_9 C (Nat.le_of_ble_eq_true rfl) dX2_begin_24 ?_
      refine w_iload_n C 2 dX2_begin_27 rfl rfl ?_
      refine w_aload_n C 1 dX2_begin_28 rfl rfl ?_
      refine gf_X2_95 C hj1 dX2_begin_29 ?_
      refine w_iload_n C 2 dX2_begin_32 rfl rfl ?_
      obtain ⟨b12, hw⟩ := hw
      refine v_iald C ak_20 rfl hj1 b12 dX2_begin_33 ?_
      obtain ⟨b13, hw⟩ := hw
      refine v_iast C ak_24 rfl (Nat.le_of_ble_eq_true rfl) b13 dX2_begin_34 (w_mem fun M14 eM14 => ?_)
      replace hw := hw M14 eM14
      refine w_aload_n C 0 dX2_begin_35 rfl rfl ?_
      refine gf_X2_9 C (Nat.le_of_ble_eq_true rfl) dX2_begin_36 ?_
      refine w_iload_n C 2 dX2_begin_39 rfl rfl ?_
      obtain ⟨b15, hw⟩ := hw
      refine v_iald C ak_24 rfl (Nat.le_of_ble_eq_true rfl) b15 dX2_begin_40 ?_
      refine w_iconst C dX2_begin_41 kc_i_m1 ?_
      refine w_icmp_ne C dX2_begin_42 (tgt := 73) rfl (fun c16 => ?_) (fun c16 => ?_)
      · replace hw := hw.2 c16
        exact w_sub [0, 1, 2] rfl (s_X2_begin_73 C HR HT ih j1 x2 hj1 _ hw)
      · replace hw := hw.1 c16
        refine w_aload_n C 0 dX2_begin_45 rfl rfl ?_
        refine gf_X2_43 C (Nat.le_of_ble_eq_true rfl) dX2_begin_46 ?_
        refine w_iconst C dX2_begin_49 kc_i_3 ?_
        refine w_icmp_ge C dX2_begin_50 (tgt := 73) rfl (fun c17 => ?_) (fun c17 => ?_)
        · replace hw := hw.1 c17
          exact w_sub [0, 1, 2] rfl (s_X2_begin_73 C HR HT ih j1 x2 hj1 _ hw)
        · replace hw := hw.2 c17
          refine w_aload_n C 0 dX2_begin_53 rfl rfl ?_
          refine gf_X2_15 C (Nat.le_of_ble_eq_true rfl) dX2_begin_54 ?_
          refine w_aload_n C 0 dX2_begin_57 rfl rfl ?_
          refine gf_X2_43 C (Nat.le_of_ble_eq_true rfl) dX2_begin_58 ?_
          refine w_iload_n C 2 dX2_begin_61 rfl rfl ?_
          obtain ⟨b18, hw⟩ := hw
          refine v_iast C ak_25 rfl (Nat.le_of_ble_eq_true rfl) b18 dX2_begin_62 (w_mem fun M19 eM19 => ?_)
          replace hw := hw M19 eM19
          refine w_aload_n C 0 dX2_begin_63 rfl rfl ?_
          refine w_dup C dX2_begin_64 rfl ?_
          refine gf_X2_43 C (Nat.le_of_ble_eq_true rfl) dX2_begin_65 ?_
          refine w_iconst C dX2_begin_68 kc_i_1 ?_
          refine w_iadd C dX2_begin_69 ?_
          refine pf_X2_43 C (Nat.le_of_ble_eq_true rfl) dX2_begin_70 (w_mem fun M20 eM20 => ?_)
          replace hw := hw M20 eM20
          exact w_sub [0, 1, 2] rfl (s_X2_begin_73 C HR HT ih j1 x2 hj1 _ hw)
set_option maxRecDepth 100000 in
set_option maxHeartbeats 4000000 in
theorem c_X2_begin {G : GG} {n : Nat} {l : Launch} (j1 : Nat) (hj1 : j1 < cnt n 0) (M : Mem) (Q : Mem → Prop) (hw : wp_X2_begin j1 M Q) : Ct G n l yX2_begin cX2_begin 3 none 2 49 [.ref (gad G 2 0), .ref (gad G 0 j1)] M (Qv G n Q) := by
  refine ct_of (by decide) (Nat.le_of_ble_eq_true rfl) (lv := [(0, .ref (gad G 2 0)), (1, .ref (gad G 0 j1))]) rfl (fun E C HR HT hE => ?_)
  replace C : Cx G n E RX2 cX2_begin 3 := C
  refine w_aload_n C 0 dX2_begin_0 rfl rfl ?_
  refine w_aload_n C 1 dX2_begin_1 rfl rfl ?_
  refine gf_X2_94 C hj1 dX2_begin_2 ?_
  refine pf_X2_39 C (Nat.le_of_ble_eq_true rfl) dX2_begin_5 (w_mem fun M1 eM1 => ?_)
  replace hw := hw M1 eM1
  refine w_aload_n C 0 dX2_begin_8 rfl rfl ?_
  refine w_iconst C dX2_begin_9 kc_i_0 ?_
  refine pf_X2_43 C (Nat.le_of_ble_eq_true rfl) dX2_begin_10 (w_mem fun M2 eM2 => ?_)
  replace hw := hw M2 eM2
  refine w_iconst C dX2_begin_13 kc_i_0 ?_
  refine w_istore_n C (lv' := [(2, .int 0), (0, .ref (gad G 2 0)), (1, .ref (gad G 0 j1))]) dX2_begin_14 rfl (by decide) rfl ?_
  obtain ⟨f3, hw⟩ := hw
  exact w_sub [1, 2, 0] rfl (s_X2_begin_15 C HR HT  f3 j1 0 hj1 _ hw)
set_option maxRecDepth 100000 in
set_option maxHeartbeats 4000000 in
theorem c_X2_shiftOf {G : GG} {n : Nat} {l : Launch} (x1 : Int32)  (M : Mem) (Q : Int32 → Mem → Prop) (hw : wp_X2_shiftOf x1 M Q) : Ct G n l yX2_shiftOf cX2_shiftOf 2 (some .int) 0 0 [.ref (gad G 2 0), .int x1] M (Qi G n Q) := by
  refine ct_of (by decide) (Nat.le_of_ble_eq_true rfl) (lv := [(0, .ref (gad G 2 0)), (1, .int x1)]) rfl (fun E C HR HT hE => ?_)
  replace C : Cx G n E RX2 cX2_shiftOf 2 := C
  refine w_iconst C dX2_shiftOf_0 kc_i_3 ?_
  refine w_aload_n C 0 dX2_shiftOf_1 rfl rfl ?_
  refine gf_X2_43 C (Nat.le_of_ble_eq_true rfl) dX2_shiftOf_2 ?_
  refine w_iconst C dX2_shiftOf_5 kc_i_1 ?_
  refine w_isub C dX2_shiftOf_6 ?_
  refine w_iload_n C 1 dX2_shiftOf_7 rfl rfl ?_
  refine w_isub C dX2_shiftOf_8 ?_
  refine w_imul C dX2_shiftOf_9 ?_
  exact ret_I C HT hw dX2_shiftOf_10
set_option maxRecDepth 100000 in
set_option maxHeartbeats 4000000 in
theorem s_X2_give_82 {G : GG} {n : Nat} {E : EE} (C : Cx G n E RX2 cX2_give 4) (HR : RM E 1 21) (HT : RT E none) {Q : Mem → Prop} {K2 : Int32 → Int32 → Mem → Prop} (g2 : ∀ (x1 : Int32) (x2 : Int32)  (M : Mem), K2 x1 x2 M → WW G n E 4 (QE G E (Qv G n Q)) 2 [(0, .ref (gad G 2 0)), (1, .int x1), (2, .int x2)] [] M) : ∀ (x1 : Int32) (x2 : Int32)  (M : Mem), w_X2_give_82 Q K2 x1 x2 M → WW G n E 4 (QE G E (Qv G n Q)) 82 [(0, .ref (gad G 2 0)), (1, .int x1), (2, .int x2)] [] M := by
  intro x1 x2 M hw
  refine w_iincV C (lv' := [(2, .int (x2 + 1)), (0, .ref (gad G 2 0)), (1, .int x1)]) 2 dX2_give_82 kc_i_1 rfl (by decide) rfl ?_
  refine w_goto C dX2_give_85 (tgt := 2) rfl ?_
  exact w_sub [1, 2, 0] rfl (g2 x1 (x2 + 1)  _ hw)
set_option maxRecDepth 100000 in
set_option maxHeartbeats 4000000 in
theorem s_X2_give_2 {G : GG} {n : Nat} {E : EE} (C : Cx G n E RX2 cX2_give 4) (HR : RM E 1 21) (HT : RT E none) {Q : Mem → Prop}  : ∀ (f : Nat) (x1 : Int32) (x2 : Int32)  (M : Mem), w_X2_give_2 Q  f x1 x2 M → WW G n E 4 (QE G E (Qv G n Q)) 2 [(0, .ref (gad G 2 0)), (1, .int x1), (2, .int x2)] [] M := by
  intro f
  induction f with
  | zero => intro x1 x2 M hw; exact hw.elim
  | succ f ih =>
    intro x1 x2 M hw
    refine w_iload_n C 2 dX2_give_2 rfl rfl ?_
    refine w_aload_n C 0 dX2_give_3 rfl rfl ?_
    refine gf_X2_43 C (Nat.le_of_ble_eq_true rfl) dX2_give_4 ?_
    refine w_icmp_ge C dX2_give_7 (tgt := 88) rfl (fun c2 => ?_) (fun c2 => ?_)
    · replace hw := hw.1 c2
      exact ret_V C HT hw dX2_give_88
    · replace hw := hw.2 c2
      refine w_iload_n C 1 dX2_give_10 rfl rfl ?_
      refine w_aload_n C 0 dX2_give_11 rfl rfl ?_
      refine w_iload_n C 2 dX2_give_12 rfl rfl ?_
      refine back_I (run_V C HR mt_X2_shiftOf (ci := 2) rfl (by decide) (Nat.le_of_ble_eq_true rfl) gw817 gw24 gw815 (by decide) rfl (Nat.le_of_ble_eq_true rfl) dX2_give_13 (As := [.int x2]) rfl (c_X2_shiftOf x2  _ _ hw)) (fun r4 M3 hw => ?_)
      refine w_ishr C dX2_give_16 ?_
      refine w_bipush C dX2_give_17 kc_b_7 ?_
      refine w_iand C dX2_give_19 ?_
      refine w_istore_nV C dX2_give_20 rfl (by decide) (fun a5 ea5 => w_lv (lv' := [(3, .int a5), (0, .ref (gad G 2 0)), (1, .int x1), (2, .int x2)]) rfl ?_)
      replace hw := hw a5 ea5
      refine w_aload_n C 1 dX2_give_21 rfl rfl ?_
      refine gf_X2_9 C (Nat.le_of_ble_eq_true rfl) dX2_give_22 ?_
      refine w_aload_n C 1 dX2_give_25 rfl rfl ?_
      refine gf_X2_15 C (Nat.le_of_ble_eq_true rfl) dX2_give_26 ?_
      refine w_iload_n C 3 dX2_give_29 rfl rfl ?_
      obtain ⟨b6, hw⟩ := hw
      refine v_iald C ak_25 rfl (Nat.le_of_ble_eq_true rfl) b6 dX2_give_30 ?_
      obtain ⟨b7, hw⟩ := hw
      refine v_iald C ak_24 rfl (Nat.le_of_ble_eq_true rfl) b7 dX2_give_31 ?_
      refine w_iload_n C 0 dX2_give_32 rfl rfl ?_
      refine w_icmp_eq C dX2_give_33 (tgt := 82) rfl (fun c8 => ?_) (fun c8 => ?_)
      · replace hw := hw.1 c8
        exact w_sub [1, 2, 3] rfl (s_X2_give_82 C HR HT ih x1 x2  _ hw)
      · replace hw := hw.2 c8
        refine w_aload_n C 1 dX2_give_36 rfl rfl ?_
        refine gf_X2_9 C (Nat.le_of_ble_eq_true rfl) dX2_give_37 ?_
        refine w_aload_n C 1 dX2_give_40 rfl rfl ?_
        refine gf_X2_15 C (Nat.le_of_ble_eq_true rfl) dX2_give_41 ?_
        refine w_iload_n C 3 dX2_give_44 rfl rfl ?_
        obtain ⟨b9, hw⟩ := hw
        refine v_iald C ak_25 rfl (Nat.le_of_ble_eq_true rfl) b9 dX2_give_45 ?_
        refine w_iload_n C 0 dX2_give_46 rfl rfl ?_
        obtain ⟨b10, hw⟩ := hw
        refine v_iast C ak_24 rfl (Nat.le_of_ble_eq_true rfl) b10 dX2_give_47 (w_mem fun M11 eM11 => ?_)
        replace hw := hw M11 eM11
        refine w_aload_n C 1 dX2_give_48 rfl rfl ?_
        refine w_aload_n C 1 dX2_give_49 rfl rfl ?_
        refine gf_X2_46 C (Nat.le_of_ble_eq_true rfl) dX2_give_50 ?_
        refine w_aload_n C 1 dX2_give_53 rfl rfl ?_
        refine gf_X2_15 C (Nat.le_of_ble_eq_true rfl) dX2_give_54 ?_
        refine w_iload_n C 3 dX2_give_57 rfl rfl ?_
        obtain ⟨b12, hw⟩ := hw
        refine v_iald C ak_25 rfl (Nat.le_of_ble_eq_true rfl) b12 dX2_give_58 ?_
        refine back_I (run_S C HR mt_J9_min_7cf53 gw439 gw791 (by decide) rfl (Nat.le_of_ble_eq_true rfl) dX2_give_59 (As := [.int (M11 310 0 0), .int (M11 25 0 x2.toNatClampNeg)]) rfl (c_J9_min_7cf53 (M11 310 0 0) (M11 25 0 x2.toNatClampNeg)  _ _ hw)) (fun r14 M13 hw => ?_)
        refine pf_X2_46 C (Nat.le_of_ble_eq_true rfl) dX2_give_62 (w_mem fun M15 eM15 => ?_)
        replace hw := hw M15 eM15
        refine w_aload_n C 1 dX2_give_65 rfl rfl ?_
        refine w_aload_n C 1 dX2_give_66 rfl rfl ?_
        refine gf_X2_49 C (Nat.le_of_ble_eq_true rfl) dX2_give_67 ?_
        refine w_aload_n C 1 dX2_give_70 rfl rfl ?_
        refine gf_X2_15 C (Nat.le_of_ble_eq_true rfl) dX2_give_71 ?_
        refine w_iload_n C 3 dX2_give_74 rfl rfl ?_
        obtain ⟨b16, hw⟩ := hw
        refine v_iald C ak_25 rfl (Nat.le_of_ble_eq_true rfl) b16 dX2_give_75 ?_
        refine back_I (run_S C HR mt_J9_min_7cf53 gw439 gw791 (by decide) rfl (Nat.le_of_ble_eq_true rfl) dX2_give_76 (As := [.int (M15 311 0 0), .int (M15 25 0 x2.toNatClampNeg)]) rfl (c_J9_min_7cf53 (M15 311 0 0) (M15 25 0 x2.toNatClampNeg)  _ _ hw)) (fun r18 M17 hw => ?_)
        refine pf_X2_49 C (Nat.le_of_ble_eq_true rfl) dX2_give_79 (w_mem fun M19 eM19 => ?_)
        replace hw := hw M19 eM19
        exact w_sub [1, 2, 3] rfl (s_X2_give_82 C HR HT ih x1 x2  _ hw)
set_option maxRecDepth 100000 in
set_option maxHeartbeats 4000000 in
theorem c_X2_give {G : GG} {n : Nat} {l : Launch} (x1 : Int32)  (M : Mem) (Q : Mem → Prop) (hw : wp_X2_give x1 M Q) : Ct G n l yX2_give cX2_give 4 none 1 21 [.ref (gad G 2 0), .int x1] M (Qv G n Q) := by
  refine ct_of (by decide) (Nat.le_of_ble_eq_true rfl) (lv := [(0, .ref (gad G 2 0)), (1, .int x1)]) rfl (fun E C HR HT hE => ?_)
  replace C : Cx G n E RX2 cX2_give 4 := C
  refine w_iconst C dX2_give_0 kc_i_0 ?_
  refine w_istore_n C (lv' := [(2, .int 0), (0, .ref (gad G 2 0)), (1, .int x1)]) dX2_give_1 rfl (by decide) rfl ?_
  obtain ⟨f1, hw⟩ := hw
  exact w_sub [1, 2, 0] rfl (s_X2_give_2 C HR HT  f1 x1 0  _ hw)
set_option maxRecDepth 100000 in
set_option maxHeartbeats 4000000 in
theorem s_X2_isPostedTo_2 {G : GG} {n : Nat} {E : EE} (C : Cx G n E RX2 cX2_isPostedTo 3) (HR : RM E 1 20) (HT : RT E (some .boolean)) {Q : Int32 → Mem → Prop}  : ∀ (f : Nat) (x1 : Int32) (x2 : Int32)  (M : Mem), w_X2_isPostedTo_2 Q  f x1 x2 M → WW G n E 3 (QE G E (Qi G n Q)) 2 [(0, .ref (gad G 2 0)), (1, .int x1), (2, .int x2)] [] M := by
  intro f
  induction f with
  | zero => intro x1 x2 M hw; exact hw.elim
  | succ f ih =>
    intro x1 x2 M hw
    refine w_iload_n C 2 dX2_isPostedTo_2 rfl rfl ?_
    refine w_aload_n C 0 dX2_isPostedTo_3 rfl rfl ?_
    refine gf_X2_26 C (Nat.le_of_ble_eq_true rfl) dX2_isPostedTo_4 ?_
    refine w_aload_n C 0 dX2_isPostedTo_7 rfl rfl ?_
    refine gf_X2_39 C (Nat.le_of_ble_eq_true rfl) dX2_isPostedTo_8 ?_
    obtain ⟨b2, hw⟩ := hw
    refine v_iald C ak_28 rfl (Nat.le_of_ble_eq_true rfl) b2 dX2_isPostedTo_11 ?_
    refine w_icmp_ge C dX2_isPostedTo_12 (tgt := 41) rfl (fun c3 => ?_) (fun c3 => ?_)
    · replace hw := hw.1 c3
      refine w_iconst C dX2_isPostedTo_41 kc_i_0 ?_
      exact ret_Z C HT rfl hw dX2_isPostedTo_42
    · replace hw := hw.2 c3
      refine w_aload_n C 0 dX2_isPostedTo_15 rfl rfl ?_
      refine gf_X2_23 C (Nat.le_of_ble_eq_true rfl) dX2_isPostedTo_16 ?_
      refine w_aload_n C 0 dX2_isPostedTo_19 rfl rfl ?_
      refine gf_X2_39 C (Nat.le_of_ble_eq_true rfl) dX2_isPostedTo_20 ?_
      obtain ⟨b4, hw⟩ := hw
      refine v_aaldP C b4 dX2_isPostedTo_23 ?_
      refine w_iload_n C 2 dX2_isPostedTo_24 rfl rfl ?_
      obtain ⟨b5, hw⟩ := hw
      refine v_iald C ak_86 rfl (vin_lt b4) b5 dX2_isPostedTo_25 ?_
      refine back_I (run_SN C HR mt_X9_ledgerOf gw568 nw789 (by decide) rfl (Nat.le_of_ble_eq_true rfl) dX2_isPostedTo_26 (As := [.int (M 86 ((M 308 0 0).toNatClampNeg) x2.toNatClampNeg)]) rfl (c_X9_ledgerOf (M 86 ((M 308 0 0).toNatClampNeg) x2.toNatClampNeg)  _ _ hw)) (fun r7 M6 hw => ?_)
      refine w_iload_n C 1 dX2_isPostedTo_29 rfl rfl ?_
      refine w_icmp_ne C dX2_isPostedTo_30 (tgt := 35) rfl (fun c8 => ?_) (fun c8 => ?_)
      · replace hw := hw.2 c8
        refine w_iincV C (lv' := [(2, .int (x2 + 1)), (0, .ref (gad G 2 0)), (1, .int x1)]) 2 dX2_isPostedTo_35 kc_i_1 rfl (by decide) rfl ?_
        refine w_goto C dX2_isPostedTo_38 (tgt := 2) rfl ?_
        exact w_sub [1, 2, 0] rfl (ih x1 (x2 + 1)  _ hw)
      · replace hw := hw.1 c8
        refine w_iconst C dX2_isPostedTo_33 kc_i_1 ?_
        exact ret_Z C HT rfl hw dX2_isPostedTo_34
set_option maxRecDepth 100000 in
set_option maxHeartbeats 4000000 in
theorem c_X2_isPostedTo {G : GG} {n : Nat} {l : Launch} (x1 : Int32)  (M : Mem) (Q : Int32 → Mem → Prop) (hw : wp_X2_isPostedTo x1 M Q) : Ct G n l yX2_isPostedTo cX2_isPostedTo 3 (some .boolean) 1 20 [.ref (gad G 2 0), .int x1] M (Qi G n Q) := by
  refine ct_of (by decide) (Nat.le_of_ble_eq_true rfl) (lv := [(0, .ref (gad G 2 0)), (1, .int x1)]) rfl (fun E C HR HT hE => ?_)
  replace C : Cx G n E RX2 cX2_isPostedTo 3 := C
  refine w_iconst C dX2_isPostedTo_0 kc_i_0 ?_
  refine w_istore_n C (lv' := [(2, .int 0), (0, .ref (gad G 2 0)), (1, .int x1)]) dX2_isPostedTo_1 rfl (by decide) rfl ?_
  obtain ⟨f1, hw⟩ := hw
  exact w_sub [1, 2, 0] rfl (s_X2_isPostedTo_2 C HR HT  f1 x1 0  _ hw)
set_option maxRecDepth 100000 in
set_option maxHeartbeats 4000000 in
theorem s_X4_act_93 {G : GG} {n : Nat} {E : EE} (C : Cx G n E RX4 cX4_act 4) (HR : RM E 0 0) (HT : RT E none) {Q : Mem → Prop}  : ∀ (y0 : Int32) (y1 : Int32)  (M : Mem), w_X4_act_93 Q  y0 y1 M → WW G n E 4 (QE G E (Qv G n Q)) 93 [] [.int y0, .int y1, .ref (gad G 33 0)] M := by
  intro y0 y1 M hw
  obtain ⟨b8, hw⟩ := hw
  refine v_iast C ak_33 rfl (Nat.le_of_ble_eq_true rfl) b8 dX4_act_93 (w_mem fun M9 eM9 => ?_)
  replace hw := hw M9 eM9
  exact ret_V C HT hw dX4_act_94
set_option maxRecDepth 100000 in
set_option maxHeartbeats 4000000 in
theorem s_X4_act_65 {G : GG} {n : Nat} {E : EE} (C : Cx G n E RX4 cX4_act 4) (HR : RM E 0 0) (HT : RT E none) {Q : Mem → Prop}  : ∀ (x2 : Int32) (x3 : Int32)  (M : Mem), w_X4_act_65 Q  x2 x3 M → WW G n E 4 (QE G E (Qv G n Q)) 65 [(0, .ref (gad G 4 0)), (2, .int x2), (3, .int x3)] [] M := by
  intro x2 x3 M hw
  refine w_aload_n C 0 dX4_act_65 rfl rfl ?_
  refine gf_X4_9 C (Nat.le_of_ble_eq_true rfl) dX4_act_66 ?_
  refine w_iload_n C 1 dX4_act_69 rfl rfl ?_
  refine w_iload_n C 2 dX4_act_70 rfl rfl ?_
  refine w_bipush C dX4_act_71 kc_b_99 ?_
  refine w_icmp_le C dX4_act_73 (tgt := 81) rfl (fun c6 => ?_) (fun c6 => ?_)
  · replace hw := hw.1 c6
    refine w_iload_n C 2 dX4_act_81 rfl rfl ?_
    refine w_bipush C dX4_act_82 kc_b_m99 ?_
    refine w_icmp_ge C dX4_act_84 (tgt := 92) rfl (fun c7 => ?_) (fun c7 => ?_)
    · replace hw := hw.1 c7
      refine w_iload_n C 2 dX4_act_92 rfl rfl ?_
      exact w_sub [] rfl (s_X4_act_93 C HR HT  x3 x2  _ hw)
    · replace hw := hw.2 c7
      refine w_bipush C dX4_act_87 kc_b_m99 ?_
      refine w_goto C dX4_act_89 (tgt := 93) rfl ?_
      exact w_sub [] rfl (s_X4_act_93 C HR HT  (-99) x2  _ hw)
  · replace hw := hw.2 c6
    refine w_bipush C dX4_act_76 kc_b_99 ?_
    refine w_goto C dX4_act_78 (tgt := 93) rfl ?_
    exact w_sub [] rfl (s_X4_act_93 C HR HT  99 x2  _ hw)
set_option maxRecDepth 100000 in
set_option maxHeartbeats 4000000 in
theorem s_X4_act_29 {G : GG} {n : Nat} {E : EE} (C : Cx G n E RX4 cX4_act 4) (HR : RM E 0 0) (HT : RT E none) {Q : Mem → Prop}  : ∀ (x1 : Int32) (x2 : Int32) (x3 : Int32)  (M : Mem), w_X4_act_29 Q  x1 x2 x3 M → WW G n E 4 (QE G E (Qv G n Q)) 29 [(0, .ref (gad G 4 0)), (1, .int x1), (2, .int x2), (3, .int x3)] [] M := by
  intro x1 x2 x3 M hw
  refine w_iload_n C 1 dX4_act_29 rfl rfl ?_
  refine w_bipush C dX4_act_30 kc_b_6 ?_
  refine w_ishr C dX4_act_32 ?_
  refine w_if_ne C dX4_act_33 (tgt := 48) rfl (fun c4 => ?_) (fun c4 => ?_)
  · replace hw := hw.2 c4
    refine w_iload_n C 1 dX4_act_48 rfl rfl ?_
    refine w_bipush C dX4_act_49 kc_b_6 ?_
    refine w_ishr C dX4_act_51 ?_
    refine w_iconst C dX4_act_52 kc_i_1 ?_
    refine w_icmp_ne C dX4_act_53 (tgt := 65) rfl (fun c5 => ?_) (fun c5 => ?_)
    · replace hw := hw.2 c5
      exact w_sub [0, 2, 3] rfl (s_X4_act_65 C HR HT  x2 x3  _ hw)
    · replace hw := hw.1 c5
      refine w_aload_n C 0 dX4_act_56 rfl rfl ?_
      refine gf_X4_9 C (Nat.le_of_ble_eq_true rfl) dX4_act_57 ?_
      refine w_iload_n C 2 dX4_act_60 rfl rfl ?_
      obtain ⟨b10, hw⟩ := hw
      refine v_iald C ak_33 rfl (Nat.le_of_ble_eq_true rfl) b10 dX4_act_61 ?_
      refine w_iload_n C 3 dX4_act_62 rfl rfl ?_
      refine w_isub C dX4_act_63 ?_
      refine w_istore_nV C dX4_act_64 rfl (by decide) (fun a11 ea11 => w_lv (lv' := [(3, .int a11), (0, .ref (gad G 4 0)), (1, .int x1), (2, .int x2)]) rfl ?_)
      replace hw := hw a11 ea11
      exact w_sub [1, 3, 0] rfl (s_X4_act_65 C HR HT  x2 a11  _ hw)
  · replace hw := hw.1 c4
    refine w_aload_n C 0 dX4_act_36 rfl rfl ?_
    refine gf_X4_9 C (Nat.le_of_ble_eq_true rfl) dX4_act_37 ?_
    refine w_iload_n C 2 dX4_act_40 rfl rfl ?_
    obtain ⟨b12, hw⟩ := hw
    refine v_iald C ak_33 rfl (Nat.le_of_ble_eq_true rfl) b12 dX4_act_41 ?_
    refine w_iload_n C 3 dX4_act_42 rfl rfl ?_
    refine w_iadd C dX4_act_43 ?_
    refine w_istore_nV C dX4_act_44 rfl (by decide) (fun a13 ea13 => w_lv (lv' := [(3, .int a13), (0, .ref (gad G 4 0)), (1, .int x1), (2, .int x2)]) rfl ?_)
    replace hw := hw a13 ea13
    refine w_goto C dX4_act_45 (tgt := 65) rfl ?_
    exact w_sub [1, 3, 0] rfl (s_X4_act_65 C HR HT  x2 a13  _ hw)
set_option maxRecDepth 100000 in
set_option maxHeartbeats 4000000 in
theorem c_X4_act {G : GG} {n : Nat} {l : Launch} (x1 : Int32)  (M : Mem) (Q : Mem → Prop) (hw : wp_X4_act x1 M Q) : Ct G n l yX4_act cX4_act 4 none 0 0 [.ref (gad G 4 0), .int x1] M (Qv G n Q) := by
  refine ct_of (by decide) (Nat.le_of_ble_eq_true rfl) (lv := [(0, .ref (gad G 4 0)), (1, .int x1)]) rfl (fun E C HR HT hE => ?_)
  replace C : Cx G n E RX4 cX4_act 4 := C
  refine w_iload_n C 1 dX4_act_0 rfl rfl ?_
  refine w_iconst C dX4_act_1 kc_i_4 ?_
  refine w_ishr C dX4_act_2 ?_
  refine w_iconst C dX4_act_3 kc_i_3 ?_
  refine w_iand C dX4_act_4 ?_
  refine w_istore_nV C dX4_act_5 rfl (by decide) (fun a1 ea1 => w_lv (lv' := [(2, .int a1), (0, .ref (gad G 4 0)), (1, .int x1)]) rfl ?_)
  replace hw := hw a1 ea1
  refine w_iload_n C 2 dX4_act_6 rfl rfl ?_
  refine w_bipush C dX4_act_7 kc_b_15 ?_
  refine w_iand C dX4_act_9 ?_
  refine w_istore_nV C dX4_act_10 rfl (by decide) (fun a2 ea2 => w_lv (lv' := [(3, .int a2), (2, .int a1), (0, .ref (gad G 4 0)), (1, .int x1)]) rfl ?_)
  replace hw := hw a2 ea2
  refine w_iload_n C 0 dX4_act_11 rfl rfl ?_
  refine w_bipush C dX4_act_12 kc_b_10 ?_
  refine w_icmp_lt C dX4_act_14 (tgt := 29) rfl (fun c3 => ?_) (fun c3 => ?_)
  · replace hw := hw.1 c3
    exact w_sub [2, 3, 1, 0] rfl (s_X4_act_29 C HR HT  x1 a1 a2  _ hw)
  · replace hw := hw.2 c3
    refine w_aload_n C 2 dX4_act_17 rfl rfl ?_
    refine gf_X4_9 C (Nat.le_of_ble_eq_true rfl) dX4_act_18 ?_
    refine w_iload_n C 0 dX4_act_21 rfl rfl ?_
    refine w_bipush C dX4_act_22 kc_b_10 ?_
    refine w_isub C dX4_act_24 ?_
    refine w_iconst C dX4_act_25 kc_i_3 ?_
    refine w_iand C dX4_act_26 ?_
    obtain ⟨b14, hw⟩ := hw
    refine v_iald C ak_33 rfl (Nat.le_of_ble_eq_true rfl) b14 dX4_act_27 ?_
    refine w_istore_nV C dX4_act_28 rfl (by decide) (fun a15 ea15 => w_lv (lv' := [(3, .int a15), (2, .int a1), (0, .ref (gad G 4 0)), (1, .int x1)]) rfl ?_)
    replace hw := hw a15 ea15
    exact w_sub [2, 3, 1, 0] rfl (s_X4_act_29 C HR HT  x1 a1 a15  _ hw)
set_option maxRecDepth 100000 in
set_option maxHeartbeats 4000000 in
theorem c_X4_lineOf {G : GG} {n : Nat} {l : Launch} (x1 : Int32) (x2 : Int32)  (M : Mem) (Q : Int32 → Mem → Prop) (hw : wp_X4_lineOf x1 x2 M Q) : Ct G n l yX4_lineOf cX4_lineOf 3 (some .int) 0 0 [.ref (gad G 4 0), .int x1, .int x2] M (Qi G n Q) := by
  refine ct_of (by decide) (Nat.le_of_ble_eq_true rfl) (lv := [(0, .ref (gad G 4 0)), (1, .int x1), (2, .int x2)]) rfl (fun E C HR HT hE => ?_)
  replace C : Cx G n E RX4 cX4_lineOf 3 := C
  refine w_iload_n C 2 dX4_lineOf_0 rfl rfl ?_
  refine w_bipush C dX4_lineOf_1 kc_b_7 ?_
  refine w_iand C dX4_lineOf_3 ?_
  refine w_iconst C dX4_lineOf_4 kc_i_1 ?_
  refine w_ishl C dX4_lineOf_5 ?_
  refine w_iload_n C 1 dX4_lineOf_6 rfl rfl ?_
  refine w_bipush C dX4_lineOf_7 kc_b_24 ?_
  refine w_ishr C dX4_lineOf_9 ?_
  refine w_iconst C dX4_lineOf_10 kc_i_1 ?_
  refine w_iand C dX4_lineOf_11 ?_
  refine w_ior C dX4_lineOf_12 ?_
  exact ret_I C HT hw dX4_lineOf_13
set_option maxRecDepth 100000 in
set_option maxHeartbeats 4000000 in
theorem c_X9_modeOf {G : GG} {n : Nat} {l : Launch} (x0 : Int32)  (M : Mem) (Q : Int32 → Mem → Prop) (hw : wp_X9_modeOf x0 M Q) : Ct G n l yX9_modeOf cX9_modeOf 1 (some .int) 0 0 [.int x0] M (Qi G n Q) := by
  refine ct_of (by decide) (Nat.le_of_ble_eq_true rfl) (lv := [(0, .int x0)]) rfl (fun E C HR HT hE => ?_)
  replace C : Cx G n E RX9 cX9_modeOf 1 := C
  refine w_iload_n C 0 dX9_modeOf_0 rfl rfl ?_
  refine w_bipush C dX9_modeOf_1 kc_b_24 ?_
  refine w_ishr C dX9_modeOf_3 ?_
  refine w_iconst C dX9_modeOf_4 kc_i_1 ?_
  refine w_iand C dX9_modeOf_5 ?_
  exact ret_I C HT hw dX9_modeOf_6
set_option maxRecDepth 100000 in
set_option maxHeartbeats 4000000 in
theorem s_X4_after_170 {G : GG} {n : Nat} {E : EE} (C : Cx G n E RX4 cX4_after 9) (HR : RM E 1 23) (HT : RT E (some .int)) {Q : Int32 → Mem → Prop} {K129 : Nat → Int32 → Int32 → Int32 → Mem → Prop} (g129 : ∀ (j4 : Nat) (x5 : Int32) (x6 : Int32) (x7 : Int32) (hj4 : j4 < cnt n 8) (M : Mem), K129 j4 x5 x6 x7 M → WW G n E 9 (QE G E (Qi G n Q)) 129 [(0, .ref (gad G 4 0)), (4, .ref (gad G 8 j4)), (5, .int x5), (6, .int x6), (7, .int x7)] [] M) : ∀ (j4 : Nat) (x5 : Int32) (x6 : Int32) (x7 : Int32) (hj4 : j4 < cnt n 8) (M : Mem), w_X4_after_170 Q K129 j4 x5 x6 x7 M → WW G n E 9 (QE G E (Qi G n Q)) 170 [(0, .ref (gad G 4 0)), (4, .ref (gad G 8 j4)), (5, .int x5), (6, .int x6), (7, .int x7)] [] M := by
  intro j4 x5 x6 x7 hj4 M hw
  refine w_iincV C (lv' := [(7, .int (x7 + 1)), (0, .ref (gad G 4 0)), (4, .ref (gad G 8 j4)), (5, .int x5), (6, .int x6)]) 4 dX4_after_170 kc_i_1 rfl (by decide) rfl ?_
  refine w_goto C dX4_after_173 (tgt := 129) rfl ?_
  exact w_sub [1, 2, 3, 4, 0] rfl (g129 j4 x5 x6 (x7 + 1) hj4 _ hw)
set_option maxRecDepth 100000 in
set_option maxHeartbeats 4000000 in
theorem s_X4_after_129 {G : GG} {n : Nat} {E : EE} (C : Cx G n E RX4 cX4_after 9) (HR : RM E 1 23) (HT : RT E (some .int)) {Q : Int32 → Mem → Prop}  : ∀ (f : Nat) (j4 : Nat) (x5 : Int32) (x6 : Int32) (x7 : Int32) (hj4 : j4 < cnt n 8) (M : Mem), w_X4_after_129 Q  f j4 x5 x6 x7 M → WW G n E 9 (QE G E (Qi G n Q)) 129 [(0, .ref (gad G 4 0)), (4, .ref (gad G 8 j4)), (5, .int x5), (6, .int x6), (7, .int x7)] [] M := by
  intro f
  induction f with
  | zero => intro j4 x5 x6 x7 hj4 M hw; exact hw.elim
  | succ f ih =>
    intro j4 x5 x6 x7 hj4 M hw
    refine w_iload C 4 dX4_after_129 rfl ?_
    refine w_iload C 3 dX4_after_131 rfl ?_
    refine w_icmp_ge C dX4_after_133 (tgt := 176) rfl (fun c22 => ?_) (fun c22 => ?_)
    · replace hw := hw.1 c22
      refine w_iload C 2 dX4_after_176 rfl ?_
      refine w_bipush C dX4_after_178 kc_b_24 ?_
      refine w_ishl C dX4_after_180 ?_
      refine w_aload_n C 0 dX4_after_181 rfl rfl ?_
      refine gf_X4_9 C (Nat.le_of_ble_eq_true rfl) dX4_after_182 ?_
      refine w_iconst C dX4_after_185 kc_i_0 ?_
      obtain ⟨b23, hw⟩ := hw
      refine v_iald C ak_33 rfl (Nat.le_of_ble_eq_true rfl) b23 dX4_after_186 ?_
      refine w_bipush C dX4_after_187 kc_b_99 ?_
      refine w_iadd C dX4_after_189 ?_
      refine w_bipush C dX4_after_190 kc_b_16 ?_
      refine w_ishl C dX4_after_192 ?_
      refine w_ior C dX4_after_193 ?_
      refine w_aload_n C 0 dX4_after_194 rfl rfl ?_
      refine gf_X4_9 C (Nat.le_of_ble_eq_true rfl) dX4_after_195 ?_
      refine w_iconst C dX4_after_198 kc_i_1 ?_
      obtain ⟨b24, hw⟩ := hw
      refine v_iald C ak_33 rfl (Nat.le_of_ble_eq_true rfl) b24 dX4_after_199 ?_
      refine w_bipush C dX4_after_200 kc_b_99 ?_
      refine w_iadd C dX4_after_202 ?_
      refine w_bipush C dX4_after_203 kc_b_8 ?_
      refine w_ishl C dX4_after_205 ?_
      refine w_ior C dX4_after_206 ?_
      refine w_aload_n C 0 dX4_after_207 rfl rfl ?_
      refine gf_X4_9 C (Nat.le_of_ble_eq_true rfl) dX4_after_208 ?_
      refine w_iconst C dX4_after_211 kc_i_2 ?_
      obtain ⟨b25, hw⟩ := hw
      refine v_iald C ak_33 rfl (Nat.le_of_ble_eq_true rfl) b25 dX4_after_212 ?_
      refine w_bipush C dX4_after_213 kc_b_99 ?_
      refine w_iadd C dX4_after_215 ?_
      refine w_ior C dX4_after_216 ?_
      exact ret_I C HT hw dX4_after_217
    · replace hw := hw.2 c22
      refine w_aload C 1 dX4_after_136 rfl ?_
      refine gf_X4_50 C hj4 dX4_after_138 ?_
      refine w_iload C 4 dX4_after_141 rfl ?_
      obtain ⟨b26, hw⟩ := hw
      refine v_iald C ak_44 rfl hj4 b26 dX4_after_143 ?_
      refine w_istoreV C dX4_after_144 (by decide) (fun a27 ea27 => w_lv (lv' := [(8, .int a27), (0, .ref (gad G 4 0)), (4, .ref (gad G 8 j4)), (5, .int x5), (6, .int x6), (7, .int x7)]) rfl ?_)
      replace hw := hw a27 ea27
      refine w_iload C 0 dX4_after_146 rfl ?_
      refine w_bipush C dX4_after_148 kc_b_6 ?_
      refine w_ishr C dX4_after_150 ?_
      refine w_iconst C dX4_after_151 kc_i_3 ?_
      refine w_icmp_ne C dX4_after_152 (tgt := 164) rfl (fun c28 => ?_) (fun c28 => ?_)
      · replace hw := hw.2 c28
        refine w_aload_n C 1 dX4_after_164 rfl rfl ?_
        refine w_iload C 0 dX4_after_165 rfl ?_
        refine back_V (run_V C HR mt_X4_act (ci := 4) rfl (by decide) (Nat.le_of_ble_eq_true rfl) gw562 gw6 gw560 (by decide) rfl (Nat.le_of_ble_eq_true rfl) dX4_after_167 (As := [.int a27]) rfl (c_X4_act a27  _ _ hw)) (fun M29 hw => ?_)
        exact w_sub [1, 2, 3, 4, 5] rfl (s_X4_after_170 C HR HT ih j4 x5 x6 x7 hj4 _ hw)
      · replace hw := hw.1 c28
        refine w_iload C 0 dX4_after_155 rfl ?_
        refine w_iconst C dX4_after_157 kc_i_1 ?_
        refine w_iand C dX4_after_158 ?_
        refine w_istoreV C dX4_after_159 (by decide) (fun a30 ea30 => w_lv (lv' := [(5, .int a30), (8, .int a27), (0, .ref (gad G 4 0)), (4, .ref (gad G 8 j4)), (6, .int x6), (7, .int x7)]) rfl ?_)
        replace hw := hw a30 ea30
        refine w_goto C dX4_after_161 (tgt := 170) rfl ?_
        exact w_sub [2, 3, 0, 4, 5] rfl (s_X4_after_170 C HR HT ih j4 a30 x6 x7 hj4 _ hw)
set_option maxRecDepth 100000 in
set_option maxHeartbeats 4000000 in
theorem s_X4_after_30 {G : GG} {n : Nat} {E : EE} (C : Cx G n E RX4 cX4_after 9) (HR : RM E 1 23) (HT : RT E (some .int)) {Q : Int32 → Mem → Prop}  : ∀ (x1 : Int32) (x3 : Int32) (j0 : Nat) (hj0 : j0 < cnt n 8) (M : Mem), w_X4_after_30 Q  x1 x3 j0 M → WW G n E 9 (QE G E (Qi G n Q)) 30 [(0, .ref (gad G 4 0)), (1, .int x1), (3, .int x3)] [.ref (gad G 8 j0)] M := by
  intro x1 x3 j0 hj0 M hw
  refine w_astore C (lv' := [(4, .ref (gad G 8 j0)), (0, .ref (gad G 4 0)), (1, .int x1), (3, .int x3)]) dX4_after_30 (by decide) rfl ?_
  refine w_aload C 0 dX4_after_32 rfl ?_
  refine gf_X4_35 C hj0 dX4_after_34 ?_
  refine w_iload_n C 3 dX4_after_37 rfl rfl ?_
  obtain ⟨b5, hw⟩ := hw
  refine v_iald C ak_46 rfl hj0 b5 dX4_after_38 ?_
  refine w_if_ne C dX4_after_39 (tgt := 44) rfl (fun c6 => ?_) (fun c6 => ?_)
  · replace hw := hw.2 c6
    refine w_aload_n C 1 dX4_after_44 rfl rfl ?_
    refine gf_X4_9 C (Nat.le_of_ble_eq_true rfl) dX4_after_45 ?_
    refine w_iconst C dX4_after_48 kc_i_0 ?_
    refine w_iload_n C 2 dX4_after_49 rfl rfl ?_
    refine w_bipush C dX4_after_50 kc_b_16 ?_
    refine w_ishr C dX4_after_52 ?_
    refine w_sipush C dX4_after_53 kc_s_255 ?_
    refine w_iand C dX4_after_56 ?_
    refine w_bipush C dX4_after_57 kc_b_99 ?_
    refine w_isub C dX4_after_59 ?_
    obtain ⟨b7, hw⟩ := hw
    refine v_iast C ak_33 rfl (Nat.le_of_ble_eq_true rfl) b7 dX4_after_60 (w_mem fun M8 eM8 => ?_)
    replace hw := hw M8 eM8
    refine w_aload_n C 1 dX4_after_61 rfl rfl ?_
    refine gf_X4_9 C (Nat.le_of_ble_eq_true rfl) dX4_after_62 ?_
    refine w_iconst C dX4_after_65 kc_i_1 ?_
    refine w_iload_n C 2 dX4_after_66 rfl rfl ?_
    refine w_bipush C dX4_after_67 kc_b_8 ?_
    refine w_ishr C dX4_after_69 ?_
    refine w_sipush C dX4_after_70 kc_s_255 ?_
    refine w_iand C dX4_after_73 ?_
    refine w_bipush C dX4_after_74 kc_b_99 ?_
    refine w_isub C dX4_after_76 ?_
    obtain ⟨b9, hw⟩ := hw
    refine v_iast C ak_33 rfl (Nat.le_of_ble_eq_true rfl) b9 dX4_after_77 (w_mem fun M10 eM10 => ?_)
    replace hw := hw M10 eM10
    refine w_aload_n C 1 dX4_after_78 rfl rfl ?_
    refine gf_X4_9 C (Nat.le_of_ble_eq_true rfl) dX4_after_79 ?_
    refine w_iconst C dX4_after_82 kc_i_2 ?_
    refine w_iload_n C 2 dX4_after_83 rfl rfl ?_
    refine w_sipush C dX4_after_84 kc_s_255 ?_
    refine w_iand C dX4_after_87 ?_
    refine w_bipush C dX4_after_88 kc_b_99 ?_
    refine w_isub C dX4_after_90 ?_
    obtain ⟨b11, hw⟩ := hw
    refine v_iast C ak_33 rfl (Nat.le_of_ble_eq_true rfl) b11 dX4_after_91 (w_mem fun M12 eM12 => ?_)
    replace hw := hw M12 eM12
    refine w_iload_n C 2 dX4_after_92 rfl rfl ?_
    refine back_I (run_SN C HR mt_X9_modeOf gw557 nw556 (by decide) rfl (Nat.le_of_ble_eq_true rfl) dX4_after_93 (As := [.int x1]) rfl (c_X9_modeOf x1  _ _ hw)) (fun r14 M13 hw => ?_)
    refine w_istore C (lv' := [(5, .int r14), (4, .ref (gad G 8 j0)), (0, .ref (gad G 4 0)), (1, .int x1), (3, .int x3)]) dX4_after_96 (by decide) rfl ?_
    refine w_aload C 1 dX4_after_98 rfl ?_
    refine gf_X4_42 C hj0 dX4_after_100 ?_
    refine w_iload_n C 4 dX4_after_103 rfl rfl ?_
    obtain ⟨b15, hw⟩ := hw
    refine v_iald C ak_45 rfl hj0 b15 dX4_after_104 ?_
    refine w_aload C 1 dX4_after_105 rfl ?_
    refine gf_X4_35 C hj0 dX4_after_107 ?_
    refine w_iload_n C 4 dX4_after_110 rfl rfl ?_
    obtain ⟨b16, hw⟩ := hw
    refine v_iald C ak_46 rfl hj0 b16 dX4_after_111 ?_
    refine w_iadd C dX4_after_112 ?_
    refine w_bipush C dX4_after_113 kc_b_120 ?_
    refine back_I (run_S C HR mt_J9_min_7cf53 gw439 gw559 (by decide) rfl (Nat.le_of_ble_eq_true rfl) dX4_after_115 (As := [.int ((M13 45 j0 x3.toNatClampNeg) + (M13 46 j0 x3.toNatClampNeg)), .int 120]) rfl (c_J9_min_7cf53 ((M13 45 j0 x3.toNatClampNeg) + (M13 46 j0 x3.toNatClampNeg)) 120  _ _ hw)) (fun r18 M17 hw => ?_)
    refine w_istore C (lv' := [(6, .int r18), (5, .int r14), (4, .ref (gad G 8 j0)), (0, .ref (gad G 4 0)), (1, .int x1), (3, .int x3)]) dX4_after_118 (by decide) rfl ?_
    refine w_aload C 2 dX4_after_120 rfl ?_
    refine gf_X4_42 C hj0 dX4_after_122 ?_
    refine w_iload_n C 5 dX4_after_125 rfl rfl ?_
    obtain ⟨b19, hw⟩ := hw
    refine v_iald C ak_45 rfl hj0 b19 dX4_after_126 ?_
    refine w_istoreV C dX4_after_127 (by decide) (fun a20 ea20 => w_lv (lv' := [(7, .int a20), (6, .int r18), (5, .int r14), (4, .ref (gad G 8 j0)), (0, .ref (gad G 4 0)), (1, .int x1), (3, .int x3)]) rfl ?_)
    replace hw := hw a20 ea20
    obtain ⟨f21, hw⟩ := hw
    exact w_sub [4, 3, 2, 1, 0] rfl (s_X4_after_129 C HR HT  f21 j0 r14 r18 a20 hj0 _ hw)
  · replace hw := hw.1 c6
    refine w_iload_n C 2 dX4_after_42 rfl rfl ?_
    exact ret_I C HT hw dX4_after_43
set_option maxRecDepth 100000 in
set_option maxHeartbeats 4000000 in
theorem c_X4_after {G : GG} {n : Nat} {l : Launch} (x1 : Int32) (x2 : Int32)  (M : Mem) (Q : Int32 → Mem → Prop) (hw : wp_X4_after x1 x2 M Q) : Ct G n l yX4_after cX4_after 9 (some .int) 1 23 [.ref (gad G 4 0), .int x1, .int x2] M (Qi G n Q) := by
  refine ct_of (by decide) (Nat.le_of_ble_eq_true rfl) (lv := [(0, .ref (gad G 4 0)), (1, .int x1), (2, .int x2)]) rfl (fun E C HR HT hE => ?_)
  replace C : Cx G n E RX4 cX4_after 9 := C
  refine w_aload_n C 0 dX4_after_0 rfl rfl ?_
  refine w_iload_n C 1 dX4_after_1 rfl rfl ?_
  refine w_iload_n C 2 dX4_after_2 rfl rfl ?_
  refine back_I (run_V C HR mt_X4_lineOf (ci := 4) rfl (by decide) (Nat.le_of_ble_eq_true rfl) gw553 gw554 gw552 (by decide) rfl (Nat.le_of_ble_eq_true rfl) dX4_after_3 (As := [.int x1, .int x2]) rfl (c_X4_lineOf x1 x2  _ _ hw)) (fun r2 M1 hw => ?_)
  refine w_istore_n C (lv' := [(3, .int r2), (0, .ref (gad G 4 0)), (1, .int x1), (2, .int x2)]) dX4_after_6 rfl (by decide) rfl ?_
  refine w_aload_n C 1 dX4_after_7 rfl rfl ?_
  refine gf_X4_15 C (Nat.le_of_ble_eq_true rfl) dX4_after_8 ?_
  refine w_iload_n C 0 dX4_after_11 rfl rfl ?_
  refine w_ishr C dX4_after_12 ?_
  refine w_iconst C dX4_after_13 kc_i_1 ?_
  refine w_iand C dX4_after_14 ?_
  refine w_iconst C dX4_after_15 kc_i_1 ?_
  refine w_icmp_ne C dX4_after_16 (tgt := 26) rfl (fun c3 => ?_) (fun c3 => ?_)
  · replace hw := hw.2 c3
    refine w_aload_n C 1 dX4_after_26 rfl rfl ?_
    refine gf_X4_19 C (Nat.le_of_ble_eq_true rfl) dX4_after_27 ?_
    refine v_getD C (s1 := 401) (by decide) (fun b4 => ?_)
    exact w_sub [1, 2, 0] rfl (s_X4_after_30 C HR HT  x1 r2 ((M1 401 0 0).toNatClampNeg) b4 _ hw)
  · replace hw := hw.1 c3
    refine w_aload_n C 1 dX4_after_19 rfl rfl ?_
    refine gf_X4_23 C (Nat.le_of_ble_eq_true rfl) dX4_after_20 ?_
    refine v_getD C (s1 := 402) (by decide) (fun b31 => ?_)
    refine w_goto C dX4_after_23 (tgt := 30) rfl ?_
    exact w_sub [1, 2, 0] rfl (s_X4_after_30 C HR HT  x1 r2 ((M1 402 0 0).toNatClampNeg) b31 _ hw)
set_option maxRecDepth 100000 in
set_option maxHeartbeats 4000000 in
theorem s_X2_runPlain_5 {G : GG} {n : Nat} {E : EE} (C : Cx G n E RX2 cX2_runPlain 3) (HR : RM E 2 51) (HT : RT E none) {Q : Mem → Prop}  : ∀ (f : Nat) (x2 : Int32)  (M : Mem), w_X2_runPlain_5 Q  f x2 M → WW G n E 3 (QE G E (Qv G n Q)) 5 [(0, .ref (gad G 2 0)), (1, .ref (gad G 4 0)), (2, .int x2)] [] M := by
  intro f
  induction f with
  | zero => intro x2 M hw; exact hw.elim
  | succ f ih =>
    intro x2 M hw
    refine w_iload_n C 2 dX2_runPlain_5 rfl rfl ?_
    refine w_aload_n C 0 dX2_runPlain_6 rfl rfl ?_
    refine gf_X2_39 C (Nat.le_of_ble_eq_true rfl) dX2_runPlain_7 ?_
    refine w_icmp_ge C dX2_runPlain_10 (tgt := 43) rfl (fun c3 => ?_) (fun c3 => ?_)
    · replace hw := hw.1 c3
      refine w_aload_n C 0 dX2_runPlain_43 rfl rfl ?_
      refine w_aload_n C 0 dX2_runPlain_44 rfl rfl ?_
      refine gf_X2_39 C (Nat.le_of_ble_eq_true rfl) dX2_runPlain_45 ?_
      refine pf_X2_46 C (Nat.le_of_ble_eq_true rfl) dX2_runPlain_48 (w_mem fun M4 eM4 => ?_)
      replace hw := hw M4 eM4
      exact ret_V C HT hw dX2_runPlain_51
    · replace hw := hw.2 c3
      refine w_aload_n C 0 dX2_runPlain_13 rfl rfl ?_
      refine gf_X2_18 C (Nat.le_of_ble_eq_true rfl) dX2_runPlain_14 ?_
      refine w_iload_n C 2 dX2_runPlain_17 rfl rfl ?_
      refine w_iconst C dX2_runPlain_18 kc_i_1 ?_
      refine w_iadd C dX2_runPlain_19 ?_
      refine w_aload_n C 1 dX2_runPlain_20 rfl rfl ?_
      refine w_aload_n C 0 dX2_runPlain_21 rfl rfl ?_
      refine gf_X2_18 C (Nat.le_of_ble_eq_true rfl) dX2_runPlain_22 ?_
      refine w_iload_n C 2 dX2_runPlain_25 rfl rfl ?_
      obtain ⟨b5, hw⟩ := hw
      refine v_iald C ak_26 rfl (Nat.le_of_ble_eq_true rfl) b5 dX2_runPlain_26 ?_
      refine w_aload_n C 0 dX2_runPlain_27 rfl rfl ?_
      refine gf_X2_9 C (Nat.le_of_ble_eq_true rfl) dX2_runPlain_28 ?_
      refine w_iload_n C 2 dX2_runPlain_31 rfl rfl ?_
      obtain ⟨b6, hw⟩ := hw
      refine v_iald C ak_24 rfl (Nat.le_of_ble_eq_true rfl) b6 dX2_runPlain_32 ?_
      refine back_I (run_V C HR mt_X4_after (ci := 4) rfl (by decide) (Nat.le_of_ble_eq_true rfl) gw549 gw550 gw823 (by decide) rfl (Nat.le_of_ble_eq_true rfl) dX2_runPlain_33 (As := [.int (M 26 0 x2.toNatClampNeg), .int (M 24 0 x2.toNatClampNeg)]) rfl (c_X4_after (M 26 0 x2.toNatClampNeg) (M 24 0 x2.toNatClampNeg)  _ _ hw)) (fun r8 M7 hw => ?_)
      obtain ⟨b9, hw⟩ := hw
      refine v_iast C ak_26 rfl (Nat.le_of_ble_eq_true rfl) b9 dX2_runPlain_36 (w_mem fun M10 eM10 => ?_)
      replace hw := hw M10 eM10
      refine w_iincV C (lv' := [(2, .int (x2 + 1)), (0, .ref (gad G 2 0)), (1, .ref (gad G 4 0))]) 2 dX2_runPlain_37 kc_i_1 rfl (by decide) rfl ?_
      refine w_goto C dX2_runPlain_40 (tgt := 5) rfl ?_
      exact w_sub [1, 2, 0] rfl (ih (x2 + 1)  _ hw)
set_option maxRecDepth 100000 in
set_option maxHeartbeats 4000000 in
theorem c_X2_runPlain {G : GG} {n : Nat} {l : Launch}   (M : Mem) (Q : Mem → Prop) (hw : wp_X2_runPlain  M Q) : Ct G n l yX2_runPlain cX2_runPlain 3 none 2 51 [.ref (gad G 2 0), .ref (gad G 4 0)] M (Qv G n Q) := by
  refine ct_of (by decide) (Nat.le_of_ble_eq_true rfl) (lv := [(0, .ref (gad G 2 0)), (1, .ref (gad G 4 0))]) rfl (fun E C HR HT hE => ?_)
  replace C : Cx G n E RX2 cX2_runPlain 3 := C
  refine w_aload_n C 0 dX2_runPlain_0 rfl rfl ?_
  refine gf_X2_46 C (Nat.le_of_ble_eq_true rfl) dX2_runPlain_1 ?_
  refine w_istore_nV C dX2_runPlain_4 rfl (by decide) (fun a1 ea1 => w_lv (lv' := [(2, .int a1), (0, .ref (gad G 2 0)), (1, .ref (gad G 4 0))]) rfl ?_)
  replace hw := hw a1 ea1
  obtain ⟨f2, hw⟩ := hw
  exact w_sub [1, 2, 0] rfl (s_X2_runPlain_5 C HR HT  f2 a1  _ hw)
set_option maxRecDepth 100000 in
set_option maxHeartbeats 4000000 in
theorem s_X2_runPosted_24 {G : GG} {n : Nat} {E : EE} (C : Cx G n E RX2 cX2_runPosted 4) (HR : RM E 2 51) (HT : RT E none) {Q : Mem → Prop} {K5 : Int32 → Mem → Prop} (g5 : ∀ (x2 : Int32)  (M : Mem), K5 x2 M → WW G n E 4 (QE G E (Qv G n Q)) 5 [(0, .ref (gad G 2 0)), (1, .ref (gad G 4 0)), (2, .int x2)] [] M) : ∀ (f : Nat) (x2 : Int32) (x3 : Int32)  (M : Mem), w_X2_runPosted_24 Q K5 f x2 x3 M → WW G n E 4 (QE G E (Qv G n Q)) 24 [(0, .ref (gad G 2 0)), (1, .ref (gad G 4 0)), (2, .int x2), (3, .int x3)] [] M := by
  intro f
  induction f with
  | zero => intro x2 x3 M hw; exact hw.elim
  | succ f ih =>
    intro x2 x3 M hw
    refine w_iload_n C 3 dX2_runPosted_24 rfl rfl ?_
    refine w_aload_n C 0 dX2_runPosted_25 rfl rfl ?_
    refine gf_X2_26 C (Nat.le_of_ble_eq_true rfl) dX2_runPosted_26 ?_
    refine w_iload_n C 2 dX2_runPosted_29 rfl rfl ?_
    obtain ⟨b8, hw⟩ := hw
    refine v_iald C ak_28 rfl (Nat.le_of_ble_eq_true rfl) b8 dX2_runPosted_30 ?_
    refine w_icmp_ge C dX2_runPosted_31 (tgt := 65) rfl (fun c9 => ?_) (fun c9 => ?_)
    · replace hw := hw.1 c9
      refine w_aload_n C 0 dX2_runPosted_65 rfl rfl ?_
      refine w_iload_n C 2 dX2_runPosted_66 rfl rfl ?_
      refine w_iconst C dX2_runPosted_67 kc_i_1 ?_
      refine w_iadd C dX2_runPosted_68 ?_
      refine back_V (run_V C HR mt_X2_postFromAfar (ci := 2) rfl (by decide) (Nat.le_of_ble_eq_true rfl) gw787 gw18 gw785 (by decide) rfl (Nat.le_of_ble_eq_true rfl) dX2_runPosted_69 (As := [.int (x2 + 1)]) rfl (c_X2_postFromAfar (x2 + 1)  _ _ hw)) (fun M10 hw => ?_)
      refine w_iincV C (lv' := [(2, .int (x2 + 1)), (0, .ref (gad G 2 0)), (1, .ref (gad G 4 0)), (3, .int x3)]) 2 dX2_runPosted_72 kc_i_1 rfl (by decide) rfl ?_
      refine w_goto C dX2_runPosted_75 (tgt := 5) rfl ?_
      exact w_sub [1, 2, 0] rfl (g5 (x2 + 1)  _ hw)
    · replace hw := hw.2 c9
      refine w_aload_n C 0 dX2_runPosted_34 rfl rfl ?_
      refine w_iload_n C 2 dX2_runPosted_35 rfl rfl ?_
      refine w_iconst C dX2_runPosted_36 kc_i_1 ?_
      refine w_iadd C dX2_runPosted_37 ?_
      refine w_aload_n C 1 dX2_runPosted_38 rfl rfl ?_
      refine w_aload_n C 0 dX2_runPosted_39 rfl rfl ?_
      refine gf_X2_23 C (Nat.le_of_ble_eq_true rfl) dX2_runPosted_40 ?_
      refine w_iload_n C 2 dX2_runPosted_43 rfl rfl ?_
      obtain ⟨b11, hw⟩ := hw
      refine v_aaldP C b11 dX2_runPosted_44 ?_
      refine w_iload_n C 3 dX2_runPosted_45 rfl rfl ?_
      obtain ⟨b12, hw⟩ := hw
      refine v_iald C ak_86 rfl (vin_lt b11) b12 dX2_runPosted_46 ?_
      refine w_aload_n C 0 dX2_runPosted_47 rfl rfl ?_
      refine gf_X2_9 C (Nat.le_of_ble_eq_true rfl) dX2_runPosted_48 ?_
      refine w_iload_n C 2 dX2_runPosted_51 rfl rfl ?_
      obtain ⟨b13, hw⟩ := hw
      refine v_iald C ak_24 rfl (Nat.le_of_ble_eq_true rfl) b13 dX2_runPosted_52 ?_
      refine back_I (run_V C HR mt_X4_after (ci := 4) rfl (by decide) (Nat.le_of_ble_eq_true rfl) gw549 gw550 gw823 (by decide) rfl (Nat.le_of_ble_eq_true rfl) dX2_runPosted_53 (As := [.int (M 86 (x2.toNatClampNeg) x3.toNatClampNeg), .int (M 24 0 x2.toNatClampNeg)]) rfl (c_X4_after (M 86 (x2.toNatClampNeg) x3.toNatClampNeg) (M 24 0 x2.toNatClampNeg)  _ _ hw)) (fun r15 M14 hw => ?_)
      refine back_V (run_V C HR mt_X2_addPosted (ci := 2) rfl (by decide) (Nat.le_of_ble_eq_true rfl) gw794 gw19 gw792 (by decide) rfl (Nat.le_of_ble_eq_true rfl) dX2_runPosted_56 (As := [.int (x2 + 1), .int r15]) rfl (c_X2_addPosted (x2 + 1) r15  _ _ hw)) (fun M16 hw => ?_)
      refine w_iincV C (lv' := [(3, .int (x3 + 1)), (0, .ref (gad G 2 0)), (1, .ref (gad G 4 0)), (2, .int x2)]) 3 dX2_runPosted_59 kc_i_1 rfl (by decide) rfl ?_
      refine w_goto C dX2_runPosted_62 (tgt := 24) rfl ?_
      exact w_sub [1, 2, 3, 0] rfl (ih x2 (x3 + 1)  _ hw)
set_option maxRecDepth 100000 in
set_option maxHeartbeats 4000000 in
theorem s_X2_runPosted_5 {G : GG} {n : Nat} {E : EE} (C : Cx G n E RX2 cX2_runPosted 4) (HR : RM E 2 51) (HT : RT E none) {Q : Mem → Prop}  : ∀ (f : Nat) (x2 : Int32)  (M : Mem), w_X2_runPosted_5 Q  f x2 M → WW G n E 4 (QE G E (Qv G n Q)) 5 [(0, .ref (gad G 2 0)), (1, .ref (gad G 4 0)), (2, .int x2)] [] M := by
  intro f
  induction f with
  | zero => intro x2 M hw; exact hw.elim
  | succ f ih =>
    intro x2 M hw
    refine w_iload_n C 2 dX2_runPosted_5 rfl rfl ?_
    refine w_aload_n C 0 dX2_runPosted_6 rfl rfl ?_
    refine gf_X2_39 C (Nat.le_of_ble_eq_true rfl) dX2_runPosted_7 ?_
    refine w_icmp_ge C dX2_runPosted_10 (tgt := 78) rfl (fun c3 => ?_) (fun c3 => ?_)
    · replace hw := hw.1 c3
      refine w_aload_n C 0 dX2_runPosted_78 rfl rfl ?_
      refine w_aload_n C 0 dX2_runPosted_79 rfl rfl ?_
      refine gf_X2_39 C (Nat.le_of_ble_eq_true rfl) dX2_runPosted_80 ?_
      refine pf_X2_49 C (Nat.le_of_ble_eq_true rfl) dX2_runPosted_83 (w_mem fun M4 eM4 => ?_)
      replace hw := hw M4 eM4
      exact ret_V C HT hw dX2_runPosted_86
    · replace hw := hw.2 c3
      refine w_aload_n C 0 dX2_runPosted_13 rfl rfl ?_
      refine gf_X2_26 C (Nat.le_of_ble_eq_true rfl) dX2_runPosted_14 ?_
      refine w_iload_n C 2 dX2_runPosted_17 rfl rfl ?_
      refine w_iconst C dX2_runPosted_18 kc_i_1 ?_
      refine w_iadd C dX2_runPosted_19 ?_
      refine w_iconst C dX2_runPosted_20 kc_i_0 ?_
      obtain ⟨b5, hw⟩ := hw
      refine v_iast C ak_28 rfl (Nat.le_of_ble_eq_true rfl) b5 dX2_runPosted_21 (w_mem fun M6 eM6 => ?_)
      replace hw := hw M6 eM6
      refine w_iconst C dX2_runPosted_22 kc_i_0 ?_
      refine w_istore_n C (lv' := [(3, .int 0), (0, .ref (gad G 2 0)), (1, .ref (gad G 4 0)), (2, .int x2)]) dX2_runPosted_23 rfl (by decide) rfl ?_
      obtain ⟨f7, hw⟩ := hw
      exact w_sub [1, 2, 3, 0] rfl (s_X2_runPosted_24 C HR HT ih f7 x2 0  _ hw)
set_option maxRecDepth 100000 in
set_option maxHeartbeats 4000000 in
theorem c_X2_runPosted {G : GG} {n : Nat} {l : Launch}   (M : Mem) (Q : Mem → Prop) (hw : wp_X2_runPosted  M Q) : Ct G n l yX2_runPosted cX2_runPosted 4 none 2 51 [.ref (gad G 2 0), .ref (gad G 4 0)] M (Qv G n Q) := by
  refine ct_of (by decide) (Nat.le_of_ble_eq_true rfl) (lv := [(0, .ref (gad G 2 0)), (1, .ref (gad G 4 0))]) rfl (fun E C HR HT hE => ?_)
  replace C : Cx G n E RX2 cX2_runPosted 4 := C
  refine w_aload_n C 0 dX2_runPosted_0 rfl rfl ?_
  refine gf_X2_49 C (Nat.le_of_ble_eq_true rfl) dX2_runPosted_1 ?_
  refine w_istore_nV C dX2_runPosted_4 rfl (by decide) (fun a1 ea1 => w_lv (lv' := [(2, .int a1), (0, .ref (gad G 2 0)), (1, .ref (gad G 4 0))]) rfl ?_)
  replace hw := hw a1 ea1
  obtain ⟨f2, hw⟩ := hw
  exact w_sub [1, 2, 0] rfl (s_X2_runPosted_5 C HR HT  f2 a1  _ hw)
set_option maxRecDepth 100000 in
set_option maxHeartbeats 4000000 in
theorem c_X9_coinsOf {G : GG} {n : Nat} {l : Launch} (x0 : Int32)  (M : Mem) (Q : Int32 → Mem → Prop) (hw : wp_X9_coinsOf x0 M Q) : Ct G n l yX9_coinsOf cX9_coinsOf 1 (some .int) 0 0 [.int x0] M (Qi G n Q) := by
  refine ct_of (by decide) (Nat.le_of_ble_eq_true rfl) (lv := [(0, .int x0)]) rfl (fun E C HR HT hE => ?_)
  replace C : Cx G n E RX9 cX9_coinsOf 1 := C
  refine w_iload_n C 0 dX9_coinsOf_0 rfl rfl ?_
  refine w_if_ne C dX9_coinsOf_1 (tgt := 8) rfl (fun c1 => ?_) (fun c1 => ?_)
  · replace hw := hw.2 c1
    refine w_iload_n C 0 dX9_coinsOf_8 rfl rfl ?_
    refine w_iconst C dX9_coinsOf_9 kc_i_1 ?_
    refine w_icmp_ne C dX9_coinsOf_10 (tgt := 17) rfl (fun c2 => ?_) (fun c2 => ?_)
    · replace hw := hw.2 c2
      refine w_iconst C dX9_coinsOf_17 kc_i_0 ?_
      exact ret_I C HT hw dX9_coinsOf_18
    · replace hw := hw.1 c2
      refine w_iconst C dX9_coinsOf_13 kc_i_m1 ?_
      refine w_goto C dX9_coinsOf_14 (tgt := 18) rfl ?_
      exact ret_I C HT hw dX9_coinsOf_18
  · replace hw := hw.1 c1
    refine w_iconst C dX9_coinsOf_4 kc_i_1 ?_
    refine w_goto C dX9_coinsOf_5 (tgt := 18) rfl ?_
    exact ret_I C HT hw dX9_coinsOf_18
set_option maxRecDepth 100000 in
set_option maxHeartbeats 4000000 in
theorem s_X2_causesOfRow_121 {G : GG} {n : Nat} {E : EE} (C : Cx G n E RX2 cX2_causesOfRow 6) (HR : RM E 3 74) (HT : RT E (some .int)) {Q : Int32 → Mem → Prop}  : ∀ (j2 : Nat) (y0 : Int32) (hj2 : j2 < cnt n 0) (M : Mem), w_X2_causesOfRow_121 Q  j2 y0 M → WW G n E 6 (QE G E (Qi G n Q)) 121 [(0, .ref (gad G 2 0)), (2, .ref (gad G 0 j2))] [.int y0] M := by
  intro j2 y0 hj2 M hw
  refine w_aload_n C 0 dX2_causesOfRow_121 rfl rfl ?_
  refine w_aload_n C 1 dX2_causesOfRow_122 rfl rfl ?_
  refine gf_X2_134 C hj2 dX2_causesOfRow_123 ?_
  refine back_I (run_V C HR mt_X2_isPostedTo (ci := 2) rfl (by decide) (Nat.le_of_ble_eq_true rfl) gw830 gw27 gw828 (by decide) rfl (Nat.le_of_ble_eq_true rfl) dX2_causesOfRow_126 (As := [.int (M 205 j2 0)]) rfl (c_X2_isPostedTo (M 205 j2 0)  _ _ hw)) (fun r16 M15 hw => ?_)
  refine w_if_eq C dX2_causesOfRow_129 (tgt := 136) rfl (fun c17 => ?_) (fun c17 => ?_)
  · replace hw := hw.1 c17
    refine w_iconst C dX2_causesOfRow_136 kc_i_0 ?_
    refine w_ior C dX2_causesOfRow_137 ?_
    exact ret_I C HT hw dX2_causesOfRow_138
  · replace hw := hw.2 c17
    refine w_iconst C dX2_causesOfRow_132 kc_i_4 ?_
    refine w_goto C dX2_causesOfRow_133 (tgt := 137) rfl ?_
    refine w_ior C dX2_causesOfRow_137 ?_
    exact ret_I C HT hw dX2_causesOfRow_138
set_option maxRecDepth 100000 in
set_option maxHeartbeats 4000000 in
theorem s_X2_causesOfRow_88 {G : GG} {n : Nat} {E : EE} (C : Cx G n E RX2 cX2_causesOfRow 6) (HR : RM E 3 74) (HT : RT E (some .int)) {Q : Int32 → Mem → Prop}  : ∀ (j2 : Nat) (x4 : Int32) (y0 : Int32) (hj2 : j2 < cnt n 0) (M : Mem), w_X2_causesOfRow_88 Q  j2 x4 y0 M → WW G n E 6 (QE G E (Qi G n Q)) 88 [(0, .ref (gad G 2 0)), (2, .ref (gad G 0 j2)), (3, .ref (gad G 4 0)), (4, .int x4)] [.int y0] M := by
  intro j2 x4 y0 hj2 M hw
  refine w_istore C (lv' := [(5, .int y0), (0, .ref (gad G 2 0)), (2, .ref (gad G 0 j2)), (3, .ref (gad G 4 0)), (4, .int x4)]) dX2_causesOfRow_88 (by decide) rfl ?_
  refine w_iload C 4 dX2_causesOfRow_90 rfl ?_
  refine w_if_eq C dX2_causesOfRow_92 (tgt := 106) rfl (fun c12 => ?_) (fun c12 => ?_)
  · replace hw := hw.1 c12
    refine w_aload_n C 1 dX2_causesOfRow_106 rfl rfl ?_
    refine w_aload_n C 3 dX2_causesOfRow_107 rfl rfl ?_
    refine back_V (run_V C HR mt_X2_runPosted (ci := 2) rfl (by decide) (Nat.le_of_ble_eq_true rfl) gw826 gw26 gw824 (by decide) rfl (Nat.le_of_ble_eq_true rfl) dX2_causesOfRow_108 (As := [.ref (gad G 4 0)]) rfl (c_X2_runPosted   _ _ hw)) (fun M13 hw => ?_)
    refine w_iload C 0 dX2_causesOfRow_111 rfl ?_
    refine w_if_eq C dX2_causesOfRow_113 (tgt := 120) rfl (fun c14 => ?_) (fun c14 => ?_)
    · replace hw := hw.1 c14
      refine w_iconst C dX2_causesOfRow_120 kc_i_0 ?_
      exact w_sub [1, 2] rfl (s_X2_causesOfRow_121 C HR HT  j2 0 hj2 _ hw)
    · replace hw := hw.2 c14
      refine w_iconst C dX2_causesOfRow_116 kc_i_1 ?_
      refine w_goto C dX2_causesOfRow_117 (tgt := 121) rfl ?_
      exact w_sub [1, 2] rfl (s_X2_causesOfRow_121 C HR HT  j2 1 hj2 _ hw)
  · replace hw := hw.2 c12
    refine w_iload C 0 dX2_causesOfRow_95 rfl ?_
    refine w_if_eq C dX2_causesOfRow_97 (tgt := 104) rfl (fun c18 => ?_) (fun c18 => ?_)
    · replace hw := hw.1 c18
      refine w_iconst C dX2_causesOfRow_104 kc_i_0 ?_
      exact ret_I C HT hw dX2_causesOfRow_105
    · replace hw := hw.2 c18
      refine w_iconst C dX2_causesOfRow_100 kc_i_2 ?_
      refine w_goto C dX2_causesOfRow_101 (tgt := 105) rfl ?_
      exact ret_I C HT hw dX2_causesOfRow_105
set_option maxRecDepth 100000 in
set_option maxHeartbeats 4000000 in
theorem s_X2_causesOfRow_15 {G : GG} {n : Nat} {E : EE} (C : Cx G n E RX2 cX2_causesOfRow 6) (HR : RM E 3 74) (HT : RT E (some .int)) {Q : Int32 → Mem → Prop}  : ∀ (f : Nat) (j2 : Nat) (x4 : Int32) (x5 : Int32) (hj2 : j2 < cnt n 0) (M : Mem), w_X2_causesOfRow_15 Q  f j2 x4 x5 M → WW G n E 6 (QE G E (Qi G n Q)) 15 [(0, .ref (gad G 2 0)), (2, .ref (gad G 0 j2)), (3, .ref (gad G 4 0)), (4, .int x4), (5, .int x5)] [] M := by
  intro f
  induction f with
  | zero => intro j2 x4 x5 hj2 M hw; exact hw.elim
  | succ f ih =>
    intro j2 x4 x5 hj2 M hw
    refine w_iload C 4 dX2_causesOfRow_15 rfl ?_
    refine w_aload_n C 0 dX2_causesOfRow_17 rfl rfl ?_
    refine gf_X2_39 C (Nat.le_of_ble_eq_true rfl) dX2_causesOfRow_18 ?_
    refine w_icmp_ge C dX2_causesOfRow_21 (tgt := 45) rfl (fun c4 => ?_) (fun c4 => ?_)
    · replace hw := hw.1 c4
      refine w_iload C 3 dX2_causesOfRow_45 rfl ?_
      refine w_iconst C dX2_causesOfRow_47 kc_i_m1 ?_
      refine w_icmp_lt C dX2_causesOfRow_48 (tgt := 57) rfl (fun c5 => ?_) (fun c5 => ?_)
      · replace hw := hw.1 c5
        refine w_iconst C dX2_causesOfRow_57 kc_i_0 ?_
        exact ret_I C HT hw dX2_causesOfRow_58
      · replace hw := hw.2 c5
        refine w_iload C 3 dX2_causesOfRow_51 rfl ?_
        refine w_iconst C dX2_causesOfRow_53 kc_i_1 ?_
        refine w_icmp_le C dX2_causesOfRow_54 (tgt := 59) rfl (fun c6 => ?_) (fun c6 => ?_)
        · replace hw := hw.1 c6
          refine w_aload_n C 0 dX2_causesOfRow_59 rfl rfl ?_
          refine w_aload_n C 2 dX2_causesOfRow_60 rfl rfl ?_
          refine back_V (run_V C HR mt_X2_runPlain (ci := 2) rfl (by decide) (Nat.le_of_ble_eq_true rfl) gw821 gw25 gw819 (by decide) rfl (Nat.le_of_ble_eq_true rfl) dX2_causesOfRow_61 (As := [.ref (gad G 4 0)]) rfl (c_X2_runPlain   _ _ hw)) (fun M7 hw => ?_)
          refine w_aload_n C 0 dX2_causesOfRow_64 rfl rfl ?_
          refine gf_X2_18 C (Nat.le_of_ble_eq_true rfl) dX2_causesOfRow_65 ?_
          refine w_aload_n C 0 dX2_causesOfRow_68 rfl rfl ?_
          refine gf_X2_39 C (Nat.le_of_ble_eq_true rfl) dX2_causesOfRow_69 ?_
          obtain ⟨b8, hw⟩ := hw
          refine v_iald C ak_26 rfl (Nat.le_of_ble_eq_true rfl) b8 dX2_causesOfRow_72 ?_
          refine back_I (run_SN C HR mt_X9_ledgerOf gw568 nw789 (by decide) rfl (Nat.le_of_ble_eq_true rfl) dX2_causesOfRow_73 (As := [.int (M7 26 0 (M7 308 0 0).toNatClampNeg)]) rfl (c_X9_ledgerOf (M7 26 0 (M7 308 0 0).toNatClampNeg)  _ _ hw)) (fun r10 M9 hw => ?_)
          refine w_aload_n C 1 dX2_causesOfRow_76 rfl rfl ?_
          refine gf_X2_134 C hj2 dX2_causesOfRow_77 ?_
          refine w_icmp_ne C dX2_causesOfRow_80 (tgt := 87) rfl (fun c11 => ?_) (fun c11 => ?_)
          · replace hw := hw.2 c11
            refine w_iconst C dX2_causesOfRow_87 kc_i_0 ?_
            exact w_sub [0, 1, 2, 3] rfl (s_X2_causesOfRow_88 C HR HT  j2 x4 0 hj2 _ hw)
          · replace hw := hw.1 c11
            refine w_iconst C dX2_causesOfRow_83 kc_i_1 ?_
            refine w_goto C dX2_causesOfRow_84 (tgt := 88) rfl ?_
            exact w_sub [0, 1, 2, 3] rfl (s_X2_causesOfRow_88 C HR HT  j2 x4 1 hj2 _ hw)
        · replace hw := hw.2 c6
          refine w_iconst C dX2_causesOfRow_57 kc_i_0 ?_
          exact ret_I C HT hw dX2_causesOfRow_58
    · replace hw := hw.2 c4
      refine w_iload C 3 dX2_causesOfRow_24 rfl ?_
      refine w_aload_n C 0 dX2_causesOfRow_26 rfl rfl ?_
      refine gf_X2_9 C (Nat.le_of_ble_eq_true rfl) dX2_causesOfRow_27 ?_
      refine w_iload C 4 dX2_causesOfRow_30 rfl ?_
      obtain ⟨b19, hw⟩ := hw
      refine v_iald C ak_24 rfl (Nat.le_of_ble_eq_true rfl) b19 dX2_causesOfRow_32 ?_
      refine back_I (run_SN C HR mt_X9_coinsOf gw565 nw800 (by decide) rfl (Nat.le_of_ble_eq_true rfl) dX2_causesOfRow_33 (As := [.int (M 24 0 x5.toNatClampNeg)]) rfl (c_X9_coinsOf (M 24 0 x5.toNatClampNeg)  _ _ hw)) (fun r21 M20 hw => ?_)
      refine w_iadd C dX2_causesOfRow_36 ?_
      refine w_istoreV C dX2_causesOfRow_37 (by decide) (fun a22 ea22 => w_lv (lv' := [(4, .int a22), (0, .ref (gad G 2 0)), (2, .ref (gad G 0 j2)), (3, .ref (gad G 4 0)), (5, .int x5)]) rfl ?_)
      replace hw := hw a22 ea22
      refine w_iincV C (lv' := [(5, .int (x5 + 1)), (4, .int a22), (0, .ref (gad G 2 0)), (2, .ref (gad G 0 j2)), (3, .ref (gad G 4 0))]) 4 dX2_causesOfRow_39 kc_i_1 rfl (by decide) rfl ?_
      refine w_goto C dX2_causesOfRow_42 (tgt := 15) rfl ?_
      exact w_sub [2, 3, 4, 1, 0] rfl (ih j2 a22 (x5 + 1) hj2 _ hw)
set_option maxRecDepth 100000 in
set_option maxHeartbeats 4000000 in
theorem c_X2_causesOfRow {G : GG} {n : Nat} {l : Launch} (x1 : Int32) (j2 : Nat) (hj2 : j2 < cnt n 0) (M : Mem) (Q : Int32 → Mem → Prop) (hw : wp_X2_causesOfRow x1 j2 M Q) : Ct G n l yX2_causesOfRow cX2_causesOfRow 6 (some .int) 3 74 [.ref (gad G 2 0), .int x1, .ref (gad G 0 j2), .ref (gad G 4 0)] M (Qi G n Q) := by
  refine ct_of (by decide) (Nat.le_of_ble_eq_true rfl) (lv := [(0, .ref (gad G 2 0)), (1, .int x1), (2, .ref (gad G 0 j2)), (3, .ref (gad G 4 0))]) rfl (fun E C HR HT hE => ?_)
  replace C : Cx G n E RX2 cX2_causesOfRow 6 := C
  refine w_aload_n C 0 dX2_causesOfRow_0 rfl rfl ?_
  refine w_iload_n C 1 dX2_causesOfRow_1 rfl rfl ?_
  refine back_V (run_V C HR mt_X2_give (ci := 2) rfl (by decide) (Nat.le_of_ble_eq_true rfl) gw813 gw23 gw811 (by decide) rfl (Nat.le_of_ble_eq_true rfl) dX2_causesOfRow_2 (As := [.int x1]) rfl (c_X2_give x1  _ _ hw)) (fun M1 hw => ?_)
  refine w_aload_n C 2 dX2_causesOfRow_5 rfl rfl ?_
  refine gf_X2_124 C hj2 dX2_causesOfRow_6 ?_
  refine w_ineg C dX2_causesOfRow_9 ?_
  refine w_istoreV C dX2_causesOfRow_10 (by decide) (fun a2 ea2 => w_lv (lv' := [(4, .int a2), (0, .ref (gad G 2 0)), (1, .int x1), (2, .ref (gad G 0 j2)), (3, .ref (gad G 4 0))]) rfl ?_)
  replace hw := hw a2 ea2
  refine w_iconst C dX2_causesOfRow_12 kc_i_0 ?_
  refine w_istore C (lv' := [(5, .int 0), (4, .int a2), (0, .ref (gad G 2 0)), (1, .int x1), (2, .ref (gad G 0 j2)), (3, .ref (gad G 4 0))]) dX2_causesOfRow_13 (by decide) rfl ?_
  obtain ⟨f3, hw⟩ := hw
  exact w_sub [2, 4, 5, 1, 0] rfl (s_X2_causesOfRow_15 C HR HT  f3 j2 a2 0 hj2 _ hw)
set_option maxRecDepth 100000 in
set_option maxHeartbeats 4000000 in
theorem s_J7_fill_031fb_5 {G : GG} {n : Nat} {E : EE} (C : Cx G n E RJ7 cJ7_fill_031fb 4) (HR : RM E 0 0) (HT : RT E none) {Q : Mem → Prop}  : ∀ (f : Nat) (k0 : Nat) (j0 : Nat) (x1 : Int32) (x2 : Int32) (x3 : Int32) (hk0 : AK k0 1) (hj0 : j0 < cnt n k0) (M : Mem), w_J7_fill_031fb_5 Q  f k0 j0 x1 x2 x3 M → WW G n E 4 (QE G E (Qv G n Q)) 5 [(0, .ref (gad G k0 j0)), (1, .int x1), (2, .int x2), (3, .int x3)] [] M := by
  intro f
  induction f with
  | zero => intro k0 j0 x1 x2 x3 hk0 hj0 M hw; exact hw.elim
  | succ f ih =>
    intro k0 j0 x1 x2 x3 hk0 hj0 M hw
    refine w_iload_n C 2 dJ7_fill_031fb_5 rfl rfl ?_
    refine w_iload_n C 3 dJ7_fill_031fb_6 rfl rfl ?_
    refine w_icmp_ge C dJ7_fill_031fb_7 (tgt := 20) rfl (fun c3 => ?_) (fun c3 => ?_)
    · replace hw := hw.1 c3
      exact ret_V C HT hw dJ7_fill_031fb_20
    · replace hw := hw.2 c3
      refine w_aload_n C 0 dJ7_fill_031fb_10 rfl rfl ?_
      refine w_iload_n C 2 dJ7_fill_031fb_11 rfl rfl ?_
      refine w_iload_n C 1 dJ7_fill_031fb_12 rfl rfl ?_
      obtain ⟨b4, hw⟩ := hw
      refine v_bast C hk0 rfl hj0 b4 dJ7_fill_031fb_13 (w_mem fun M5 eM5 => ?_)
      replace hw := hw M5 eM5
      refine w_iincV C (lv' := [(2, .int (x2 + 1)), (0, .ref (gad G k0 j0)), (1, .int x1), (3, .int x3)]) 2 dJ7_fill_031fb_14 kc_i_1 rfl (by decide) rfl ?_
      refine w_goto C dJ7_fill_031fb_17 (tgt := 5) rfl ?_
      exact w_sub [1, 2, 0, 3] rfl (ih k0 j0 x1 (x2 + 1) x3 hk0 hj0 _ hw)
set_option maxRecDepth 100000 in
set_option maxHeartbeats 4000000 in
theorem c_J7_fill_031fb {G : GG} {n : Nat} {l : Launch} (k0 : Nat) (j0 : Nat) (x1 : Int32) (hk0 : AK k0 1) (hj0 : j0 < cnt n k0) (M : Mem) (Q : Mem → Prop) (hw : wp_J7_fill_031fb k0 j0 x1 M Q) : Ct G n l yJ7_fill_031fb cJ7_fill_031fb 4 none 0 0 [.ref (gad G k0 j0), .int x1] M (Qv G n Q) := by
  refine ct_ofF (by decide +kernel) (Nat.le_of_ble_eq_true rfl) (lv := [(0, .ref (gad G k0 j0)), (1, .int x1)]) rfl (fun E C HR HT hE => ?_)
  replace C : Cx G n E RJ7 cJ7_fill_031fb 4 := C
  refine w_iconst C dJ7_fill_031fb_0 kc_i_0 ?_
  refine w_istore_n C (lv' := [(2, .int 0), (0, .ref (gad G k0 j0)), (1, .int x1)]) dJ7_fill_031fb_1 rfl (by decide) rfl ?_
  refine w_aload_n C 1 dJ7_fill_031fb_2 rfl rfl ?_
  refine v_alen C hk0 rfl hj0 dJ7_fill_031fb_3 ?_
  refine w_istore_nV C dJ7_fill_031fb_4 rfl (by decide) (fun a1 ea1 => w_lv (lv' := [(3, .int a1), (2, .int 0), (0, .ref (gad G k0 j0)), (1, .int x1)]) rfl ?_)
  replace hw := hw a1 ea1
  obtain ⟨f2, hw⟩ := hw
  exact w_sub [2, 3, 1, 0] rfl (s_J7_fill_031fb_5 C HR HT  f2 k0 j0 x1 0 a1 hk0 hj0 _ hw)
set_option maxRecDepth 100000 in
set_option maxHeartbeats 4000000 in
theorem s_X2_settles_111 {G : GG} {n : Nat} {E : EE} (C : Cx G n E RX2 cX2_settles 7) (HR : RM E 1 23) (HT : RT E (some .boolean)) {Q : Int32 → Mem → Prop} {K50 : Int32 → Int32 → Int32 → Mem → Prop} (g50 : ∀ (x2 : Int32) (x3 : Int32) (x4 : Int32)  (M : Mem), K50 x2 x3 x4 M → WW G n E 7 (QE G E (Qi G n Q)) 50 [(0, .ref (gad G 2 0)), (2, .int x2), (3, .int x3), (4, .int x4)] [] M) : ∀ (x2 : Int32) (x3 : Int32) (x4 : Int32)  (M : Mem), w_X2_settles_111 Q K50 x2 x3 x4 M → WW G n E 7 (QE G E (Qi G n Q)) 111 [(0, .ref (gad G 2 0)), (2, .int x2), (3, .int x3), (4, .int x4)] [] M := by
  intro x2 x3 x4 M hw
  refine w_iincV C (lv' := [(4, .int (x4 + 1)), (0, .ref (gad G 2 0)), (2, .int x2), (3, .int x3)]) 3 dX2_settles_111 kc_i_1 rfl (by decide) rfl ?_
  refine w_goto C dX2_settles_114 (tgt := 50) rfl ?_
  exact w_sub [1, 2, 3, 0] rfl (g50 x2 x3 (x4 + 1)  _ hw)
set_option maxRecDepth 100000 in
set_option maxHeartbeats 4000000 in
theorem s_X2_settles_95 {G : GG} {n : Nat} {E : EE} (C : Cx G n E RX2 cX2_settles 7) (HR : RM E 1 23) (HT : RT E (some .boolean)) {Q : Int32 → Mem → Prop} {K50 : Int32 → Int32 → Int32 → Mem → Prop} (g50 : ∀ (x2 : Int32) (x3 : Int32) (x4 : Int32)  (M : Mem), K50 x2 x3 x4 M → WW G n E 7 (QE G E (Qi G n Q)) 50 [(0, .ref (gad G 2 0)), (2, .int x2), (3, .int x3), (4, .int x4)] [] M) : ∀ (x2 : Int32) (x3 : Int32) (x4 : Int32) (x5 : Int32)  (M : Mem), w_X2_settles_95 Q K50 x2 x3 x4 x5 M → WW G n E 7 (QE G E (Qi G n Q)) 95 [(0, .ref (gad G 2 0)), (2, .int x2), (3, .int x3), (4, .int x4), (5, .int x5)] [] M := by
  intro x2 x3 x4 x5 M hw
  refine w_iload C 4 dX2_settles_95 rfl ?_
  refine w_if_eq C dX2_settles_97 (tgt := 111) rfl (fun c11 => ?_) (fun c11 => ?_)
  · replace hw := hw.1 c11
    exact w_sub [0, 1, 2, 3] rfl (s_X2_settles_111 C HR HT g50 x2 x3 x4  _ hw)
  · replace hw := hw.2 c11
    refine w_aload_n C 0 dX2_settles_100 rfl rfl ?_
    refine gf_X2_36 C (Nat.le_of_ble_eq_true rfl) dX2_settles_101 ?_
    refine w_iload C 3 dX2_settles_104 rfl ?_
    refine w_iload_n C 2 dX2_settles_106 rfl rfl ?_
    refine w_iand C dX2_settles_107 ?_
    refine w_iload C 4 dX2_settles_108 rfl ?_
    obtain ⟨b12, hw⟩ := hw
    refine v_bast C ak_31 rfl (Nat.le_of_ble_eq_true rfl) b12 dX2_settles_110 (w_mem fun M13 eM13 => ?_)
    replace hw := hw M13 eM13
    exact w_sub [0, 1, 2, 3] rfl (s_X2_settles_111 C HR HT g50 x2 x3 x4  _ hw)
set_option maxRecDepth 100000 in
set_option maxHeartbeats 4000000 in
theorem s_X2_settles_50 {G : GG} {n : Nat} {E : EE} (C : Cx G n E RX2 cX2_settles 7) (HR : RM E 1 23) (HT : RT E (some .boolean)) {Q : Int32 → Mem → Prop}  : ∀ (f : Nat) (x2 : Int32) (x3 : Int32) (x4 : Int32)  (M : Mem), w_X2_settles_50 Q  f x2 x3 x4 M → WW G n E 7 (QE G E (Qi G n Q)) 50 [(0, .ref (gad G 2 0)), (2, .int x2), (3, .int x3), (4, .int x4)] [] M := by
  intro f
  induction f with
  | zero => intro x2 x3 x4 M hw; exact hw.elim
  | succ f ih =>
    intro x2 x3 x4 M hw
    refine w_iload C 3 dX2_settles_50 rfl ?_
    refine w_iload_n C 1 dX2_settles_52 rfl rfl ?_
    refine w_icmp_ge C dX2_settles_53 (tgt := 117) rfl (fun c5 => ?_) (fun c5 => ?_)
    · replace hw := hw.1 c5
      refine w_iconst C dX2_settles_117 kc_i_1 ?_
      exact ret_Z C HT rfl hw dX2_settles_118
    · replace hw := hw.2 c5
      refine w_aload_n C 0 dX2_settles_56 rfl rfl ?_
      refine gf_X2_32 C (Nat.le_of_ble_eq_true rfl) dX2_settles_57 ?_
      refine w_iload C 3 dX2_settles_60 rfl ?_
      obtain ⟨b6, hw⟩ := hw
      refine v_bald C ak_30 rfl (Nat.le_of_ble_eq_true rfl) b6 dX2_settles_62 ?_
      refine w_istoreV C dX2_settles_63 (by decide) (fun a7 ea7 => w_lv (lv' := [(5, .int a7), (0, .ref (gad G 2 0)), (2, .int x2), (3, .int x3), (4, .int x4)]) rfl ?_)
      replace hw := hw a7 ea7
      refine w_aload_n C 1 dX2_settles_65 rfl rfl ?_
      refine gf_X2_36 C (Nat.le_of_ble_eq_true rfl) dX2_settles_66 ?_
      refine w_iload C 4 dX2_settles_69 rfl ?_
      refine w_iload_n C 3 dX2_settles_71 rfl rfl ?_
      refine w_iand C dX2_settles_72 ?_
      obtain ⟨b8, hw⟩ := hw
      refine v_bald C ak_31 rfl (Nat.le_of_ble_eq_true rfl) b8 dX2_settles_73 ?_
      refine w_istoreV C dX2_settles_74 (by decide) (fun a9 ea9 => w_lv (lv' := [(6, .int a9), (5, .int a7), (0, .ref (gad G 2 0)), (2, .int x2), (3, .int x3), (4, .int x4)]) rfl ?_)
      replace hw := hw a9 ea9
      refine w_iload C 1 dX2_settles_76 rfl ?_
      refine w_if_eq C dX2_settles_78 (tgt := 95) rfl (fun c10 => ?_) (fun c10 => ?_)
      · replace hw := hw.1 c10
        exact w_sub [2, 3, 4, 5, 1] rfl (s_X2_settles_95 C HR HT ih x2 x3 x4 a7  _ hw)
      · replace hw := hw.2 c10
        refine w_iload C 0 dX2_settles_81 rfl ?_
        refine w_if_eq C dX2_settles_83 (tgt := 95) rfl (fun c14 => ?_) (fun c14 => ?_)
        · replace hw := hw.1 c14
          exact w_sub [2, 3, 4, 5, 1] rfl (s_X2_settles_95 C HR HT ih x2 x3 x4 a7  _ hw)
        · replace hw := hw.2 c14
          refine w_iload C 1 dX2_settles_86 rfl ?_
          refine w_iload C 0 dX2_settles_88 rfl ?_
          refine w_icmp_eq C dX2_settles_90 (tgt := 95) rfl (fun c15 => ?_) (fun c15 => ?_)
          · replace hw := hw.1 c15
            exact w_sub [2, 3, 4, 5, 1] rfl (s_X2_settles_95 C HR HT ih x2 x3 x4 a7  _ hw)
          · replace hw := hw.2 c15
            refine w_iconst C dX2_settles_93 kc_i_0 ?_
            exact ret_Z C HT rfl hw dX2_settles_94
set_option maxRecDepth 100000 in
set_option maxHeartbeats 4000000 in
theorem s_X2_settles_5 {G : GG} {n : Nat} {E : EE} (C : Cx G n E RX2 cX2_settles 7) (HR : RM E 1 23) (HT : RT E (some .boolean)) {Q : Int32 → Mem → Prop}  : ∀ (f : Nat) (x1 : Int32) (x2 : Int32) (x3 : Int32) (x4 : Int32)  (M : Mem), w_X2_settles_5 Q  f x1 x2 x3 x4 M → WW G n E 7 (QE G E (Qi G n Q)) 5 [(0, .ref (gad G 2 0)), (1, .int x1), (2, .int x2), (3, .int x3), (4, .int x4)] [] M := by
  intro f
  induction f with
  | zero => intro x1 x2 x3 x4 M hw; exact hw.elim
  | succ f ih =>
    intro x1 x2 x3 x4 M hw
    refine w_iload C 4 dX2_settles_5 rfl ?_
    refine w_aload_n C 0 dX2_settles_7 rfl rfl ?_
    refine gf_X2_43 C (Nat.le_of_ble_eq_true rfl) dX2_settles_8 ?_
    refine w_icmp_ge C dX2_settles_11 (tgt := 39) rfl (fun c2 => ?_) (fun c2 => ?_)
    · replace hw := hw.1 c2
      refine w_aload_n C 0 dX2_settles_39 rfl rfl ?_
      refine gf_X2_36 C (Nat.le_of_ble_eq_true rfl) dX2_settles_40 ?_
      refine w_iconst C dX2_settles_43 kc_i_0 ?_
      refine back_V (run_S C HR mt_J7_fill_031fb gw843 gw842 (by decide) rfl (Nat.le_of_ble_eq_true rfl) dX2_settles_44 (As := [.ref (gad G 31 0), .int 0]) rfl (c_J7_fill_031fb 31 0 0 ak_31 (Nat.le_of_ble_eq_true rfl) _ _ hw)) (fun M3 hw => ?_)
      refine w_iconst C dX2_settles_47 kc_i_0 ?_
      refine w_istore C (lv' := [(4, .int 0), (0, .ref (gad G 2 0)), (1, .int x1), (2, .int x2), (3, .int x3)]) dX2_settles_48 (by decide) rfl ?_
      obtain ⟨f4, hw⟩ := hw
      exact w_sub [1, 3, 4, 0] rfl (s_X2_settles_50 C HR HT  f4 x2 x3 0  _ hw)
    · replace hw := hw.2 c2
      refine w_iload_n C 3 dX2_settles_14 rfl rfl ?_
      refine w_iload_n C 1 dX2_settles_15 rfl rfl ?_
      refine w_iload C 4 dX2_settles_16 rfl ?_
      refine w_ishr C dX2_settles_18 ?_
      refine w_iconst C dX2_settles_19 kc_i_1 ?_
      refine w_iand C dX2_settles_20 ?_
      refine w_bipush C dX2_settles_21 kc_b_7 ?_
      refine w_imul C dX2_settles_23 ?_
      refine w_aload_n C 0 dX2_settles_24 rfl rfl ?_
      refine w_iload C 4 dX2_settles_25 rfl ?_
      refine back_I (run_V C HR mt_X2_shiftOf (ci := 2) rfl (by decide) (Nat.le_of_ble_eq_true rfl) gw817 gw24 gw815 (by decide) rfl (Nat.le_of_ble_eq_true rfl) dX2_settles_27 (As := [.int x4]) rfl (c_X2_shiftOf x4  _ _ hw)) (fun r17 M16 hw => ?_)
      refine w_ishl C dX2_settles_30 ?_
      refine w_ior C dX2_settles_31 ?_
      refine w_istore_nV C dX2_settles_32 rfl (by decide) (fun a18 ea18 => w_lv (lv' := [(3, .int a18), (0, .ref (gad G 2 0)), (1, .int x1), (2, .int x2), (4, .int x4)]) rfl ?_)
      replace hw := hw a18 ea18
      refine w_iincV C (lv' := [(4, .int (x4 + 1)), (3, .int a18), (0, .ref (gad G 2 0)), (1, .int x1), (2, .int x2)]) 4 dX2_settles_33 kc_i_1 rfl (by decide) rfl ?_
      refine w_goto C dX2_settles_36 (tgt := 5) rfl ?_
      exact w_sub [2, 3, 4, 1, 0] rfl (ih x1 x2 a18 (x4 + 1)  _ hw)
set_option maxRecDepth 100000 in
set_option maxHeartbeats 4000000 in
theorem c_X2_settles {G : GG} {n : Nat} {l : Launch} (x1 : Int32) (x2 : Int32)  (M : Mem) (Q : Int32 → Mem → Prop) (hw : wp_X2_settles x1 x2 M Q) : Ct G n l yX2_settles cX2_settles 7 (some .boolean) 1 23 [.ref (gad G 2 0), .int x1, .int x2] M (Qi G n Q) := by
  refine ct_of (by decide) (Nat.le_of_ble_eq_true rfl) (lv := [(0, .ref (gad G 2 0)), (1, .int x1), (2, .int x2)]) rfl (fun E C HR HT hE => ?_)
  replace C : Cx G n E RX2 cX2_settles 7 := C
  refine w_iconst C dX2_settles_0 kc_i_0 ?_
  refine w_istore_n C (lv' := [(3, .int 0), (0, .ref (gad G 2 0)), (1, .int x1), (2, .int x2)]) dX2_settles_1 rfl (by decide) rfl ?_
  refine w_iconst C dX2_settles_2 kc_i_0 ?_
  refine w_istore C (lv' := [(4, .int 0), (3, .int 0), (0, .ref (gad G 2 0)), (1, .int x1), (2, .int x2)]) dX2_settles_3 (by decide) rfl ?_
  obtain ⟨f1, hw⟩ := hw
  exact w_sub [2, 3, 4, 1, 0] rfl (s_X2_settles_5 C HR HT  f1 x1 x2 0 0  _ hw)
set_option maxRecDepth 100000 in
set_option maxHeartbeats 4000000 in
theorem s_X2_fewestPages_43 {G : GG} {n : Nat} {E : EE} (C : Cx G n E RX2 cX2_fewestPages 3) (HR : RM E 2 49) (HT : RT E (some .int)) {Q : Int32 → Mem → Prop} {K2 : Int32 → Int32 → Mem → Prop} (g2 : ∀ (x1 : Int32) (x2 : Int32)  (M : Mem), K2 x1 x2 M → WW G n E 3 (QE G E (Qi G n Q)) 2 [(0, .ref (gad G 2 0)), (1, .int x1), (2, .int x2)] [] M) : ∀ (x1 : Int32) (x2 : Int32)  (M : Mem), w_X2_fewestPages_43 Q K2 x1 x2 M → WW G n E 3 (QE G E (Qi G n Q)) 43 [(0, .ref (gad G 2 0)), (1, .int x1), (2, .int x2)] [] M := by
  intro x1 x2 M hw
  refine w_iincV C (lv' := [(2, .int (x2 + 1)), (0, .ref (gad G 2 0)), (1, .int x1)]) 2 dX2_fewestPages_43 kc_i_1 rfl (by decide) rfl ?_
  refine w_goto C dX2_fewestPages_46 (tgt := 2) rfl ?_
  exact w_sub [1, 2, 0] rfl (g2 x1 (x2 + 1)  _ hw)
set_option maxRecDepth 100000 in
set_option maxHeartbeats 4000000 in
theorem s_X2_fewestPages_2 {G : GG} {n : Nat} {E : EE} (C : Cx G n E RX2 cX2_fewestPages 3) (HR : RM E 2 49) (HT : RT E (some .int)) {Q : Int32 → Mem → Prop}  : ∀ (f : Nat) (x1 : Int32) (x2 : Int32)  (M : Mem), w_X2_fewestPages_2 Q  f x1 x2 M → WW G n E 3 (QE G E (Qi G n Q)) 2 [(0, .ref (gad G 2 0)), (1, .int x1), (2, .int x2)] [] M := by
  intro f
  induction f with
  | zero => intro x1 x2 M hw; exact hw.elim
  | succ f ih =>
    intro x1 x2 M hw
    refine w_iload_n C 2 dX2_fewestPages_2 rfl rfl ?_
    refine w_few C gw836 dX2_fewestPages_3 ?_
    refine w_flen C dX2_fewestPages_6 ?_
    refine w_icmp_ge C dX2_fewestPages_7 (tgt := 49) rfl (fun c2 => ?_) (fun c2 => ?_)
    · replace hw := hw.1 c2
      refine w_iconst C dX2_fewestPages_49 kc_i_0 ?_
      exact ret_I C HT hw dX2_fewestPages_50
    · replace hw := hw.2 c2
      refine w_few C gw836 dX2_fewestPages_10 ?_
      refine w_iload_n C 2 dX2_fewestPages_13 rfl rfl ?_
      obtain ⟨b3, hw⟩ := hw
      refine w_fald C b3 dX2_fewestPages_14 ?_
      refine w_iconst C dX2_fewestPages_15 kc_i_1 ?_
      refine w_aload_n C 0 dX2_fewestPages_16 rfl rfl ?_
      refine gf_X2_43 C (Nat.le_of_ble_eq_true rfl) dX2_fewestPages_17 ?_
      refine w_ishl C dX2_fewestPages_20 ?_
      refine w_icmp_ge C dX2_fewestPages_21 (tgt := 43) rfl (fun c4 => ?_) (fun c4 => ?_)
      · replace hw := hw.1 c4
        exact w_sub [0, 1, 2] rfl (s_X2_fewestPages_43 C HR HT ih x1 x2  _ hw)
      · replace hw := hw.2 c4
        refine w_aload_n C 0 dX2_fewestPages_24 rfl rfl ?_
        refine w_few C gw836 dX2_fewestPages_25 ?_
        refine w_iload_n C 2 dX2_fewestPages_28 rfl rfl ?_
        obtain ⟨b5, hw⟩ := hw
        refine w_fald C b5 dX2_fewestPages_29 ?_
        refine w_iload_n C 1 dX2_fewestPages_30 rfl rfl ?_
        refine back_I (run_V C HR mt_X2_settles (ci := 2) rfl (by decide) (Nat.le_of_ble_eq_true rfl) gw840 gw29 gw838 (by decide) rfl (Nat.le_of_ble_eq_true rfl) dX2_fewestPages_31 (As := [.int (fewL.getD x2.toNatClampNeg 0), .int x1]) rfl (c_X2_settles (fewL.getD x2.toNatClampNeg 0) x1  _ _ hw)) (fun r7 M6 hw => ?_)
        refine w_if_eq C dX2_fewestPages_34 (tgt := 43) rfl (fun c8 => ?_) (fun c8 => ?_)
        · replace hw := hw.1 c8
          exact w_sub [0, 1, 2] rfl (s_X2_fewestPages_43 C HR HT ih x1 x2  _ hw)
        · replace hw := hw.2 c8
          refine w_few C gw836 dX2_fewestPages_37 ?_
          refine w_iload_n C 2 dX2_fewestPages_40 rfl rfl ?_
          obtain ⟨b9, hw⟩ := hw
          refine w_fald C b9 dX2_fewestPages_41 ?_
          exact ret_I C HT hw dX2_fewestPages_42
set_option maxRecDepth 100000 in
set_option maxHeartbeats 4000000 in
theorem c_X2_fewestPages {G : GG} {n : Nat} {l : Launch} (x1 : Int32)  (M : Mem) (Q : Int32 → Mem → Prop) (hw : wp_X2_fewestPages x1 M Q) : Ct G n l yX2_fewestPages cX2_fewestPages 3 (some .int) 2 49 [.ref (gad G 2 0), .int x1] M (Qi G n Q) := by
  refine ct_of (by decide) (Nat.le_of_ble_eq_true rfl) (lv := [(0, .ref (gad G 2 0)), (1, .int x1)]) rfl (fun E C HR HT hE => ?_)
  replace C : Cx G n E RX2 cX2_fewestPages 3 := C
  refine w_iconst C dX2_fewestPages_0 kc_i_0 ?_
  refine w_istore_n C (lv' := [(2, .int 0), (0, .ref (gad G 2 0)), (1, .int x1)]) dX2_fewestPages_1 rfl (by decide) rfl ?_
  obtain ⟨f1, hw⟩ := hw
  exact w_sub [1, 2, 0] rfl (s_X2_fewestPages_2 C HR HT  f1 x1 0  _ hw)
set_option maxRecDepth 100000 in
set_option maxHeartbeats 4000000 in
theorem s_X8_tellsAlike_46 {G : GG} {n : Nat} {E : EE} (C : Cx G n E RX8 cX8_tellsAlike 8) (HR : RM E 0 0) (HT : RT E (some .boolean)) {Q : Int32 → Mem → Prop}  : ∀ (f : Nat) (j0 : Nat) (j2 : Nat) (x4 : Int32) (x5 : Int32) (x6 : Int32) (x7 : Int32) (hj0 : j0 < cnt n 8) (hj2 : j2 < cnt n 8) (M : Mem), w_X8_tellsAlike_46 Q  f j0 j2 x4 x5 x6 x7 M → WW G n E 8 (QE G E (Qi G n Q)) 46 [(0, .ref (gad G 8 j0)), (2, .ref (gad G 8 j2)), (4, .int x4), (5, .int x5), (6, .int x6), (7, .int x7)] [] M := by
  intro f
  induction f with
  | zero => intro j0 j2 x4 x5 x6 x7 hj0 hj2 M hw; exact hw.elim
  | succ f ih =>
    intro j0 j2 x4 x5 x6 x7 hj0 hj2 M hw
    refine w_iload C 5 dX8_tellsAlike_46 rfl ?_
    refine w_iload C 4 dX8_tellsAlike_48 rfl ?_
    refine w_icmp_ge C dX8_tellsAlike_50 (tgt := 84) rfl (fun c10 => ?_) (fun c10 => ?_)
    · replace hw := hw.1 c10
      refine w_iconst C dX8_tellsAlike_84 kc_i_1 ?_
      exact ret_Z C HT rfl hw dX8_tellsAlike_85
    · replace hw := hw.2 c10
      refine w_aload_n C 0 dX8_tellsAlike_53 rfl rfl ?_
      refine gf_X8_9 C hj0 dX8_tellsAlike_54 ?_
      refine w_iload C 2 dX8_tellsAlike_57 rfl ?_
      refine w_iload C 5 dX8_tellsAlike_59 rfl ?_
      refine w_iadd C dX8_tellsAlike_61 ?_
      obtain ⟨b11, hw⟩ := hw
      refine v_iald C ak_43 rfl hj0 b11 dX8_tellsAlike_62 ?_
      refine w_aload_n C 1 dX8_tellsAlike_63 rfl rfl ?_
      refine gf_X8_9 C hj2 dX8_tellsAlike_64 ?_
      refine w_iload C 3 dX8_tellsAlike_67 rfl ?_
      refine w_iload C 5 dX8_tellsAlike_69 rfl ?_
      refine w_iadd C dX8_tellsAlike_71 ?_
      obtain ⟨b12, hw⟩ := hw
      refine v_iald C ak_43 rfl hj2 b12 dX8_tellsAlike_72 ?_
      refine w_icmp_eq C dX8_tellsAlike_73 (tgt := 78) rfl (fun c13 => ?_) (fun c13 => ?_)
      · replace hw := hw.1 c13
        refine w_iincV C (lv' := [(7, .int (x7 + 1)), (0, .ref (gad G 8 j0)), (2, .ref (gad G 8 j2)), (4, .int x4), (5, .int x5), (6, .int x6)]) 5 dX8_tellsAlike_78 kc_i_1 rfl (by decide) rfl ?_
        refine w_goto C dX8_tellsAlike_81 (tgt := 46) rfl ?_
        exact w_sub [1, 2, 3, 4, 5, 0] rfl (ih j0 j2 x4 x5 x6 (x7 + 1) hj0 hj2 _ hw)
      · replace hw := hw.2 c13
        refine w_iconst C dX8_tellsAlike_76 kc_i_0 ?_
        exact ret_Z C HT rfl hw dX8_tellsAlike_77
set_option maxRecDepth 100000 in
set_option maxHeartbeats 4000000 in
theorem c_X8_tellsAlike {G : GG} {n : Nat} {l : Launch} (jt : Nat) (x1 : Int32) (j2 : Nat) (x3 : Int32) (hjt : jt < cnt n 8) (hj2 : j2 < cnt n 8) (M : Mem) (Q : Int32 → Mem → Prop) (hw : wp_X8_tellsAlike jt x1 j2 x3 M Q) : Ct G n l yX8_tellsAlike cX8_tellsAlike 8 (some .boolean) 0 0 [.ref (gad G 8 jt), .int x1, .ref (gad G 8 j2), .int x3] M (Qi G n Q) := by
  refine ct_of (by decide) (Nat.le_of_ble_eq_true rfl) (lv := [(0, .ref (gad G 8 jt)), (1, .int x1), (2, .ref (gad G 8 j2)), (3, .int x3)]) rfl (fun E C HR HT hE => ?_)
  replace C : Cx G n E RX8 cX8_tellsAlike 8 := C
  refine w_aload_n C 0 dX8_tellsAlike_0 rfl rfl ?_
  refine gf_X8_24 C hjt dX8_tellsAlike_1 ?_
  refine w_iload_n C 1 dX8_tellsAlike_4 rfl rfl ?_
  obtain ⟨b1, hw⟩ := hw
  refine v_iald C ak_47 rfl hjt b1 dX8_tellsAlike_5 ?_
  refine w_istoreV C dX8_tellsAlike_6 (by decide) (fun a2 ea2 => w_lv (lv' := [(4, .int a2), (0, .ref (gad G 8 jt)), (1, .int x1), (2, .ref (gad G 8 j2)), (3, .int x3)]) rfl ?_)
  replace hw := hw a2 ea2
  refine w_aload_n C 3 dX8_tellsAlike_8 rfl rfl ?_
  refine gf_X8_24 C hj2 dX8_tellsAlike_9 ?_
  refine w_iload_n C 4 dX8_tellsAlike_12 rfl rfl ?_
  obtain ⟨b3, hw⟩ := hw
  refine v_iald C ak_47 rfl hj2 b3 dX8_tellsAlike_13 ?_
  refine w_istoreV C dX8_tellsAlike_14 (by decide) (fun a4 ea4 => w_lv (lv' := [(5, .int a4), (4, .int a2), (0, .ref (gad G 8 jt)), (1, .int x1), (2, .ref (gad G 8 j2)), (3, .int x3)]) rfl ?_)
  replace hw := hw a4 ea4
  refine w_aload_n C 2 dX8_tellsAlike_16 rfl rfl ?_
  refine gf_X8_27 C hjt dX8_tellsAlike_17 ?_
  refine w_iload_n C 3 dX8_tellsAlike_20 rfl rfl ?_
  obtain ⟨b5, hw⟩ := hw
  refine v_iald C ak_48 rfl hjt b5 dX8_tellsAlike_21 ?_
  refine w_iload C 1 dX8_tellsAlike_22 rfl ?_
  refine w_isub C dX8_tellsAlike_24 ?_
  refine w_istoreV C dX8_tellsAlike_25 (by decide) (fun a6 ea6 => w_lv (lv' := [(6, .int a6), (5, .int a4), (4, .int a2), (0, .ref (gad G 8 jt)), (1, .int x1), (2, .ref (gad G 8 j2)), (3, .int x3)]) rfl ?_)
  replace hw := hw a6 ea6
  refine w_aload_n C 5 dX8_tellsAlike_27 rfl rfl ?_
  refine gf_X8_27 C hj2 dX8_tellsAlike_28 ?_
  refine w_iload_n C 6 dX8_tellsAlike_31 rfl rfl ?_
  obtain ⟨b7, hw⟩ := hw
  refine v_iald C ak_48 rfl hj2 b7 dX8_tellsAlike_32 ?_
  refine w_iload C 1 dX8_tellsAlike_33 rfl ?_
  refine w_isub C dX8_tellsAlike_35 ?_
  refine w_iload C 0 dX8_tellsAlike_36 rfl ?_
  refine w_icmp_eq C dX8_tellsAlike_38 (tgt := 43) rfl (fun c8 => ?_) (fun c8 => ?_)
  · replace hw := hw.1 c8
    refine w_iconst C dX8_tellsAlike_43 kc_i_0 ?_
    refine w_istore C (lv' := [(7, .int 0), (6, .int a6), (5, .int a4), (4, .int a2), (0, .ref (gad G 8 jt)), (1, .int x1), (2, .ref (gad G 8 j2)), (3, .int x3)]) dX8_tellsAlike_44 (by decide) rfl ?_
    obtain ⟨f9, hw⟩ := hw
    exact w_sub [4, 6, 3, 2, 1, 0] rfl (s_X8_tellsAlike_46 C HR HT  f9 jt j2 a2 a4 a6 0 hjt hj2 _ hw)
  · replace hw := hw.2 c8
    refine w_iconst C dX8_tellsAlike_41 kc_i_0 ?_
    exact ret_Z C HT rfl hw dX8_tellsAlike_42
set_option maxRecDepth 100000 in
set_option maxHeartbeats 4000000 in
theorem s_X2_findLikeEvents_64 {G : GG} {n : Nat} {E : EE} (C : Cx G n E RX2 cX2_findLikeEvents 4) (HR : RM E 1 27) (HT : RT E none) {Q : Mem → Prop} {K2 : Nat → Int32 → Mem → Prop} (g2 : ∀ (j1 : Nat) (x2 : Int32) (hj1 : j1 < cnt n 8) (M : Mem), K2 j1 x2 M → WW G n E 4 (QE G E (Qv G n Q)) 2 [(0, .ref (gad G 2 0)), (1, .ref (gad G 8 j1)), (2, .int x2)] [] M) : ∀ (j1 : Nat) (x2 : Int32) (x3 : Int32) (hj1 : j1 < cnt n 8) (M : Mem), w_X2_findLikeEvents_64 Q K2 j1 x2 x3 M → WW G n E 4 (QE G E (Qv G n Q)) 64 [(0, .ref (gad G 2 0)), (1, .ref (gad G 8 j1)), (2, .int x2), (3, .int x3)] [] M := by
  intro j1 x2 x3 hj1 M hw
  refine w_aload_n C 0 dX2_findLikeEvents_64 rfl rfl ?_
  refine gf_X2_29 C (Nat.le_of_ble_eq_true rfl) dX2_findLikeEvents_65 ?_
  refine w_iload_n C 2 dX2_findLikeEvents_68 rfl rfl ?_
  refine w_iload_n C 3 dX2_findLikeEvents_69 rfl rfl ?_
  obtain ⟨b5, hw⟩ := hw
  refine v_iast C ak_29 rfl (Nat.le_of_ble_eq_true rfl) b5 dX2_findLikeEvents_70 (w_mem fun M6 eM6 => ?_)
  replace hw := hw M6 eM6
  refine w_iincV C (lv' := [(2, .int (x2 + 1)), (0, .ref (gad G 2 0)), (1, .ref (gad G 8 j1)), (3, .int x3)]) 2 dX2_findLikeEvents_71 kc_i_1 rfl (by decide) rfl ?_
  refine w_goto C dX2_findLikeEvents_74 (tgt := 2) rfl ?_
  exact w_sub [1, 2, 0] rfl (g2 j1 (x2 + 1) hj1 _ hw)
set_option maxRecDepth 100000 in
set_option maxHeartbeats 4000000 in
theorem s_X2_findLikeEvents_58 {G : GG} {n : Nat} {E : EE} (C : Cx G n E RX2 cX2_findLikeEvents 4) (HR : RM E 1 27) (HT : RT E none) {Q : Mem → Prop} {K2 : Nat → Int32 → Mem → Prop} (g2 : ∀ (j1 : Nat) (x2 : Int32) (hj1 : j1 < cnt n 8) (M : Mem), K2 j1 x2 M → WW G n E 4 (QE G E (Qv G n Q)) 2 [(0, .ref (gad G 2 0)), (1, .ref (gad G 8 j1)), (2, .int x2)] [] M) {K10 : Nat → Int32 → Int32 → Mem → Prop} (g10 : ∀ (j1 : Nat) (x2 : Int32) (x3 : Int32) (hj1 : j1 < cnt n 8) (M : Mem), K10 j1 x2 x3 M → WW G n E 4 (QE G E (Qv G n Q)) 10 [(0, .ref (gad G 2 0)), (1, .ref (gad G 8 j1)), (2, .int x2), (3, .int x3)] [] M) : ∀ (j1 : Nat) (x2 : Int32) (x3 : Int32) (hj1 : j1 < cnt n 8) (M : Mem), w_X2_findLikeEvents_58 Q K2 K10 j1 x2 x3 M → WW G n E 4 (QE G E (Qv G n Q)) 58 [(0, .ref (gad G 2 0)), (1, .ref (gad G 8 j1)), (2, .int x2), (3, .int x3)] [] M := by
  intro j1 x2 x3 hj1 M hw
  refine w_iincV C (lv' := [(3, .int (x3 + 1)), (0, .ref (gad G 2 0)), (1, .ref (gad G 8 j1)), (2, .int x2)]) 3 dX2_findLikeEvents_58 kc_i_1 rfl (by decide) rfl ?_
  refine w_goto C dX2_findLikeEvents_61 (tgt := 10) rfl ?_
  exact w_sub [1, 2, 3, 0] rfl (g10 j1 x2 (x3 + 1) hj1 _ hw)
set_option maxRecDepth 100000 in
set_option maxHeartbeats 4000000 in
theorem s_X2_findLikeEvents_10 {G : GG} {n : Nat} {E : EE} (C : Cx G n E RX2 cX2_findLikeEvents 4) (HR : RM E 1 27) (HT : RT E none) {Q : Mem → Prop} {K2 : Nat → Int32 → Mem → Prop} (g2 : ∀ (j1 : Nat) (x2 : Int32) (hj1 : j1 < cnt n 8) (M : Mem), K2 j1 x2 M → WW G n E 4 (QE G E (Qv G n Q)) 2 [(0, .ref (gad G 2 0)), (1, .ref (gad G 8 j1)), (2, .int x2)] [] M) : ∀ (f : Nat) (j1 : Nat) (x2 : Int32) (x3 : Int32) (hj1 : j1 < cnt n 8) (M : Mem), w_X2_findLikeEvents_10 Q K2 f j1 x2 x3 M → WW G n E 4 (QE G E (Qv G n Q)) 10 [(0, .ref (gad G 2 0)), (1, .ref (gad G 8 j1)), (2, .int x2), (3, .int x3)] [] M := by
  intro f
  induction f with
  | zero => intro j1 x2 x3 hj1 M hw; exact hw.elim
  | succ f ih =>
    intro j1 x2 x3 hj1 M hw
    refine w_iload_n C 3 dX2_findLikeEvents_10 rfl rfl ?_
    refine w_iload_n C 2 dX2_findLikeEvents_11 rfl rfl ?_
    refine w_icmp_ge C dX2_findLikeEvents_12 (tgt := 64) rfl (fun c4 => ?_) (fun c4 => ?_)
    · replace hw := hw.1 c4
      exact w_sub [0, 1, 2, 3] rfl (s_X2_findLikeEvents_64 C HR HT g2 j1 x2 x3 hj1 _ hw)
    · replace hw := hw.2 c4
      refine w_iload_n C 3 dX2_findLikeEvents_15 rfl rfl ?_
      refine back_I (run_SN C HR mt_X9_coinsOf gw565 nw800 (by decide) rfl (Nat.le_of_ble_eq_true rfl) dX2_findLikeEvents_16 (As := [.int x3]) rfl (c_X9_coinsOf x3  _ _ hw)) (fun r8 M7 hw => ?_)
      refine w_iload_n C 2 dX2_findLikeEvents_19 rfl rfl ?_
      refine back_I (run_SN C HR mt_X9_coinsOf gw565 nw800 (by decide) rfl (Nat.le_of_ble_eq_true rfl) dX2_findLikeEvents_20 (As := [.int x2]) rfl (c_X9_coinsOf x2  _ _ hw)) (fun r10 M9 hw => ?_)
      refine w_icmp_ne C dX2_findLikeEvents_23 (tgt := 58) rfl (fun c11 => ?_) (fun c11 => ?_)
      · replace hw := hw.2 c11
        exact w_sub [0, 1, 2, 3] rfl (s_X2_findLikeEvents_58 C HR HT g2 ih j1 x2 x3 hj1 _ hw)
      · replace hw := hw.1 c11
        refine w_aload_n C 1 dX2_findLikeEvents_26 rfl rfl ?_
        refine w_iconst C dX2_findLikeEvents_27 kc_i_2 ?_
        refine w_iload_n C 3 dX2_findLikeEvents_28 rfl rfl ?_
        refine w_imul C dX2_findLikeEvents_29 ?_
        refine w_aload_n C 1 dX2_findLikeEvents_30 rfl rfl ?_
        refine w_iconst C dX2_findLikeEvents_31 kc_i_2 ?_
        refine w_iload_n C 2 dX2_findLikeEvents_32 rfl rfl ?_
        refine w_imul C dX2_findLikeEvents_33 ?_
        refine back_I (run_V C HR mt_X8_tellsAlike (ci := 8) rfl (by decide) hj1 gw514 gw515 gw801 (by decide) rfl (Nat.le_of_ble_eq_true rfl) dX2_findLikeEvents_34 (As := [.int (2 * x3), .ref (gad G 8 j1), .int (2 * x2)]) rfl (c_X8_tellsAlike j1 (2 * x3) j1 (2 * x2) hj1 hj1 _ _ hw)) (fun r13 M12 hw => ?_)
        refine w_if_eq C dX2_findLikeEvents_37 (tgt := 58) rfl (fun c14 => ?_) (fun c14 => ?_)
        · replace hw := hw.1 c14
          exact w_sub [0, 1, 2, 3] rfl (s_X2_findLikeEvents_58 C HR HT g2 ih j1 x2 x3 hj1 _ hw)
        · replace hw := hw.2 c14
          refine w_aload_n C 1 dX2_findLikeEvents_40 rfl rfl ?_
          refine w_iconst C dX2_findLikeEvents_41 kc_i_2 ?_
          refine w_iload_n C 3 dX2_findLikeEvents_42 rfl rfl ?_
          refine w_imul C dX2_findLikeEvents_43 ?_
          refine w_iconst C dX2_findLikeEvents_44 kc_i_1 ?_
          refine w_iadd C dX2_findLikeEvents_45 ?_
          refine w_aload_n C 1 dX2_findLikeEvents_46 rfl rfl ?_
          refine w_iconst C dX2_findLikeEvents_47 kc_i_2 ?_
          refine w_iload_n C 2 dX2_findLikeEvents_48 rfl rfl ?_
          refine w_imul C dX2_findLikeEvents_49 ?_
          refine w_iconst C dX2_findLikeEvents_50 kc_i_1 ?_
          refine w_iadd C dX2_findLikeEvents_51 ?_
          refine back_I (run_V C HR mt_X8_tellsAlike (ci := 8) rfl (by decide) hj1 gw514 gw515 gw801 (by decide) rfl (Nat.le_of_ble_eq_true rfl) dX2_findLikeEvents_52 (As := [.int ((2 * x3) + 1), .ref (gad G 8 j1), .int ((2 * x2) + 1)]) rfl (c_X8_tellsAlike j1 ((2 * x3) + 1) j1 ((2 * x2) + 1) hj1 hj1 _ _ hw)) (fun r16 M15 hw => ?_)
          refine w_if_ne C dX2_findLikeEvents_55 (tgt := 64) rfl (fun c17 => ?_) (fun c17 => ?_)
          · replace hw := hw.2 c17
            exact w_sub [0, 1, 2, 3] rfl (s_X2_findLikeEvents_64 C HR HT g2 j1 x2 x3 hj1 _ hw)
          · replace hw := hw.1 c17
            exact w_sub [0, 1, 2, 3] rfl (s_X2_findLikeEvents_58 C HR HT g2 ih j1 x2 x3 hj1 _ hw)
set_option maxRecDepth 100000 in
set_option maxHeartbeats 4000000 in
theorem s_X2_findLikeEvents_2 {G : GG} {n : Nat} {E : EE} (C : Cx G n E RX2 cX2_findLikeEvents 4) (HR : RM E 1 27) (HT : RT E none) {Q : Mem → Prop}  : ∀ (f : Nat) (j1 : Nat) (x2 : Int32) (hj1 : j1 < cnt n 8) (M : Mem), w_X2_findLikeEvents_2 Q  f j1 x2 M → WW G n E 4 (QE G E (Qv G n Q)) 2 [(0, .ref (gad G 2 0)), (1, .ref (gad G 8 j1)), (2, .int x2)] [] M := by
  intro f
  induction f with
  | zero => intro j1 x2 hj1 M hw; exact hw.elim
  | succ f ih =>
    intro j1 x2 hj1 M hw
    refine w_iload_n C 2 dX2_findLikeEvents_2 rfl rfl ?_
    refine w_bipush C dX2_findLikeEvents_3 kc_b_8 ?_
    refine w_icmp_ge C dX2_findLikeEvents_5 (tgt := 77) rfl (fun c2 => ?_) (fun c2 => ?_)
    · replace hw := hw.1 c2
      exact ret_V C HT hw dX2_findLikeEvents_77
    · replace hw := hw.2 c2
      refine w_iconst C dX2_findLikeEvents_8 kc_i_0 ?_
      refine w_istore_n C (lv' := [(3, .int 0), (0, .ref (gad G 2 0)), (1, .ref (gad G 8 j1)), (2, .int x2)]) dX2_findLikeEvents_9 rfl (by decide) rfl ?_
      obtain ⟨f3, hw⟩ := hw
      exact w_sub [1, 2, 3, 0] rfl (s_X2_findLikeEvents_10 C HR HT ih f3 j1 x2 0 hj1 _ hw)
set_option maxRecDepth 100000 in
set_option maxHeartbeats 4000000 in
theorem c_X2_findLikeEvents {G : GG} {n : Nat} {l : Launch} (j1 : Nat) (hj1 : j1 < cnt n 8) (M : Mem) (Q : Mem → Prop) (hw : wp_X2_findLikeEvents j1 M Q) : Ct G n l yX2_findLikeEvents cX2_findLikeEvents 4 none 1 27 [.ref (gad G 2 0), .ref (gad G 8 j1)] M (Qv G n Q) := by
  refine ct_of (by decide) (Nat.le_of_ble_eq_true rfl) (lv := [(0, .ref (gad G 2 0)), (1, .ref (gad G 8 j1))]) rfl (fun E C HR HT hE => ?_)
  replace C : Cx G n E RX2 cX2_findLikeEvents 4 := C
  refine w_iconst C dX2_findLikeEvents_0 kc_i_0 ?_
  refine w_istore_n C (lv' := [(2, .int 0), (0, .ref (gad G 2 0)), (1, .ref (gad G 8 j1))]) dX2_findLikeEvents_1 rfl (by decide) rfl ?_
  obtain ⟨f1, hw⟩ := hw
  exact w_sub [1, 2, 0] rfl (s_X2_findLikeEvents_2 C HR HT  f1 j1 0 hj1 _ hw)
set_option maxRecDepth 100000 in
set_option maxHeartbeats 4000000 in
theorem s_X2_likeFill_4 {G : GG} {n : Nat} {E : EE} (C : Cx G n E RX2 cX2_likeFill 4) (HR : RM E 0 0) (HT : RT E (some .int)) {Q : Int32 → Mem → Prop}  : ∀ (f : Nat) (x1 : Int32) (x2 : Int32) (x3 : Int32)  (M : Mem), w_X2_likeFill_4 Q  f x1 x2 x3 M → WW G n E 4 (QE G E (Qi G n Q)) 4 [(0, .ref (gad G 2 0)), (1, .int x1), (2, .int x2), (3, .int x3)] [] M := by
  intro f
  induction f with
  | zero => intro x1 x2 x3 M hw; exact hw.elim
  | succ f ih =>
    intro x1 x2 x3 M hw
    refine w_iload_n C 3 dX2_likeFill_4 rfl rfl ?_
    refine w_iconst C dX2_likeFill_5 kc_i_3 ?_
    refine w_aload_n C 0 dX2_likeFill_6 rfl rfl ?_
    refine gf_X2_43 C (Nat.le_of_ble_eq_true rfl) dX2_likeFill_7 ?_
    refine w_imul C dX2_likeFill_10 ?_
    refine w_icmp_ge C dX2_likeFill_11 (tgt := 36) rfl (fun c2 => ?_) (fun c2 => ?_)
    · replace hw := hw.1 c2
      refine w_iload_n C 2 dX2_likeFill_36 rfl rfl ?_
      exact ret_I C HT hw dX2_likeFill_37
    · replace hw := hw.2 c2
      refine w_iload_n C 2 dX2_likeFill_14 rfl rfl ?_
      refine w_aload_n C 0 dX2_likeFill_15 rfl rfl ?_
      refine gf_X2_29 C (Nat.le_of_ble_eq_true rfl) dX2_likeFill_16 ?_
      refine w_iload_n C 1 dX2_likeFill_19 rfl rfl ?_
      refine w_iload_n C 3 dX2_likeFill_20 rfl rfl ?_
      refine w_ishr C dX2_likeFill_21 ?_
      refine w_bipush C dX2_likeFill_22 kc_b_7 ?_
      refine w_iand C dX2_likeFill_24 ?_
      obtain ⟨b3, hw⟩ := hw
      refine v_iald C ak_29 rfl (Nat.le_of_ble_eq_true rfl) b3 dX2_likeFill_25 ?_
      refine w_iload_n C 3 dX2_likeFill_26 rfl rfl ?_
      refine w_ishl C dX2_likeFill_27 ?_
      refine w_ior C dX2_likeFill_28 ?_
      refine w_istore_nV C dX2_likeFill_29 rfl (by decide) (fun a4 ea4 => w_lv (lv' := [(2, .int a4), (0, .ref (gad G 2 0)), (1, .int x1), (3, .int x3)]) rfl ?_)
      replace hw := hw a4 ea4
      refine w_iincV C (lv' := [(3, .int (x3 + 3)), (2, .int a4), (0, .ref (gad G 2 0)), (1, .int x1)]) 3 dX2_likeFill_30 kc_i_3 rfl (by decide) rfl ?_
      refine w_goto C dX2_likeFill_33 (tgt := 4) rfl ?_
      exact w_sub [2, 3, 1, 0] rfl (ih x1 a4 (x3 + 3)  _ hw)
set_option maxRecDepth 100000 in
set_option maxHeartbeats 4000000 in
theorem c_X2_likeFill {G : GG} {n : Nat} {l : Launch} (x1 : Int32)  (M : Mem) (Q : Int32 → Mem → Prop) (hw : wp_X2_likeFill x1 M Q) : Ct G n l yX2_likeFill cX2_likeFill 4 (some .int) 0 0 [.ref (gad G 2 0), .int x1] M (Qi G n Q) := by
  refine ct_of (by decide) (Nat.le_of_ble_eq_true rfl) (lv := [(0, .ref (gad G 2 0)), (1, .int x1)]) rfl (fun E C HR HT hE => ?_)
  replace C : Cx G n E RX2 cX2_likeFill 4 := C
  refine w_iconst C dX2_likeFill_0 kc_i_0 ?_
  refine w_istore_n C (lv' := [(2, .int 0), (0, .ref (gad G 2 0)), (1, .int x1)]) dX2_likeFill_1 rfl (by decide) rfl ?_
  refine w_iconst C dX2_likeFill_2 kc_i_0 ?_
  refine w_istore_n C (lv' := [(3, .int 0), (2, .int 0), (0, .ref (gad G 2 0)), (1, .int x1)]) dX2_likeFill_3 rfl (by decide) rfl ?_
  obtain ⟨f1, hw⟩ := hw
  exact w_sub [2, 3, 1, 0] rfl (s_X2_likeFill_4 C HR HT  f1 x1 0 0  _ hw)
set_option maxRecDepth 100000 in
set_option maxHeartbeats 4000000 in
theorem s_X2_judge_84 {G : GG} {n : Nat} {E : EE} (C : Cx G n E RX2 cX2_judge 7) (HR : RM E 4 99) (HT : RT E none) {Q : Mem → Prop} {K45 : Nat → Int32 → Int32 → Mem → Prop} (g45 : ∀ (j1 : Nat) (x3 : Int32) (x4 : Int32) (hj1 : j1 < cnt n 0) (M : Mem), K45 j1 x3 x4 M → WW G n E 7 (QE G E (Qv G n Q)) 45 [(0, .ref (gad G 2 0)), (1, .ref (gad G 0 j1)), (2, .ref (gad G 4 0)), (3, .int x3), (4, .int x4)] [] M) : ∀ (j1 : Nat) (x3 : Int32) (x4 : Int32) (y0 : Int32) (hj1 : j1 < cnt n 0) (M : Mem), w_X2_judge_84 Q K45 j1 x3 x4 y0 M → WW G n E 7 (QE G E (Qv G n Q)) 84 [(0, .ref (gad G 2 0)), (1, .ref (gad G 0 j1)), (2, .ref (gad G 4 0)), (3, .int x3), (4, .int x4)] [.int y0] M := by
  intro j1 x3 x4 y0 hj1 M hw
  refine w_istore C (lv' := [(6, .int y0), (0, .ref (gad G 2 0)), (1, .ref (gad G 0 j1)), (2, .ref (gad G 4 0)), (3, .int x3), (4, .int x4)]) dX2_judge_84 (by decide) rfl ?_
  refine w_aload_n C 1 dX2_judge_86 rfl rfl ?_
  refine gf_X2_32 C (Nat.le_of_ble_eq_true rfl) dX2_judge_87 ?_
  refine w_iload C 5 dX2_judge_90 rfl ?_
  refine w_iload C 0 dX2_judge_92 rfl ?_
  refine w_i2b C dX2_judge_94 ?_
  obtain ⟨b19, hw⟩ := hw
  refine v_bast C ak_30 rfl (Nat.le_of_ble_eq_true rfl) b19 dX2_judge_95 (w_mem fun M20 eM20 => ?_)
  replace hw := hw M20 eM20
  refine w_aload_n C 2 dX2_judge_96 rfl rfl ?_
  refine w_dup C dX2_judge_97 rfl ?_
  refine gf_X2_77 C hj1 dX2_judge_98 ?_
  refine w_iload C 0 dX2_judge_101 rfl ?_
  refine w_ior C dX2_judge_103 ?_
  refine pf_X2_77 C hj1 dX2_judge_104 (w_mem fun M21 eM21 => ?_)
  replace hw := hw M21 eM21
  refine w_aload_n C 2 dX2_judge_107 rfl rfl ?_
  refine gf_X2_66 C hj1 dX2_judge_108 ?_
  refine w_iconst C dX2_judge_111 kc_i_1 ?_
  refine w_dup2 C dX2_judge_112 rfl rfl ?_
  obtain ⟨b22, hw⟩ := hw
  refine v_iald C ak_21 rfl hj1 b22 dX2_judge_113 ?_
  refine w_iload C 0 dX2_judge_114 rfl ?_
  refine w_iconst C dX2_judge_116 kc_i_1 ?_
  refine w_iand C dX2_judge_117 ?_
  refine w_iadd C dX2_judge_118 ?_
  obtain ⟨b23, hw⟩ := hw
  refine v_iast C ak_21 rfl hj1 b23 dX2_judge_119 (w_mem fun M24 eM24 => ?_)
  replace hw := hw M24 eM24
  refine w_aload_n C 2 dX2_judge_120 rfl rfl ?_
  refine gf_X2_66 C hj1 dX2_judge_121 ?_
  refine w_iconst C dX2_judge_124 kc_i_2 ?_
  refine w_dup2 C dX2_judge_125 rfl rfl ?_
  obtain ⟨b25, hw⟩ := hw
  refine v_iald C ak_21 rfl hj1 b25 dX2_judge_126 ?_
  refine w_iload C 0 dX2_judge_127 rfl ?_
  refine w_iconst C dX2_judge_129 kc_i_1 ?_
  refine w_ishr C dX2_judge_130 ?_
  refine w_iconst C dX2_judge_131 kc_i_1 ?_
  refine w_iand C dX2_judge_132 ?_
  refine w_iadd C dX2_judge_133 ?_
  obtain ⟨b26, hw⟩ := hw
  refine v_iast C ak_21 rfl hj1 b26 dX2_judge_134 (w_mem fun M27 eM27 => ?_)
  replace hw := hw M27 eM27
  refine w_aload_n C 2 dX2_judge_135 rfl rfl ?_
  refine gf_X2_66 C hj1 dX2_judge_136 ?_
  refine w_iconst C dX2_judge_139 kc_i_3 ?_
  refine w_dup2 C dX2_judge_140 rfl rfl ?_
  obtain ⟨b28, hw⟩ := hw
  refine v_iald C ak_21 rfl hj1 b28 dX2_judge_141 ?_
  refine w_iload C 0 dX2_judge_142 rfl ?_
  refine w_iconst C dX2_judge_144 kc_i_2 ?_
  refine w_ishr C dX2_judge_145 ?_
  refine w_iconst C dX2_judge_146 kc_i_1 ?_
  refine w_iand C dX2_judge_147 ?_
  refine w_iadd C dX2_judge_148 ?_
  obtain ⟨b29, hw⟩ := hw
  refine v_iast C ak_21 rfl hj1 b29 dX2_judge_149 (w_mem fun M30 eM30 => ?_)
  replace hw := hw M30 eM30
  refine w_iincV C (lv' := [(4, .int (x4 + 1)), (6, .int y0), (0, .ref (gad G 2 0)), (1, .ref (gad G 0 j1)), (2, .ref (gad G 4 0)), (3, .int x3)]) 5 dX2_judge_150 kc_i_1 rfl (by decide) rfl ?_
  refine w_goto C dX2_judge_153 (tgt := 45) rfl ?_
  exact w_sub [2, 3, 4, 5, 0] rfl (g45 j1 x3 (x4 + 1) hj1 _ hw)
set_option maxRecDepth 100000 in
set_option maxHeartbeats 4000000 in
theorem s_X2_judge_45 {G : GG} {n : Nat} {E : EE} (C : Cx G n E RX2 cX2_judge 7) (HR : RM E 4 99) (HT : RT E none) {Q : Mem → Prop}  : ∀ (f : Nat) (j1 : Nat) (x3 : Int32) (x4 : Int32) (hj1 : j1 < cnt n 0) (M : Mem), w_X2_judge_45 Q  f j1 x3 x4 M → WW G n E 7 (QE G E (Qv G n Q)) 45 [(0, .ref (gad G 2 0)), (1, .ref (gad G 0 j1)), (2, .ref (gad G 4 0)), (3, .int x3), (4, .int x4)] [] M := by
  intro f
  induction f with
  | zero => intro j1 x3 x4 hj1 M hw; exact hw.elim
  | succ f ih =>
    intro j1 x3 x4 hj1 M hw
    refine w_iload C 4 dX2_judge_45 rfl ?_
    refine w_iload_n C 3 dX2_judge_47 rfl rfl ?_
    refine w_icmp_ge C dX2_judge_48 (tgt := 156) rfl (fun c10 => ?_) (fun c10 => ?_)
    · replace hw := hw.1 c10
      refine w_aload_n C 1 dX2_judge_156 rfl rfl ?_
      refine w_aload_n C 0 dX2_judge_157 rfl rfl ?_
      refine w_iload_n C 3 dX2_judge_158 rfl rfl ?_
      refine back_I (run_V C HR mt_X2_fewestPages (ci := 2) rfl (by decide) (Nat.le_of_ble_eq_true rfl) gw834 gw28 gw832 (by decide) rfl (Nat.le_of_ble_eq_true rfl) dX2_judge_159 (As := [.int x3]) rfl (c_X2_fewestPages x3  _ _ hw)) (fun r12 M11 hw => ?_)
      refine pf_X2_91 C hj1 dX2_judge_162 (w_mem fun M13 eM13 => ?_)
      replace hw := hw M13 eM13
      exact ret_V C HT hw dX2_judge_165
    · replace hw := hw.2 c10
      refine w_aload_n C 0 dX2_judge_51 rfl rfl ?_
      refine w_iload C 4 dX2_judge_52 rfl ?_
      refine back_I (run_V C HR mt_X2_likeFill (ci := 2) rfl (by decide) (Nat.le_of_ble_eq_true rfl) gw805 gw21 gw803 (by decide) rfl (Nat.le_of_ble_eq_true rfl) dX2_judge_54 (As := [.int x4]) rfl (c_X2_likeFill x4  _ _ hw)) (fun r15 M14 hw => ?_)
      refine w_istore C (lv' := [(5, .int r15), (0, .ref (gad G 2 0)), (1, .ref (gad G 0 j1)), (2, .ref (gad G 4 0)), (3, .int x3), (4, .int x4)]) dX2_judge_57 (by decide) rfl ?_
      refine w_iload C 0 dX2_judge_59 rfl ?_
      refine w_iload C 5 dX2_judge_61 rfl ?_
      refine w_icmp_ge C dX2_judge_63 (tgt := 76) rfl (fun c16 => ?_) (fun c16 => ?_)
      · replace hw := hw.1 c16
        refine w_aload_n C 1 dX2_judge_76 rfl rfl ?_
        refine w_iload C 5 dX2_judge_77 rfl ?_
        refine w_aload_n C 2 dX2_judge_79 rfl rfl ?_
        refine w_aload_n C 3 dX2_judge_80 rfl rfl ?_
        refine back_I (run_V C HR mt_X2_causesOfRow (ci := 2) rfl (by decide) (Nat.le_of_ble_eq_true rfl) gw809 gw22 gw807 (by decide) rfl (Nat.le_of_ble_eq_true rfl) dX2_judge_81 (As := [.int x4, .ref (gad G 0 j1), .ref (gad G 4 0)]) rfl (c_X2_causesOfRow x4 j1 hj1 _ _ hw)) (fun r18 M17 hw => ?_)
        exact w_sub [1, 2, 3, 4, 5] rfl (s_X2_judge_84 C HR HT ih j1 x3 x4 r18 hj1 _ hw)
      · replace hw := hw.2 c16
        refine w_aload_n C 1 dX2_judge_66 rfl rfl ?_
        refine gf_X2_32 C (Nat.le_of_ble_eq_true rfl) dX2_judge_67 ?_
        refine w_iload C 0 dX2_judge_70 rfl ?_
        obtain ⟨b31, hw⟩ := hw
        refine v_bald C ak_30 rfl (Nat.le_of_ble_eq_true rfl) b31 dX2_judge_72 ?_
        refine w_goto C dX2_judge_73 (tgt := 84) rfl ?_
        exact w_sub [1, 2, 3, 4, 5] rfl (s_X2_judge_84 C HR HT ih j1 x3 x4 (M14 30 0 r15.toNatClampNeg) hj1 _ hw)
