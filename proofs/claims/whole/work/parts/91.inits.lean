/-! CONSTRUCTORS: words; the small ones -/
theorem gw101 : Cond.methodLink "TrueLedger" 3 Lib.objectInit ∈ GW := List.mem_filter.mpr ⟨List.mem_of_getElem? (i := 101) (by decide +kernel), rfl⟩
theorem gw102 : Cond.instanceMethod Lib.objectInit ∈ GW := List.mem_filter.mpr ⟨List.mem_of_getElem? (i := 102) (by decide +kernel), rfl⟩
theorem gw1024 : Cond.methodLink "TrueLedgerModel" 1 Lib.objectInit ∈ GW := List.mem_filter.mpr ⟨List.mem_of_getElem? (i := 1024) (by decide +kernel), rfl⟩
theorem gw103 : Cond.code Lib.objectInit ⟨#[0xb1]⟩ 1 none ∈ GW := List.mem_filter.mpr ⟨List.mem_of_getElem? (i := 103) (by decide +kernel), rfl⟩
theorem gw104 : Cond.classLink "TrueLedger" 9 "TrueLedger$Version" ∈ GW := List.mem_filter.mpr ⟨List.mem_of_getElem? (i := 104) (by decide +kernel), rfl⟩
theorem gw106 : Cond.classLink "TrueLedger" 15 "TrueLedger$Counter" ∈ GW := List.mem_filter.mpr ⟨List.mem_of_getElem? (i := 106) (by decide +kernel), rfl⟩
theorem gw108 : Cond.classLink "TrueLedger" 21 "TrueLedger$Sheet" ∈ GW := List.mem_filter.mpr ⟨List.mem_of_getElem? (i := 108) (by decide +kernel), rfl⟩
theorem gw110 : Cond.classLink "TrueLedger" 31 "TrueLedger$Search" ∈ GW := List.mem_filter.mpr ⟨List.mem_of_getElem? (i := 110) (by decide +kernel), rfl⟩
theorem gw111 : Cond.instantiable "TrueLedger$Search" 6 ∈ GW := List.mem_filter.mpr ⟨List.mem_of_getElem? (i := 111) (by decide +kernel), rfl⟩
theorem gw113 : Cond.instanceMethod yX6_init ∈ GW := List.mem_filter.mpr ⟨List.mem_of_getElem? (i := 113) (by decide +kernel), rfl⟩
theorem gw114 : Cond.code yX6_init cX6_init 1 none ∈ GW := List.mem_filter.mpr ⟨List.mem_of_getElem? (i := 114) (by decide +kernel), rfl⟩
theorem gw115 : Cond.methodLink "TrueLedger$Search" 3 Lib.objectInit ∈ GW := List.mem_filter.mpr ⟨List.mem_of_getElem? (i := 115) (by decide +kernel), rfl⟩
theorem gw1170 : Cond.arrayClass .boolean ∈ GW := List.mem_filter.mpr ⟨List.mem_of_getElem? (i := 1170) (by decide +kernel), rfl⟩
theorem gw136 : Cond.arrayClass .int ∈ GW := List.mem_filter.mpr ⟨List.mem_of_getElem? (i := 136) (by decide +kernel), rfl⟩
theorem gw137 : Cond.classLink "TrueLedger" 38 "TrueLedger$Mender" ∈ GW := List.mem_filter.mpr ⟨List.mem_of_getElem? (i := 137) (by decide +kernel), rfl⟩
theorem gw138 : Cond.instantiable "TrueLedger$Mender" 1 ∈ GW := List.mem_filter.mpr ⟨List.mem_of_getElem? (i := 138) (by decide +kernel), rfl⟩
theorem gw140 : Cond.instanceMethod yX3_init ∈ GW := List.mem_filter.mpr ⟨List.mem_of_getElem? (i := 140) (by decide +kernel), rfl⟩
theorem gw141 : Cond.code yX3_init cX3_init 1 none ∈ GW := List.mem_filter.mpr ⟨List.mem_of_getElem? (i := 141) (by decide +kernel), rfl⟩
theorem gw142 : Cond.methodLink "TrueLedger$Mender" 3 Lib.objectInit ∈ GW := List.mem_filter.mpr ⟨List.mem_of_getElem? (i := 142) (by decide +kernel), rfl⟩
theorem gw147 : Cond.classLink "TrueLedger" 45 "TrueLedger$Filler" ∈ GW := List.mem_filter.mpr ⟨List.mem_of_getElem? (i := 147) (by decide +kernel), rfl⟩
theorem gw148 : Cond.instantiable "TrueLedger$Filler" 12 ∈ GW := List.mem_filter.mpr ⟨List.mem_of_getElem? (i := 148) (by decide +kernel), rfl⟩
theorem gw150 : Cond.instanceMethod yX2_init ∈ GW := List.mem_filter.mpr ⟨List.mem_of_getElem? (i := 150) (by decide +kernel), rfl⟩
theorem gw151 : Cond.code yX2_init cX2_init 1 none ∈ GW := List.mem_filter.mpr ⟨List.mem_of_getElem? (i := 151) (by decide +kernel), rfl⟩
theorem gw152 : Cond.methodLink "TrueLedger$Filler" 3 Lib.objectInit ∈ GW := List.mem_filter.mpr ⟨List.mem_of_getElem? (i := 152) (by decide +kernel), rfl⟩
theorem gw153 : Cond.classLink "TrueLedger$Filler" 21 "[[I" ∈ GW := List.mem_filter.mpr ⟨List.mem_of_getElem? (i := 153) (by decide +kernel), rfl⟩
theorem gw192 : Cond.arrayClass .byte ∈ GW := List.mem_filter.mpr ⟨List.mem_of_getElem? (i := 192) (by decide +kernel), rfl⟩
theorem gw193 : Cond.classLink "TrueLedger" 52 "TrueLedger$Paid" ∈ GW := List.mem_filter.mpr ⟨List.mem_of_getElem? (i := 193) (by decide +kernel), rfl⟩
theorem gw194 : Cond.instantiable "TrueLedger$Paid" 5 ∈ GW := List.mem_filter.mpr ⟨List.mem_of_getElem? (i := 194) (by decide +kernel), rfl⟩
theorem gw196 : Cond.instanceMethod yX5_init ∈ GW := List.mem_filter.mpr ⟨List.mem_of_getElem? (i := 196) (by decide +kernel), rfl⟩
theorem gw197 : Cond.code yX5_init cX5_init 1 none ∈ GW := List.mem_filter.mpr ⟨List.mem_of_getElem? (i := 197) (by decide +kernel), rfl⟩
theorem gw198 : Cond.methodLink "TrueLedger$Paid" 3 Lib.objectInit ∈ GW := List.mem_filter.mpr ⟨List.mem_of_getElem? (i := 198) (by decide +kernel), rfl⟩
theorem gw217 : Cond.classLink "TrueLedger" 59 "TrueLedger$Court" ∈ GW := List.mem_filter.mpr ⟨List.mem_of_getElem? (i := 217) (by decide +kernel), rfl⟩
theorem gw218 : Cond.instantiable "TrueLedger$Court" 4 ∈ GW := List.mem_filter.mpr ⟨List.mem_of_getElem? (i := 218) (by decide +kernel), rfl⟩
theorem gw220 : Cond.instanceMethod yX1_init ∈ GW := List.mem_filter.mpr ⟨List.mem_of_getElem? (i := 220) (by decide +kernel), rfl⟩
theorem gw221 : Cond.code yX1_init cX1_init 1 none ∈ GW := List.mem_filter.mpr ⟨List.mem_of_getElem? (i := 221) (by decide +kernel), rfl⟩
theorem gw222 : Cond.methodLink "TrueLedger$Court" 3 Lib.objectInit ∈ GW := List.mem_filter.mpr ⟨List.mem_of_getElem? (i := 222) (by decide +kernel), rfl⟩
theorem gw227 : Cond.fieldLink "TrueLedger$Court" 22 "TrueLedger$Court" "grounds" "I" ∈ GW := List.mem_filter.mpr ⟨List.mem_of_getElem? (i := 227) (by decide +kernel), rfl⟩
theorem gw238 : Cond.instantiable "TrueLedger$Version" 10 ∈ GW := List.mem_filter.mpr ⟨List.mem_of_getElem? (i := 238) (by decide +kernel), rfl⟩
theorem gw240 : Cond.instanceMethod yX8_init ∈ GW := List.mem_filter.mpr ⟨List.mem_of_getElem? (i := 240) (by decide +kernel), rfl⟩
theorem gw241 : Cond.code yX8_init cX8_init 1 none ∈ GW := List.mem_filter.mpr ⟨List.mem_of_getElem? (i := 241) (by decide +kernel), rfl⟩
theorem gw242 : Cond.methodLink "TrueLedger$Version" 3 Lib.objectInit ∈ GW := List.mem_filter.mpr ⟨List.mem_of_getElem? (i := 242) (by decide +kernel), rfl⟩
theorem gw281 : Cond.classLink "TrueLedger" 80 "TrueLedger$Mix" ∈ GW := List.mem_filter.mpr ⟨List.mem_of_getElem? (i := 281) (by decide +kernel), rfl⟩
theorem gw282 : Cond.instantiable "TrueLedger$Mix" 4 ∈ GW := List.mem_filter.mpr ⟨List.mem_of_getElem? (i := 282) (by decide +kernel), rfl⟩
theorem gw283 : Cond.methodLink "TrueLedger" 82 yX4_init ∈ GW := List.mem_filter.mpr ⟨List.mem_of_getElem? (i := 283) (by decide +kernel), rfl⟩
theorem gw284 : Cond.instanceMethod yX4_init ∈ GW := List.mem_filter.mpr ⟨List.mem_of_getElem? (i := 284) (by decide +kernel), rfl⟩
theorem gw285 : Cond.code yX4_init cX4_init 2 none ∈ GW := List.mem_filter.mpr ⟨List.mem_of_getElem? (i := 285) (by decide +kernel), rfl⟩
theorem gw286 : Cond.methodLink "TrueLedger$Mix" 3 Lib.objectInit ∈ GW := List.mem_filter.mpr ⟨List.mem_of_getElem? (i := 286) (by decide +kernel), rfl⟩
theorem gw302 : Cond.instantiable "TrueLedger$Sheet" 4 ∈ GW := List.mem_filter.mpr ⟨List.mem_of_getElem? (i := 302) (by decide +kernel), rfl⟩
theorem gw304 : Cond.instanceMethod yX7_init ∈ GW := List.mem_filter.mpr ⟨List.mem_of_getElem? (i := 304) (by decide +kernel), rfl⟩
theorem gw305 : Cond.code yX7_init cX7_init 1 none ∈ GW := List.mem_filter.mpr ⟨List.mem_of_getElem? (i := 305) (by decide +kernel), rfl⟩
theorem gw306 : Cond.methodLink "TrueLedger$Sheet" 3 Lib.objectInit ∈ GW := List.mem_filter.mpr ⟨List.mem_of_getElem? (i := 306) (by decide +kernel), rfl⟩
theorem gw660 : Cond.methodLink "TrueLedger$Counter" 3 Lib.objectInit ∈ GW := List.mem_filter.mpr ⟨List.mem_of_getElem? (i := 660) (by decide +kernel), rfl⟩
theorem gw682 : Cond.fieldLink "TrueLedger$Counter" 37 "TrueLedger$Counter" "tally" "[I" ∈ GW := List.mem_filter.mpr ⟨List.mem_of_getElem? (i := 682) (by decide +kernel), rfl⟩
theorem gw685 : Cond.fieldLink "TrueLedger$Counter" 40 "TrueLedger$Counter" "allCauses" "I" ∈ GW := List.mem_filter.mpr ⟨List.mem_of_getElem? (i := 685) (by decide +kernel), rfl⟩
theorem gw688 : Cond.fieldLink "TrueLedger$Counter" 43 "TrueLedger$Counter" "pagesToRead" "I" ∈ GW := List.mem_filter.mpr ⟨List.mem_of_getElem? (i := 688) (by decide +kernel), rfl⟩
theorem nw112 : Cond.methodLinkNest "TrueLedger" 33 yX6_init "TrueLedger" ∈ NW := List.mem_filter.mpr ⟨List.mem_of_getElem? (i := 112) (by decide +kernel), rfl⟩
theorem nw139 : Cond.methodLinkNest "TrueLedger" 40 yX3_init "TrueLedger" ∈ NW := List.mem_filter.mpr ⟨List.mem_of_getElem? (i := 139) (by decide +kernel), rfl⟩
theorem nw149 : Cond.methodLinkNest "TrueLedger" 47 yX2_init "TrueLedger" ∈ NW := List.mem_filter.mpr ⟨List.mem_of_getElem? (i := 149) (by decide +kernel), rfl⟩
theorem nw195 : Cond.methodLinkNest "TrueLedger" 54 yX5_init "TrueLedger" ∈ NW := List.mem_filter.mpr ⟨List.mem_of_getElem? (i := 195) (by decide +kernel), rfl⟩
theorem nw219 : Cond.methodLinkNest "TrueLedger" 61 yX1_init "TrueLedger" ∈ NW := List.mem_filter.mpr ⟨List.mem_of_getElem? (i := 219) (by decide +kernel), rfl⟩
theorem nw239 : Cond.methodLinkNest "TrueLedger" 79 yX8_init "TrueLedger" ∈ NW := List.mem_filter.mpr ⟨List.mem_of_getElem? (i := 239) (by decide +kernel), rfl⟩
theorem nw303 : Cond.methodLinkNest "TrueLedger" 89 yX7_init "TrueLedger" ∈ NW := List.mem_filter.mpr ⟨List.mem_of_getElem? (i := 303) (by decide +kernel), rfl⟩
theorem mt_X1_init : MT yX1_init cX1_init 1 none 0 := ⟨gw221, gw81, by decide, by decide, by decide +kernel⟩
theorem mt_X2_init : MT yX2_init cX2_init 1 none 0 := ⟨gw151, gw79, by decide, by decide, by decide +kernel⟩
theorem mt_X3_init : MT yX3_init cX3_init 1 none 0 := ⟨gw141, gw78, by decide, by decide, by decide +kernel⟩
theorem mt_X4_init : MT yX4_init cX4_init 2 none 1 := ⟨gw285, gw83, by decide, by decide, by decide +kernel⟩
theorem mt_X5_init : MT yX5_init cX5_init 1 none 0 := ⟨gw197, gw80, by decide, by decide, by decide +kernel⟩
theorem mt_X6_init : MT yX6_init cX6_init 1 none 0 := ⟨gw114, gw77, by decide, by decide, by decide +kernel⟩
theorem mt_X7_init : MT yX7_init cX7_init 1 none 0 := ⟨gw305, gw84, by decide, by decide, by decide +kernel⟩
theorem mt_X8_init : MT yX8_init cX8_init 1 none 0 := ⟨gw241, gw82, by decide, by decide, by decide +kernel⟩
theorem df_X0 : ∀ j, j < 13 → defaultValue (tyX0 j) = [.int 0, .null, .int 0, .int 0, .int 0, .int 0, .int 0, .int 0, .int 0, .null, .int 0, .int 0, .int 0].getD j .null := by decide
theorem df_X1 : ∀ j, j < 4 → defaultValue (tyX1 j) = [.null, .null, .int 0, .int 0].getD j .null := by decide
theorem df_X2 : ∀ j, j < 12 → defaultValue (tyX2 j) = [.null, .null, .null, .null, .null, .null, .null, .null, .int 0, .int 0, .int 0, .int 0].getD j .null := by decide
theorem df_X3 : ∀ j, j < 1 → defaultValue (tyX3 j) = [.null].getD j .null := by decide
theorem df_X4 : ∀ j, j < 4 → defaultValue (tyX4 j) = [.null, .null, .null, .int 0].getD j .null := by decide
theorem df_X5 : ∀ j, j < 5 → defaultValue (tyX5 j) = [.null, .null, .null, .int 0, .int 0].getD j .null := by decide
theorem df_X6 : ∀ j, j < 6 → defaultValue (tyX6 j) = [.null, .null, .null, .null, .null, .int 0].getD j .null := by decide
theorem df_X7 : ∀ j, j < 4 → defaultValue (tyX7 j) = [.null, .int 0, .int 0, .int 0].getD j .null := by decide
theorem df_X8 : ∀ j, j < 10 → defaultValue (tyX8 j) = [.null, .null, .null, .null, .null, .null, .int 0, .int 0, .int 0, .int 0].getD j .null := by decide
theorem df_X9 : ∀ j, j < 14 → defaultValue (tyX9 j) = [.null, .null, .null, .null, .null, .null, .null, .null, .null, .null, .int 0, .int 0, .int 0, .int 0].getD j .null := by decide
theorem df_X10 : ∀ j, j < 48 → defaultValue (tyX10 j) = [.null, .null, .null, .null, .null, .null, .null, .null, .null, .int 0, .int 0, .int 0, .int 0, .null, .int 0, .int 0, .int 0, .int 0, .int 0, .null, .int 0, .null, .null, .null, .null, .null, .null, .null, .null, .null, .null, .null, .int 0, .null, .null, .null, .int 0, .int 0, .null, .null, .int 0, .null, .null, .null, .null, .null, .null, .int 0].getD j .null := by decide
theorem i_ws {G : GG} {E : EI} {nL : Nat} {Q : State → Prop} {a sz pc : Nat} {lv : List (Nat × Value)} {st : List Value} {ws ws' : List CD} {ce sl : Nat} (h : ws = ws') (k : WI G E nL Q a sz pc lv st ws' ce sl) : WI G E nL Q a sz pc lv st ws ce sl := h ▸ k
set_option maxRecDepth 100000 in
set_option maxHeartbeats 4000000 in
theorem ci_X1_init (G : GG) (l : Launch) (a sz : Nat) : CtI G l yX1_init cX1_init 1 1 2 32 12 a sz [] [.inl (1, [.null, .null, .int 0, .int 0])] [.inl (1, [.ref (adr a sz 1), .ref (adr a sz 2), .int 0, .int 255]), .inr (0, 16, fun _ => .int 0), .inr (0, 16, fun _ => .int 0)] := by
  refine cti_of (by decide) rfl (Nat.le_of_ble_eq_true rfl) rfl (fun E C HR _ => ?_)
  refine i_aload_n C 0 dX1_init_0 rfl rfl ?_
  refine i_obj C HR gw222 gw102 gw103 (by decide) (by decide) dX1_init_1 ?_
  refine i_aload_n C 0 dX1_init_4 rfl rfl ?_
  refine i_bipush C (v := 16) dX1_init_5 (by decide) ?_
  refine i_newa C HR (t := 0) (ty := .int) rfl rfl (fun _ _ h => h) rfl gw136 (N := 16) (by decide) (by decide) (by decide) (by decide) (by decide) dX1_init_7 ?_
  refine i_ws (ws' := [.inl (1, [.null, .null, .int 0, .int 0]), .inr (0, 16, fun _ => .int 0)]) rfl ?_
  refine i_putF C (T := TX1) (s0 := 0) rfl rfl in_X1 (by decide) tyX1 tyX1_ok nmX1 rfl rfl gw223 rfl rfl rfl dX1_init_9 ?_
  refine i_ws (ws' := [.inl (1, [.ref (adr a sz 1), .null, .int 0, .int 0]), .inr (0, 16, fun _ => .int 0)]) rfl ?_
  refine i_aload_n C 0 dX1_init_12 rfl rfl ?_
  refine i_bipush C (v := 16) dX1_init_13 (by decide) ?_
  refine i_newa C HR (t := 0) (ty := .int) rfl rfl (fun _ _ h => h) rfl gw136 (N := 16) (by decide) (by decide) (by decide) (by decide) (by decide) dX1_init_15 ?_
  refine i_ws (ws' := [.inl (1, [.ref (adr a sz 1), .null, .int 0, .int 0]), .inr (0, 16, fun _ => .int 0), .inr (0, 16, fun _ => .int 0)]) rfl ?_
  refine i_putF C (T := TX1) (s0 := 1) rfl rfl in_X1 (by decide) tyX1 tyX1_ok nmX1 rfl rfl gw224 rfl rfl rfl dX1_init_17 ?_
  refine i_ws (ws' := [.inl (1, [.ref (adr a sz 1), .ref (adr a sz 2), .int 0, .int 0]), .inr (0, 16, fun _ => .int 0), .inr (0, 16, fun _ => .int 0)]) rfl ?_
  refine i_aload_n C 0 dX1_init_20 rfl rfl ?_
  refine i_iconst C (v := 0) dX1_init_21 (by decide) ?_
  refine i_put C (T := TX1) (s0 := 2) rfl rfl in_X1 (by decide) tyX1 tyX1_ok nmX1 rfl gw225 rfl rfl rfl dX1_init_22 ?_
  refine i_ws (ws' := [.inl (1, [.ref (adr a sz 1), .ref (adr a sz 2), .int 0, .int 0]), .inr (0, 16, fun _ => .int 0), .inr (0, 16, fun _ => .int 0)]) rfl ?_
  refine i_aload_n C 0 dX1_init_25 rfl rfl ?_
  refine i_sipush C (v := 255) dX1_init_26 (by decide) ?_
  refine i_put C (T := TX1) (s0 := 3) rfl rfl in_X1 (by decide) tyX1 tyX1_ok nmX1 rfl gw227 rfl rfl rfl dX1_init_29 ?_
  refine i_ws (ws' := [.inl (1, [.ref (adr a sz 1), .ref (adr a sz 2), .int 0, .int 255]), .inr (0, 16, fun _ => .int 0), .inr (0, 16, fun _ => .int 0)]) rfl ?_
  exact i_ret C rfl dX1_init_32
set_option maxRecDepth 100000 in
set_option maxHeartbeats 4000000 in
theorem ci_X3_init (G : GG) (l : Launch) (a sz : Nat) : CtI G l yX3_init cX3_init 1 1 1 256 12 a sz [] [.inl (3, [.null])] [.inl (3, [.ref (adr a sz 1)]), .inr (0, 256, fun _ => .int 0)] := by
  refine cti_of (by decide) rfl (Nat.le_of_ble_eq_true rfl) rfl (fun E C HR _ => ?_)
  refine i_aload_n C 0 dX3_init_0 rfl rfl ?_
  refine i_obj C HR gw142 gw102 gw103 (by decide) (by decide) dX3_init_1 ?_
  refine i_aload_n C 0 dX3_init_4 rfl rfl ?_
  refine i_sipush C (v := 256) dX3_init_5 (by decide) ?_
  refine i_newa C HR (t := 0) (ty := .int) rfl rfl (fun _ _ h => h) rfl gw136 (N := 256) (by decide) (by decide) (by decide) (by decide) (by decide) dX3_init_8 ?_
  refine i_ws (ws' := [.inl (3, [.null]), .inr (0, 256, fun _ => .int 0)]) rfl ?_
  refine i_putF C (T := TX3) (s0 := 0) rfl rfl in_X3 (by decide) tyX3 tyX3_ok nmX3 rfl rfl gw143 rfl rfl rfl dX3_init_10 ?_
  refine i_ws (ws' := [.inl (3, [.ref (adr a sz 1)]), .inr (0, 256, fun _ => .int 0)]) rfl ?_
  exact i_ret C rfl dX3_init_13
set_option maxRecDepth 100000 in
set_option maxHeartbeats 4000000 in
theorem ci_X5_init (G : GG) (l : Launch) (a sz : Nat) : CtI G l yX5_init cX5_init 1 1 3 120 12 a sz [] [.inl (5, [.null, .null, .null, .int 0, .int 0])] [.inl (5, [.ref (adr a sz 1), .ref (adr a sz 2), .ref (adr a sz 3), .int 0, .int 1]), .inr (0, 40, fun _ => .int 0), .inr (0, 40, fun _ => .int 0), .inr (0, 40, fun _ => .int 0)] := by
  refine cti_of (by decide) rfl (Nat.le_of_ble_eq_true rfl) rfl (fun E C HR _ => ?_)
  refine i_aload_n C 0 dX5_init_0 rfl rfl ?_
  refine i_obj C HR gw198 gw102 gw103 (by decide) (by decide) dX5_init_1 ?_
  refine i_aload_n C 0 dX5_init_4 rfl rfl ?_
  refine i_bipush C (v := 40) dX5_init_5 (by decide) ?_
  refine i_newa C HR (t := 0) (ty := .int) rfl rfl (fun _ _ h => h) rfl gw136 (N := 40) (by decide) (by decide) (by decide) (by decide) (by decide) dX5_init_7 ?_
  refine i_ws (ws' := [.inl (5, [.null, .null, .null, .int 0, .int 0]), .inr (0, 40, fun _ => .int 0)]) rfl ?_
  refine i_putF C (T := TX5) (s0 := 0) rfl rfl in_X5 (by decide) tyX5 tyX5_ok nmX5 rfl rfl gw199 rfl rfl rfl dX5_init_9 ?_
  refine i_ws (ws' := [.inl (5, [.ref (adr a sz 1), .null, .null, .int 0, .int 0]), .inr (0, 40, fun _ => .int 0)]) rfl ?_
  refine i_aload_n C 0 dX5_init_12 rfl rfl ?_
  refine i_bipush C (v := 40) dX5_init_13 (by decide) ?_
  refine i_newa C HR (t := 0) (ty := .int) rfl rfl (fun _ _ h => h) rfl gw136 (N := 40) (by decide) (by decide) (by decide) (by decide) (by decide) dX5_init_15 ?_
  refine i_ws (ws' := [.inl (5, [.ref (adr a sz 1), .null, .null, .int 0, .int 0]), .inr (0, 40, fun _ => .int 0), .inr (0, 40, fun _ => .int 0)]) rfl ?_
  refine i_putF C (T := TX5) (s0 := 1) rfl rfl in_X5 (by decide) tyX5 tyX5_ok nmX5 rfl rfl gw200 rfl rfl rfl dX5_init_17 ?_
  refine i_ws (ws' := [.inl (5, [.ref (adr a sz 1), .ref (adr a sz 2), .null, .int 0, .int 0]), .inr (0, 40, fun _ => .int 0), .inr (0, 40, fun _ => .int 0)]) rfl ?_
  refine i_aload_n C 0 dX5_init_20 rfl rfl ?_
  refine i_bipush C (v := 40) dX5_init_21 (by decide) ?_
  refine i_newa C HR (t := 0) (ty := .int) rfl rfl (fun _ _ h => h) rfl gw136 (N := 40) (by decide) (by decide) (by decide) (by decide) (by decide) dX5_init_23 ?_
  refine i_ws (ws' := [.inl (5, [.ref (adr a sz 1), .ref (adr a sz 2), .null, .int 0, .int 0]), .inr (0, 40, fun _ => .int 0), .inr (0, 40, fun _ => .int 0), .inr (0, 40, fun _ => .int 0)]) rfl ?_
  refine i_putF C (T := TX5) (s0 := 2) rfl rfl in_X5 (by decide) tyX5 tyX5_ok nmX5 rfl rfl gw201 rfl rfl rfl dX5_init_25 ?_
  refine i_ws (ws' := [.inl (5, [.ref (adr a sz 1), .ref (adr a sz 2), .ref (adr a sz 3), .int 0, .int 0]), .inr (0, 40, fun _ => .int 0), .inr (0, 40, fun _ => .int 0), .inr (0, 40, fun _ => .int 0)]) rfl ?_
  refine i_aload_n C 0 dX5_init_28 rfl rfl ?_
  refine i_iconst C (v := 0) dX5_init_29 (by decide) ?_
  refine i_put C (T := TX5) (s0 := 3) rfl rfl in_X5 (by decide) tyX5 tyX5_ok nmX5 rfl gw202 rfl rfl rfl dX5_init_30 ?_
  refine i_ws (ws' := [.inl (5, [.ref (adr a sz 1), .ref (adr a sz 2), .ref (adr a sz 3), .int 0, .int 0]), .inr (0, 40, fun _ => .int 0), .inr (0, 40, fun _ => .int 0), .inr (0, 40, fun _ => .int 0)]) rfl ?_
  refine i_aload_n C 0 dX5_init_33 rfl rfl ?_
  refine i_iconst C (v := 1) dX5_init_34 (by decide) ?_
  refine i_put C (T := TX5) (s0 := 4) rfl rfl in_X5 (by decide) tyX5 tyX5_ok nmX5 rfl gw204 rfl rfl rfl dX5_init_35 ?_
  refine i_ws (ws' := [.inl (5, [.ref (adr a sz 1), .ref (adr a sz 2), .ref (adr a sz 3), .int 0, .int 1]), .inr (0, 40, fun _ => .int 0), .inr (0, 40, fun _ => .int 0), .inr (0, 40, fun _ => .int 0)]) rfl ?_
  exact i_ret C rfl dX5_init_38
set_option maxRecDepth 100000 in
set_option maxHeartbeats 4000000 in
theorem ci_X7_init (G : GG) (l : Launch) (a sz : Nat) : CtI G l yX7_init cX7_init 1 1 1 40 12 a sz [] [.inl (7, [.null, .int 0, .int 0, .int 0])] [.inl (7, [.ref (adr a sz 1), .int 1, .int 0, .int 0]), .inr (0, 40, fun _ => .int 0)] := by
  refine cti_of (by decide) rfl (Nat.le_of_ble_eq_true rfl) rfl (fun E C HR _ => ?_)
  refine i_aload_n C 0 dX7_init_0 rfl rfl ?_
  refine i_obj C HR gw306 gw102 gw103 (by decide) (by decide) dX7_init_1 ?_
  refine i_aload_n C 0 dX7_init_4 rfl rfl ?_
  refine i_bipush C (v := 40) dX7_init_5 (by decide) ?_
  refine i_newa C HR (t := 0) (ty := .int) rfl rfl (fun _ _ h => h) rfl gw136 (N := 40) (by decide) (by decide) (by decide) (by decide) (by decide) dX7_init_7 ?_
  refine i_ws (ws' := [.inl (7, [.null, .int 0, .int 0, .int 0]), .inr (0, 40, fun _ => .int 0)]) rfl ?_
  refine i_putF C (T := TX7) (s0 := 0) rfl rfl in_X7 (by decide) tyX7 tyX7_ok nmX7 rfl rfl gw307 rfl rfl rfl dX7_init_9 ?_
  refine i_ws (ws' := [.inl (7, [.ref (adr a sz 1), .int 0, .int 0, .int 0]), .inr (0, 40, fun _ => .int 0)]) rfl ?_
  refine i_aload_n C 0 dX7_init_12 rfl rfl ?_
  refine i_iconst C (v := 1) dX7_init_13 (by decide) ?_
  refine i_put C (T := TX7) (s0 := 1) rfl rfl in_X7 (by decide) tyX7 tyX7_ok nmX7 rfl gw310 rfl rfl rfl dX7_init_14 ?_
  refine i_ws (ws' := [.inl (7, [.ref (adr a sz 1), .int 1, .int 0, .int 0]), .inr (0, 40, fun _ => .int 0)]) rfl ?_
  refine i_aload_n C 0 dX7_init_17 rfl rfl ?_
  refine i_iconst C (v := 0) dX7_init_18 (by decide) ?_
  refine i_put C (T := TX7) (s0 := 2) rfl rfl in_X7 (by decide) tyX7 tyX7_ok nmX7 rfl gw312 rfl rfl rfl dX7_init_19 ?_
  refine i_ws (ws' := [.inl (7, [.ref (adr a sz 1), .int 1, .int 0, .int 0]), .inr (0, 40, fun _ => .int 0)]) rfl ?_
  refine i_aload_n C 0 dX7_init_22 rfl rfl ?_
  refine i_iconst C (v := 0) dX7_init_23 (by decide) ?_
  refine i_put C (T := TX7) (s0 := 3) rfl rfl in_X7 (by decide) tyX7 tyX7_ok nmX7 rfl gw314 rfl rfl rfl dX7_init_24 ?_
  refine i_ws (ws' := [.inl (7, [.ref (adr a sz 1), .int 1, .int 0, .int 0]), .inr (0, 40, fun _ => .int 0)]) rfl ?_
  exact i_ret C rfl dX7_init_27
set_option maxRecDepth 100000 in
set_option maxHeartbeats 4000000 in
theorem ci_X6_init (G : GG) (l : Launch) (a sz : Nat) : CtI G l yX6_init cX6_init 1 1 5 2784 12 a sz [] [.inl (6, [.null, .null, .null, .null, .null, .int 0])] [.inl (6, [.ref (adr a sz 1), .ref (adr a sz 2), .ref (adr a sz 3), .ref (adr a sz 4), .ref (adr a sz 5), .int 0]), .inr (0, 585, fun _ => .int 0), .inr (0, 585, fun _ => .int 0), .inr (0, 585, fun _ => .int 0), .inr (0, 1024, fun _ => .int 0), .inr (0, 5, fun _ => .int 0)] := by
  refine cti_of (by decide) rfl (Nat.le_of_ble_eq_true rfl) rfl (fun E C HR _ => ?_)
  refine i_aload_n C 0 dX6_init_0 rfl rfl ?_
  refine i_obj C HR gw115 gw102 gw103 (by decide) (by decide) dX6_init_1 ?_
  refine i_aload_n C 0 dX6_init_4 rfl rfl ?_
  refine i_sipush C (v := 585) dX6_init_5 (by decide) ?_
  refine i_newa C HR (t := 0) (ty := .int) rfl rfl (fun _ _ h => h) rfl gw136 (N := 585) (by decide) (by decide) (by decide) (by decide) (by decide) dX6_init_8 ?_
  refine i_ws (ws' := [.inl (6, [.null, .null, .null, .null, .null, .int 0]), .inr (0, 585, fun _ => .int 0)]) rfl ?_
  refine i_putF C (T := TX6) (s0 := 0) rfl rfl in_X6 (by decide) tyX6 tyX6_ok nmX6 rfl rfl gw116 rfl rfl rfl dX6_init_10 ?_
  refine i_ws (ws' := [.inl (6, [.ref (adr a sz 1), .null, .null, .null, .null, .int 0]), .inr (0, 585, fun _ => .int 0)]) rfl ?_
  refine i_aload_n C 0 dX6_init_13 rfl rfl ?_
  refine i_sipush C (v := 585) dX6_init_14 (by decide) ?_
  refine i_newa C HR (t := 0) (ty := .int) rfl rfl (fun _ _ h => h) rfl gw136 (N := 585) (by decide) (by decide) (by decide) (by decide) (by decide) dX6_init_17 ?_
  refine i_ws (ws' := [.inl (6, [.ref (adr a sz 1), .null, .null, .null, .null, .int 0]), .inr (0, 585, fun _ => .int 0), .inr (0, 585, fun _ => .int 0)]) rfl ?_
  refine i_putF C (T := TX6) (s0 := 1) rfl rfl in_X6 (by decide) tyX6 tyX6_ok nmX6 rfl rfl gw117 rfl rfl rfl dX6_init_19 ?_
  refine i_ws (ws' := [.inl (6, [.ref (adr a sz 1), .ref (adr a sz 2), .null, .null, .null, .int 0]), .inr (0, 585, fun _ => .int 0), .inr (0, 585, fun _ => .int 0)]) rfl ?_
  refine i_aload_n C 0 dX6_init_22 rfl rfl ?_
  refine i_sipush C (v := 585) dX6_init_23 (by decide) ?_
  refine i_newa C HR (t := 0) (ty := .int) rfl rfl (fun _ _ h => h) rfl gw136 (N := 585) (by decide) (by decide) (by decide) (by decide) (by decide) dX6_init_26 ?_
  refine i_ws (ws' := [.inl (6, [.ref (adr a sz 1), .ref (adr a sz 2), .null, .null, .null, .int 0]), .inr (0, 585, fun _ => .int 0), .inr (0, 585, fun _ => .int 0), .inr (0, 585, fun _ => .int 0)]) rfl ?_
  refine i_putF C (T := TX6) (s0 := 2) rfl rfl in_X6 (by decide) tyX6 tyX6_ok nmX6 rfl rfl gw118 rfl rfl rfl dX6_init_28 ?_
  refine i_ws (ws' := [.inl (6, [.ref (adr a sz 1), .ref (adr a sz 2), .ref (adr a sz 3), .null, .null, .int 0]), .inr (0, 585, fun _ => .int 0), .inr (0, 585, fun _ => .int 0), .inr (0, 585, fun _ => .int 0)]) rfl ?_
  refine i_aload_n C 0 dX6_init_31 rfl rfl ?_
  refine i_sipush C (v := 1024) dX6_init_32 (by decide) ?_
  refine i_newa C HR (t := 0) (ty := .int) rfl rfl (fun _ _ h => h) rfl gw136 (N := 1024) (by decide) (by decide) (by decide) (by decide) (by decide) dX6_init_35 ?_
  refine i_ws (ws' := [.inl (6, [.ref (adr a sz 1), .ref (adr a sz 2), .ref (adr a sz 3), .null, .null, .int 0]), .inr (0, 585, fun _ => .int 0), .inr (0, 585, fun _ => .int 0), .inr (0, 585, fun _ => .int 0), .inr (0, 1024, fun _ => .int 0)]) rfl ?_
  refine i_putF C (T := TX6) (s0 := 3) rfl rfl in_X6 (by decide) tyX6 tyX6_ok nmX6 rfl rfl gw119 rfl rfl rfl dX6_init_37 ?_
  refine i_ws (ws' := [.inl (6, [.ref (adr a sz 1), .ref (adr a sz 2), .ref (adr a sz 3), .ref (adr a sz 4), .null, .int 0]), .inr (0, 585, fun _ => .int 0), .inr (0, 585, fun _ => .int 0), .inr (0, 585, fun _ => .int 0), .inr (0, 1024, fun _ => .int 0)]) rfl ?_
  refine i_aload_n C 0 dX6_init_40 rfl rfl ?_
  refine i_iconst C (v := 5) dX6_init_41 (by decide) ?_
  refine i_newa C HR (t := 0) (ty := .int) rfl rfl (fun _ _ h => h) rfl gw136 (N := 5) (by decide) (by decide) (by decide) (by decide) (by decide) dX6_init_42 ?_
  refine i_ws (ws' := [.inl (6, [.ref (adr a sz 1), .ref (adr a sz 2), .ref (adr a sz 3), .ref (adr a sz 4), .null, .int 0]), .inr (0, 585, fun _ => .int 0), .inr (0, 585, fun _ => .int 0), .inr (0, 585, fun _ => .int 0), .inr (0, 1024, fun _ => .int 0), .inr (0, 5, fun _ => .int 0)]) rfl ?_
  refine i_putF C (T := TX6) (s0 := 4) rfl rfl in_X6 (by decide) tyX6 tyX6_ok nmX6 rfl rfl gw120 rfl rfl rfl dX6_init_44 ?_
  refine i_ws (ws' := [.inl (6, [.ref (adr a sz 1), .ref (adr a sz 2), .ref (adr a sz 3), .ref (adr a sz 4), .ref (adr a sz 5), .int 0]), .inr (0, 585, fun _ => .int 0), .inr (0, 585, fun _ => .int 0), .inr (0, 585, fun _ => .int 0), .inr (0, 1024, fun _ => .int 0), .inr (0, 5, fun _ => .int 0)]) rfl ?_
  refine i_aload_n C 0 dX6_init_47 rfl rfl ?_
  refine i_iconst C (v := 0) dX6_init_48 (by decide) ?_
  refine i_put C (T := TX6) (s0 := 5) rfl rfl in_X6 (by decide) tyX6 tyX6_ok nmX6 rfl gw122 rfl rfl rfl dX6_init_49 ?_
  refine i_ws (ws' := [.inl (6, [.ref (adr a sz 1), .ref (adr a sz 2), .ref (adr a sz 3), .ref (adr a sz 4), .ref (adr a sz 5), .int 0]), .inr (0, 585, fun _ => .int 0), .inr (0, 585, fun _ => .int 0), .inr (0, 585, fun _ => .int 0), .inr (0, 1024, fun _ => .int 0), .inr (0, 5, fun _ => .int 0)]) rfl ?_
  exact i_ret C rfl dX6_init_52
set_option maxRecDepth 100000 in
set_option maxHeartbeats 4000000 in
theorem ci_X8_init (G : GG) (l : Launch) (a sz : Nat) : CtI G l yX8_init cX8_init 1 1 6 304 12 a sz [] [.inl (8, [.null, .null, .null, .null, .null, .null, .int 0, .int 0, .int 0, .int 0])] [.inl (8, [.ref (adr a sz 1), .ref (adr a sz 2), .ref (adr a sz 3), .ref (adr a sz 4), .ref (adr a sz 5), .ref (adr a sz 6), .int 0, .int (-1), .int 0, .int 1]), .inr (0, 120, fun _ => .int 0), .inr (0, 120, fun _ => .int 0), .inr (0, 16, fun _ => .int 0), .inr (0, 16, fun _ => .int 0), .inr (0, 16, fun _ => .int 0), .inr (0, 16, fun _ => .int 0)] := by
  refine cti_of (by decide) rfl (Nat.le_of_ble_eq_true rfl) rfl (fun E C HR _ => ?_)
  refine i_aload_n C 0 dX8_init_0 rfl rfl ?_
  refine i_obj C HR gw242 gw102 gw103 (by decide) (by decide) dX8_init_1 ?_
  refine i_aload_n C 0 dX8_init_4 rfl rfl ?_
  refine i_bipush C (v := 120) dX8_init_5 (by decide) ?_
  refine i_newa C HR (t := 0) (ty := .int) rfl rfl (fun _ _ h => h) rfl gw136 (N := 120) (by decide) (by decide) (by decide) (by decide) (by decide) dX8_init_7 ?_
  refine i_ws (ws' := [.inl (8, [.null, .null, .null, .null, .null, .null, .int 0, .int 0, .int 0, .int 0]), .inr (0, 120, fun _ => .int 0)]) rfl ?_
  refine i_putF C (T := TX8) (s0 := 0) rfl rfl in_X8 (by decide) tyX8 tyX8_ok nmX8 rfl rfl gw243 rfl rfl rfl dX8_init_9 ?_
  refine i_ws (ws' := [.inl (8, [.ref (adr a sz 1), .null, .null, .null, .null, .null, .int 0, .int 0, .int 0, .int 0]), .inr (0, 120, fun _ => .int 0)]) rfl ?_
  refine i_aload_n C 0 dX8_init_12 rfl rfl ?_
  refine i_bipush C (v := 120) dX8_init_13 (by decide) ?_
  refine i_newa C HR (t := 0) (ty := .int) rfl rfl (fun _ _ h => h) rfl gw136 (N := 120) (by decide) (by decide) (by decide) (by decide) (by decide) dX8_init_15 ?_
  refine i_ws (ws' := [.inl (8, [.ref (adr a sz 1), .null, .null, .null, .null, .null, .int 0, .int 0, .int 0, .int 0]), .inr (0, 120, fun _ => .int 0), .inr (0, 120, fun _ => .int 0)]) rfl ?_
  refine i_putF C (T := TX8) (s0 := 1) rfl rfl in_X8 (by decide) tyX8 tyX8_ok nmX8 rfl rfl gw244 rfl rfl rfl dX8_init_17 ?_
  refine i_ws (ws' := [.inl (8, [.ref (adr a sz 1), .ref (adr a sz 2), .null, .null, .null, .null, .int 0, .int 0, .int 0, .int 0]), .inr (0, 120, fun _ => .int 0), .inr (0, 120, fun _ => .int 0)]) rfl ?_
  refine i_aload_n C 0 dX8_init_20 rfl rfl ?_
  refine i_bipush C (v := 16) dX8_init_21 (by decide) ?_
  refine i_newa C HR (t := 0) (ty := .int) rfl rfl (fun _ _ h => h) rfl gw136 (N := 16) (by decide) (by decide) (by decide) (by decide) (by decide) dX8_init_23 ?_
  refine i_ws (ws' := [.inl (8, [.ref (adr a sz 1), .ref (adr a sz 2), .null, .null, .null, .null, .int 0, .int 0, .int 0, .int 0]), .inr (0, 120, fun _ => .int 0), .inr (0, 120, fun _ => .int 0), .inr (0, 16, fun _ => .int 0)]) rfl ?_
  refine i_putF C (T := TX8) (s0 := 2) rfl rfl in_X8 (by decide) tyX8 tyX8_ok nmX8 rfl rfl gw246 rfl rfl rfl dX8_init_25 ?_
  refine i_ws (ws' := [.inl (8, [.ref (adr a sz 1), .ref (adr a sz 2), .ref (adr a sz 3), .null, .null, .null, .int 0, .int 0, .int 0, .int 0]), .inr (0, 120, fun _ => .int 0), .inr (0, 120, fun _ => .int 0), .inr (0, 16, fun _ => .int 0)]) rfl ?_
  refine i_aload_n C 0 dX8_init_28 rfl rfl ?_
  refine i_bipush C (v := 16) dX8_init_29 (by decide) ?_
  refine i_newa C HR (t := 0) (ty := .int) rfl rfl (fun _ _ h => h) rfl gw136 (N := 16) (by decide) (by decide) (by decide) (by decide) (by decide) dX8_init_31 ?_
  refine i_ws (ws' := [.inl (8, [.ref (adr a sz 1), .ref (adr a sz 2), .ref (adr a sz 3), .null, .null, .null, .int 0, .int 0, .int 0, .int 0]), .inr (0, 120, fun _ => .int 0), .inr (0, 120, fun _ => .int 0), .inr (0, 16, fun _ => .int 0), .inr (0, 16, fun _ => .int 0)]) rfl ?_
  refine i_putF C (T := TX8) (s0 := 3) rfl rfl in_X8 (by decide) tyX8 tyX8_ok nmX8 rfl rfl gw248 rfl rfl rfl dX8_init_33 ?_
  refine i_ws (ws' := [.inl (8, [.ref (adr a sz 1), .ref (adr a sz 2), .ref (adr a sz 3), .ref (adr a sz 4), .null, .null, .int 0, .int 0, .int 0, .int 0]), .inr (0, 120, fun _ => .int 0), .inr (0, 120, fun _ => .int 0), .inr (0, 16, fun _ => .int 0), .inr (0, 16, fun _ => .int 0)]) rfl ?_
  refine i_aload_n C 0 dX8_init_36 rfl rfl ?_
  refine i_bipush C (v := 16) dX8_init_37 (by decide) ?_
  refine i_newa C HR (t := 0) (ty := .int) rfl rfl (fun _ _ h => h) rfl gw136 (N := 16) (by decide) (by decide) (by decide) (by decide) (by decide) dX8_init_39 ?_
  refine i_ws (ws' := [.inl (8, [.ref (adr a sz 1), .ref (adr a sz 2), .ref (adr a sz 3), .ref (adr a sz 4), .null, .null, .int 0, .int 0, .int 0, .int 0]), .inr (0, 120, fun _ => .int 0), .inr (0, 120, fun _ => .int 0), .inr (0, 16, fun _ => .int 0), .inr (0, 16, fun _ => .int 0), .inr (0, 16, fun _ => .int 0)]) rfl ?_
  refine i_putF C (T := TX8) (s0 := 4) rfl rfl in_X8 (by decide) tyX8 tyX8_ok nmX8 rfl rfl gw251 rfl rfl rfl dX8_init_41 ?_
  refine i_ws (ws' := [.inl (8, [.ref (adr a sz 1), .ref (adr a sz 2), .ref (adr a sz 3), .ref (adr a sz 4), .ref (adr a sz 5), .null, .int 0, .int 0, .int 0, .int 0]), .inr (0, 120, fun _ => .int 0), .inr (0, 120, fun _ => .int 0), .inr (0, 16, fun _ => .int 0), .inr (0, 16, fun _ => .int 0), .inr (0, 16, fun _ => .int 0)]) rfl ?_
  refine i_aload_n C 0 dX8_init_44 rfl rfl ?_
  refine i_bipush C (v := 16) dX8_init_45 (by decide) ?_
  refine i_newa C HR (t := 0) (ty := .int) rfl rfl (fun _ _ h => h) rfl gw136 (N := 16) (by decide) (by decide) (by decide) (by decide) (by decide) dX8_init_47 ?_
  refine i_ws (ws' := [.inl (8, [.ref (adr a sz 1), .ref (adr a sz 2), .ref (adr a sz 3), .ref (adr a sz 4), .ref (adr a sz 5), .null, .int 0, .int 0, .int 0, .int 0]), .inr (0, 120, fun _ => .int 0), .inr (0, 120, fun _ => .int 0), .inr (0, 16, fun _ => .int 0), .inr (0, 16, fun _ => .int 0), .inr (0, 16, fun _ => .int 0), .inr (0, 16, fun _ => .int 0)]) rfl ?_
  refine i_putF C (T := TX8) (s0 := 5) rfl rfl in_X8 (by decide) tyX8 tyX8_ok nmX8 rfl rfl gw252 rfl rfl rfl dX8_init_49 ?_
  refine i_ws (ws' := [.inl (8, [.ref (adr a sz 1), .ref (adr a sz 2), .ref (adr a sz 3), .ref (adr a sz 4), .ref (adr a sz 5), .ref (adr a sz 6), .int 0, .int 0, .int 0, .int 0]), .inr (0, 120, fun _ => .int 0), .inr (0, 120, fun _ => .int 0), .inr (0, 16, fun _ => .int 0), .inr (0, 16, fun _ => .int 0), .inr (0, 16, fun _ => .int 0), .inr (0, 16, fun _ => .int 0)]) rfl ?_
  refine i_aload_n C 0 dX8_init_52 rfl rfl ?_
  refine i_iconst C (v := 0) dX8_init_53 (by decide) ?_
  refine i_put C (T := TX8) (s0 := 6) rfl rfl in_X8 (by decide) tyX8 tyX8_ok nmX8 rfl gw253 rfl rfl rfl dX8_init_54 ?_
  refine i_ws (ws' := [.inl (8, [.ref (adr a sz 1), .ref (adr a sz 2), .ref (adr a sz 3), .ref (adr a sz 4), .ref (adr a sz 5), .ref (adr a sz 6), .int 0, .int 0, .int 0, .int 0]), .inr (0, 120, fun _ => .int 0), .inr (0, 120, fun _ => .int 0), .inr (0, 16, fun _ => .int 0), .inr (0, 16, fun _ => .int 0), .inr (0, 16, fun _ => .int 0), .inr (0, 16, fun _ => .int 0)]) rfl ?_
  refine i_aload_n C 0 dX8_init_57 rfl rfl ?_
  refine i_iconst C (v := (-1)) dX8_init_58 (by decide) ?_
  refine i_put C (T := TX8) (s0 := 7) rfl rfl in_X8 (by decide) tyX8 tyX8_ok nmX8 rfl gw255 rfl rfl rfl dX8_init_59 ?_
  refine i_ws (ws' := [.inl (8, [.ref (adr a sz 1), .ref (adr a sz 2), .ref (adr a sz 3), .ref (adr a sz 4), .ref (adr a sz 5), .ref (adr a sz 6), .int 0, .int (-1), .int 0, .int 0]), .inr (0, 120, fun _ => .int 0), .inr (0, 120, fun _ => .int 0), .inr (0, 16, fun _ => .int 0), .inr (0, 16, fun _ => .int 0), .inr (0, 16, fun _ => .int 0), .inr (0, 16, fun _ => .int 0)]) rfl ?_
  refine i_aload_n C 0 dX8_init_62 rfl rfl ?_
  refine i_iconst C (v := 0) dX8_init_63 (by decide) ?_
  refine i_put C (T := TX8) (s0 := 8) rfl rfl in_X8 (by decide) tyX8 tyX8_ok nmX8 rfl gw257 rfl rfl rfl dX8_init_64 ?_
  refine i_ws (ws' := [.inl (8, [.ref (adr a sz 1), .ref (adr a sz 2), .ref (adr a sz 3), .ref (adr a sz 4), .ref (adr a sz 5), .ref (adr a sz 6), .int 0, .int (-1), .int 0, .int 0]), .inr (0, 120, fun _ => .int 0), .inr (0, 120, fun _ => .int 0), .inr (0, 16, fun _ => .int 0), .inr (0, 16, fun _ => .int 0), .inr (0, 16, fun _ => .int 0), .inr (0, 16, fun _ => .int 0)]) rfl ?_
  refine i_aload_n C 0 dX8_init_67 rfl rfl ?_
  refine i_iconst C (v := 1) dX8_init_68 (by decide) ?_
  refine i_put C (T := TX8) (s0 := 9) rfl rfl in_X8 (by decide) tyX8 tyX8_ok nmX8 rfl gw259 rfl rfl rfl dX8_init_69 ?_
  refine i_ws (ws' := [.inl (8, [.ref (adr a sz 1), .ref (adr a sz 2), .ref (adr a sz 3), .ref (adr a sz 4), .ref (adr a sz 5), .ref (adr a sz 6), .int 0, .int (-1), .int 0, .int 1]), .inr (0, 120, fun _ => .int 0), .inr (0, 120, fun _ => .int 0), .inr (0, 16, fun _ => .int 0), .inr (0, 16, fun _ => .int 0), .inr (0, 16, fun _ => .int 0), .inr (0, 16, fun _ => .int 0)]) rfl ?_
  exact i_ret C rfl dX8_init_72
set_option maxRecDepth 100000 in
set_option maxHeartbeats 4000000 in
theorem ci_X4_init (G : GG) (l : Launch) (a sz : Nat) (v0 : Nat) : CtI G l yX4_init cX4_init 2 1 1 4 12 a sz [.ref v0] [.inl (4, [.null, .null, .null, .int 0])] [.inl (4, [.ref (adr a sz 1), .ref v0, .ref v0, .int 0]), .inr (0, 4, fun _ => .int 0)] := by
  refine cti_of (by decide) rfl (Nat.le_of_ble_eq_true rfl) rfl (fun E C HR _ => ?_)
  refine i_aload_n C 0 dX4_init_0 rfl rfl ?_
  refine i_obj C HR gw286 gw102 gw103 (by decide) (by decide) dX4_init_1 ?_
  refine i_aload_n C 0 dX4_init_4 rfl rfl ?_
  refine i_iconst C (v := 4) dX4_init_5 (by decide) ?_
  refine i_newa C HR (t := 0) (ty := .int) rfl rfl (fun _ _ h => h) rfl gw136 (N := 4) (by decide) (by decide) (by decide) (by decide) (by decide) dX4_init_6 ?_
  refine i_ws (ws' := [.inl (4, [.null, .null, .null, .int 0]), .inr (0, 4, fun _ => .int 0)]) rfl ?_
  refine i_putF C (T := TX4) (s0 := 0) rfl rfl in_X4 (by decide) tyX4 tyX4_ok nmX4 rfl rfl gw287 rfl rfl rfl dX4_init_8 ?_
  refine i_ws (ws' := [.inl (4, [.ref (adr a sz 1), .null, .null, .int 0]), .inr (0, 4, fun _ => .int 0)]) rfl ?_
  refine i_aload_n C 0 dX4_init_11 rfl rfl ?_
  refine i_iconst C (v := 0) dX4_init_12 (by decide) ?_
  refine i_put C (T := TX4) (s0 := 3) rfl rfl in_X4 (by decide) tyX4 tyX4_ok nmX4 rfl gw291 rfl rfl rfl dX4_init_13 ?_
  refine i_ws (ws' := [.inl (4, [.ref (adr a sz 1), .null, .null, .int 0]), .inr (0, 4, fun _ => .int 0)]) rfl ?_
  refine i_aload_n C 0 dX4_init_16 rfl rfl ?_
  refine i_aload_n C 1 dX4_init_17 rfl rfl ?_
  refine i_put C (T := TX4) (s0 := 1) rfl rfl in_X4 (by decide) tyX4 tyX4_ok nmX4 rfl gw288 rfl rfl rfl dX4_init_18 ?_
  refine i_ws (ws' := [.inl (4, [.ref (adr a sz 1), .ref v0, .null, .int 0]), .inr (0, 4, fun _ => .int 0)]) rfl ?_
  refine i_aload_n C 0 dX4_init_21 rfl rfl ?_
  refine i_aload_n C 1 dX4_init_22 rfl rfl ?_
  refine i_put C (T := TX4) (s0 := 2) rfl rfl in_X4 (by decide) tyX4 tyX4_ok nmX4 rfl gw290 rfl rfl rfl dX4_init_23 ?_
  refine i_ws (ws' := [.inl (4, [.ref (adr a sz 1), .ref v0, .ref v0, .int 0]), .inr (0, 4, fun _ => .int 0)]) rfl ?_
  exact i_ret C rfl dX4_init_26
set_option maxRecDepth 100000 in
set_option maxHeartbeats 4000000 in
theorem ci_X2_init (G : GG) (l : Launch) (a sz : Nat) : CtI G l yX2_init cX2_init 1 1 21 2100 12 a sz [] [.inl (2, [.null, .null, .null, .null, .null, .null, .null, .null, .int 0, .int 0, .int 0, .int 0])] [.inl (2, [.ref (adr a sz 1), .ref (adr a sz 2), .ref (adr a sz 3), .ref (adr a sz 4), .ref (adr a sz 18), .ref (adr a sz 19), .ref (adr a sz 20), .ref (adr a sz 21), .int 0, .int 0, .int 0, .int 0]), .inr (0, 12, fun _ => .int 0), .inr (0, 3, fun _ => .int 0), .inr (0, 13, fun _ => .int 0), .inr (6, 13, fun j => if j < 13 then .ref (adr a sz 4 + 1 + j) else .null), .inr (0, 78, fun _ => .int 0), .inr (0, 78, fun _ => .int 0), .inr (0, 78, fun _ => .int 0), .inr (0, 78, fun _ => .int 0), .inr (0, 78, fun _ => .int 0), .inr (0, 78, fun _ => .int 0), .inr (0, 78, fun _ => .int 0), .inr (0, 78, fun _ => .int 0), .inr (0, 78, fun _ => .int 0), .inr (0, 78, fun _ => .int 0), .inr (0, 78, fun _ => .int 0), .inr (0, 78, fun _ => .int 0), .inr (0, 78, fun _ => .int 0), .inr (0, 13, fun _ => .int 0), .inr (0, 8, fun _ => .int 0), .inr (1, 512, fun _ => .int 0), .inr (1, 512, fun _ => .int 0)] := by
  refine cti_of (by decide) rfl (Nat.le_of_ble_eq_true rfl) rfl (fun E C HR _ => ?_)
  refine i_aload_n C 0 dX2_init_0 rfl rfl ?_
  refine i_obj C HR gw152 gw102 gw103 (by decide) (by decide) dX2_init_1 ?_
  refine i_aload_n C 0 dX2_init_4 rfl rfl ?_
  refine i_bipush C (v := 12) dX2_init_5 (by decide) ?_
  refine i_newa C HR (t := 0) (ty := .int) rfl rfl (fun _ _ h => h) rfl gw136 (N := 12) (by decide) (by decide) (by decide) (by decide) (by decide) dX2_init_7 ?_
  refine i_ws (ws' := [.inl (2, [.null, .null, .null, .null, .null, .null, .null, .null, .int 0, .int 0, .int 0, .int 0]), .inr (0, 12, fun _ => .int 0)]) rfl ?_
  refine i_putF C (T := TX2) (s0 := 0) rfl rfl in_X2 (by decide) tyX2 tyX2_ok nmX2 rfl rfl gw155 rfl rfl rfl dX2_init_9 ?_
  refine i_ws (ws' := [.inl (2, [.ref (adr a sz 1), .null, .null, .null, .null, .null, .null, .null, .int 0, .int 0, .int 0, .int 0]), .inr (0, 12, fun _ => .int 0)]) rfl ?_
  refine i_aload_n C 0 dX2_init_12 rfl rfl ?_
  refine i_iconst C (v := 3) dX2_init_13 (by decide) ?_
  refine i_newa C HR (t := 0) (ty := .int) rfl rfl (fun _ _ h => h) rfl gw136 (N := 3) (by decide) (by decide) (by decide) (by decide) (by decide) dX2_init_14 ?_
  refine i_ws (ws' := [.inl (2, [.ref (adr a sz 1), .null, .null, .null, .null, .null, .null, .null, .int 0, .int 0, .int 0, .int 0]), .inr (0, 12, fun _ => .int 0), .inr (0, 3, fun _ => .int 0)]) rfl ?_
  refine i_putF C (T := TX2) (s0 := 1) rfl rfl in_X2 (by decide) tyX2 tyX2_ok nmX2 rfl rfl gw156 rfl rfl rfl dX2_init_16 ?_
  refine i_ws (ws' := [.inl (2, [.ref (adr a sz 1), .ref (adr a sz 2), .null, .null, .null, .null, .null, .null, .int 0, .int 0, .int 0, .int 0]), .inr (0, 12, fun _ => .int 0), .inr (0, 3, fun _ => .int 0)]) rfl ?_
  refine i_aload_n C 0 dX2_init_19 rfl rfl ?_
  refine i_bipush C (v := 13) dX2_init_20 (by decide) ?_
  refine i_newa C HR (t := 0) (ty := .int) rfl rfl (fun _ _ h => h) rfl gw136 (N := 13) (by decide) (by decide) (by decide) (by decide) (by decide) dX2_init_22 ?_
  refine i_ws (ws' := [.inl (2, [.ref (adr a sz 1), .ref (adr a sz 2), .null, .null, .null, .null, .null, .null, .int 0, .int 0, .int 0, .int 0]), .inr (0, 12, fun _ => .int 0), .inr (0, 3, fun _ => .int 0), .inr (0, 13, fun _ => .int 0)]) rfl ?_
  refine i_putF C (T := TX2) (s0 := 2) rfl rfl in_X2 (by decide) tyX2 tyX2_ok nmX2 rfl rfl gw157 rfl rfl rfl dX2_init_24 ?_
  refine i_ws (ws' := [.inl (2, [.ref (adr a sz 1), .ref (adr a sz 2), .ref (adr a sz 3), .null, .null, .null, .null, .null, .int 0, .int 0, .int 0, .int 0]), .inr (0, 12, fun _ => .int 0), .inr (0, 3, fun _ => .int 0), .inr (0, 13, fun _ => .int 0)]) rfl ?_
  refine i_aload_n C 0 dX2_init_27 rfl rfl ?_
  refine i_bipush C (v := 13) dX2_init_28 (by decide) ?_
  refine i_bipush C (v := 78) dX2_init_30 (by decide) ?_
  refine i_mna C HR ((show "[" ++ (FieldType.array .int).toString = "[[I" from by decide) ▸ gw153) gw136 (N := 13) (K := 78) (by decide) (by decide) (by decide) (by decide) (by decide) (by decide) (by decide) (by decide) dX2_init_32 ?_
  refine i_ws (ws' := [.inl (2, [.ref (adr a sz 1), .ref (adr a sz 2), .ref (adr a sz 3), .null, .null, .null, .null, .null, .int 0, .int 0, .int 0, .int 0]), .inr (0, 12, fun _ => .int 0), .inr (0, 3, fun _ => .int 0), .inr (0, 13, fun _ => .int 0), .inr (6, 13, fun j => if j < 13 then .ref (adr a sz 4 + 1 + j) else .null), .inr (0, 78, fun _ => .int 0), .inr (0, 78, fun _ => .int 0), .inr (0, 78, fun _ => .int 0), .inr (0, 78, fun _ => .int 0), .inr (0, 78, fun _ => .int 0), .inr (0, 78, fun _ => .int 0), .inr (0, 78, fun _ => .int 0), .inr (0, 78, fun _ => .int 0), .inr (0, 78, fun _ => .int 0), .inr (0, 78, fun _ => .int 0), .inr (0, 78, fun _ => .int 0), .inr (0, 78, fun _ => .int 0), .inr (0, 78, fun _ => .int 0)]) rfl ?_
  refine i_putF C (T := TX2) (s0 := 3) rfl rfl in_X2 (by decide) tyX2 tyX2_ok nmX2 rfl rfl gw158 rfl rfl rfl dX2_init_36 ?_
  refine i_ws (ws' := [.inl (2, [.ref (adr a sz 1), .ref (adr a sz 2), .ref (adr a sz 3), .ref (adr a sz 4), .null, .null, .null, .null, .int 0, .int 0, .int 0, .int 0]), .inr (0, 12, fun _ => .int 0), .inr (0, 3, fun _ => .int 0), .inr (0, 13, fun _ => .int 0), .inr (6, 13, fun j => if j < 13 then .ref (adr a sz 4 + 1 + j) else .null), .inr (0, 78, fun _ => .int 0), .inr (0, 78, fun _ => .int 0), .inr (0, 78, fun _ => .int 0), .inr (0, 78, fun _ => .int 0), .inr (0, 78, fun _ => .int 0), .inr (0, 78, fun _ => .int 0), .inr (0, 78, fun _ => .int 0), .inr (0, 78, fun _ => .int 0), .inr (0, 78, fun _ => .int 0), .inr (0, 78, fun _ => .int 0), .inr (0, 78, fun _ => .int 0), .inr (0, 78, fun _ => .int 0), .inr (0, 78, fun _ => .int 0)]) rfl ?_
  refine i_aload_n C 0 dX2_init_39 rfl rfl ?_
  refine i_bipush C (v := 13) dX2_init_40 (by decide) ?_
  refine i_newa C HR (t := 0) (ty := .int) rfl rfl (fun _ _ h => h) rfl gw136 (N := 13) (by decide) (by decide) (by decide) (by decide) (by decide) dX2_init_42 ?_
  refine i_ws (ws' := [.inl (2, [.ref (adr a sz 1), .ref (adr a sz 2), .ref (adr a sz 3), .ref (adr a sz 4), .null, .null, .null, .null, .int 0, .int 0, .int 0, .int 0]), .inr (0, 12, fun _ => .int 0), .inr (0, 3, fun _ => .int 0), .inr (0, 13, fun _ => .int 0), .inr (6, 13, fun j => if j < 13 then .ref (adr a sz 4 + 1 + j) else .null), .inr (0, 78, fun _ => .int 0), .inr (0, 78, fun _ => .int 0), .inr (0, 78, fun _ => .int 0), .inr (0, 78, fun _ => .int 0), .inr (0, 78, fun _ => .int 0), .inr (0, 78, fun _ => .int 0), .inr (0, 78, fun _ => .int 0), .inr (0, 78, fun _ => .int 0), .inr (0, 78, fun _ => .int 0), .inr (0, 78, fun _ => .int 0), .inr (0, 78, fun _ => .int 0), .inr (0, 78, fun _ => .int 0), .inr (0, 78, fun _ => .int 0), .inr (0, 13, fun _ => .int 0)]) rfl ?_
  refine i_putF C (T := TX2) (s0 := 4) rfl rfl in_X2 (by decide) tyX2 tyX2_ok nmX2 rfl rfl gw159 rfl rfl rfl dX2_init_44 ?_
  refine i_ws (ws' := [.inl (2, [.ref (adr a sz 1), .ref (adr a sz 2), .ref (adr a sz 3), .ref (adr a sz 4), .ref (adr a sz 18), .null, .null, .null, .int 0, .int 0, .int 0, .int 0]), .inr (0, 12, fun _ => .int 0), .inr (0, 3, fun _ => .int 0), .inr (0, 13, fun _ => .int 0), .inr (6, 13, fun j => if j < 13 then .ref (adr a sz 4 + 1 + j) else .null), .inr (0, 78, fun _ => .int 0), .inr (0, 78, fun _ => .int 0), .inr (0, 78, fun _ => .int 0), .inr (0, 78, fun _ => .int 0), .inr (0, 78, fun _ => .int 0), .inr (0, 78, fun _ => .int 0), .inr (0, 78, fun _ => .int 0), .inr (0, 78, fun _ => .int 0), .inr (0, 78, fun _ => .int 0), .inr (0, 78, fun _ => .int 0), .inr (0, 78, fun _ => .int 0), .inr (0, 78, fun _ => .int 0), .inr (0, 78, fun _ => .int 0), .inr (0, 13, fun _ => .int 0)]) rfl ?_
  refine i_aload_n C 0 dX2_init_47 rfl rfl ?_
  refine i_bipush C (v := 8) dX2_init_48 (by decide) ?_
  refine i_newa C HR (t := 0) (ty := .int) rfl rfl (fun _ _ h => h) rfl gw136 (N := 8) (by decide) (by decide) (by decide) (by decide) (by decide) dX2_init_50 ?_
  refine i_ws (ws' := [.inl (2, [.ref (adr a sz 1), .ref (adr a sz 2), .ref (adr a sz 3), .ref (adr a sz 4), .ref (adr a sz 18), .null, .null, .null, .int 0, .int 0, .int 0, .int 0]), .inr (0, 12, fun _ => .int 0), .inr (0, 3, fun _ => .int 0), .inr (0, 13, fun _ => .int 0), .inr (6, 13, fun j => if j < 13 then .ref (adr a sz 4 + 1 + j) else .null), .inr (0, 78, fun _ => .int 0), .inr (0, 78, fun _ => .int 0), .inr (0, 78, fun _ => .int 0), .inr (0, 78, fun _ => .int 0), .inr (0, 78, fun _ => .int 0), .inr (0, 78, fun _ => .int 0), .inr (0, 78, fun _ => .int 0), .inr (0, 78, fun _ => .int 0), .inr (0, 78, fun _ => .int 0), .inr (0, 78, fun _ => .int 0), .inr (0, 78, fun _ => .int 0), .inr (0, 78, fun _ => .int 0), .inr (0, 78, fun _ => .int 0), .inr (0, 13, fun _ => .int 0), .inr (0, 8, fun _ => .int 0)]) rfl ?_
  refine i_putF C (T := TX2) (s0 := 5) rfl rfl in_X2 (by decide) tyX2 tyX2_ok nmX2 rfl rfl gw160 rfl rfl rfl dX2_init_52 ?_
  refine i_ws (ws' := [.inl (2, [.ref (adr a sz 1), .ref (adr a sz 2), .ref (adr a sz 3), .ref (adr a sz 4), .ref (adr a sz 18), .ref (adr a sz 19), .null, .null, .int 0, .int 0, .int 0, .int 0]), .inr (0, 12, fun _ => .int 0), .inr (0, 3, fun _ => .int 0), .inr (0, 13, fun _ => .int 0), .inr (6, 13, fun j => if j < 13 then .ref (adr a sz 4 + 1 + j) else .null), .inr (0, 78, fun _ => .int 0), .inr (0, 78, fun _ => .int 0), .inr (0, 78, fun _ => .int 0), .inr (0, 78, fun _ => .int 0), .inr (0, 78, fun _ => .int 0), .inr (0, 78, fun _ => .int 0), .inr (0, 78, fun _ => .int 0), .inr (0, 78, fun _ => .int 0), .inr (0, 78, fun _ => .int 0), .inr (0, 78, fun _ => .int 0), .inr (0, 78, fun _ => .int 0), .inr (0, 78, fun _ => .int 0), .inr (0, 78, fun _ => .int 0), .inr (0, 13, fun _ => .int 0), .inr (0, 8, fun _ => .int 0)]) rfl ?_
  refine i_aload_n C 0 dX2_init_55 rfl rfl ?_
  refine i_sipush C (v := 512) dX2_init_56 (by decide) ?_
  refine i_newa C HR (t := 1) (ty := .byte) rfl rfl (fun _ _ h => h) rfl gw192 (N := 512) (by decide) (by decide) (by decide) (by decide) (by decide) dX2_init_59 ?_
  refine i_ws (ws' := [.inl (2, [.ref (adr a sz 1), .ref (adr a sz 2), .ref (adr a sz 3), .ref (adr a sz 4), .ref (adr a sz 18), .ref (adr a sz 19), .null, .null, .int 0, .int 0, .int 0, .int 0]), .inr (0, 12, fun _ => .int 0), .inr (0, 3, fun _ => .int 0), .inr (0, 13, fun _ => .int 0), .inr (6, 13, fun j => if j < 13 then .ref (adr a sz 4 + 1 + j) else .null), .inr (0, 78, fun _ => .int 0), .inr (0, 78, fun _ => .int 0), .inr (0, 78, fun _ => .int 0), .inr (0, 78, fun _ => .int 0), .inr (0, 78, fun _ => .int 0), .inr (0, 78, fun _ => .int 0), .inr (0, 78, fun _ => .int 0), .inr (0, 78, fun _ => .int 0), .inr (0, 78, fun _ => .int 0), .inr (0, 78, fun _ => .int 0), .inr (0, 78, fun _ => .int 0), .inr (0, 78, fun _ => .int 0), .inr (0, 78, fun _ => .int 0), .inr (0, 13, fun _ => .int 0), .inr (0, 8, fun _ => .int 0), .inr (1, 512, fun _ => .int 0)]) rfl ?_
  refine i_putF C (T := TX2) (s0 := 6) rfl rfl in_X2 (by decide) tyX2 tyX2_ok nmX2 rfl rfl gw161 rfl rfl rfl dX2_init_61 ?_
  refine i_ws (ws' := [.inl (2, [.ref (adr a sz 1), .ref (adr a sz 2), .ref (adr a sz 3), .ref (adr a sz 4), .ref (adr a sz 18), .ref (adr a sz 19), .ref (adr a sz 20), .null, .int 0, .int 0, .int 0, .int 0]), .inr (0, 12, fun _ => .int 0), .inr (0, 3, fun _ => .int 0), .inr (0, 13, fun _ => .int 0), .inr (6, 13, fun j => if j < 13 then .ref (adr a sz 4 + 1 + j) else .null), .inr (0, 78, fun _ => .int 0), .inr (0, 78, fun _ => .int 0), .inr (0, 78, fun _ => .int 0), .inr (0, 78, fun _ => .int 0), .inr (0, 78, fun _ => .int 0), .inr (0, 78, fun _ => .int 0), .inr (0, 78, fun _ => .int 0), .inr (0, 78, fun _ => .int 0), .inr (0, 78, fun _ => .int 0), .inr (0, 78, fun _ => .int 0), .inr (0, 78, fun _ => .int 0), .inr (0, 78, fun _ => .int 0), .inr (0, 78, fun _ => .int 0), .inr (0, 13, fun _ => .int 0), .inr (0, 8, fun _ => .int 0), .inr (1, 512, fun _ => .int 0)]) rfl ?_
  refine i_aload_n C 0 dX2_init_64 rfl rfl ?_
  refine i_sipush C (v := 512) dX2_init_65 (by decide) ?_
  refine i_newa C HR (t := 1) (ty := .byte) rfl rfl (fun _ _ h => h) rfl gw192 (N := 512) (by decide) (by decide) (by decide) (by decide) (by decide) dX2_init_68 ?_
  refine i_ws (ws' := [.inl (2, [.ref (adr a sz 1), .ref (adr a sz 2), .ref (adr a sz 3), .ref (adr a sz 4), .ref (adr a sz 18), .ref (adr a sz 19), .ref (adr a sz 20), .null, .int 0, .int 0, .int 0, .int 0]), .inr (0, 12, fun _ => .int 0), .inr (0, 3, fun _ => .int 0), .inr (0, 13, fun _ => .int 0), .inr (6, 13, fun j => if j < 13 then .ref (adr a sz 4 + 1 + j) else .null), .inr (0, 78, fun _ => .int 0), .inr (0, 78, fun _ => .int 0), .inr (0, 78, fun _ => .int 0), .inr (0, 78, fun _ => .int 0), .inr (0, 78, fun _ => .int 0), .inr (0, 78, fun _ => .int 0), .inr (0, 78, fun _ => .int 0), .inr (0, 78, fun _ => .int 0), .inr (0, 78, fun _ => .int 0), .inr (0, 78, fun _ => .int 0), .inr (0, 78, fun _ => .int 0), .inr (0, 78, fun _ => .int 0), .inr (0, 78, fun _ => .int 0), .inr (0, 13, fun _ => .int 0), .inr (0, 8, fun _ => .int 0), .inr (1, 512, fun _ => .int 0), .inr (1, 512, fun _ => .int 0)]) rfl ?_
  refine i_putF C (T := TX2) (s0 := 7) rfl rfl in_X2 (by decide) tyX2 tyX2_ok nmX2 rfl rfl gw162 rfl rfl rfl dX2_init_70 ?_
  refine i_ws (ws' := [.inl (2, [.ref (adr a sz 1), .ref (adr a sz 2), .ref (adr a sz 3), .ref (adr a sz 4), .ref (adr a sz 18), .ref (adr a sz 19), .ref (adr a sz 20), .ref (adr a sz 21), .int 0, .int 0, .int 0, .int 0]), .inr (0, 12, fun _ => .int 0), .inr (0, 3, fun _ => .int 0), .inr (0, 13, fun _ => .int 0), .inr (6, 13, fun j => if j < 13 then .ref (adr a sz 4 + 1 + j) else .null), .inr (0, 78, fun _ => .int 0), .inr (0, 78, fun _ => .int 0), .inr (0, 78, fun _ => .int 0), .inr (0, 78, fun _ => .int 0), .inr (0, 78, fun _ => .int 0), .inr (0, 78, fun _ => .int 0), .inr (0, 78, fun _ => .int 0), .inr (0, 78, fun _ => .int 0), .inr (0, 78, fun _ => .int 0), .inr (0, 78, fun _ => .int 0), .inr (0, 78, fun _ => .int 0), .inr (0, 78, fun _ => .int 0), .inr (0, 78, fun _ => .int 0), .inr (0, 13, fun _ => .int 0), .inr (0, 8, fun _ => .int 0), .inr (1, 512, fun _ => .int 0), .inr (1, 512, fun _ => .int 0)]) rfl ?_
  refine i_aload_n C 0 dX2_init_73 rfl rfl ?_
  refine i_iconst C (v := 0) dX2_init_74 (by decide) ?_
  refine i_put C (T := TX2) (s0 := 8) rfl rfl in_X2 (by decide) tyX2 tyX2_ok nmX2 rfl gw163 rfl rfl rfl dX2_init_75 ?_
  refine i_ws (ws' := [.inl (2, [.ref (adr a sz 1), .ref (adr a sz 2), .ref (adr a sz 3), .ref (adr a sz 4), .ref (adr a sz 18), .ref (adr a sz 19), .ref (adr a sz 20), .ref (adr a sz 21), .int 0, .int 0, .int 0, .int 0]), .inr (0, 12, fun _ => .int 0), .inr (0, 3, fun _ => .int 0), .inr (0, 13, fun _ => .int 0), .inr (6, 13, fun j => if j < 13 then .ref (adr a sz 4 + 1 + j) else .null), .inr (0, 78, fun _ => .int 0), .inr (0, 78, fun _ => .int 0), .inr (0, 78, fun _ => .int 0), .inr (0, 78, fun _ => .int 0), .inr (0, 78, fun _ => .int 0), .inr (0, 78, fun _ => .int 0), .inr (0, 78, fun _ => .int 0), .inr (0, 78, fun _ => .int 0), .inr (0, 78, fun _ => .int 0), .inr (0, 78, fun _ => .int 0), .inr (0, 78, fun _ => .int 0), .inr (0, 78, fun _ => .int 0), .inr (0, 78, fun _ => .int 0), .inr (0, 13, fun _ => .int 0), .inr (0, 8, fun _ => .int 0), .inr (1, 512, fun _ => .int 0), .inr (1, 512, fun _ => .int 0)]) rfl ?_
  refine i_aload_n C 0 dX2_init_78 rfl rfl ?_
  refine i_iconst C (v := 0) dX2_init_79 (by decide) ?_
  refine i_put C (T := TX2) (s0 := 9) rfl rfl in_X2 (by decide) tyX2 tyX2_ok nmX2 rfl gw164 rfl rfl rfl dX2_init_80 ?_
  refine i_ws (ws' := [.inl (2, [.ref (adr a sz 1), .ref (adr a sz 2), .ref (adr a sz 3), .ref (adr a sz 4), .ref (adr a sz 18), .ref (adr a sz 19), .ref (adr a sz 20), .ref (adr a sz 21), .int 0, .int 0, .int 0, .int 0]), .inr (0, 12, fun _ => .int 0), .inr (0, 3, fun _ => .int 0), .inr (0, 13, fun _ => .int 0), .inr (6, 13, fun j => if j < 13 then .ref (adr a sz 4 + 1 + j) else .null), .inr (0, 78, fun _ => .int 0), .inr (0, 78, fun _ => .int 0), .inr (0, 78, fun _ => .int 0), .inr (0, 78, fun _ => .int 0), .inr (0, 78, fun _ => .int 0), .inr (0, 78, fun _ => .int 0), .inr (0, 78, fun _ => .int 0), .inr (0, 78, fun _ => .int 0), .inr (0, 78, fun _ => .int 0), .inr (0, 78, fun _ => .int 0), .inr (0, 78, fun _ => .int 0), .inr (0, 78, fun _ => .int 0), .inr (0, 78, fun _ => .int 0), .inr (0, 13, fun _ => .int 0), .inr (0, 8, fun _ => .int 0), .inr (1, 512, fun _ => .int 0), .inr (1, 512, fun _ => .int 0)]) rfl ?_
  refine i_aload_n C 0 dX2_init_83 rfl rfl ?_
  refine i_iconst C (v := 0) dX2_init_84 (by decide) ?_
  refine i_put C (T := TX2) (s0 := 10) rfl rfl in_X2 (by decide) tyX2 tyX2_ok nmX2 rfl gw165 rfl rfl rfl dX2_init_85 ?_
  refine i_ws (ws' := [.inl (2, [.ref (adr a sz 1), .ref (adr a sz 2), .ref (adr a sz 3), .ref (adr a sz 4), .ref (adr a sz 18), .ref (adr a sz 19), .ref (adr a sz 20), .ref (adr a sz 21), .int 0, .int 0, .int 0, .int 0]), .inr (0, 12, fun _ => .int 0), .inr (0, 3, fun _ => .int 0), .inr (0, 13, fun _ => .int 0), .inr (6, 13, fun j => if j < 13 then .ref (adr a sz 4 + 1 + j) else .null), .inr (0, 78, fun _ => .int 0), .inr (0, 78, fun _ => .int 0), .inr (0, 78, fun _ => .int 0), .inr (0, 78, fun _ => .int 0), .inr (0, 78, fun _ => .int 0), .inr (0, 78, fun _ => .int 0), .inr (0, 78, fun _ => .int 0), .inr (0, 78, fun _ => .int 0), .inr (0, 78, fun _ => .int 0), .inr (0, 78, fun _ => .int 0), .inr (0, 78, fun _ => .int 0), .inr (0, 78, fun _ => .int 0), .inr (0, 78, fun _ => .int 0), .inr (0, 13, fun _ => .int 0), .inr (0, 8, fun _ => .int 0), .inr (1, 512, fun _ => .int 0), .inr (1, 512, fun _ => .int 0)]) rfl ?_
  refine i_aload_n C 0 dX2_init_88 rfl rfl ?_
  refine i_iconst C (v := 0) dX2_init_89 (by decide) ?_
  refine i_put C (T := TX2) (s0 := 11) rfl rfl in_X2 (by decide) tyX2 tyX2_ok nmX2 rfl gw166 rfl rfl rfl dX2_init_90 ?_
  refine i_ws (ws' := [.inl (2, [.ref (adr a sz 1), .ref (adr a sz 2), .ref (adr a sz 3), .ref (adr a sz 4), .ref (adr a sz 18), .ref (adr a sz 19), .ref (adr a sz 20), .ref (adr a sz 21), .int 0, .int 0, .int 0, .int 0]), .inr (0, 12, fun _ => .int 0), .inr (0, 3, fun _ => .int 0), .inr (0, 13, fun _ => .int 0), .inr (6, 13, fun j => if j < 13 then .ref (adr a sz 4 + 1 + j) else .null), .inr (0, 78, fun _ => .int 0), .inr (0, 78, fun _ => .int 0), .inr (0, 78, fun _ => .int 0), .inr (0, 78, fun _ => .int 0), .inr (0, 78, fun _ => .int 0), .inr (0, 78, fun _ => .int 0), .inr (0, 78, fun _ => .int 0), .inr (0, 78, fun _ => .int 0), .inr (0, 78, fun _ => .int 0), .inr (0, 78, fun _ => .int 0), .inr (0, 78, fun _ => .int 0), .inr (0, 78, fun _ => .int 0), .inr (0, 78, fun _ => .int 0), .inr (0, 13, fun _ => .int 0), .inr (0, 8, fun _ => .int 0), .inr (1, 512, fun _ => .int 0), .inr (1, 512, fun _ => .int 0)]) rfl ?_
  exact i_ret C rfl dX2_init_93
set_option maxRecDepth 100000 in
set_option maxHeartbeats 4000000 in
theorem ci_X0_init (G : GG) (l : Launch) (a sz : Nat) (v0 : Int32) : CtI G l yX0_init cX0_init 2 1 2 16 12 a sz [.int v0] [.inl (0, [.int 0, .null, .int 0, .int 0, .int 0, .int 0, .int 0, .int 0, .int 0, .null, .int 0, .int 0, .int 0])] [.inl (0, [.int v0, .ref (adr a sz 1), .int 0, .int 0, .int 0, .int 0, .int 10, .int 5, .int 1, .ref (adr a sz 2), .int 0, .int 0, .int (-1)]), .inr (0, 12, fun _ => .int 0), .inr (0, 4, fun _ => .int 0)] := by
  refine cti_of (by decide) rfl (Nat.le_of_ble_eq_true rfl) rfl (fun E C HR _ => ?_)
  refine i_aload_n C 0 dX0_init_0 rfl rfl ?_
  refine i_obj C HR gw660 gw102 gw103 (by decide) (by decide) dX0_init_1 ?_
  refine i_aload_n C 0 dX0_init_4 rfl rfl ?_
  refine i_bipush C (v := 12) dX0_init_5 (by decide) ?_
  refine i_newa C HR (t := 0) (ty := .int) rfl rfl (fun _ _ h => h) rfl gw136 (N := 12) (by decide) (by decide) (by decide) (by decide) (by decide) dX0_init_7 ?_
  refine i_ws (ws' := [.inl (0, [.int 0, .null, .int 0, .int 0, .int 0, .int 0, .int 0, .int 0, .int 0, .null, .int 0, .int 0, .int 0]), .inr (0, 12, fun _ => .int 0)]) rfl ?_
  refine i_putF C (T := TX0) (s0 := 1) rfl rfl in_X0 (by decide) tyX0 tyX0_ok nmX0 rfl rfl gw663 rfl rfl rfl dX0_init_9 ?_
  refine i_ws (ws' := [.inl (0, [.int 0, .ref (adr a sz 1), .int 0, .int 0, .int 0, .int 0, .int 0, .int 0, .int 0, .null, .int 0, .int 0, .int 0]), .inr (0, 12, fun _ => .int 0)]) rfl ?_
  refine i_aload_n C 0 dX0_init_12 rfl rfl ?_
  refine i_iconst C (v := 0) dX0_init_13 (by decide) ?_
  refine i_put C (T := TX0) (s0 := 2) rfl rfl in_X0 (by decide) tyX0 tyX0_ok nmX0 rfl gw666 rfl rfl rfl dX0_init_14 ?_
  refine i_ws (ws' := [.inl (0, [.int 0, .ref (adr a sz 1), .int 0, .int 0, .int 0, .int 0, .int 0, .int 0, .int 0, .null, .int 0, .int 0, .int 0]), .inr (0, 12, fun _ => .int 0)]) rfl ?_
  refine i_aload_n C 0 dX0_init_17 rfl rfl ?_
  refine i_iconst C (v := 0) dX0_init_18 (by decide) ?_
  refine i_put C (T := TX0) (s0 := 3) rfl rfl in_X0 (by decide) tyX0 tyX0_ok nmX0 rfl gw669 rfl rfl rfl dX0_init_19 ?_
  refine i_ws (ws' := [.inl (0, [.int 0, .ref (adr a sz 1), .int 0, .int 0, .int 0, .int 0, .int 0, .int 0, .int 0, .null, .int 0, .int 0, .int 0]), .inr (0, 12, fun _ => .int 0)]) rfl ?_
  refine i_aload_n C 0 dX0_init_22 rfl rfl ?_
  refine i_iconst C (v := 0) dX0_init_23 (by decide) ?_
  refine i_put C (T := TX0) (s0 := 4) rfl rfl in_X0 (by decide) tyX0 tyX0_ok nmX0 rfl gw670 rfl rfl rfl dX0_init_24 ?_
  refine i_ws (ws' := [.inl (0, [.int 0, .ref (adr a sz 1), .int 0, .int 0, .int 0, .int 0, .int 0, .int 0, .int 0, .null, .int 0, .int 0, .int 0]), .inr (0, 12, fun _ => .int 0)]) rfl ?_
  refine i_aload_n C 0 dX0_init_27 rfl rfl ?_
  refine i_iconst C (v := 0) dX0_init_28 (by decide) ?_
  refine i_put C (T := TX0) (s0 := 5) rfl rfl in_X0 (by decide) tyX0 tyX0_ok nmX0 rfl gw673 rfl rfl rfl dX0_init_29 ?_
  refine i_ws (ws' := [.inl (0, [.int 0, .ref (adr a sz 1), .int 0, .int 0, .int 0, .int 0, .int 0, .int 0, .int 0, .null, .int 0, .int 0, .int 0]), .inr (0, 12, fun _ => .int 0)]) rfl ?_
  refine i_aload_n C 0 dX0_init_32 rfl rfl ?_
  refine i_bipush C (v := 10) dX0_init_33 (by decide) ?_
  refine i_put C (T := TX0) (s0 := 6) rfl rfl in_X0 (by decide) tyX0 tyX0_ok nmX0 rfl gw676 rfl rfl rfl dX0_init_35 ?_
  refine i_ws (ws' := [.inl (0, [.int 0, .ref (adr a sz 1), .int 0, .int 0, .int 0, .int 0, .int 10, .int 0, .int 0, .null, .int 0, .int 0, .int 0]), .inr (0, 12, fun _ => .int 0)]) rfl ?_
  refine i_aload_n C 0 dX0_init_38 rfl rfl ?_
  refine i_iconst C (v := 5) dX0_init_39 (by decide) ?_
  refine i_put C (T := TX0) (s0 := 7) rfl rfl in_X0 (by decide) tyX0 tyX0_ok nmX0 rfl gw678 rfl rfl rfl dX0_init_40 ?_
  refine i_ws (ws' := [.inl (0, [.int 0, .ref (adr a sz 1), .int 0, .int 0, .int 0, .int 0, .int 10, .int 5, .int 0, .null, .int 0, .int 0, .int 0]), .inr (0, 12, fun _ => .int 0)]) rfl ?_
  refine i_aload_n C 0 dX0_init_43 rfl rfl ?_
  refine i_iconst C (v := 1) dX0_init_44 (by decide) ?_
  refine i_put C (T := TX0) (s0 := 8) rfl rfl in_X0 (by decide) tyX0 tyX0_ok nmX0 rfl gw680 rfl rfl rfl dX0_init_45 ?_
  refine i_ws (ws' := [.inl (0, [.int 0, .ref (adr a sz 1), .int 0, .int 0, .int 0, .int 0, .int 10, .int 5, .int 1, .null, .int 0, .int 0, .int 0]), .inr (0, 12, fun _ => .int 0)]) rfl ?_
  refine i_aload_n C 0 dX0_init_48 rfl rfl ?_
  refine i_iconst C (v := 4) dX0_init_49 (by decide) ?_
  refine i_newa C HR (t := 0) (ty := .int) rfl rfl (fun _ _ h => h) rfl gw136 (N := 4) (by decide) (by decide) (by decide) (by decide) (by decide) dX0_init_50 ?_
  refine i_ws (ws' := [.inl (0, [.int 0, .ref (adr a sz 1), .int 0, .int 0, .int 0, .int 0, .int 10, .int 5, .int 1, .null, .int 0, .int 0, .int 0]), .inr (0, 12, fun _ => .int 0), .inr (0, 4, fun _ => .int 0)]) rfl ?_
  refine i_putF C (T := TX0) (s0 := 9) rfl rfl in_X0 (by decide) tyX0 tyX0_ok nmX0 rfl rfl gw682 rfl rfl rfl dX0_init_52 ?_
  refine i_ws (ws' := [.inl (0, [.int 0, .ref (adr a sz 1), .int 0, .int 0, .int 0, .int 0, .int 10, .int 5, .int 1, .ref (adr a sz 2), .int 0, .int 0, .int 0]), .inr (0, 12, fun _ => .int 0), .inr (0, 4, fun _ => .int 0)]) rfl ?_
  refine i_aload_n C 0 dX0_init_55 rfl rfl ?_
  refine i_iconst C (v := 0) dX0_init_56 (by decide) ?_
  refine i_put C (T := TX0) (s0 := 10) rfl rfl in_X0 (by decide) tyX0 tyX0_ok nmX0 rfl gw685 rfl rfl rfl dX0_init_57 ?_
  refine i_ws (ws' := [.inl (0, [.int 0, .ref (adr a sz 1), .int 0, .int 0, .int 0, .int 0, .int 10, .int 5, .int 1, .ref (adr a sz 2), .int 0, .int 0, .int 0]), .inr (0, 12, fun _ => .int 0), .inr (0, 4, fun _ => .int 0)]) rfl ?_
  refine i_aload_n C 0 dX0_init_60 rfl rfl ?_
  refine i_iconst C (v := 0) dX0_init_61 (by decide) ?_
  refine i_put C (T := TX0) (s0 := 11) rfl rfl in_X0 (by decide) tyX0 tyX0_ok nmX0 rfl gw688 rfl rfl rfl dX0_init_62 ?_
  refine i_ws (ws' := [.inl (0, [.int 0, .ref (adr a sz 1), .int 0, .int 0, .int 0, .int 0, .int 10, .int 5, .int 1, .ref (adr a sz 2), .int 0, .int 0, .int 0]), .inr (0, 12, fun _ => .int 0), .inr (0, 4, fun _ => .int 0)]) rfl ?_
  refine i_aload_n C 0 dX0_init_65 rfl rfl ?_
  refine i_iconst C (v := (-1)) dX0_init_66 (by decide) ?_
  refine i_put C (T := TX0) (s0 := 12) rfl rfl in_X0 (by decide) tyX0 tyX0_ok nmX0 rfl gw691 rfl rfl rfl dX0_init_67 ?_
  refine i_ws (ws' := [.inl (0, [.int 0, .ref (adr a sz 1), .int 0, .int 0, .int 0, .int 0, .int 10, .int 5, .int 1, .ref (adr a sz 2), .int 0, .int 0, .int (-1)]), .inr (0, 12, fun _ => .int 0), .inr (0, 4, fun _ => .int 0)]) rfl ?_
  refine i_aload_n C 0 dX0_init_70 rfl rfl ?_
  refine i_iload_n C 1 dX0_init_71 rfl rfl ?_
  refine i_putF C (T := TX0) (s0 := 0) rfl rfl in_X0 (by decide) tyX0 tyX0_ok nmX0 rfl rfl gw661 rfl rfl rfl dX0_init_72 ?_
  refine i_ws (ws' := [.inl (0, [.int v0, .ref (adr a sz 1), .int 0, .int 0, .int 0, .int 0, .int 10, .int 5, .int 1, .ref (adr a sz 2), .int 0, .int 0, .int (-1)]), .inr (0, 12, fun _ => .int 0), .inr (0, 4, fun _ => .int 0)]) rfl ?_
  exact i_ret C rfl dX0_init_75
