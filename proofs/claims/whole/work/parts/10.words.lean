theorem in_X0 : ∀ w ∈ u_ws RX0 TX0 13, w ∈ GW := fun w h => List.mem_filter.mpr ⟨(by decide +kernel : ∀ w ∈ u_ws RX0 TX0 13, w ∈ lw_tbl) w h, (by decide +kernel : ∀ w ∈ u_ws RX0 TX0 13, goodWord w = true) w h⟩
theorem in_X1 : ∀ w ∈ u_ws RX1 TX1 4, w ∈ GW := fun w h => List.mem_filter.mpr ⟨(by decide +kernel : ∀ w ∈ u_ws RX1 TX1 4, w ∈ lw_tbl) w h, (by decide +kernel : ∀ w ∈ u_ws RX1 TX1 4, goodWord w = true) w h⟩
theorem in_X2 : ∀ w ∈ u_ws RX2 TX2 12, w ∈ GW := fun w h => List.mem_filter.mpr ⟨(by decide +kernel : ∀ w ∈ u_ws RX2 TX2 12, w ∈ lw_tbl) w h, (by decide +kernel : ∀ w ∈ u_ws RX2 TX2 12, goodWord w = true) w h⟩
theorem in_X3 : ∀ w ∈ u_ws RX3 TX3 1, w ∈ GW := fun w h => List.mem_filter.mpr ⟨(by decide +kernel : ∀ w ∈ u_ws RX3 TX3 1, w ∈ lw_tbl) w h, (by decide +kernel : ∀ w ∈ u_ws RX3 TX3 1, goodWord w = true) w h⟩
theorem in_X4 : ∀ w ∈ u_ws RX4 TX4 4, w ∈ GW := fun w h => List.mem_filter.mpr ⟨(by decide +kernel : ∀ w ∈ u_ws RX4 TX4 4, w ∈ lw_tbl) w h, (by decide +kernel : ∀ w ∈ u_ws RX4 TX4 4, goodWord w = true) w h⟩
theorem in_X5 : ∀ w ∈ u_ws RX5 TX5 5, w ∈ GW := fun w h => List.mem_filter.mpr ⟨(by decide +kernel : ∀ w ∈ u_ws RX5 TX5 5, w ∈ lw_tbl) w h, (by decide +kernel : ∀ w ∈ u_ws RX5 TX5 5, goodWord w = true) w h⟩
theorem in_X6 : ∀ w ∈ u_ws RX6 TX6 6, w ∈ GW := fun w h => List.mem_filter.mpr ⟨(by decide +kernel : ∀ w ∈ u_ws RX6 TX6 6, w ∈ lw_tbl) w h, (by decide +kernel : ∀ w ∈ u_ws RX6 TX6 6, goodWord w = true) w h⟩
theorem in_X7 : ∀ w ∈ u_ws RX7 TX7 4, w ∈ GW := fun w h => List.mem_filter.mpr ⟨(by decide +kernel : ∀ w ∈ u_ws RX7 TX7 4, w ∈ lw_tbl) w h, (by decide +kernel : ∀ w ∈ u_ws RX7 TX7 4, goodWord w = true) w h⟩
theorem in_X8 : ∀ w ∈ u_ws RX8 TX8 10, w ∈ GW := fun w h => List.mem_filter.mpr ⟨(by decide +kernel : ∀ w ∈ u_ws RX8 TX8 10, w ∈ lw_tbl) w h, (by decide +kernel : ∀ w ∈ u_ws RX8 TX8 10, goodWord w = true) w h⟩
theorem in_X9 : ∀ w ∈ u_ws RX9 TX9 14, w ∈ GW := fun w h => List.mem_filter.mpr ⟨(by decide +kernel : ∀ w ∈ u_ws RX9 TX9 14, w ∈ lw_tbl) w h, (by decide +kernel : ∀ w ∈ u_ws RX9 TX9 14, goodWord w = true) w h⟩
theorem in_X10 : ∀ w ∈ u_ws RX10 TX10 48, w ∈ GW := fun w h => List.mem_filter.mpr ⟨(by decide +kernel : ∀ w ∈ u_ws RX10 TX10 48, w ∈ lw_tbl) w h, (by decide +kernel : ∀ w ∈ u_ws RX10 TX10 48, goodWord w = true) w h⟩
theorem gw0 : Cond.selects yX9_versionAt.cls yX9_versionAt yX9_versionAt ∈ GW := List.mem_filter.mpr ⟨List.mem_of_getElem? (i := 0) (by decide +kernel), rfl⟩
theorem gw1 : Cond.selects yX8_findFault.cls yX8_findFault yX8_findFault ∈ GW := List.mem_filter.mpr ⟨List.mem_of_getElem? (i := 1) (by decide +kernel), rfl⟩
theorem gw10 : Cond.selects yX6_goOnFrom.cls yX6_goOnFrom yX6_goOnFrom ∈ GW := List.mem_filter.mpr ⟨List.mem_of_getElem? (i := 10) (by decide +kernel), rfl⟩
theorem gw1000 : Cond.methodLink "TrueLedger" 333 yX9_countLogged ∈ GW := List.mem_filter.mpr ⟨List.mem_of_getElem? (i := 1000) (by decide +kernel), rfl⟩
theorem gw1002 : Cond.instanceMethod yX9_countLogged ∈ GW := List.mem_filter.mpr ⟨List.mem_of_getElem? (i := 1002) (by decide +kernel), rfl⟩
theorem gw1003 : Cond.code yX9_countLogged cX9_countLogged 4 (some .int) ∈ GW := List.mem_filter.mpr ⟨List.mem_of_getElem? (i := 1003) (by decide +kernel), rfl⟩
theorem gw1004 : Cond.methodLink "TrueLedger" 336 yX9_countShort ∈ GW := List.mem_filter.mpr ⟨List.mem_of_getElem? (i := 1004) (by decide +kernel), rfl⟩
theorem gw1006 : Cond.instanceMethod yX9_countShort ∈ GW := List.mem_filter.mpr ⟨List.mem_of_getElem? (i := 1006) (by decide +kernel), rfl⟩
theorem gw1007 : Cond.code yX9_countShort cX9_countShort 4 (some .int) ∈ GW := List.mem_filter.mpr ⟨List.mem_of_getElem? (i := 1007) (by decide +kernel), rfl⟩
theorem gw1012 : Cond.constantLong "TrueLedger" 343 17 ∈ GW := List.mem_filter.mpr ⟨List.mem_of_getElem? (i := 1012) (by decide +kernel), rfl⟩
theorem gw1013 : Cond.constantLong "TrueLedger" 345 31 ∈ GW := List.mem_filter.mpr ⟨List.mem_of_getElem? (i := 1013) (by decide +kernel), rfl⟩
theorem gw1014 : Cond.methodLink "TrueLedger" 347 yX9_count ∈ GW := List.mem_filter.mpr ⟨List.mem_of_getElem? (i := 1014) (by decide +kernel), rfl⟩
theorem gw1015 : Cond.methodLink "TrueLedger" 350 yX9_fault ∈ GW := List.mem_filter.mpr ⟨List.mem_of_getElem? (i := 1015) (by decide +kernel), rfl⟩
theorem gw1016 : Cond.methodLink "TrueLedger" 353 yX9_acts ∈ GW := List.mem_filter.mpr ⟨List.mem_of_getElem? (i := 1016) (by decide +kernel), rfl⟩
theorem gw1017 : Cond.methodLink "TrueLedger" 356 yX9_about ∈ GW := List.mem_filter.mpr ⟨List.mem_of_getElem? (i := 1017) (by decide +kernel), rfl⟩
theorem gw1018 : Cond.methodLink "TrueLedger" 359 yX9_standing ∈ GW := List.mem_filter.mpr ⟨List.mem_of_getElem? (i := 1018) (by decide +kernel), rfl⟩
theorem gw1025 : Cond.fieldLink "TrueLedgerModel" 7 "TrueLedgerModel" "typed" "[I" ∈ GW := List.mem_filter.mpr ⟨List.mem_of_getElem? (i := 1025) (by decide +kernel), rfl⟩
theorem gw1026 : Cond.fieldLink "TrueLedgerModel" 13 "TrueLedgerModel" "texts" "[I" ∈ GW := List.mem_filter.mpr ⟨List.mem_of_getElem? (i := 1026) (by decide +kernel), rfl⟩
theorem gw1027 : Cond.fieldLink "TrueLedgerModel" 16 "TrueLedgerModel" "isRead" "[Z" ∈ GW := List.mem_filter.mpr ⟨List.mem_of_getElem? (i := 1027) (by decide +kernel), rfl⟩
theorem gw1028 : Cond.fieldLink "TrueLedgerModel" 20 "TrueLedgerModel" "faults" "[I" ∈ GW := List.mem_filter.mpr ⟨List.mem_of_getElem? (i := 1028) (by decide +kernel), rfl⟩
theorem gw1029 : Cond.fieldLink "TrueLedgerModel" 23 "TrueLedgerModel" "lineFrom" "[I" ∈ GW := List.mem_filter.mpr ⟨List.mem_of_getElem? (i := 1029) (by decide +kernel), rfl⟩
theorem gw1030 : Cond.fieldLink "TrueLedgerModel" 26 "TrueLedgerModel" "lineMany" "[I" ∈ GW := List.mem_filter.mpr ⟨List.mem_of_getElem? (i := 1030) (by decide +kernel), rfl⟩
theorem gw1031 : Cond.fieldLink "TrueLedgerModel" 29 "TrueLedgerModel" "actOn" "[I" ∈ GW := List.mem_filter.mpr ⟨List.mem_of_getElem? (i := 1031) (by decide +kernel), rfl⟩
theorem gw1032 : Cond.fieldLink "TrueLedgerModel" 32 "TrueLedgerModel" "actSign" "[I" ∈ GW := List.mem_filter.mpr ⟨List.mem_of_getElem? (i := 1032) (by decide +kernel), rfl⟩
theorem gw1033 : Cond.fieldLink "TrueLedgerModel" 35 "TrueLedgerModel" "actBy" "[I" ∈ GW := List.mem_filter.mpr ⟨List.mem_of_getElem? (i := 1033) (by decide +kernel), rfl⟩
theorem gw1034 : Cond.fieldLink "TrueLedgerModel" 128 "TrueLedgerModel" "versionNow" "I" ∈ GW := List.mem_filter.mpr ⟨List.mem_of_getElem? (i := 1034) (by decide +kernel), rfl⟩
theorem gw1035 : Cond.fieldLink "TrueLedgerModel" 125 "TrueLedgerModel" "at" "I" ∈ GW := List.mem_filter.mpr ⟨List.mem_of_getElem? (i := 1035) (by decide +kernel), rfl⟩
theorem gw1036 : Cond.fieldLink "TrueLedgerModel" 135 "TrueLedgerModel" "fault" "I" ∈ GW := List.mem_filter.mpr ⟨List.mem_of_getElem? (i := 1036) (by decide +kernel), rfl⟩
theorem gw1037 : Cond.fieldLink "TrueLedgerModel" 145 "TrueLedgerModel" "actMany" "I" ∈ GW := List.mem_filter.mpr ⟨List.mem_of_getElem? (i := 1037) (by decide +kernel), rfl⟩
theorem gw1038 : Cond.fieldLink "TrueLedgerModel" 38 "TrueLedgerModel" "registers" "[I" ∈ GW := List.mem_filter.mpr ⟨List.mem_of_getElem? (i := 1038) (by decide +kernel), rfl⟩
theorem gw1039 : Cond.fieldLink "TrueLedgerModel" 186 "TrueLedgerModel" "modeNow" "I" ∈ GW := List.mem_filter.mpr ⟨List.mem_of_getElem? (i := 1039) (by decide +kernel), rfl⟩
theorem gw1040 : Cond.fieldLink "TrueLedgerModel" 189 "TrueLedgerModel" "drawer" "I" ∈ GW := List.mem_filter.mpr ⟨List.mem_of_getElem? (i := 1040) (by decide +kernel), rfl⟩
theorem gw1041 : Cond.fieldLink "TrueLedgerModel" 177 "TrueLedgerModel" "firstVersion" "I" ∈ GW := List.mem_filter.mpr ⟨List.mem_of_getElem? (i := 1041) (by decide +kernel), rfl⟩
theorem gw1042 : Cond.fieldLink "TrueLedgerModel" 180 "TrueLedgerModel" "secondVersion" "I" ∈ GW := List.mem_filter.mpr ⟨List.mem_of_getElem? (i := 1042) (by decide +kernel), rfl⟩
theorem gw1043 : Cond.fieldLink "TrueLedgerModel" 183 "TrueLedgerModel" "mixedLines" "I" ∈ GW := List.mem_filter.mpr ⟨List.mem_of_getElem? (i := 1043) (by decide +kernel), rfl⟩
theorem gw1044 : Cond.fieldLink "TrueLedgerModel" 41 "TrueLedgerModel" "row" "[I" ∈ GW := List.mem_filter.mpr ⟨List.mem_of_getElem? (i := 1044) (by decide +kernel), rfl⟩
theorem gw1045 : Cond.fieldLink "TrueLedgerModel" 229 "TrueLedgerModel" "counters" "I" ∈ GW := List.mem_filter.mpr ⟨List.mem_of_getElem? (i := 1045) (by decide +kernel), rfl⟩
theorem gw1046 : Cond.fieldLink "TrueLedgerModel" 44 "TrueLedgerModel" "versionOf" "[I" ∈ GW := List.mem_filter.mpr ⟨List.mem_of_getElem? (i := 1046) (by decide +kernel), rfl⟩
theorem gw1047 : Cond.fieldLink "TrueLedgerModel" 47 "TrueLedgerModel" "logMany" "[I" ∈ GW := List.mem_filter.mpr ⟨List.mem_of_getElem? (i := 1047) (by decide +kernel), rfl⟩
theorem gw1048 : Cond.fieldLink "TrueLedgerModel" 50 "TrueLedgerModel" "logs" "[I" ∈ GW := List.mem_filter.mpr ⟨List.mem_of_getElem? (i := 1048) (by decide +kernel), rfl⟩
theorem gw1049 : Cond.fieldLink "TrueLedgerModel" 53 "TrueLedgerModel" "claimDrawer" "[I" ∈ GW := List.mem_filter.mpr ⟨List.mem_of_getElem? (i := 1049) (by decide +kernel), rfl⟩
theorem gw1050 : Cond.fieldLink "TrueLedgerModel" 56 "TrueLedgerModel" "claimLedger" "[I" ∈ GW := List.mem_filter.mpr ⟨List.mem_of_getElem? (i := 1050) (by decide +kernel), rfl⟩
theorem gw1051 : Cond.fieldLink "TrueLedgerModel" 59 "TrueLedgerModel" "pageOf" "[I" ∈ GW := List.mem_filter.mpr ⟨List.mem_of_getElem? (i := 1051) (by decide +kernel), rfl⟩
theorem gw1052 : Cond.fieldLink "TrueLedgerModel" 62 "TrueLedgerModel" "daysOf" "[I" ∈ GW := List.mem_filter.mpr ⟨List.mem_of_getElem? (i := 1052) (by decide +kernel), rfl⟩
theorem gw1053 : Cond.fieldLink "TrueLedgerModel" 65 "TrueLedgerModel" "weightOf" "[I" ∈ GW := List.mem_filter.mpr ⟨List.mem_of_getElem? (i := 1053) (by decide +kernel), rfl⟩
theorem gw1054 : Cond.fieldLink "TrueLedgerModel" 68 "TrueLedgerModel" "filled" "[I" ∈ GW := List.mem_filter.mpr ⟨List.mem_of_getElem? (i := 1054) (by decide +kernel), rfl⟩
theorem gw1055 : Cond.fieldLink "TrueLedgerModel" 71 "TrueLedgerModel" "causesOf" "[I" ∈ GW := List.mem_filter.mpr ⟨List.mem_of_getElem? (i := 1055) (by decide +kernel), rfl⟩
theorem gw1056 : Cond.fieldLink "TrueLedgerModel" 74 "TrueLedgerModel" "seen" "[I" ∈ GW := List.mem_filter.mpr ⟨List.mem_of_getElem? (i := 1056) (by decide +kernel), rfl⟩
theorem gw1057 : Cond.fieldLink "TrueLedgerModel" 274 "TrueLedgerModel" "paid" "I" ∈ GW := List.mem_filter.mpr ⟨List.mem_of_getElem? (i := 1057) (by decide +kernel), rfl⟩
theorem gw1058 : Cond.fieldLink "TrueLedgerModel" 77 "TrueLedgerModel" "paidBy" "[I" ∈ GW := List.mem_filter.mpr ⟨List.mem_of_getElem? (i := 1058) (by decide +kernel), rfl⟩
theorem gw1059 : Cond.fieldLink "TrueLedgerModel" 80 "TrueLedgerModel" "paidOn" "[I" ∈ GW := List.mem_filter.mpr ⟨List.mem_of_getElem? (i := 1059) (by decide +kernel), rfl⟩
theorem gw1060 : Cond.fieldLink "TrueLedgerModel" 83 "TrueLedgerModel" "paidCoins" "[I" ∈ GW := List.mem_filter.mpr ⟨List.mem_of_getElem? (i := 1060) (by decide +kernel), rfl⟩
theorem gw1061 : Cond.fieldLink "TrueLedgerModel" 86 "TrueLedgerModel" "interestNow" "I" ∈ GW := List.mem_filter.mpr ⟨List.mem_of_getElem? (i := 1061) (by decide +kernel), rfl⟩
theorem gw1062 : Cond.fieldLink "TrueLedgerModel" 287 "TrueLedgerModel" "judgments" "I" ∈ GW := List.mem_filter.mpr ⟨List.mem_of_getElem? (i := 1062) (by decide +kernel), rfl⟩
theorem gw1063 : Cond.fieldLink "TrueLedgerModel" 90 "TrueLedgerModel" "onAll" "[I" ∈ GW := List.mem_filter.mpr ⟨List.mem_of_getElem? (i := 1063) (by decide +kernel), rfl⟩
theorem gw1064 : Cond.fieldLink "TrueLedgerModel" 93 "TrueLedgerModel" "onOne" "[I" ∈ GW := List.mem_filter.mpr ⟨List.mem_of_getElem? (i := 1064) (by decide +kernel), rfl⟩
theorem gw1065 : Cond.fieldLink "TrueLedgerModel" 96 "TrueLedgerModel" "grounds" "I" ∈ GW := List.mem_filter.mpr ⟨List.mem_of_getElem? (i := 1065) (by decide +kernel), rfl⟩
theorem gw1066 : Cond.fieldLink "TrueLedgerModel" 99 "TrueLedgerModel" "costOf" "[I" ∈ GW := List.mem_filter.mpr ⟨List.mem_of_getElem? (i := 1066) (by decide +kernel), rfl⟩
theorem gw1067 : Cond.fieldLink "TrueLedgerModel" 102 "TrueLedgerModel" "isThere" "[Z" ∈ GW := List.mem_filter.mpr ⟨List.mem_of_getElem? (i := 1067) (by decide +kernel), rfl⟩
theorem gw1068 : Cond.fieldLink "TrueLedgerModel" 105 "TrueLedgerModel" "types" "[I" ∈ GW := List.mem_filter.mpr ⟨List.mem_of_getElem? (i := 1068) (by decide +kernel), rfl⟩
theorem gw1069 : Cond.fieldLink "TrueLedgerModel" 108 "TrueLedgerModel" "sizes" "[I" ∈ GW := List.mem_filter.mpr ⟨List.mem_of_getElem? (i := 1069) (by decide +kernel), rfl⟩
theorem gw1070 : Cond.fieldLink "TrueLedgerModel" 111 "TrueLedgerModel" "items" "[I" ∈ GW := List.mem_filter.mpr ⟨List.mem_of_getElem? (i := 1070) (by decide +kernel), rfl⟩
theorem gw1071 : Cond.fieldLink "TrueLedgerModel" 114 "TrueLedgerModel" "moved" "[I" ∈ GW := List.mem_filter.mpr ⟨List.mem_of_getElem? (i := 1071) (by decide +kernel), rfl⟩
theorem gw1072 : Cond.fieldLink "TrueLedgerModel" 203 "TrueLedgerModel" "finding" "I" ∈ GW := List.mem_filter.mpr ⟨List.mem_of_getElem? (i := 1072) (by decide +kernel), rfl⟩
theorem gw11 : Cond.selects yX6_tellRow.cls yX6_tellRow yX6_tellRow ∈ GW := List.mem_filter.mpr ⟨List.mem_of_getElem? (i := 11) (by decide +kernel), rfl⟩
theorem gw116 : Cond.fieldLink "TrueLedger$Search" 11 "TrueLedger$Search" "keys" "[I" ∈ GW := List.mem_filter.mpr ⟨List.mem_of_getElem? (i := 116) (by decide +kernel), rfl⟩
theorem gw117 : Cond.fieldLink "TrueLedger$Search" 15 "TrueLedger$Search" "parents" "[I" ∈ GW := List.mem_filter.mpr ⟨List.mem_of_getElem? (i := 117) (by decide +kernel), rfl⟩
theorem gw1175 : Cond.methodLink "TrueLedgerModel" 121 yX10_isVersion ∈ GW := List.mem_filter.mpr ⟨List.mem_of_getElem? (i := 1175) (by decide +kernel), rfl⟩
theorem gw1176 : Cond.static yX10_isVersion ∈ GW := List.mem_filter.mpr ⟨List.mem_of_getElem? (i := 1176) (by decide +kernel), rfl⟩
theorem gw1177 : Cond.code yX10_isVersion cX10_isVersion 1 (some .boolean) ∈ GW := List.mem_filter.mpr ⟨List.mem_of_getElem? (i := 1177) (by decide +kernel), rfl⟩
theorem gw1178 : Cond.methodLink "TrueLedgerModel" 117 yX10_in ∈ GW := List.mem_filter.mpr ⟨List.mem_of_getElem? (i := 1178) (by decide +kernel), rfl⟩
theorem gw1179 : Cond.static yX10_in ∈ GW := List.mem_filter.mpr ⟨List.mem_of_getElem? (i := 1179) (by decide +kernel), rfl⟩
theorem gw118 : Cond.fieldLink "TrueLedger$Search" 18 "TrueLedger$Search" "lastEvents" "[I" ∈ GW := List.mem_filter.mpr ⟨List.mem_of_getElem? (i := 118) (by decide +kernel), rfl⟩
theorem gw1180 : Cond.code yX10_in cX10_in 3 (some .boolean) ∈ GW := List.mem_filter.mpr ⟨List.mem_of_getElem? (i := 1180) (by decide +kernel), rfl⟩
theorem gw1189 : Cond.methodLink "TrueLedgerModel" 164 yX10_faultOf ∈ GW := List.mem_filter.mpr ⟨List.mem_of_getElem? (i := 1189) (by decide +kernel), rfl⟩
theorem gw119 : Cond.fieldLink "TrueLedger$Search" 21 "TrueLedger$Search" "slots" "[I" ∈ GW := List.mem_filter.mpr ⟨List.mem_of_getElem? (i := 119) (by decide +kernel), rfl⟩
theorem gw1191 : Cond.instanceMethod yX10_faultOf ∈ GW := List.mem_filter.mpr ⟨List.mem_of_getElem? (i := 1191) (by decide +kernel), rfl⟩
theorem gw1192 : Cond.code yX10_faultOf cX10_faultOf 2 (some .int) ∈ GW := List.mem_filter.mpr ⟨List.mem_of_getElem? (i := 1192) (by decide +kernel), rfl⟩
theorem gw1193 : Cond.methodLink "TrueLedgerModel" 161 yX10_reads ∈ GW := List.mem_filter.mpr ⟨List.mem_of_getElem? (i := 1193) (by decide +kernel), rfl⟩
theorem gw1195 : Cond.instanceMethod yX10_reads ∈ GW := List.mem_filter.mpr ⟨List.mem_of_getElem? (i := 1195) (by decide +kernel), rfl⟩
theorem gw1196 : Cond.code yX10_reads cX10_reads 3 none ∈ GW := List.mem_filter.mpr ⟨List.mem_of_getElem? (i := 1196) (by decide +kernel), rfl⟩
theorem gw1197 : Cond.methodLink "TrueLedgerModel" 154 yX10_noLines ∈ GW := List.mem_filter.mpr ⟨List.mem_of_getElem? (i := 1197) (by decide +kernel), rfl⟩
theorem gw1199 : Cond.instanceMethod yX10_noLines ∈ GW := List.mem_filter.mpr ⟨List.mem_of_getElem? (i := 1199) (by decide +kernel), rfl⟩
theorem gw12 : Cond.selects yX3_tellChoices.cls yX3_tellChoices yX3_tellChoices ∈ GW := List.mem_filter.mpr ⟨List.mem_of_getElem? (i := 12) (by decide +kernel), rfl⟩
theorem gw120 : Cond.fieldLink "TrueLedger$Search" 24 "TrueLedger$Search" "row" "[I" ∈ GW := List.mem_filter.mpr ⟨List.mem_of_getElem? (i := 120) (by decide +kernel), rfl⟩
theorem gw1200 : Cond.code yX10_noLines cX10_noLines 3 none ∈ GW := List.mem_filter.mpr ⟨List.mem_of_getElem? (i := 1200) (by decide +kernel), rfl⟩
theorem gw1201 : Cond.methodLink "TrueLedgerModel" 158 yX10_part ∈ GW := List.mem_filter.mpr ⟨List.mem_of_getElem? (i := 1201) (by decide +kernel), rfl⟩
theorem gw1203 : Cond.instanceMethod yX10_part ∈ GW := List.mem_filter.mpr ⟨List.mem_of_getElem? (i := 1203) (by decide +kernel), rfl⟩
theorem gw1204 : Cond.code yX10_part cX10_part 5 none ∈ GW := List.mem_filter.mpr ⟨List.mem_of_getElem? (i := 1204) (by decide +kernel), rfl⟩
theorem gw1205 : Cond.methodLink "TrueLedgerModel" 131 yX10_byteNow ∈ GW := List.mem_filter.mpr ⟨List.mem_of_getElem? (i := 1205) (by decide +kernel), rfl⟩
theorem gw1207 : Cond.instanceMethod yX10_byteNow ∈ GW := List.mem_filter.mpr ⟨List.mem_of_getElem? (i := 1207) (by decide +kernel), rfl⟩
theorem gw1208 : Cond.code yX10_byteNow cX10_byteNow 1 (some .int) ∈ GW := List.mem_filter.mpr ⟨List.mem_of_getElem? (i := 1208) (by decide +kernel), rfl⟩
theorem gw1209 : Cond.methodLink "TrueLedgerModel" 148 yX10_eventOf ∈ GW := List.mem_filter.mpr ⟨List.mem_of_getElem? (i := 1209) (by decide +kernel), rfl⟩
theorem gw1210 : Cond.static yX10_eventOf ∈ GW := List.mem_filter.mpr ⟨List.mem_of_getElem? (i := 1210) (by decide +kernel), rfl⟩
theorem gw1211 : Cond.code yX10_eventOf cX10_eventOf 1 (some .int) ∈ GW := List.mem_filter.mpr ⟨List.mem_of_getElem? (i := 1211) (by decide +kernel), rfl⟩
theorem gw1212 : Cond.methodLink "TrueLedgerModel" 142 yX10_mode ∈ GW := List.mem_filter.mpr ⟨List.mem_of_getElem? (i := 1212) (by decide +kernel), rfl⟩
theorem gw1214 : Cond.instanceMethod yX10_mode ∈ GW := List.mem_filter.mpr ⟨List.mem_of_getElem? (i := 1214) (by decide +kernel), rfl⟩
theorem gw1215 : Cond.code yX10_mode cX10_mode 2 (some .int) ∈ GW := List.mem_filter.mpr ⟨List.mem_of_getElem? (i := 1215) (by decide +kernel), rfl⟩
theorem gw1216 : Cond.methodLink "TrueLedgerModel" 151 yX10_act ∈ GW := List.mem_filter.mpr ⟨List.mem_of_getElem? (i := 1216) (by decide +kernel), rfl⟩
theorem gw1218 : Cond.instanceMethod yX10_act ∈ GW := List.mem_filter.mpr ⟨List.mem_of_getElem? (i := 1218) (by decide +kernel), rfl⟩
theorem gw1219 : Cond.code yX10_act cX10_act 6 none ∈ GW := List.mem_filter.mpr ⟨List.mem_of_getElem? (i := 1219) (by decide +kernel), rfl⟩
theorem gw122 : Cond.fieldLink "TrueLedger$Search" 27 "TrueLedger$Search" "kept" "I" ∈ GW := List.mem_filter.mpr ⟨List.mem_of_getElem? (i := 122) (by decide +kernel), rfl⟩
theorem gw1220 : Cond.methodLink "TrueLedgerModel" 138 yX10_registerOf ∈ GW := List.mem_filter.mpr ⟨List.mem_of_getElem? (i := 1220) (by decide +kernel), rfl⟩
theorem gw1221 : Cond.static yX10_registerOf ∈ GW := List.mem_filter.mpr ⟨List.mem_of_getElem? (i := 1221) (by decide +kernel), rfl⟩
theorem gw1222 : Cond.code yX10_registerOf cX10_registerOf 1 (some .int) ∈ GW := List.mem_filter.mpr ⟨List.mem_of_getElem? (i := 1222) (by decide +kernel), rfl⟩
theorem gw1227 : Cond.methodLink "TrueLedgerModel" 167 yX10_actsOf ∈ GW := List.mem_filter.mpr ⟨List.mem_of_getElem? (i := 1227) (by decide +kernel), rfl⟩
theorem gw1229 : Cond.instanceMethod yX10_actsOf ∈ GW := List.mem_filter.mpr ⟨List.mem_of_getElem? (i := 1229) (by decide +kernel), rfl⟩
theorem gw1230 : Cond.code yX10_actsOf cX10_actsOf 3 (some .int) ∈ GW := List.mem_filter.mpr ⟨List.mem_of_getElem? (i := 1230) (by decide +kernel), rfl⟩
theorem gw1235 : Cond.methodLink "TrueLedgerModel" 174 yX10_differOf ∈ GW := List.mem_filter.mpr ⟨List.mem_of_getElem? (i := 1235) (by decide +kernel), rfl⟩
theorem gw1237 : Cond.instanceMethod yX10_differOf ∈ GW := List.mem_filter.mpr ⟨List.mem_of_getElem? (i := 1237) (by decide +kernel), rfl⟩
theorem gw1238 : Cond.code yX10_differOf cX10_differOf 5 (some .int) ∈ GW := List.mem_filter.mpr ⟨List.mem_of_getElem? (i := 1238) (by decide +kernel), rfl⟩
theorem gw1239 : Cond.methodLink "TrueLedgerModel" 171 yX10_areLike ∈ GW := List.mem_filter.mpr ⟨List.mem_of_getElem? (i := 1239) (by decide +kernel), rfl⟩
theorem gw1241 : Cond.instanceMethod yX10_areLike ∈ GW := List.mem_filter.mpr ⟨List.mem_of_getElem? (i := 1241) (by decide +kernel), rfl⟩
theorem gw1242 : Cond.code yX10_areLike cX10_areLike 8 (some .boolean) ∈ GW := List.mem_filter.mpr ⟨List.mem_of_getElem? (i := 1242) (by decide +kernel), rfl⟩
theorem gw1247 : Cond.methodLink "TrueLedgerModel" 197 yX10_isMix ∈ GW := List.mem_filter.mpr ⟨List.mem_of_getElem? (i := 1247) (by decide +kernel), rfl⟩
theorem gw1248 : Cond.static yX10_isMix ∈ GW := List.mem_filter.mpr ⟨List.mem_of_getElem? (i := 1248) (by decide +kernel), rfl⟩
theorem gw1249 : Cond.code yX10_isMix cX10_isMix 3 (some .boolean) ∈ GW := List.mem_filter.mpr ⟨List.mem_of_getElem? (i := 1249) (by decide +kernel), rfl⟩
theorem gw1250 : Cond.constant "TrueLedgerModel" 196 65535 ∈ GW := List.mem_filter.mpr ⟨List.mem_of_getElem? (i := 1250) (by decide +kernel), rfl⟩
theorem gw1251 : Cond.methodLink "TrueLedgerModel" 200 yX10_isSheet ∈ GW := List.mem_filter.mpr ⟨List.mem_of_getElem? (i := 1251) (by decide +kernel), rfl⟩
theorem gw1252 : Cond.static yX10_isSheet ∈ GW := List.mem_filter.mpr ⟨List.mem_of_getElem? (i := 1252) (by decide +kernel), rfl⟩
theorem gw1253 : Cond.code yX10_isSheet cX10_isSheet 1 (some .boolean) ∈ GW := List.mem_filter.mpr ⟨List.mem_of_getElem? (i := 1253) (by decide +kernel), rfl⟩
theorem gw1254 : Cond.methodLink "TrueLedgerModel" 206 yX10_isEvent ∈ GW := List.mem_filter.mpr ⟨List.mem_of_getElem? (i := 1254) (by decide +kernel), rfl⟩
theorem gw1255 : Cond.static yX10_isEvent ∈ GW := List.mem_filter.mpr ⟨List.mem_of_getElem? (i := 1255) (by decide +kernel), rfl⟩
theorem gw1256 : Cond.code yX10_isEvent cX10_isEvent 1 (some .boolean) ∈ GW := List.mem_filter.mpr ⟨List.mem_of_getElem? (i := 1256) (by decide +kernel), rfl⟩
theorem gw1257 : Cond.methodLink "TrueLedgerModel" 209 yX10_mixes ∈ GW := List.mem_filter.mpr ⟨List.mem_of_getElem? (i := 1257) (by decide +kernel), rfl⟩
theorem gw1259 : Cond.instanceMethod yX10_mixes ∈ GW := List.mem_filter.mpr ⟨List.mem_of_getElem? (i := 1259) (by decide +kernel), rfl⟩
theorem gw1260 : Cond.code yX10_mixes cX10_mixes 4 none ∈ GW := List.mem_filter.mpr ⟨List.mem_of_getElem? (i := 1260) (by decide +kernel), rfl⟩
theorem gw1261 : Cond.methodLink "TrueLedgerModel" 213 yX10_begins ∈ GW := List.mem_filter.mpr ⟨List.mem_of_getElem? (i := 1261) (by decide +kernel), rfl⟩
theorem gw1263 : Cond.instanceMethod yX10_begins ∈ GW := List.mem_filter.mpr ⟨List.mem_of_getElem? (i := 1263) (by decide +kernel), rfl⟩
theorem gw1264 : Cond.code yX10_begins cX10_begins 2 none ∈ GW := List.mem_filter.mpr ⟨List.mem_of_getElem? (i := 1264) (by decide +kernel), rfl⟩
theorem gw1265 : Cond.methodLink "TrueLedgerModel" 216 yX10_goes ∈ GW := List.mem_filter.mpr ⟨List.mem_of_getElem? (i := 1265) (by decide +kernel), rfl⟩
theorem gw1267 : Cond.instanceMethod yX10_goes ∈ GW := List.mem_filter.mpr ⟨List.mem_of_getElem? (i := 1267) (by decide +kernel), rfl⟩
theorem gw1268 : Cond.code yX10_goes cX10_goes 9 none ∈ GW := List.mem_filter.mpr ⟨List.mem_of_getElem? (i := 1268) (by decide +kernel), rfl⟩
theorem gw1269 : Cond.methodLink "TrueLedgerModel" 192 yX10_sets ∈ GW := List.mem_filter.mpr ⟨List.mem_of_getElem? (i := 1269) (by decide +kernel), rfl⟩
theorem gw1271 : Cond.instanceMethod yX10_sets ∈ GW := List.mem_filter.mpr ⟨List.mem_of_getElem? (i := 1271) (by decide +kernel), rfl⟩
theorem gw1272 : Cond.code yX10_sets cX10_sets 3 none ∈ GW := List.mem_filter.mpr ⟨List.mem_of_getElem? (i := 1272) (by decide +kernel), rfl⟩
theorem gw1277 : Cond.methodLink "TrueLedgerModel" 223 yX10_partsBy ∈ GW := List.mem_filter.mpr ⟨List.mem_of_getElem? (i := 1277) (by decide +kernel), rfl⟩
theorem gw1279 : Cond.instanceMethod yX10_partsBy ∈ GW := List.mem_filter.mpr ⟨List.mem_of_getElem? (i := 1279) (by decide +kernel), rfl⟩
theorem gw1280 : Cond.code yX10_partsBy cX10_partsBy 4 (some .int) ∈ GW := List.mem_filter.mpr ⟨List.mem_of_getElem? (i := 1280) (by decide +kernel), rfl⟩
theorem gw1281 : Cond.methodLink "TrueLedgerModel" 219 yX10_doesPart ∈ GW := List.mem_filter.mpr ⟨List.mem_of_getElem? (i := 1281) (by decide +kernel), rfl⟩
theorem gw1283 : Cond.instanceMethod yX10_doesPart ∈ GW := List.mem_filter.mpr ⟨List.mem_of_getElem? (i := 1283) (by decide +kernel), rfl⟩
theorem gw1284 : Cond.code yX10_doesPart cX10_doesPart 4 (some .boolean) ∈ GW := List.mem_filter.mpr ⟨List.mem_of_getElem? (i := 1284) (by decide +kernel), rfl⟩
theorem gw1293 : Cond.methodLink "TrueLedgerModel" 226 yX10_ones ∈ GW := List.mem_filter.mpr ⟨List.mem_of_getElem? (i := 1293) (by decide +kernel), rfl⟩
theorem gw1294 : Cond.static yX10_ones ∈ GW := List.mem_filter.mpr ⟨List.mem_of_getElem? (i := 1294) (by decide +kernel), rfl⟩
theorem gw1295 : Cond.code yX10_ones cX10_ones 3 (some .int) ∈ GW := List.mem_filter.mpr ⟨List.mem_of_getElem? (i := 1295) (by decide +kernel), rfl⟩
theorem gw13 : Cond.selects yX3_ruleOut.cls yX3_ruleOut yX3_ruleOut ∈ GW := List.mem_filter.mpr ⟨List.mem_of_getElem? (i := 13) (by decide +kernel), rfl⟩
theorem gw1304 : Cond.methodLink "TrueLedgerModel" 232 yX10_isCounter ∈ GW := List.mem_filter.mpr ⟨List.mem_of_getElem? (i := 1304) (by decide +kernel), rfl⟩
theorem gw1306 : Cond.instanceMethod yX10_isCounter ∈ GW := List.mem_filter.mpr ⟨List.mem_of_getElem? (i := 1306) (by decide +kernel), rfl⟩
theorem gw1307 : Cond.code yX10_isCounter cX10_isCounter 2 (some .boolean) ∈ GW := List.mem_filter.mpr ⟨List.mem_of_getElem? (i := 1307) (by decide +kernel), rfl⟩
theorem gw1308 : Cond.methodLink "TrueLedgerModel" 235 yX10_meets ∈ GW := List.mem_filter.mpr ⟨List.mem_of_getElem? (i := 1308) (by decide +kernel), rfl⟩
theorem gw1310 : Cond.instanceMethod yX10_meets ∈ GW := List.mem_filter.mpr ⟨List.mem_of_getElem? (i := 1310) (by decide +kernel), rfl⟩
theorem gw1311 : Cond.code yX10_meets cX10_meets 2 (some .int) ∈ GW := List.mem_filter.mpr ⟨List.mem_of_getElem? (i := 1311) (by decide +kernel), rfl⟩
theorem gw1320 : Cond.methodLink "TrueLedgerModel" 244 yX10_aboutOf ∈ GW := List.mem_filter.mpr ⟨List.mem_of_getElem? (i := 1320) (by decide +kernel), rfl⟩
theorem gw1322 : Cond.instanceMethod yX10_aboutOf ∈ GW := List.mem_filter.mpr ⟨List.mem_of_getElem? (i := 1322) (by decide +kernel), rfl⟩
theorem gw1323 : Cond.code yX10_aboutOf cX10_aboutOf 3 (some .int) ∈ GW := List.mem_filter.mpr ⟨List.mem_of_getElem? (i := 1323) (by decide +kernel), rfl⟩
theorem gw1324 : Cond.methodLink "TrueLedgerModel" 238 yX10_lostMany ∈ GW := List.mem_filter.mpr ⟨List.mem_of_getElem? (i := 1324) (by decide +kernel), rfl⟩
theorem gw1326 : Cond.instanceMethod yX10_lostMany ∈ GW := List.mem_filter.mpr ⟨List.mem_of_getElem? (i := 1326) (by decide +kernel), rfl⟩
theorem gw1327 : Cond.code yX10_lostMany cX10_lostMany 4 (some .int) ∈ GW := List.mem_filter.mpr ⟨List.mem_of_getElem? (i := 1327) (by decide +kernel), rfl⟩
theorem gw1328 : Cond.methodLink "TrueLedgerModel" 241 yX10_isShort ∈ GW := List.mem_filter.mpr ⟨List.mem_of_getElem? (i := 1328) (by decide +kernel), rfl⟩
theorem gw1330 : Cond.instanceMethod yX10_isShort ∈ GW := List.mem_filter.mpr ⟨List.mem_of_getElem? (i := 1330) (by decide +kernel), rfl⟩
theorem gw1331 : Cond.code yX10_isShort cX10_isShort 2 (some .boolean) ∈ GW := List.mem_filter.mpr ⟨List.mem_of_getElem? (i := 1331) (by decide +kernel), rfl⟩
theorem gw1344 : Cond.methodLink "TrueLedgerModel" 262 yX10_fillMany ∈ GW := List.mem_filter.mpr ⟨List.mem_of_getElem? (i := 1344) (by decide +kernel), rfl⟩
theorem gw1346 : Cond.instanceMethod yX10_fillMany ∈ GW := List.mem_filter.mpr ⟨List.mem_of_getElem? (i := 1346) (by decide +kernel), rfl⟩
theorem gw1347 : Cond.code yX10_fillMany cX10_fillMany 2 (some .int) ∈ GW := List.mem_filter.mpr ⟨List.mem_of_getElem? (i := 1347) (by decide +kernel), rfl⟩
theorem gw1348 : Cond.methodLink "TrueLedgerModel" 265 yX10_causesBy ∈ GW := List.mem_filter.mpr ⟨List.mem_of_getElem? (i := 1348) (by decide +kernel), rfl⟩
theorem gw1350 : Cond.instanceMethod yX10_causesBy ∈ GW := List.mem_filter.mpr ⟨List.mem_of_getElem? (i := 1350) (by decide +kernel), rfl⟩
theorem gw1351 : Cond.code yX10_causesBy cX10_causesBy 5 (some .int) ∈ GW := List.mem_filter.mpr ⟨List.mem_of_getElem? (i := 1351) (by decide +kernel), rfl⟩
theorem gw1352 : Cond.methodLink "TrueLedgerModel" 253 yX10_isClear ∈ GW := List.mem_filter.mpr ⟨List.mem_of_getElem? (i := 1352) (by decide +kernel), rfl⟩
theorem gw1354 : Cond.instanceMethod yX10_isClear ∈ GW := List.mem_filter.mpr ⟨List.mem_of_getElem? (i := 1354) (by decide +kernel), rfl⟩
theorem gw1355 : Cond.code yX10_isClear cX10_isClear 3 (some .boolean) ∈ GW := List.mem_filter.mpr ⟨List.mem_of_getElem? (i := 1355) (by decide +kernel), rfl⟩
theorem gw1356 : Cond.methodLink "TrueLedgerModel" 250 yX10_filledBy ∈ GW := List.mem_filter.mpr ⟨List.mem_of_getElem? (i := 1356) (by decide +kernel), rfl⟩
theorem gw1358 : Cond.instanceMethod yX10_filledBy ∈ GW := List.mem_filter.mpr ⟨List.mem_of_getElem? (i := 1358) (by decide +kernel), rfl⟩
theorem gw1359 : Cond.code yX10_filledBy cX10_filledBy 6 none ∈ GW := List.mem_filter.mpr ⟨List.mem_of_getElem? (i := 1359) (by decide +kernel), rfl⟩
theorem gw1360 : Cond.methodLink "TrueLedgerModel" 247 yX10_goesAll ∈ GW := List.mem_filter.mpr ⟨List.mem_of_getElem? (i := 1360) (by decide +kernel), rfl⟩
theorem gw1362 : Cond.instanceMethod yX10_goesAll ∈ GW := List.mem_filter.mpr ⟨List.mem_of_getElem? (i := 1362) (by decide +kernel), rfl⟩
theorem gw1363 : Cond.code yX10_goesAll cX10_goesAll 5 none ∈ GW := List.mem_filter.mpr ⟨List.mem_of_getElem? (i := 1363) (by decide +kernel), rfl⟩
theorem gw1364 : Cond.methodLink "TrueLedgerModel" 256 yX10_amount ∈ GW := List.mem_filter.mpr ⟨List.mem_of_getElem? (i := 1364) (by decide +kernel), rfl⟩
theorem gw1365 : Cond.static yX10_amount ∈ GW := List.mem_filter.mpr ⟨List.mem_of_getElem? (i := 1365) (by decide +kernel), rfl⟩
theorem gw1366 : Cond.code yX10_amount cX10_amount 1 (some .int) ∈ GW := List.mem_filter.mpr ⟨List.mem_of_getElem? (i := 1366) (by decide +kernel), rfl⟩
theorem gw1367 : Cond.methodLink "TrueLedgerModel" 259 yX10_isFromAfar ∈ GW := List.mem_filter.mpr ⟨List.mem_of_getElem? (i := 1367) (by decide +kernel), rfl⟩
theorem gw1369 : Cond.instanceMethod yX10_isFromAfar ∈ GW := List.mem_filter.mpr ⟨List.mem_of_getElem? (i := 1369) (by decide +kernel), rfl⟩
theorem gw1370 : Cond.code yX10_isFromAfar cX10_isFromAfar 4 (some .boolean) ∈ GW := List.mem_filter.mpr ⟨List.mem_of_getElem? (i := 1370) (by decide +kernel), rfl⟩
theorem gw1379 : Cond.methodLink "TrueLedgerModel" 268 yX10_settles ∈ GW := List.mem_filter.mpr ⟨List.mem_of_getElem? (i := 1379) (by decide +kernel), rfl⟩
theorem gw1381 : Cond.instanceMethod yX10_settles ∈ GW := List.mem_filter.mpr ⟨List.mem_of_getElem? (i := 1381) (by decide +kernel), rfl⟩
theorem gw1382 : Cond.code yX10_settles cX10_settles 6 (some .boolean) ∈ GW := List.mem_filter.mpr ⟨List.mem_of_getElem? (i := 1382) (by decide +kernel), rfl⟩
theorem gw1387 : Cond.methodLink "TrueLedgerModel" 271 yX10_comesIn ∈ GW := List.mem_filter.mpr ⟨List.mem_of_getElem? (i := 1387) (by decide +kernel), rfl⟩
theorem gw1389 : Cond.instanceMethod yX10_comesIn ∈ GW := List.mem_filter.mpr ⟨List.mem_of_getElem? (i := 1389) (by decide +kernel), rfl⟩
theorem gw1390 : Cond.code yX10_comesIn cX10_comesIn 8 (some .boolean) ∈ GW := List.mem_filter.mpr ⟨List.mem_of_getElem? (i := 1390) (by decide +kernel), rfl⟩
theorem gw14 : Cond.selects yX9_counterAt.cls yX9_counterAt yX9_counterAt ∈ GW := List.mem_filter.mpr ⟨List.mem_of_getElem? (i := 14) (by decide +kernel), rfl⟩
theorem gw1403 : Cond.methodLink "TrueLedgerModel" 283 yX10_owedAll ∈ GW := List.mem_filter.mpr ⟨List.mem_of_getElem? (i := 1403) (by decide +kernel), rfl⟩
theorem gw1405 : Cond.instanceMethod yX10_owedAll ∈ GW := List.mem_filter.mpr ⟨List.mem_of_getElem? (i := 1405) (by decide +kernel), rfl⟩
theorem gw1406 : Cond.code yX10_owedAll cX10_owedAll 4 (some .int) ∈ GW := List.mem_filter.mpr ⟨List.mem_of_getElem? (i := 1406) (by decide +kernel), rfl⟩
theorem gw1407 : Cond.methodLink "TrueLedgerModel" 280 yX10_owedOn ∈ GW := List.mem_filter.mpr ⟨List.mem_of_getElem? (i := 1407) (by decide +kernel), rfl⟩
theorem gw1409 : Cond.instanceMethod yX10_owedOn ∈ GW := List.mem_filter.mpr ⟨List.mem_of_getElem? (i := 1409) (by decide +kernel), rfl⟩
theorem gw1410 : Cond.code yX10_owedOn cX10_owedOn 5 (some .int) ∈ GW := List.mem_filter.mpr ⟨List.mem_of_getElem? (i := 1410) (by decide +kernel), rfl⟩
theorem gw1411 : Cond.methodLink "TrueLedgerModel" 277 yX10_isOwed ∈ GW := List.mem_filter.mpr ⟨List.mem_of_getElem? (i := 1411) (by decide +kernel), rfl⟩
theorem gw1413 : Cond.instanceMethod yX10_isOwed ∈ GW := List.mem_filter.mpr ⟨List.mem_of_getElem? (i := 1413) (by decide +kernel), rfl⟩
theorem gw1414 : Cond.code yX10_isOwed cX10_isOwed 3 (some .boolean) ∈ GW := List.mem_filter.mpr ⟨List.mem_of_getElem? (i := 1414) (by decide +kernel), rfl⟩
theorem gw1419 : Cond.constant "TrueLedgerModel" 286 16777215 ∈ GW := List.mem_filter.mpr ⟨List.mem_of_getElem? (i := 1419) (by decide +kernel), rfl⟩
theorem gw1428 : Cond.methodLink "TrueLedgerModel" 290 yX10_standsOn ∈ GW := List.mem_filter.mpr ⟨List.mem_of_getElem? (i := 1428) (by decide +kernel), rfl⟩
theorem gw143 : Cond.fieldLink "TrueLedger$Mender" 9 "TrueLedger$Mender" "choices" "[I" ∈ GW := List.mem_filter.mpr ⟨List.mem_of_getElem? (i := 143) (by decide +kernel), rfl⟩
theorem gw1430 : Cond.instanceMethod yX10_standsOn ∈ GW := List.mem_filter.mpr ⟨List.mem_of_getElem? (i := 1430) (by decide +kernel), rfl⟩
theorem gw1431 : Cond.code yX10_standsOn cX10_standsOn 6 (some .int) ∈ GW := List.mem_filter.mpr ⟨List.mem_of_getElem? (i := 1431) (by decide +kernel), rfl⟩
theorem gw1440 : Cond.methodLink "TrueLedgerModel" 293 yX10_daysOfSet ∈ GW := List.mem_filter.mpr ⟨List.mem_of_getElem? (i := 1440) (by decide +kernel), rfl⟩
theorem gw1442 : Cond.instanceMethod yX10_daysOfSet ∈ GW := List.mem_filter.mpr ⟨List.mem_of_getElem? (i := 1442) (by decide +kernel), rfl⟩
theorem gw1443 : Cond.code yX10_daysOfSet cX10_daysOfSet 4 (some .int) ∈ GW := List.mem_filter.mpr ⟨List.mem_of_getElem? (i := 1443) (by decide +kernel), rfl⟩
theorem gw1444 : Cond.methodLink "TrueLedgerModel" 296 yX10_costBy ∈ GW := List.mem_filter.mpr ⟨List.mem_of_getElem? (i := 1444) (by decide +kernel), rfl⟩
theorem gw1446 : Cond.instanceMethod yX10_costBy ∈ GW := List.mem_filter.mpr ⟨List.mem_of_getElem? (i := 1446) (by decide +kernel), rfl⟩
theorem gw1447 : Cond.code yX10_costBy cX10_costBy 4 (some .int) ∈ GW := List.mem_filter.mpr ⟨List.mem_of_getElem? (i := 1447) (by decide +kernel), rfl⟩
theorem gw1460 : Cond.methodLink "TrueLedgerModel" 300 yX10_lacks ∈ GW := List.mem_filter.mpr ⟨List.mem_of_getElem? (i := 1460) (by decide +kernel), rfl⟩
theorem gw1462 : Cond.instanceMethod yX10_lacks ∈ GW := List.mem_filter.mpr ⟨List.mem_of_getElem? (i := 1462) (by decide +kernel), rfl⟩
theorem gw1463 : Cond.code yX10_lacks cX10_lacks 4 (some .int) ∈ GW := List.mem_filter.mpr ⟨List.mem_of_getElem? (i := 1463) (by decide +kernel), rfl⟩
theorem gw1464 : Cond.methodLink "TrueLedgerModel" 303 yX10_lay ∈ GW := List.mem_filter.mpr ⟨List.mem_of_getElem? (i := 1464) (by decide +kernel), rfl⟩
theorem gw1466 : Cond.instanceMethod yX10_lay ∈ GW := List.mem_filter.mpr ⟨List.mem_of_getElem? (i := 1466) (by decide +kernel), rfl⟩
theorem gw1467 : Cond.code yX10_lay cX10_lay 4 none ∈ GW := List.mem_filter.mpr ⟨List.mem_of_getElem? (i := 1467) (by decide +kernel), rfl⟩
theorem gw1472 : Cond.constant "TrueLedgerModel" 306 (-2147483648) ∈ GW := List.mem_filter.mpr ⟨List.mem_of_getElem? (i := 1472) (by decide +kernel), rfl⟩
theorem gw1482 : Cond.instanceMethod yX10_count ∈ GW := List.mem_filter.mpr ⟨List.mem_of_getElem? (i := 1482) (by decide +kernel), rfl⟩
theorem gw1483 : Cond.selects yX10_count.cls yX10_count yX10_count ∈ GW := List.mem_filter.mpr ⟨List.mem_of_getElem? (i := 1483) (by decide +kernel), rfl⟩
theorem gw1484 : Cond.code yX10_count cX10_count 4 (some .int) ∈ GW := List.mem_filter.mpr ⟨List.mem_of_getElem? (i := 1484) (by decide +kernel), rfl⟩
theorem gw1489 : Cond.constantLong "TrueLedgerModel" 307 17 ∈ GW := List.mem_filter.mpr ⟨List.mem_of_getElem? (i := 1489) (by decide +kernel), rfl⟩
theorem gw1490 : Cond.constantLong "TrueLedgerModel" 309 31 ∈ GW := List.mem_filter.mpr ⟨List.mem_of_getElem? (i := 1490) (by decide +kernel), rfl⟩
theorem gw1491 : Cond.methodLink "TrueLedgerModel" 311 yX10_count ∈ GW := List.mem_filter.mpr ⟨List.mem_of_getElem? (i := 1491) (by decide +kernel), rfl⟩
theorem gw1492 : Cond.fieldLink "java/lang/String" 15 "java/lang/String" "coder" "B" ∈ GW := List.mem_filter.mpr ⟨List.mem_of_getElem? (i := 1492) (by decide +kernel), rfl⟩
theorem gw1493 : Cond.fieldLink "java/lang/String" 9 "java/lang/String" "value" "[B" ∈ GW := List.mem_filter.mpr ⟨List.mem_of_getElem? (i := 1493) (by decide +kernel), rfl⟩
theorem gw15 : Cond.selects yX9_finding.cls yX9_finding yX9_finding ∈ GW := List.mem_filter.mpr ⟨List.mem_of_getElem? (i := 15) (by decide +kernel), rfl⟩
theorem gw155 : Cond.fieldLink "TrueLedger$Filler" 9 "TrueLedger$Filler" "row" "[I" ∈ GW := List.mem_filter.mpr ⟨List.mem_of_getElem? (i := 155) (by decide +kernel), rfl⟩
theorem gw156 : Cond.fieldLink "TrueLedger$Filler" 15 "TrueLedger$Filler" "lostAt" "[I" ∈ GW := List.mem_filter.mpr ⟨List.mem_of_getElem? (i := 156) (by decide +kernel), rfl⟩
theorem gw157 : Cond.fieldLink "TrueLedger$Filler" 18 "TrueLedger$Filler" "plain" "[I" ∈ GW := List.mem_filter.mpr ⟨List.mem_of_getElem? (i := 157) (by decide +kernel), rfl⟩
theorem gw158 : Cond.fieldLink "TrueLedger$Filler" 23 "TrueLedger$Filler" "posted" "[[I" ∈ GW := List.mem_filter.mpr ⟨List.mem_of_getElem? (i := 158) (by decide +kernel), rfl⟩
theorem gw159 : Cond.fieldLink "TrueLedger$Filler" 26 "TrueLedger$Filler" "postedCount" "[I" ∈ GW := List.mem_filter.mpr ⟨List.mem_of_getElem? (i := 159) (by decide +kernel), rfl⟩
theorem gw16 : Cond.selects yX9_judge.cls yX9_judge yX9_judge ∈ GW := List.mem_filter.mpr ⟨List.mem_of_getElem? (i := 16) (by decide +kernel), rfl⟩
theorem gw160 : Cond.fieldLink "TrueLedger$Filler" 29 "TrueLedger$Filler" "likeEvent" "[I" ∈ GW := List.mem_filter.mpr ⟨List.mem_of_getElem? (i := 160) (by decide +kernel), rfl⟩
theorem gw161 : Cond.fieldLink "TrueLedger$Filler" 32 "TrueLedger$Filler" "causesOfFill" "[B" ∈ GW := List.mem_filter.mpr ⟨List.mem_of_getElem? (i := 161) (by decide +kernel), rfl⟩
theorem gw162 : Cond.fieldLink "TrueLedger$Filler" 36 "TrueLedger$Filler" "causesOfCell" "[B" ∈ GW := List.mem_filter.mpr ⟨List.mem_of_getElem? (i := 162) (by decide +kernel), rfl⟩
theorem gw163 : Cond.fieldLink "TrueLedger$Filler" 39 "TrueLedger$Filler" "length" "I" ∈ GW := List.mem_filter.mpr ⟨List.mem_of_getElem? (i := 163) (by decide +kernel), rfl⟩
theorem gw164 : Cond.fieldLink "TrueLedger$Filler" 43 "TrueLedger$Filler" "lost" "I" ∈ GW := List.mem_filter.mpr ⟨List.mem_of_getElem? (i := 164) (by decide +kernel), rfl⟩
theorem gw165 : Cond.fieldLink "TrueLedger$Filler" 46 "TrueLedger$Filler" "plainUpTo" "I" ∈ GW := List.mem_filter.mpr ⟨List.mem_of_getElem? (i := 165) (by decide +kernel), rfl⟩
theorem gw166 : Cond.fieldLink "TrueLedger$Filler" 49 "TrueLedger$Filler" "postedUpTo" "I" ∈ GW := List.mem_filter.mpr ⟨List.mem_of_getElem? (i := 166) (by decide +kernel), rfl⟩
theorem gw17 : Cond.selects yX2_begin.cls yX2_begin yX2_begin ∈ GW := List.mem_filter.mpr ⟨List.mem_of_getElem? (i := 17) (by decide +kernel), rfl⟩
theorem gw18 : Cond.selects yX2_postFromAfar.cls yX2_postFromAfar yX2_postFromAfar ∈ GW := List.mem_filter.mpr ⟨List.mem_of_getElem? (i := 18) (by decide +kernel), rfl⟩
theorem gw19 : Cond.selects yX2_addPosted.cls yX2_addPosted yX2_addPosted ∈ GW := List.mem_filter.mpr ⟨List.mem_of_getElem? (i := 19) (by decide +kernel), rfl⟩
theorem gw199 : Cond.fieldLink "TrueLedger$Paid" 9 "TrueLedger$Paid" "payers" "[I" ∈ GW := List.mem_filter.mpr ⟨List.mem_of_getElem? (i := 199) (by decide +kernel), rfl⟩
theorem gw2 : Cond.selects yX8_readLines.cls yX8_readLines yX8_readLines ∈ GW := List.mem_filter.mpr ⟨List.mem_of_getElem? (i := 2) (by decide +kernel), rfl⟩
theorem gw20 : Cond.selects yX2_findLikeEvents.cls yX2_findLikeEvents yX2_findLikeEvents ∈ GW := List.mem_filter.mpr ⟨List.mem_of_getElem? (i := 20) (by decide +kernel), rfl⟩
theorem gw200 : Cond.fieldLink "TrueLedger$Paid" 15 "TrueLedger$Paid" "paidOn" "[I" ∈ GW := List.mem_filter.mpr ⟨List.mem_of_getElem? (i := 200) (by decide +kernel), rfl⟩
theorem gw201 : Cond.fieldLink "TrueLedger$Paid" 18 "TrueLedger$Paid" "paidCoins" "[I" ∈ GW := List.mem_filter.mpr ⟨List.mem_of_getElem? (i := 201) (by decide +kernel), rfl⟩
theorem gw202 : Cond.fieldLink "TrueLedger$Paid" 21 "TrueLedger$Paid" "size" "I" ∈ GW := List.mem_filter.mpr ⟨List.mem_of_getElem? (i := 202) (by decide +kernel), rfl⟩
theorem gw204 : Cond.fieldLink "TrueLedger$Paid" 25 "TrueLedger$Paid" "interest" "I" ∈ GW := List.mem_filter.mpr ⟨List.mem_of_getElem? (i := 204) (by decide +kernel), rfl⟩
theorem gw21 : Cond.selects yX2_likeFill.cls yX2_likeFill yX2_likeFill ∈ GW := List.mem_filter.mpr ⟨List.mem_of_getElem? (i := 21) (by decide +kernel), rfl⟩
theorem gw22 : Cond.selects yX2_causesOfRow.cls yX2_causesOfRow yX2_causesOfRow ∈ GW := List.mem_filter.mpr ⟨List.mem_of_getElem? (i := 22) (by decide +kernel), rfl⟩
theorem gw223 : Cond.fieldLink "TrueLedger$Court" 9 "TrueLedger$Court" "allOf" "[I" ∈ GW := List.mem_filter.mpr ⟨List.mem_of_getElem? (i := 223) (by decide +kernel), rfl⟩
theorem gw224 : Cond.fieldLink "TrueLedger$Court" 15 "TrueLedger$Court" "oneOf" "[I" ∈ GW := List.mem_filter.mpr ⟨List.mem_of_getElem? (i := 224) (by decide +kernel), rfl⟩
theorem gw225 : Cond.fieldLink "TrueLedger$Court" 18 "TrueLedger$Court" "size" "I" ∈ GW := List.mem_filter.mpr ⟨List.mem_of_getElem? (i := 225) (by decide +kernel), rfl⟩
theorem gw23 : Cond.selects yX2_give.cls yX2_give yX2_give ∈ GW := List.mem_filter.mpr ⟨List.mem_of_getElem? (i := 23) (by decide +kernel), rfl⟩
theorem gw24 : Cond.selects yX2_shiftOf.cls yX2_shiftOf yX2_shiftOf ∈ GW := List.mem_filter.mpr ⟨List.mem_of_getElem? (i := 24) (by decide +kernel), rfl⟩
theorem gw243 : Cond.fieldLink "TrueLedger$Version" 9 "TrueLedger$Version" "text" "[I" ∈ GW := List.mem_filter.mpr ⟨List.mem_of_getElem? (i := 243) (by decide +kernel), rfl⟩
theorem gw244 : Cond.fieldLink "TrueLedger$Version" 15 "TrueLedger$Version" "codes" "[I" ∈ GW := List.mem_filter.mpr ⟨List.mem_of_getElem? (i := 244) (by decide +kernel), rfl⟩
theorem gw246 : Cond.fieldLink "TrueLedger$Version" 18 "TrueLedger$Version" "firstCode" "[I" ∈ GW := List.mem_filter.mpr ⟨List.mem_of_getElem? (i := 246) (by decide +kernel), rfl⟩
theorem gw248 : Cond.fieldLink "TrueLedger$Version" 21 "TrueLedger$Version" "actCount" "[I" ∈ GW := List.mem_filter.mpr ⟨List.mem_of_getElem? (i := 248) (by decide +kernel), rfl⟩
theorem gw25 : Cond.selects yX2_runPlain.cls yX2_runPlain yX2_runPlain ∈ GW := List.mem_filter.mpr ⟨List.mem_of_getElem? (i := 25) (by decide +kernel), rfl⟩
theorem gw251 : Cond.fieldLink "TrueLedger$Version" 24 "TrueLedger$Version" "actsFrom" "[I" ∈ GW := List.mem_filter.mpr ⟨List.mem_of_getElem? (i := 251) (by decide +kernel), rfl⟩
theorem gw252 : Cond.fieldLink "TrueLedger$Version" 27 "TrueLedger$Version" "actsTo" "[I" ∈ GW := List.mem_filter.mpr ⟨List.mem_of_getElem? (i := 252) (by decide +kernel), rfl⟩
theorem gw253 : Cond.fieldLink "TrueLedger$Version" 30 "TrueLedger$Version" "length" "I" ∈ GW := List.mem_filter.mpr ⟨List.mem_of_getElem? (i := 253) (by decide +kernel), rfl⟩
theorem gw255 : Cond.fieldLink "TrueLedger$Version" 34 "TrueLedger$Version" "faultPlace" "I" ∈ GW := List.mem_filter.mpr ⟨List.mem_of_getElem? (i := 255) (by decide +kernel), rfl⟩
theorem gw257 : Cond.fieldLink "TrueLedger$Version" 37 "TrueLedger$Version" "revision" "I" ∈ GW := List.mem_filter.mpr ⟨List.mem_of_getElem? (i := 257) (by decide +kernel), rfl⟩
theorem gw259 : Cond.fieldLink "TrueLedger$Version" 40 "TrueLedger$Version" "isRead" "Z" ∈ GW := List.mem_filter.mpr ⟨List.mem_of_getElem? (i := 259) (by decide +kernel), rfl⟩
theorem gw26 : Cond.selects yX2_runPosted.cls yX2_runPosted yX2_runPosted ∈ GW := List.mem_filter.mpr ⟨List.mem_of_getElem? (i := 26) (by decide +kernel), rfl⟩
theorem gw27 : Cond.selects yX2_isPostedTo.cls yX2_isPostedTo yX2_isPostedTo ∈ GW := List.mem_filter.mpr ⟨List.mem_of_getElem? (i := 27) (by decide +kernel), rfl⟩
theorem gw28 : Cond.selects yX2_fewestPages.cls yX2_fewestPages yX2_fewestPages ∈ GW := List.mem_filter.mpr ⟨List.mem_of_getElem? (i := 28) (by decide +kernel), rfl⟩
theorem gw287 : Cond.fieldLink "TrueLedger$Mix" 9 "TrueLedger$Mix" "registers" "[I" ∈ GW := List.mem_filter.mpr ⟨List.mem_of_getElem? (i := 287) (by decide +kernel), rfl⟩
theorem gw288 : Cond.fieldLink "TrueLedger$Mix" 19 "TrueLedger$Mix" "first" "LTrueLedger$Version;" ∈ GW := List.mem_filter.mpr ⟨List.mem_of_getElem? (i := 288) (by decide +kernel), rfl⟩
theorem gw29 : Cond.selects yX2_settles.cls yX2_settles yX2_settles ∈ GW := List.mem_filter.mpr ⟨List.mem_of_getElem? (i := 29) (by decide +kernel), rfl⟩
theorem gw290 : Cond.fieldLink "TrueLedger$Mix" 23 "TrueLedger$Mix" "second" "LTrueLedger$Version;" ∈ GW := List.mem_filter.mpr ⟨List.mem_of_getElem? (i := 290) (by decide +kernel), rfl⟩
theorem gw291 : Cond.fieldLink "TrueLedger$Mix" 15 "TrueLedger$Mix" "secondLines" "I" ∈ GW := List.mem_filter.mpr ⟨List.mem_of_getElem? (i := 291) (by decide +kernel), rfl⟩
theorem gw3 : Cond.selects yX9_setMix.cls yX9_setMix yX9_setMix ∈ GW := List.mem_filter.mpr ⟨List.mem_of_getElem? (i := 3) (by decide +kernel), rfl⟩
theorem gw30 : Cond.selects yX0_holdsAt.cls yX0_holdsAt yX0_holdsAt ∈ GW := List.mem_filter.mpr ⟨List.mem_of_getElem? (i := 30) (by decide +kernel), rfl⟩
theorem gw307 : Cond.fieldLink "TrueLedger$Sheet" 9 "TrueLedger$Sheet" "items" "[I" ∈ GW := List.mem_filter.mpr ⟨List.mem_of_getElem? (i := 307) (by decide +kernel), rfl⟩
theorem gw31 : Cond.selects yX9_owedOn.cls yX9_owedOn yX9_owedOn ∈ GW := List.mem_filter.mpr ⟨List.mem_of_getElem? (i := 31) (by decide +kernel), rfl⟩
theorem gw310 : Cond.fieldLink "TrueLedger$Sheet" 15 "TrueLedger$Sheet" "isLost" "Z" ∈ GW := List.mem_filter.mpr ⟨List.mem_of_getElem? (i := 310) (by decide +kernel), rfl⟩
theorem gw312 : Cond.fieldLink "TrueLedger$Sheet" 19 "TrueLedger$Sheet" "type" "I" ∈ GW := List.mem_filter.mpr ⟨List.mem_of_getElem? (i := 312) (by decide +kernel), rfl⟩
theorem gw314 : Cond.fieldLink "TrueLedger$Sheet" 23 "TrueLedger$Sheet" "length" "I" ∈ GW := List.mem_filter.mpr ⟨List.mem_of_getElem? (i := 314) (by decide +kernel), rfl⟩
theorem gw32 : Cond.selects yX9_enqueue.cls yX9_enqueue yX9_enqueue ∈ GW := List.mem_filter.mpr ⟨List.mem_of_getElem? (i := 32) (by decide +kernel), rfl⟩
theorem gw325 : Cond.fieldLink "TrueLedger" 11 "TrueLedger" "versions" "[LTrueLedger$Version;" ∈ GW := List.mem_filter.mpr ⟨List.mem_of_getElem? (i := 325) (by decide +kernel), rfl⟩
theorem gw326 : Cond.fieldLink "TrueLedger" 17 "TrueLedger" "counters" "[LTrueLedger$Counter;" ∈ GW := List.mem_filter.mpr ⟨List.mem_of_getElem? (i := 326) (by decide +kernel), rfl⟩
theorem gw327 : Cond.fieldLink "TrueLedger" 23 "TrueLedger" "sheets" "[LTrueLedger$Sheet;" ∈ GW := List.mem_filter.mpr ⟨List.mem_of_getElem? (i := 327) (by decide +kernel), rfl⟩
theorem gw328 : Cond.fieldLink "TrueLedger" 27 "TrueLedger" "queue" "[I" ∈ GW := List.mem_filter.mpr ⟨List.mem_of_getElem? (i := 328) (by decide +kernel), rfl⟩
theorem gw329 : Cond.fieldLink "TrueLedger" 85 "TrueLedger" "mix" "LTrueLedger$Mix;" ∈ GW := List.mem_filter.mpr ⟨List.mem_of_getElem? (i := 329) (by decide +kernel), rfl⟩
theorem gw33 : Cond.selects yX9_isBefore.cls yX9_isBefore yX9_isBefore ∈ GW := List.mem_filter.mpr ⟨List.mem_of_getElem? (i := 33) (by decide +kernel), rfl⟩
theorem gw330 : Cond.fieldLink "TrueLedger" 34 "TrueLedger" "search" "LTrueLedger$Search;" ∈ GW := List.mem_filter.mpr ⟨List.mem_of_getElem? (i := 330) (by decide +kernel), rfl⟩
theorem gw331 : Cond.fieldLink "TrueLedger" 41 "TrueLedger" "mender" "LTrueLedger$Mender;" ∈ GW := List.mem_filter.mpr ⟨List.mem_of_getElem? (i := 331) (by decide +kernel), rfl⟩
theorem gw332 : Cond.fieldLink "TrueLedger" 48 "TrueLedger" "filler" "LTrueLedger$Filler;" ∈ GW := List.mem_filter.mpr ⟨List.mem_of_getElem? (i := 332) (by decide +kernel), rfl⟩
theorem gw333 : Cond.fieldLink "TrueLedger" 55 "TrueLedger" "paid" "LTrueLedger$Paid;" ∈ GW := List.mem_filter.mpr ⟨List.mem_of_getElem? (i := 333) (by decide +kernel), rfl⟩
theorem gw334 : Cond.fieldLink "TrueLedger" 62 "TrueLedger" "court" "LTrueLedger$Court;" ∈ GW := List.mem_filter.mpr ⟨List.mem_of_getElem? (i := 334) (by decide +kernel), rfl⟩
theorem gw335 : Cond.fieldLink "TrueLedger" 66 "TrueLedger" "counterCount" "I" ∈ GW := List.mem_filter.mpr ⟨List.mem_of_getElem? (i := 335) (by decide +kernel), rfl⟩
theorem gw336 : Cond.fieldLink "TrueLedger" 70 "TrueLedger" "latestFinding" "I" ∈ GW := List.mem_filter.mpr ⟨List.mem_of_getElem? (i := 336) (by decide +kernel), rfl⟩
theorem gw337 : Cond.fieldLink "TrueLedger" 73 "TrueLedger" "soughtMix" "I" ∈ GW := List.mem_filter.mpr ⟨List.mem_of_getElem? (i := 337) (by decide +kernel), rfl⟩
theorem gw338 : Cond.fieldLink "TrueLedger" 76 "TrueLedger" "partingLength" "I" ∈ GW := List.mem_filter.mpr ⟨List.mem_of_getElem? (i := 338) (by decide +kernel), rfl⟩
theorem gw34 : Cond.selects yX9_costOfQueue.cls yX9_costOfQueue yX9_costOfQueue ∈ GW := List.mem_filter.mpr ⟨List.mem_of_getElem? (i := 34) (by decide +kernel), rfl⟩
theorem gw35 : Cond.selects yX9_countBytes.cls yX9_countBytes yX9_countBytes ∈ GW := List.mem_filter.mpr ⟨List.mem_of_getElem? (i := 35) (by decide +kernel), rfl⟩
theorem gw36 : Cond.selects yX9_countLogged.cls yX9_countLogged yX9_countLogged ∈ GW := List.mem_filter.mpr ⟨List.mem_of_getElem? (i := 36) (by decide +kernel), rfl⟩
theorem gw37 : Cond.selects yX9_countShort.cls yX9_countShort yX9_countShort ∈ GW := List.mem_filter.mpr ⟨List.mem_of_getElem? (i := 37) (by decide +kernel), rfl⟩
theorem gw372 : Cond.methodLink "TrueLedger" 90 yX9_versionAt ∈ GW := List.mem_filter.mpr ⟨List.mem_of_getElem? (i := 372) (by decide +kernel), rfl⟩
theorem gw374 : Cond.instanceMethod yX9_versionAt ∈ GW := List.mem_filter.mpr ⟨List.mem_of_getElem? (i := 374) (by decide +kernel), rfl⟩
theorem gw375 : Cond.code yX9_versionAt cX9_versionAt 2 (some (.object "TrueLedger$Version")) ∈ GW := List.mem_filter.mpr ⟨List.mem_of_getElem? (i := 375) (by decide +kernel), rfl⟩
theorem gw376 : Cond.methodLink "TrueLedger" 94 yX8_append ∈ GW := List.mem_filter.mpr ⟨List.mem_of_getElem? (i := 376) (by decide +kernel), rfl⟩
theorem gw377 : Cond.instanceMethod yX8_append ∈ GW := List.mem_filter.mpr ⟨List.mem_of_getElem? (i := 377) (by decide +kernel), rfl⟩
theorem gw378 : Cond.selects yX8_append.cls yX8_append yX8_append ∈ GW := List.mem_filter.mpr ⟨List.mem_of_getElem? (i := 378) (by decide +kernel), rfl⟩
theorem gw379 : Cond.code yX8_append cX8_append 2 (some .int) ∈ GW := List.mem_filter.mpr ⟨List.mem_of_getElem? (i := 379) (by decide +kernel), rfl⟩
theorem gw38 : Cond.selects yX10_faultOf.cls yX10_faultOf yX10_faultOf ∈ GW := List.mem_filter.mpr ⟨List.mem_of_getElem? (i := 38) (by decide +kernel), rfl⟩
theorem gw384 : Cond.methodLink "TrueLedger" 98 yX8_empty ∈ GW := List.mem_filter.mpr ⟨List.mem_of_getElem? (i := 384) (by decide +kernel), rfl⟩
theorem gw385 : Cond.instanceMethod yX8_empty ∈ GW := List.mem_filter.mpr ⟨List.mem_of_getElem? (i := 385) (by decide +kernel), rfl⟩
theorem gw386 : Cond.selects yX8_empty.cls yX8_empty yX8_empty ∈ GW := List.mem_filter.mpr ⟨List.mem_of_getElem? (i := 386) (by decide +kernel), rfl⟩
theorem gw387 : Cond.code yX8_empty cX8_empty 2 (some .int) ∈ GW := List.mem_filter.mpr ⟨List.mem_of_getElem? (i := 387) (by decide +kernel), rfl⟩
theorem gw389 : Cond.instanceMethod yX9_fault ∈ GW := List.mem_filter.mpr ⟨List.mem_of_getElem? (i := 389) (by decide +kernel), rfl⟩
theorem gw39 : Cond.selects yX10_reads.cls yX10_reads yX10_reads ∈ GW := List.mem_filter.mpr ⟨List.mem_of_getElem? (i := 39) (by decide +kernel), rfl⟩
theorem gw390 : Cond.selects yX9_fault.cls yX9_fault yX9_fault ∈ GW := List.mem_filter.mpr ⟨List.mem_of_getElem? (i := 390) (by decide +kernel), rfl⟩
theorem gw391 : Cond.code yX9_fault cX9_fault 3 (some .int) ∈ GW := List.mem_filter.mpr ⟨List.mem_of_getElem? (i := 391) (by decide +kernel), rfl⟩
theorem gw392 : Cond.methodLink "TrueLedger" 102 yX8_read ∈ GW := List.mem_filter.mpr ⟨List.mem_of_getElem? (i := 392) (by decide +kernel), rfl⟩
theorem gw393 : Cond.instanceMethod yX8_read ∈ GW := List.mem_filter.mpr ⟨List.mem_of_getElem? (i := 393) (by decide +kernel), rfl⟩
theorem gw394 : Cond.selects yX8_read.cls yX8_read yX8_read ∈ GW := List.mem_filter.mpr ⟨List.mem_of_getElem? (i := 394) (by decide +kernel), rfl⟩
theorem gw395 : Cond.code yX8_read cX8_read 1 none ∈ GW := List.mem_filter.mpr ⟨List.mem_of_getElem? (i := 395) (by decide +kernel), rfl⟩
theorem gw396 : Cond.methodLink "TrueLedger$Version" 44 yJ7_fill_53178 ∈ GW := List.mem_filter.mpr ⟨List.mem_of_getElem? (i := 396) (by decide +kernel), rfl⟩
theorem gw397 : Cond.static yJ7_fill_53178 ∈ GW := List.mem_filter.mpr ⟨List.mem_of_getElem? (i := 397) (by decide +kernel), rfl⟩
theorem gw398 : Cond.code yJ7_fill_53178 cJ7_fill_53178 4 none ∈ GW := List.mem_filter.mpr ⟨List.mem_of_getElem? (i := 398) (by decide +kernel), rfl⟩
theorem gw399 : Cond.methodLink "TrueLedger$Version" 50 yX8_findFault ∈ GW := List.mem_filter.mpr ⟨List.mem_of_getElem? (i := 399) (by decide +kernel), rfl⟩
theorem gw4 : Cond.selects yX9_sheetAt.cls yX9_sheetAt yX9_sheetAt ∈ GW := List.mem_filter.mpr ⟨List.mem_of_getElem? (i := 4) (by decide +kernel), rfl⟩
theorem gw40 : Cond.selects yX10_noLines.cls yX10_noLines yX10_noLines ∈ GW := List.mem_filter.mpr ⟨List.mem_of_getElem? (i := 40) (by decide +kernel), rfl⟩
theorem gw401 : Cond.instanceMethod yX8_findFault ∈ GW := List.mem_filter.mpr ⟨List.mem_of_getElem? (i := 401) (by decide +kernel), rfl⟩
theorem gw402 : Cond.code yX8_findFault cX8_findFault 3 (some .int) ∈ GW := List.mem_filter.mpr ⟨List.mem_of_getElem? (i := 402) (by decide +kernel), rfl⟩
theorem gw403 : Cond.methodLink "TrueLedger$Version" 57 yX8_stepBehind ∈ GW := List.mem_filter.mpr ⟨List.mem_of_getElem? (i := 403) (by decide +kernel), rfl⟩
theorem gw404 : Cond.static yX8_stepBehind ∈ GW := List.mem_filter.mpr ⟨List.mem_of_getElem? (i := 404) (by decide +kernel), rfl⟩
theorem gw405 : Cond.code yX8_stepBehind cX8_stepBehind 4 (some .int) ∈ GW := List.mem_filter.mpr ⟨List.mem_of_getElem? (i := 405) (by decide +kernel), rfl⟩
theorem gw407 : Cond.methodLink "TrueLedger$Version" 63 yJ0_indexOf_0f7a4 ∈ GW := List.mem_filter.mpr ⟨List.mem_of_getElem? (i := 407) (by decide +kernel), rfl⟩
theorem gw408 : Cond.instanceMethod yJ0_indexOf_0f7a4 ∈ GW := List.mem_filter.mpr ⟨List.mem_of_getElem? (i := 408) (by decide +kernel), rfl⟩
theorem gw409 : Cond.selects yJ0_indexOf_0f7a4.cls yJ0_indexOf_0f7a4 yJ0_indexOf_0f7a4 ∈ GW := List.mem_filter.mpr ⟨List.mem_of_getElem? (i := 409) (by decide +kernel), rfl⟩
theorem gw41 : Cond.selects yX10_part.cls yX10_part yX10_part ∈ GW := List.mem_filter.mpr ⟨List.mem_of_getElem? (i := 41) (by decide +kernel), rfl⟩
theorem gw410 : Cond.code yJ0_indexOf_0f7a4 cJ0_indexOf_0f7a4 2 (some .int) ∈ GW := List.mem_filter.mpr ⟨List.mem_of_getElem? (i := 410) (by decide +kernel), rfl⟩
theorem gw411 : Cond.methodLink "java/lang/String" 633 yJ0_indexOf_7cf53 ∈ GW := List.mem_filter.mpr ⟨List.mem_of_getElem? (i := 411) (by decide +kernel), rfl⟩
theorem gw412 : Cond.instanceMethod yJ0_indexOf_7cf53 ∈ GW := List.mem_filter.mpr ⟨List.mem_of_getElem? (i := 412) (by decide +kernel), rfl⟩
theorem gw413 : Cond.selects yJ0_indexOf_7cf53.cls yJ0_indexOf_7cf53 yJ0_indexOf_7cf53 ∈ GW := List.mem_filter.mpr ⟨List.mem_of_getElem? (i := 413) (by decide +kernel), rfl⟩
theorem gw414 : Cond.code yJ0_indexOf_7cf53 cJ0_indexOf_7cf53 3 (some .int) ∈ GW := List.mem_filter.mpr ⟨List.mem_of_getElem? (i := 414) (by decide +kernel), rfl⟩
theorem gw415 : Cond.methodLink "java/lang/String" 492 yJ0_isLatin1_aae02 ∈ GW := List.mem_filter.mpr ⟨List.mem_of_getElem? (i := 415) (by decide +kernel), rfl⟩
theorem gw416 : Cond.instanceMethod yJ0_isLatin1_aae02 ∈ GW := List.mem_filter.mpr ⟨List.mem_of_getElem? (i := 416) (by decide +kernel), rfl⟩
theorem gw417 : Cond.selects yJ0_isLatin1_aae02.cls yJ0_isLatin1_aae02 yJ0_isLatin1_aae02 ∈ GW := List.mem_filter.mpr ⟨List.mem_of_getElem? (i := 417) (by decide +kernel), rfl⟩
theorem gw418 : Cond.code yJ0_isLatin1_aae02 cJ0_isLatin1_aae02 1 (some .boolean) ∈ GW := List.mem_filter.mpr ⟨List.mem_of_getElem? (i := 418) (by decide +kernel), rfl⟩
theorem gw419 : Cond.fieldLink "java/lang/String" 38 "java/lang/String" "COMPACT_STRINGS" "Z" ∈ GW := List.mem_filter.mpr ⟨List.mem_of_getElem? (i := 419) (by decide +kernel), rfl⟩
theorem gw42 : Cond.selects yX10_byteNow.cls yX10_byteNow yX10_byteNow ∈ GW := List.mem_filter.mpr ⟨List.mem_of_getElem? (i := 42) (by decide +kernel), rfl⟩
theorem gw421 : Cond.methodLink "java/lang/String" 505 yJ0_length_8abf5 ∈ GW := List.mem_filter.mpr ⟨List.mem_of_getElem? (i := 421) (by decide +kernel), rfl⟩
theorem gw422 : Cond.instanceMethod yJ0_length_8abf5 ∈ GW := List.mem_filter.mpr ⟨List.mem_of_getElem? (i := 422) (by decide +kernel), rfl⟩
theorem gw423 : Cond.selects yJ0_length_8abf5.cls yJ0_length_8abf5 yJ0_length_8abf5 ∈ GW := List.mem_filter.mpr ⟨List.mem_of_getElem? (i := 423) (by decide +kernel), rfl⟩
theorem gw424 : Cond.code yJ0_length_8abf5 cJ0_length_8abf5 1 (some .int) ∈ GW := List.mem_filter.mpr ⟨List.mem_of_getElem? (i := 424) (by decide +kernel), rfl⟩
theorem gw425 : Cond.methodLink "java/lang/String" 335 yJ0_coder_7d493 ∈ GW := List.mem_filter.mpr ⟨List.mem_of_getElem? (i := 425) (by decide +kernel), rfl⟩
theorem gw426 : Cond.instanceMethod yJ0_coder_7d493 ∈ GW := List.mem_filter.mpr ⟨List.mem_of_getElem? (i := 426) (by decide +kernel), rfl⟩
theorem gw427 : Cond.selects yJ0_coder_7d493.cls yJ0_coder_7d493 yJ0_coder_7d493 ∈ GW := List.mem_filter.mpr ⟨List.mem_of_getElem? (i := 427) (by decide +kernel), rfl⟩
theorem gw428 : Cond.code yJ0_coder_7d493 cJ0_coder_7d493 1 (some .byte) ∈ GW := List.mem_filter.mpr ⟨List.mem_of_getElem? (i := 428) (by decide +kernel), rfl⟩
theorem gw429 : Cond.methodLink "java/lang/String" 637 yJ1_indexOf_4cfef ∈ GW := List.mem_filter.mpr ⟨List.mem_of_getElem? (i := 429) (by decide +kernel), rfl⟩
theorem gw43 : Cond.selects yX10_mode.cls yX10_mode yX10_mode ∈ GW := List.mem_filter.mpr ⟨List.mem_of_getElem? (i := 43) (by decide +kernel), rfl⟩
theorem gw430 : Cond.static yJ1_indexOf_4cfef ∈ GW := List.mem_filter.mpr ⟨List.mem_of_getElem? (i := 430) (by decide +kernel), rfl⟩
theorem gw431 : Cond.code yJ1_indexOf_4cfef cJ1_indexOf_4cfef 4 (some .int) ∈ GW := List.mem_filter.mpr ⟨List.mem_of_getElem? (i := 431) (by decide +kernel), rfl⟩
theorem gw432 : Cond.methodLink "java/lang/StringLatin1" 88 yJ1_canEncode_9a6ad ∈ GW := List.mem_filter.mpr ⟨List.mem_of_getElem? (i := 432) (by decide +kernel), rfl⟩
theorem gw433 : Cond.static yJ1_canEncode_9a6ad ∈ GW := List.mem_filter.mpr ⟨List.mem_of_getElem? (i := 433) (by decide +kernel), rfl⟩
theorem gw434 : Cond.code yJ1_canEncode_9a6ad cJ1_canEncode_9a6ad 1 (some .boolean) ∈ GW := List.mem_filter.mpr ⟨List.mem_of_getElem? (i := 434) (by decide +kernel), rfl⟩
theorem gw435 : Cond.methodLink "java/lang/StringLatin1" 92 yJ9_max_7cf53 ∈ GW := List.mem_filter.mpr ⟨List.mem_of_getElem? (i := 435) (by decide +kernel), rfl⟩
theorem gw436 : Cond.static yJ9_max_7cf53 ∈ GW := List.mem_filter.mpr ⟨List.mem_of_getElem? (i := 436) (by decide +kernel), rfl⟩
theorem gw437 : Cond.code yJ9_max_7cf53 cJ9_max_7cf53 2 (some .int) ∈ GW := List.mem_filter.mpr ⟨List.mem_of_getElem? (i := 437) (by decide +kernel), rfl⟩
theorem gw438 : Cond.methodLink "java/lang/StringLatin1" 38 yJ9_min_7cf53 ∈ GW := List.mem_filter.mpr ⟨List.mem_of_getElem? (i := 438) (by decide +kernel), rfl⟩
theorem gw439 : Cond.static yJ9_min_7cf53 ∈ GW := List.mem_filter.mpr ⟨List.mem_of_getElem? (i := 439) (by decide +kernel), rfl⟩
theorem gw44 : Cond.selects yX10_act.cls yX10_act yX10_act ∈ GW := List.mem_filter.mpr ⟨List.mem_of_getElem? (i := 44) (by decide +kernel), rfl⟩
theorem gw440 : Cond.code yJ9_min_7cf53 cJ9_min_7cf53 2 (some .int) ∈ GW := List.mem_filter.mpr ⟨List.mem_of_getElem? (i := 440) (by decide +kernel), rfl⟩
theorem gw441 : Cond.methodLink "java/lang/StringLatin1" 95 yJ1_indexOfChar_4cfef ∈ GW := List.mem_filter.mpr ⟨List.mem_of_getElem? (i := 441) (by decide +kernel), rfl⟩
theorem gw442 : Cond.static yJ1_indexOfChar_4cfef ∈ GW := List.mem_filter.mpr ⟨List.mem_of_getElem? (i := 442) (by decide +kernel), rfl⟩
theorem gw443 : Cond.code yJ1_indexOfChar_4cfef cJ1_indexOfChar_4cfef 6 (some .int) ∈ GW := List.mem_filter.mpr ⟨List.mem_of_getElem? (i := 443) (by decide +kernel), rfl⟩
theorem gw45 : Cond.selects yX10_actsOf.cls yX10_actsOf yX10_actsOf ∈ GW := List.mem_filter.mpr ⟨List.mem_of_getElem? (i := 45) (by decide +kernel), rfl⟩
theorem gw46 : Cond.selects yX10_differOf.cls yX10_differOf yX10_differOf ∈ GW := List.mem_filter.mpr ⟨List.mem_of_getElem? (i := 46) (by decide +kernel), rfl⟩
theorem gw47 : Cond.selects yX10_areLike.cls yX10_areLike yX10_areLike ∈ GW := List.mem_filter.mpr ⟨List.mem_of_getElem? (i := 47) (by decide +kernel), rfl⟩
theorem gw48 : Cond.selects yX10_mixes.cls yX10_mixes yX10_mixes ∈ GW := List.mem_filter.mpr ⟨List.mem_of_getElem? (i := 48) (by decide +kernel), rfl⟩
theorem gw49 : Cond.selects yX10_begins.cls yX10_begins yX10_begins ∈ GW := List.mem_filter.mpr ⟨List.mem_of_getElem? (i := 49) (by decide +kernel), rfl⟩
theorem gw495 : Cond.methodLink "TrueLedger$Version" 54 yX8_readLines ∈ GW := List.mem_filter.mpr ⟨List.mem_of_getElem? (i := 495) (by decide +kernel), rfl⟩
theorem gw497 : Cond.instanceMethod yX8_readLines ∈ GW := List.mem_filter.mpr ⟨List.mem_of_getElem? (i := 497) (by decide +kernel), rfl⟩
theorem gw498 : Cond.code yX8_readLines cX8_readLines 7 none ∈ GW := List.mem_filter.mpr ⟨List.mem_of_getElem? (i := 498) (by decide +kernel), rfl⟩
theorem gw499 : Cond.methodLink "TrueLedger$Version" 73 yX8_valueOf ∈ GW := List.mem_filter.mpr ⟨List.mem_of_getElem? (i := 499) (by decide +kernel), rfl⟩
theorem gw5 : Cond.selects yX9_endOfRun.cls yX9_endOfRun yX9_endOfRun ∈ GW := List.mem_filter.mpr ⟨List.mem_of_getElem? (i := 5) (by decide +kernel), rfl⟩
theorem gw50 : Cond.selects yX10_goes.cls yX10_goes yX10_goes ∈ GW := List.mem_filter.mpr ⟨List.mem_of_getElem? (i := 50) (by decide +kernel), rfl⟩
theorem gw500 : Cond.static yX8_valueOf ∈ GW := List.mem_filter.mpr ⟨List.mem_of_getElem? (i := 500) (by decide +kernel), rfl⟩
theorem gw501 : Cond.code yX8_valueOf cX8_valueOf 2 (some .int) ∈ GW := List.mem_filter.mpr ⟨List.mem_of_getElem? (i := 501) (by decide +kernel), rfl⟩
theorem gw503 : Cond.instanceMethod yX9_acts ∈ GW := List.mem_filter.mpr ⟨List.mem_of_getElem? (i := 503) (by decide +kernel), rfl⟩
theorem gw504 : Cond.selects yX9_acts.cls yX9_acts yX9_acts ∈ GW := List.mem_filter.mpr ⟨List.mem_of_getElem? (i := 504) (by decide +kernel), rfl⟩
theorem gw505 : Cond.code yX9_acts cX9_acts 4 (some .int) ∈ GW := List.mem_filter.mpr ⟨List.mem_of_getElem? (i := 505) (by decide +kernel), rfl⟩
theorem gw51 : Cond.selects yX10_sets.cls yX10_sets yX10_sets ∈ GW := List.mem_filter.mpr ⟨List.mem_of_getElem? (i := 51) (by decide +kernel), rfl⟩
theorem gw510 : Cond.methodLink "TrueLedger" 111 yX9_linesUnlike ∈ GW := List.mem_filter.mpr ⟨List.mem_of_getElem? (i := 510) (by decide +kernel), rfl⟩
theorem gw511 : Cond.static yX9_linesUnlike ∈ GW := List.mem_filter.mpr ⟨List.mem_of_getElem? (i := 511) (by decide +kernel), rfl⟩
theorem gw512 : Cond.code yX9_linesUnlike cX9_linesUnlike 4 (some .int) ∈ GW := List.mem_filter.mpr ⟨List.mem_of_getElem? (i := 512) (by decide +kernel), rfl⟩
theorem gw513 : Cond.methodLink "TrueLedger" 165 yX8_tellsAlike ∈ GW := List.mem_filter.mpr ⟨List.mem_of_getElem? (i := 513) (by decide +kernel), rfl⟩
theorem gw514 : Cond.instanceMethod yX8_tellsAlike ∈ GW := List.mem_filter.mpr ⟨List.mem_of_getElem? (i := 514) (by decide +kernel), rfl⟩
theorem gw515 : Cond.selects yX8_tellsAlike.cls yX8_tellsAlike yX8_tellsAlike ∈ GW := List.mem_filter.mpr ⟨List.mem_of_getElem? (i := 515) (by decide +kernel), rfl⟩
theorem gw516 : Cond.code yX8_tellsAlike cX8_tellsAlike 8 (some .boolean) ∈ GW := List.mem_filter.mpr ⟨List.mem_of_getElem? (i := 516) (by decide +kernel), rfl⟩
theorem gw52 : Cond.selects yX10_partsBy.cls yX10_partsBy yX10_partsBy ∈ GW := List.mem_filter.mpr ⟨List.mem_of_getElem? (i := 52) (by decide +kernel), rfl⟩
theorem gw521 : Cond.methodLink "TrueLedger" 115 yX9_setMix ∈ GW := List.mem_filter.mpr ⟨List.mem_of_getElem? (i := 521) (by decide +kernel), rfl⟩
theorem gw523 : Cond.instanceMethod yX9_setMix ∈ GW := List.mem_filter.mpr ⟨List.mem_of_getElem? (i := 523) (by decide +kernel), rfl⟩
theorem gw524 : Cond.code yX9_setMix cX9_setMix 6 (some .boolean) ∈ GW := List.mem_filter.mpr ⟨List.mem_of_getElem? (i := 524) (by decide +kernel), rfl⟩
theorem gw525 : Cond.constant "TrueLedger" 160 65535 ∈ GW := List.mem_filter.mpr ⟨List.mem_of_getElem? (i := 525) (by decide +kernel), rfl⟩
theorem gw526 : Cond.methodLink "TrueLedger" 152 yX4_set ∈ GW := List.mem_filter.mpr ⟨List.mem_of_getElem? (i := 526) (by decide +kernel), rfl⟩
theorem gw527 : Cond.instanceMethod yX4_set ∈ GW := List.mem_filter.mpr ⟨List.mem_of_getElem? (i := 527) (by decide +kernel), rfl⟩
theorem gw528 : Cond.selects yX4_set.cls yX4_set yX4_set ∈ GW := List.mem_filter.mpr ⟨List.mem_of_getElem? (i := 528) (by decide +kernel), rfl⟩
theorem gw529 : Cond.code yX4_set cX4_set 4 none ∈ GW := List.mem_filter.mpr ⟨List.mem_of_getElem? (i := 529) (by decide +kernel), rfl⟩
theorem gw53 : Cond.selects yX10_doesPart.cls yX10_doesPart yX10_doesPart ∈ GW := List.mem_filter.mpr ⟨List.mem_of_getElem? (i := 53) (by decide +kernel), rfl⟩
theorem gw530 : Cond.methodLink "TrueLedger$Mix" 26 yX8_read ∈ GW := List.mem_filter.mpr ⟨List.mem_of_getElem? (i := 530) (by decide +kernel), rfl⟩
theorem gw531 : Cond.methodLink "TrueLedger" 119 yX9_sheetAt ∈ GW := List.mem_filter.mpr ⟨List.mem_of_getElem? (i := 531) (by decide +kernel), rfl⟩
theorem gw533 : Cond.instanceMethod yX9_sheetAt ∈ GW := List.mem_filter.mpr ⟨List.mem_of_getElem? (i := 533) (by decide +kernel), rfl⟩
theorem gw534 : Cond.code yX9_sheetAt cX9_sheetAt 2 (some (.object "TrueLedger$Sheet")) ∈ GW := List.mem_filter.mpr ⟨List.mem_of_getElem? (i := 534) (by decide +kernel), rfl⟩
theorem gw535 : Cond.methodLink "TrueLedger" 130 yX7_countEvents ∈ GW := List.mem_filter.mpr ⟨List.mem_of_getElem? (i := 535) (by decide +kernel), rfl⟩
theorem gw536 : Cond.instanceMethod yX7_countEvents ∈ GW := List.mem_filter.mpr ⟨List.mem_of_getElem? (i := 536) (by decide +kernel), rfl⟩
theorem gw537 : Cond.selects yX7_countEvents.cls yX7_countEvents yX7_countEvents ∈ GW := List.mem_filter.mpr ⟨List.mem_of_getElem? (i := 537) (by decide +kernel), rfl⟩
theorem gw538 : Cond.code yX7_countEvents cX7_countEvents 4 (some .int) ∈ GW := List.mem_filter.mpr ⟨List.mem_of_getElem? (i := 538) (by decide +kernel), rfl⟩
theorem gw539 : Cond.methodLink "TrueLedger$Sheet" 38 yX7_holdsEvent ∈ GW := List.mem_filter.mpr ⟨List.mem_of_getElem? (i := 539) (by decide +kernel), rfl⟩
theorem gw54 : Cond.selects yX10_isCounter.cls yX10_isCounter yX10_isCounter ∈ GW := List.mem_filter.mpr ⟨List.mem_of_getElem? (i := 54) (by decide +kernel), rfl⟩
theorem gw540 : Cond.instanceMethod yX7_holdsEvent ∈ GW := List.mem_filter.mpr ⟨List.mem_of_getElem? (i := 540) (by decide +kernel), rfl⟩
theorem gw541 : Cond.selects yX7_holdsEvent.cls yX7_holdsEvent yX7_holdsEvent ∈ GW := List.mem_filter.mpr ⟨List.mem_of_getElem? (i := 541) (by decide +kernel), rfl⟩
theorem gw542 : Cond.code yX7_holdsEvent cX7_holdsEvent 2 (some .boolean) ∈ GW := List.mem_filter.mpr ⟨List.mem_of_getElem? (i := 542) (by decide +kernel), rfl⟩
theorem gw543 : Cond.methodLink "TrueLedger" 136 yX9_endOfRun ∈ GW := List.mem_filter.mpr ⟨List.mem_of_getElem? (i := 543) (by decide +kernel), rfl⟩
theorem gw545 : Cond.instanceMethod yX9_endOfRun ∈ GW := List.mem_filter.mpr ⟨List.mem_of_getElem? (i := 545) (by decide +kernel), rfl⟩
theorem gw546 : Cond.code yX9_endOfRun cX9_endOfRun 8 (some .int) ∈ GW := List.mem_filter.mpr ⟨List.mem_of_getElem? (i := 546) (by decide +kernel), rfl⟩
theorem gw547 : Cond.constant "TrueLedger" 169 6513507 ∈ GW := List.mem_filter.mpr ⟨List.mem_of_getElem? (i := 547) (by decide +kernel), rfl⟩
theorem gw548 : Cond.methodLink "TrueLedger" 170 yX4_after ∈ GW := List.mem_filter.mpr ⟨List.mem_of_getElem? (i := 548) (by decide +kernel), rfl⟩
theorem gw549 : Cond.instanceMethod yX4_after ∈ GW := List.mem_filter.mpr ⟨List.mem_of_getElem? (i := 549) (by decide +kernel), rfl⟩
theorem gw55 : Cond.selects yX10_meets.cls yX10_meets yX10_meets ∈ GW := List.mem_filter.mpr ⟨List.mem_of_getElem? (i := 55) (by decide +kernel), rfl⟩
theorem gw550 : Cond.selects yX4_after.cls yX4_after yX4_after ∈ GW := List.mem_filter.mpr ⟨List.mem_of_getElem? (i := 550) (by decide +kernel), rfl⟩
theorem gw551 : Cond.code yX4_after cX4_after 9 (some .int) ∈ GW := List.mem_filter.mpr ⟨List.mem_of_getElem? (i := 551) (by decide +kernel), rfl⟩
theorem gw552 : Cond.methodLink "TrueLedger$Mix" 31 yX4_lineOf ∈ GW := List.mem_filter.mpr ⟨List.mem_of_getElem? (i := 552) (by decide +kernel), rfl⟩
theorem gw553 : Cond.instanceMethod yX4_lineOf ∈ GW := List.mem_filter.mpr ⟨List.mem_of_getElem? (i := 553) (by decide +kernel), rfl⟩
theorem gw554 : Cond.selects yX4_lineOf.cls yX4_lineOf yX4_lineOf ∈ GW := List.mem_filter.mpr ⟨List.mem_of_getElem? (i := 554) (by decide +kernel), rfl⟩
theorem gw555 : Cond.code yX4_lineOf cX4_lineOf 3 (some .int) ∈ GW := List.mem_filter.mpr ⟨List.mem_of_getElem? (i := 555) (by decide +kernel), rfl⟩
theorem gw557 : Cond.static yX9_modeOf ∈ GW := List.mem_filter.mpr ⟨List.mem_of_getElem? (i := 557) (by decide +kernel), rfl⟩
theorem gw558 : Cond.code yX9_modeOf cX9_modeOf 1 (some .int) ∈ GW := List.mem_filter.mpr ⟨List.mem_of_getElem? (i := 558) (by decide +kernel), rfl⟩
theorem gw559 : Cond.methodLink "TrueLedger$Mix" 45 yJ9_min_7cf53 ∈ GW := List.mem_filter.mpr ⟨List.mem_of_getElem? (i := 559) (by decide +kernel), rfl⟩
theorem gw56 : Cond.selects yX10_aboutOf.cls yX10_aboutOf yX10_aboutOf ∈ GW := List.mem_filter.mpr ⟨List.mem_of_getElem? (i := 56) (by decide +kernel), rfl⟩
theorem gw560 : Cond.methodLink "TrueLedger$Mix" 53 yX4_act ∈ GW := List.mem_filter.mpr ⟨List.mem_of_getElem? (i := 560) (by decide +kernel), rfl⟩
theorem gw562 : Cond.instanceMethod yX4_act ∈ GW := List.mem_filter.mpr ⟨List.mem_of_getElem? (i := 562) (by decide +kernel), rfl⟩
theorem gw563 : Cond.code yX4_act cX4_act 4 none ∈ GW := List.mem_filter.mpr ⟨List.mem_of_getElem? (i := 563) (by decide +kernel), rfl⟩
theorem gw564 : Cond.methodLink "TrueLedger" 174 yX9_coinsOf ∈ GW := List.mem_filter.mpr ⟨List.mem_of_getElem? (i := 564) (by decide +kernel), rfl⟩
theorem gw565 : Cond.static yX9_coinsOf ∈ GW := List.mem_filter.mpr ⟨List.mem_of_getElem? (i := 565) (by decide +kernel), rfl⟩
theorem gw566 : Cond.code yX9_coinsOf cX9_coinsOf 1 (some .int) ∈ GW := List.mem_filter.mpr ⟨List.mem_of_getElem? (i := 566) (by decide +kernel), rfl⟩
theorem gw567 : Cond.methodLink "TrueLedger" 177 yX9_ledgerOf ∈ GW := List.mem_filter.mpr ⟨List.mem_of_getElem? (i := 567) (by decide +kernel), rfl⟩
theorem gw568 : Cond.static yX9_ledgerOf ∈ GW := List.mem_filter.mpr ⟨List.mem_of_getElem? (i := 568) (by decide +kernel), rfl⟩
theorem gw569 : Cond.code yX9_ledgerOf cX9_ledgerOf 1 (some .int) ∈ GW := List.mem_filter.mpr ⟨List.mem_of_getElem? (i := 569) (by decide +kernel), rfl⟩
theorem gw57 : Cond.selects yX10_lostMany.cls yX10_lostMany yX10_lostMany ∈ GW := List.mem_filter.mpr ⟨List.mem_of_getElem? (i := 57) (by decide +kernel), rfl⟩
theorem gw570 : Cond.methodLink "TrueLedger" 180 yX9_modeOf ∈ GW := List.mem_filter.mpr ⟨List.mem_of_getElem? (i := 570) (by decide +kernel), rfl⟩
theorem gw575 : Cond.methodLink "TrueLedger" 140 yX9_seekParting ∈ GW := List.mem_filter.mpr ⟨List.mem_of_getElem? (i := 575) (by decide +kernel), rfl⟩
theorem gw577 : Cond.instanceMethod yX9_seekParting ∈ GW := List.mem_filter.mpr ⟨List.mem_of_getElem? (i := 577) (by decide +kernel), rfl⟩
theorem gw578 : Cond.code yX9_seekParting cX9_seekParting 5 (some .int) ∈ GW := List.mem_filter.mpr ⟨List.mem_of_getElem? (i := 578) (by decide +kernel), rfl⟩
theorem gw579 : Cond.methodLink "TrueLedger" 161 yX6_find ∈ GW := List.mem_filter.mpr ⟨List.mem_of_getElem? (i := 579) (by decide +kernel), rfl⟩
theorem gw58 : Cond.selects yX10_isShort.cls yX10_isShort yX10_isShort ∈ GW := List.mem_filter.mpr ⟨List.mem_of_getElem? (i := 58) (by decide +kernel), rfl⟩
theorem gw580 : Cond.instanceMethod yX6_find ∈ GW := List.mem_filter.mpr ⟨List.mem_of_getElem? (i := 580) (by decide +kernel), rfl⟩
theorem gw581 : Cond.selects yX6_find.cls yX6_find yX6_find ∈ GW := List.mem_filter.mpr ⟨List.mem_of_getElem? (i := 581) (by decide +kernel), rfl⟩
theorem gw582 : Cond.code yX6_find cX6_find 9 (some .int) ∈ GW := List.mem_filter.mpr ⟨List.mem_of_getElem? (i := 582) (by decide +kernel), rfl⟩
theorem gw583 : Cond.methodLink "TrueLedger$Search" 31 yJ7_fill_53178 ∈ GW := List.mem_filter.mpr ⟨List.mem_of_getElem? (i := 583) (by decide +kernel), rfl⟩
theorem gw584 : Cond.constant "TrueLedger$Search" 37 6513507 ∈ GW := List.mem_filter.mpr ⟨List.mem_of_getElem? (i := 584) (by decide +kernel), rfl⟩
theorem gw585 : Cond.methodLink "TrueLedger$Search" 38 yX6_keyOf ∈ GW := List.mem_filter.mpr ⟨List.mem_of_getElem? (i := 585) (by decide +kernel), rfl⟩
theorem gw586 : Cond.static yX6_keyOf ∈ GW := List.mem_filter.mpr ⟨List.mem_of_getElem? (i := 586) (by decide +kernel), rfl⟩
theorem gw587 : Cond.code yX6_keyOf cX6_keyOf 2 (some .int) ∈ GW := List.mem_filter.mpr ⟨List.mem_of_getElem? (i := 587) (by decide +kernel), rfl⟩
theorem gw588 : Cond.methodLink "TrueLedger$Search" 42 yX6_slotOf ∈ GW := List.mem_filter.mpr ⟨List.mem_of_getElem? (i := 588) (by decide +kernel), rfl⟩
theorem gw59 : Cond.selects yX10_fillMany.cls yX10_fillMany yX10_fillMany ∈ GW := List.mem_filter.mpr ⟨List.mem_of_getElem? (i := 59) (by decide +kernel), rfl⟩
theorem gw590 : Cond.instanceMethod yX6_slotOf ∈ GW := List.mem_filter.mpr ⟨List.mem_of_getElem? (i := 590) (by decide +kernel), rfl⟩
theorem gw591 : Cond.code yX6_slotOf cX6_slotOf 4 (some .int) ∈ GW := List.mem_filter.mpr ⟨List.mem_of_getElem? (i := 591) (by decide +kernel), rfl⟩
theorem gw592 : Cond.constant "TrueLedger$Search" 82 (-1640531535) ∈ GW := List.mem_filter.mpr ⟨List.mem_of_getElem? (i := 592) (by decide +kernel), rfl⟩
theorem gw593 : Cond.methodLink "TrueLedger$Search" 46 yX6_keep ∈ GW := List.mem_filter.mpr ⟨List.mem_of_getElem? (i := 593) (by decide +kernel), rfl⟩
theorem gw595 : Cond.instanceMethod yX6_keep ∈ GW := List.mem_filter.mpr ⟨List.mem_of_getElem? (i := 595) (by decide +kernel), rfl⟩
theorem gw596 : Cond.code yX6_keep cX6_keep 5 none ∈ GW := List.mem_filter.mpr ⟨List.mem_of_getElem? (i := 596) (by decide +kernel), rfl⟩
theorem gw597 : Cond.methodLink "TrueLedger$Search" 50 yX6_partsByBalance ∈ GW := List.mem_filter.mpr ⟨List.mem_of_getElem? (i := 597) (by decide +kernel), rfl⟩
theorem gw598 : Cond.static yX6_partsByBalance ∈ GW := List.mem_filter.mpr ⟨List.mem_of_getElem? (i := 598) (by decide +kernel), rfl⟩
theorem gw599 : Cond.code yX6_partsByBalance cX6_partsByBalance 3 (some .boolean) ∈ GW := List.mem_filter.mpr ⟨List.mem_of_getElem? (i := 599) (by decide +kernel), rfl⟩
theorem gw6 : Cond.selects yX4_act.cls yX4_act yX4_act ∈ GW := List.mem_filter.mpr ⟨List.mem_of_getElem? (i := 6) (by decide +kernel), rfl⟩
theorem gw60 : Cond.selects yX10_causesBy.cls yX10_causesBy yX10_causesBy ∈ GW := List.mem_filter.mpr ⟨List.mem_of_getElem? (i := 60) (by decide +kernel), rfl⟩
theorem gw600 : Cond.methodLink "TrueLedger$Search" 67 yX4_after ∈ GW := List.mem_filter.mpr ⟨List.mem_of_getElem? (i := 600) (by decide +kernel), rfl⟩
theorem gw602 : Cond.methodLink "TrueLedger$Search" 54 yX6_goOnFrom ∈ GW := List.mem_filter.mpr ⟨List.mem_of_getElem? (i := 602) (by decide +kernel), rfl⟩
theorem gw604 : Cond.instanceMethod yX6_goOnFrom ∈ GW := List.mem_filter.mpr ⟨List.mem_of_getElem? (i := 604) (by decide +kernel), rfl⟩
theorem gw605 : Cond.code yX6_goOnFrom cX6_goOnFrom 9 (some .int) ∈ GW := List.mem_filter.mpr ⟨List.mem_of_getElem? (i := 605) (by decide +kernel), rfl⟩
theorem gw606 : Cond.methodLink "TrueLedger$Search" 70 yX6_stateOf ∈ GW := List.mem_filter.mpr ⟨List.mem_of_getElem? (i := 606) (by decide +kernel), rfl⟩
theorem gw607 : Cond.static yX6_stateOf ∈ GW := List.mem_filter.mpr ⟨List.mem_of_getElem? (i := 607) (by decide +kernel), rfl⟩
theorem gw608 : Cond.code yX6_stateOf cX6_stateOf 1 (some .int) ∈ GW := List.mem_filter.mpr ⟨List.mem_of_getElem? (i := 608) (by decide +kernel), rfl⟩
theorem gw609 : Cond.constant "TrueLedger$Search" 83 33554431 ∈ GW := List.mem_filter.mpr ⟨List.mem_of_getElem? (i := 609) (by decide +kernel), rfl⟩
theorem gw61 : Cond.selects yX10_isClear.cls yX10_isClear yX10_isClear ∈ GW := List.mem_filter.mpr ⟨List.mem_of_getElem? (i := 61) (by decide +kernel), rfl⟩
theorem gw610 : Cond.methodLink "TrueLedger$Search" 73 yX6_drawerOf ∈ GW := List.mem_filter.mpr ⟨List.mem_of_getElem? (i := 610) (by decide +kernel), rfl⟩
theorem gw611 : Cond.static yX6_drawerOf ∈ GW := List.mem_filter.mpr ⟨List.mem_of_getElem? (i := 611) (by decide +kernel), rfl⟩
theorem gw612 : Cond.code yX6_drawerOf cX6_drawerOf 1 (some .int) ∈ GW := List.mem_filter.mpr ⟨List.mem_of_getElem? (i := 612) (by decide +kernel), rfl⟩
theorem gw614 : Cond.methodLink "TrueLedger$Search" 58 yX6_tellRow ∈ GW := List.mem_filter.mpr ⟨List.mem_of_getElem? (i := 614) (by decide +kernel), rfl⟩
theorem gw616 : Cond.instanceMethod yX6_tellRow ∈ GW := List.mem_filter.mpr ⟨List.mem_of_getElem? (i := 616) (by decide +kernel), rfl⟩
theorem gw617 : Cond.code yX6_tellRow cX6_tellRow 6 none ∈ GW := List.mem_filter.mpr ⟨List.mem_of_getElem? (i := 617) (by decide +kernel), rfl⟩
theorem gw62 : Cond.selects yX10_filledBy.cls yX10_filledBy yX10_filledBy ∈ GW := List.mem_filter.mpr ⟨List.mem_of_getElem? (i := 62) (by decide +kernel), rfl⟩
theorem gw626 : Cond.methodLink "TrueLedger" 147 yJ6_bitCount_0f7a4 ∈ GW := List.mem_filter.mpr ⟨List.mem_of_getElem? (i := 626) (by decide +kernel), rfl⟩
theorem gw627 : Cond.static yJ6_bitCount_0f7a4 ∈ GW := List.mem_filter.mpr ⟨List.mem_of_getElem? (i := 627) (by decide +kernel), rfl⟩
theorem gw628 : Cond.code yJ6_bitCount_0f7a4 cJ6_bitCount_0f7a4 1 (some .int) ∈ GW := List.mem_filter.mpr ⟨List.mem_of_getElem? (i := 628) (by decide +kernel), rfl⟩
theorem gw629 : Cond.constant "java/lang/Integer" 265 1431655765 ∈ GW := List.mem_filter.mpr ⟨List.mem_of_getElem? (i := 629) (by decide +kernel), rfl⟩
theorem gw63 : Cond.selects yX10_goesAll.cls yX10_goesAll yX10_goesAll ∈ GW := List.mem_filter.mpr ⟨List.mem_of_getElem? (i := 63) (by decide +kernel), rfl⟩
theorem gw630 : Cond.constant "java/lang/Integer" 266 858993459 ∈ GW := List.mem_filter.mpr ⟨List.mem_of_getElem? (i := 630) (by decide +kernel), rfl⟩
theorem gw631 : Cond.constant "java/lang/Integer" 267 252645135 ∈ GW := List.mem_filter.mpr ⟨List.mem_of_getElem? (i := 631) (by decide +kernel), rfl⟩
theorem gw632 : Cond.methodLink "TrueLedger" 156 yX3_fewestLines ∈ GW := List.mem_filter.mpr ⟨List.mem_of_getElem? (i := 632) (by decide +kernel), rfl⟩
theorem gw633 : Cond.instanceMethod yX3_fewestLines ∈ GW := List.mem_filter.mpr ⟨List.mem_of_getElem? (i := 633) (by decide +kernel), rfl⟩
theorem gw634 : Cond.selects yX3_fewestLines.cls yX3_fewestLines yX3_fewestLines ∈ GW := List.mem_filter.mpr ⟨List.mem_of_getElem? (i := 634) (by decide +kernel), rfl⟩
theorem gw635 : Cond.code yX3_fewestLines cX3_fewestLines 10 (some .int) ∈ GW := List.mem_filter.mpr ⟨List.mem_of_getElem? (i := 635) (by decide +kernel), rfl⟩
theorem gw636 : Cond.methodLink "TrueLedger$Mender" 15 yJ6_bitCount_0f7a4 ∈ GW := List.mem_filter.mpr ⟨List.mem_of_getElem? (i := 636) (by decide +kernel), rfl⟩
theorem gw637 : Cond.methodLink "TrueLedger$Mender" 21 yX3_tellChoices ∈ GW := List.mem_filter.mpr ⟨List.mem_of_getElem? (i := 637) (by decide +kernel), rfl⟩
theorem gw639 : Cond.instanceMethod yX3_tellChoices ∈ GW := List.mem_filter.mpr ⟨List.mem_of_getElem? (i := 639) (by decide +kernel), rfl⟩
theorem gw64 : Cond.selects yX10_isFromAfar.cls yX10_isFromAfar yX10_isFromAfar ∈ GW := List.mem_filter.mpr ⟨List.mem_of_getElem? (i := 64) (by decide +kernel), rfl⟩
theorem gw640 : Cond.code yX3_tellChoices cX3_tellChoices 5 (some .int) ∈ GW := List.mem_filter.mpr ⟨List.mem_of_getElem? (i := 640) (by decide +kernel), rfl⟩
theorem gw641 : Cond.methodLink "TrueLedger$Mender" 43 yJ9_min_7cf53 ∈ GW := List.mem_filter.mpr ⟨List.mem_of_getElem? (i := 641) (by decide +kernel), rfl⟩
theorem gw642 : Cond.methodLink "TrueLedger$Mender" 30 yX6_find ∈ GW := List.mem_filter.mpr ⟨List.mem_of_getElem? (i := 642) (by decide +kernel), rfl⟩
theorem gw643 : Cond.methodLink "TrueLedger$Mender" 36 yX6_linesOfRow ∈ GW := List.mem_filter.mpr ⟨List.mem_of_getElem? (i := 643) (by decide +kernel), rfl⟩
theorem gw644 : Cond.instanceMethod yX6_linesOfRow ∈ GW := List.mem_filter.mpr ⟨List.mem_of_getElem? (i := 644) (by decide +kernel), rfl⟩
theorem gw645 : Cond.selects yX6_linesOfRow.cls yX6_linesOfRow yX6_linesOfRow ∈ GW := List.mem_filter.mpr ⟨List.mem_of_getElem? (i := 645) (by decide +kernel), rfl⟩
theorem gw646 : Cond.code yX6_linesOfRow cX6_linesOfRow 6 (some .int) ∈ GW := List.mem_filter.mpr ⟨List.mem_of_getElem? (i := 646) (by decide +kernel), rfl⟩
theorem gw647 : Cond.methodLink "TrueLedger$Search" 62 yX4_lineOf ∈ GW := List.mem_filter.mpr ⟨List.mem_of_getElem? (i := 647) (by decide +kernel), rfl⟩
theorem gw648 : Cond.methodLink "TrueLedger$Mender" 39 yX3_ruleOut ∈ GW := List.mem_filter.mpr ⟨List.mem_of_getElem? (i := 648) (by decide +kernel), rfl⟩
theorem gw65 : Cond.selects yX10_settles.cls yX10_settles yX10_settles ∈ GW := List.mem_filter.mpr ⟨List.mem_of_getElem? (i := 65) (by decide +kernel), rfl⟩
theorem gw650 : Cond.instanceMethod yX3_ruleOut ∈ GW := List.mem_filter.mpr ⟨List.mem_of_getElem? (i := 650) (by decide +kernel), rfl⟩
theorem gw651 : Cond.code yX3_ruleOut cX3_ruleOut 5 none ∈ GW := List.mem_filter.mpr ⟨List.mem_of_getElem? (i := 651) (by decide +kernel), rfl⟩
theorem gw66 : Cond.selects yX10_comesIn.cls yX10_comesIn yX10_comesIn ∈ GW := List.mem_filter.mpr ⟨List.mem_of_getElem? (i := 66) (by decide +kernel), rfl⟩
theorem gw661 : Cond.fieldLink "TrueLedger$Counter" 49 "TrueLedger$Counter" "version" "I" ∈ GW := List.mem_filter.mpr ⟨List.mem_of_getElem? (i := 661) (by decide +kernel), rfl⟩
theorem gw663 : Cond.fieldLink "TrueLedger$Counter" 9 "TrueLedger$Counter" "events" "[I" ∈ GW := List.mem_filter.mpr ⟨List.mem_of_getElem? (i := 663) (by decide +kernel), rfl⟩
theorem gw666 : Cond.fieldLink "TrueLedger$Counter" 15 "TrueLedger$Counter" "length" "I" ∈ GW := List.mem_filter.mpr ⟨List.mem_of_getElem? (i := 666) (by decide +kernel), rfl⟩
theorem gw669 : Cond.fieldLink "TrueLedger$Counter" 19 "TrueLedger$Counter" "lost" "I" ∈ GW := List.mem_filter.mpr ⟨List.mem_of_getElem? (i := 669) (by decide +kernel), rfl⟩
theorem gw67 : Cond.selects yX10_owedAll.cls yX10_owedAll yX10_owedAll ∈ GW := List.mem_filter.mpr ⟨List.mem_of_getElem? (i := 67) (by decide +kernel), rfl⟩
theorem gw670 : Cond.fieldLink "TrueLedger$Counter" 22 "TrueLedger$Counter" "drawer" "I" ∈ GW := List.mem_filter.mpr ⟨List.mem_of_getElem? (i := 670) (by decide +kernel), rfl⟩
theorem gw673 : Cond.fieldLink "TrueLedger$Counter" 25 "TrueLedger$Counter" "ledger" "I" ∈ GW := List.mem_filter.mpr ⟨List.mem_of_getElem? (i := 673) (by decide +kernel), rfl⟩
theorem gw676 : Cond.fieldLink "TrueLedger$Counter" 28 "TrueLedger$Counter" "pageCost" "I" ∈ GW := List.mem_filter.mpr ⟨List.mem_of_getElem? (i := 676) (by decide +kernel), rfl⟩
theorem gw678 : Cond.fieldLink "TrueLedger$Counter" 31 "TrueLedger$Counter" "days" "I" ∈ GW := List.mem_filter.mpr ⟨List.mem_of_getElem? (i := 678) (by decide +kernel), rfl⟩
theorem gw68 : Cond.selects yX10_owedOn.cls yX10_owedOn yX10_owedOn ∈ GW := List.mem_filter.mpr ⟨List.mem_of_getElem? (i := 68) (by decide +kernel), rfl⟩
theorem gw680 : Cond.fieldLink "TrueLedger$Counter" 34 "TrueLedger$Counter" "weight" "I" ∈ GW := List.mem_filter.mpr ⟨List.mem_of_getElem? (i := 680) (by decide +kernel), rfl⟩
theorem gw69 : Cond.selects yX10_isOwed.cls yX10_isOwed yX10_isOwed ∈ GW := List.mem_filter.mpr ⟨List.mem_of_getElem? (i := 69) (by decide +kernel), rfl⟩
theorem gw691 : Cond.fieldLink "TrueLedger$Counter" 46 "TrueLedger$Counter" "judgedAt" "I" ∈ GW := List.mem_filter.mpr ⟨List.mem_of_getElem? (i := 691) (by decide +kernel), rfl⟩
theorem gw7 : Cond.selects yX9_seekParting.cls yX9_seekParting yX9_seekParting ∈ GW := List.mem_filter.mpr ⟨List.mem_of_getElem? (i := 7) (by decide +kernel), rfl⟩
theorem gw70 : Cond.selects yX10_standsOn.cls yX10_standsOn yX10_standsOn ∈ GW := List.mem_filter.mpr ⟨List.mem_of_getElem? (i := 70) (by decide +kernel), rfl⟩
theorem gw71 : Cond.selects yX10_daysOfSet.cls yX10_daysOfSet yX10_daysOfSet ∈ GW := List.mem_filter.mpr ⟨List.mem_of_getElem? (i := 71) (by decide +kernel), rfl⟩
theorem gw72 : Cond.selects yX10_costBy.cls yX10_costBy yX10_costBy ∈ GW := List.mem_filter.mpr ⟨List.mem_of_getElem? (i := 72) (by decide +kernel), rfl⟩
theorem gw724 : Cond.methodLink "TrueLedger" 186 yX9_counterAt ∈ GW := List.mem_filter.mpr ⟨List.mem_of_getElem? (i := 724) (by decide +kernel), rfl⟩
theorem gw726 : Cond.instanceMethod yX9_counterAt ∈ GW := List.mem_filter.mpr ⟨List.mem_of_getElem? (i := 726) (by decide +kernel), rfl⟩
theorem gw727 : Cond.code yX9_counterAt cX9_counterAt 2 (some (.object "TrueLedger$Counter")) ∈ GW := List.mem_filter.mpr ⟨List.mem_of_getElem? (i := 727) (by decide +kernel), rfl⟩
theorem gw728 : Cond.methodLink "TrueLedger" 190 yX9_finding ∈ GW := List.mem_filter.mpr ⟨List.mem_of_getElem? (i := 728) (by decide +kernel), rfl⟩
theorem gw73 : Cond.selects yX10_lacks.cls yX10_lacks yX10_lacks ∈ GW := List.mem_filter.mpr ⟨List.mem_of_getElem? (i := 73) (by decide +kernel), rfl⟩
theorem gw730 : Cond.instanceMethod yX9_finding ∈ GW := List.mem_filter.mpr ⟨List.mem_of_getElem? (i := 730) (by decide +kernel), rfl⟩
theorem gw731 : Cond.code yX9_finding cX9_finding 2 (some .int) ∈ GW := List.mem_filter.mpr ⟨List.mem_of_getElem? (i := 731) (by decide +kernel), rfl⟩
theorem gw732 : Cond.methodLink "TrueLedger" 193 yX0_takeLog ∈ GW := List.mem_filter.mpr ⟨List.mem_of_getElem? (i := 732) (by decide +kernel), rfl⟩
theorem gw733 : Cond.instanceMethod yX0_takeLog ∈ GW := List.mem_filter.mpr ⟨List.mem_of_getElem? (i := 733) (by decide +kernel), rfl⟩
theorem gw734 : Cond.selects yX0_takeLog.cls yX0_takeLog yX0_takeLog ∈ GW := List.mem_filter.mpr ⟨List.mem_of_getElem? (i := 734) (by decide +kernel), rfl⟩
theorem gw735 : Cond.code yX0_takeLog cX0_takeLog 6 (some .int) ∈ GW := List.mem_filter.mpr ⟨List.mem_of_getElem? (i := 735) (by decide +kernel), rfl⟩
theorem gw736 : Cond.methodLink "TrueLedger$Counter" 52 yJ9_min_7cf53 ∈ GW := List.mem_filter.mpr ⟨List.mem_of_getElem? (i := 736) (by decide +kernel), rfl⟩
theorem gw737 : Cond.methodLink "TrueLedger$Counter" 58 yX7_holdsEvent ∈ GW := List.mem_filter.mpr ⟨List.mem_of_getElem? (i := 737) (by decide +kernel), rfl⟩
theorem gw74 : Cond.selects yX10_lay.cls yX10_lay yX10_lay ∈ GW := List.mem_filter.mpr ⟨List.mem_of_getElem? (i := 74) (by decide +kernel), rfl⟩
theorem gw742 : Cond.methodLink "TrueLedger" 197 yJ9_max_7cf53 ∈ GW := List.mem_filter.mpr ⟨List.mem_of_getElem? (i := 742) (by decide +kernel), rfl⟩
theorem gw743 : Cond.methodLink "TrueLedger" 202 yJ9_min_7cf53 ∈ GW := List.mem_filter.mpr ⟨List.mem_of_getElem? (i := 743) (by decide +kernel), rfl⟩
theorem gw745 : Cond.instanceMethod yX9_about ∈ GW := List.mem_filter.mpr ⟨List.mem_of_getElem? (i := 745) (by decide +kernel), rfl⟩
theorem gw746 : Cond.selects yX9_about.cls yX9_about yX9_about ∈ GW := List.mem_filter.mpr ⟨List.mem_of_getElem? (i := 746) (by decide +kernel), rfl⟩
theorem gw747 : Cond.code yX9_about cX9_about 4 (some .int) ∈ GW := List.mem_filter.mpr ⟨List.mem_of_getElem? (i := 747) (by decide +kernel), rfl⟩
theorem gw748 : Cond.methodLink "TrueLedger" 214 yX0_told ∈ GW := List.mem_filter.mpr ⟨List.mem_of_getElem? (i := 748) (by decide +kernel), rfl⟩
theorem gw749 : Cond.instanceMethod yX0_told ∈ GW := List.mem_filter.mpr ⟨List.mem_of_getElem? (i := 749) (by decide +kernel), rfl⟩
theorem gw750 : Cond.selects yX0_told.cls yX0_told yX0_told ∈ GW := List.mem_filter.mpr ⟨List.mem_of_getElem? (i := 750) (by decide +kernel), rfl⟩
theorem gw751 : Cond.code yX0_told cX0_told 2 (some .int) ∈ GW := List.mem_filter.mpr ⟨List.mem_of_getElem? (i := 751) (by decide +kernel), rfl⟩
theorem gw752 : Cond.methodLink "TrueLedger$Counter" 67 yX0_isShort ∈ GW := List.mem_filter.mpr ⟨List.mem_of_getElem? (i := 752) (by decide +kernel), rfl⟩
theorem gw753 : Cond.instanceMethod yX0_isShort ∈ GW := List.mem_filter.mpr ⟨List.mem_of_getElem? (i := 753) (by decide +kernel), rfl⟩
theorem gw754 : Cond.selects yX0_isShort.cls yX0_isShort yX0_isShort ∈ GW := List.mem_filter.mpr ⟨List.mem_of_getElem? (i := 754) (by decide +kernel), rfl⟩
theorem gw755 : Cond.code yX0_isShort cX0_isShort 1 (some .boolean) ∈ GW := List.mem_filter.mpr ⟨List.mem_of_getElem? (i := 755) (by decide +kernel), rfl⟩
theorem gw76 : Cond.initialized "TrueLedger" ∈ GW := List.mem_filter.mpr ⟨List.mem_of_getElem? (i := 76) (by decide +kernel), rfl⟩
theorem gw760 : Cond.methodLink "TrueLedger" 217 yX0_change ∈ GW := List.mem_filter.mpr ⟨List.mem_of_getElem? (i := 760) (by decide +kernel), rfl⟩
theorem gw761 : Cond.instanceMethod yX0_change ∈ GW := List.mem_filter.mpr ⟨List.mem_of_getElem? (i := 761) (by decide +kernel), rfl⟩
theorem gw762 : Cond.selects yX0_change.cls yX0_change yX0_change ∈ GW := List.mem_filter.mpr ⟨List.mem_of_getElem? (i := 762) (by decide +kernel), rfl⟩
theorem gw763 : Cond.code yX0_change cX0_change 4 (some .int) ∈ GW := List.mem_filter.mpr ⟨List.mem_of_getElem? (i := 763) (by decide +kernel), rfl⟩
theorem gw77 : Cond.initialized "TrueLedger$Search" ∈ GW := List.mem_filter.mpr ⟨List.mem_of_getElem? (i := 77) (by decide +kernel), rfl⟩
theorem gw772 : Cond.methodLink "TrueLedger" 224 yX9_judge ∈ GW := List.mem_filter.mpr ⟨List.mem_of_getElem? (i := 772) (by decide +kernel), rfl⟩
theorem gw774 : Cond.instanceMethod yX9_judge ∈ GW := List.mem_filter.mpr ⟨List.mem_of_getElem? (i := 774) (by decide +kernel), rfl⟩
theorem gw775 : Cond.code yX9_judge cX9_judge 3 none ∈ GW := List.mem_filter.mpr ⟨List.mem_of_getElem? (i := 775) (by decide +kernel), rfl⟩
theorem gw776 : Cond.methodLink "TrueLedger" 254 yX2_judge ∈ GW := List.mem_filter.mpr ⟨List.mem_of_getElem? (i := 776) (by decide +kernel), rfl⟩
theorem gw777 : Cond.instanceMethod yX2_judge ∈ GW := List.mem_filter.mpr ⟨List.mem_of_getElem? (i := 777) (by decide +kernel), rfl⟩
theorem gw778 : Cond.selects yX2_judge.cls yX2_judge yX2_judge ∈ GW := List.mem_filter.mpr ⟨List.mem_of_getElem? (i := 778) (by decide +kernel), rfl⟩
theorem gw779 : Cond.code yX2_judge cX2_judge 7 none ∈ GW := List.mem_filter.mpr ⟨List.mem_of_getElem? (i := 779) (by decide +kernel), rfl⟩
theorem gw78 : Cond.initialized "TrueLedger$Mender" ∈ GW := List.mem_filter.mpr ⟨List.mem_of_getElem? (i := 78) (by decide +kernel), rfl⟩
theorem gw780 : Cond.methodLink "TrueLedger$Filler" 52 yX2_begin ∈ GW := List.mem_filter.mpr ⟨List.mem_of_getElem? (i := 780) (by decide +kernel), rfl⟩
theorem gw782 : Cond.instanceMethod yX2_begin ∈ GW := List.mem_filter.mpr ⟨List.mem_of_getElem? (i := 782) (by decide +kernel), rfl⟩
theorem gw783 : Cond.code yX2_begin cX2_begin 3 none ∈ GW := List.mem_filter.mpr ⟨List.mem_of_getElem? (i := 783) (by decide +kernel), rfl⟩
theorem gw784 : Cond.constant "TrueLedger$Filler" 98 6513507 ∈ GW := List.mem_filter.mpr ⟨List.mem_of_getElem? (i := 784) (by decide +kernel), rfl⟩
theorem gw785 : Cond.methodLink "TrueLedger$Filler" 99 yX2_postFromAfar ∈ GW := List.mem_filter.mpr ⟨List.mem_of_getElem? (i := 785) (by decide +kernel), rfl⟩
theorem gw787 : Cond.instanceMethod yX2_postFromAfar ∈ GW := List.mem_filter.mpr ⟨List.mem_of_getElem? (i := 787) (by decide +kernel), rfl⟩
theorem gw788 : Cond.code yX2_postFromAfar cX2_postFromAfar 6 none ∈ GW := List.mem_filter.mpr ⟨List.mem_of_getElem? (i := 788) (by decide +kernel), rfl⟩
theorem gw79 : Cond.initialized "TrueLedger$Filler" ∈ GW := List.mem_filter.mpr ⟨List.mem_of_getElem? (i := 79) (by decide +kernel), rfl⟩
theorem gw790 : Cond.methodLink "TrueLedger$Filler" 151 yJ9_max_7cf53 ∈ GW := List.mem_filter.mpr ⟨List.mem_of_getElem? (i := 790) (by decide +kernel), rfl⟩
theorem gw791 : Cond.methodLink "TrueLedger$Filler" 115 yJ9_min_7cf53 ∈ GW := List.mem_filter.mpr ⟨List.mem_of_getElem? (i := 791) (by decide +kernel), rfl⟩
theorem gw792 : Cond.methodLink "TrueLedger$Filler" 147 yX2_addPosted ∈ GW := List.mem_filter.mpr ⟨List.mem_of_getElem? (i := 792) (by decide +kernel), rfl⟩
theorem gw794 : Cond.instanceMethod yX2_addPosted ∈ GW := List.mem_filter.mpr ⟨List.mem_of_getElem? (i := 794) (by decide +kernel), rfl⟩
theorem gw795 : Cond.code yX2_addPosted cX2_addPosted 5 none ∈ GW := List.mem_filter.mpr ⟨List.mem_of_getElem? (i := 795) (by decide +kernel), rfl⟩
theorem gw796 : Cond.methodLink "TrueLedger$Filler" 62 yX2_findLikeEvents ∈ GW := List.mem_filter.mpr ⟨List.mem_of_getElem? (i := 796) (by decide +kernel), rfl⟩
theorem gw798 : Cond.instanceMethod yX2_findLikeEvents ∈ GW := List.mem_filter.mpr ⟨List.mem_of_getElem? (i := 798) (by decide +kernel), rfl⟩
theorem gw799 : Cond.code yX2_findLikeEvents cX2_findLikeEvents 4 none ∈ GW := List.mem_filter.mpr ⟨List.mem_of_getElem? (i := 799) (by decide +kernel), rfl⟩
theorem gw8 : Cond.selects yX6_slotOf.cls yX6_slotOf yX6_slotOf ∈ GW := List.mem_filter.mpr ⟨List.mem_of_getElem? (i := 8) (by decide +kernel), rfl⟩
theorem gw80 : Cond.initialized "TrueLedger$Paid" ∈ GW := List.mem_filter.mpr ⟨List.mem_of_getElem? (i := 80) (by decide +kernel), rfl⟩
theorem gw801 : Cond.methodLink "TrueLedger$Filler" 106 yX8_tellsAlike ∈ GW := List.mem_filter.mpr ⟨List.mem_of_getElem? (i := 801) (by decide +kernel), rfl⟩
theorem gw802 : Cond.methodLink "TrueLedger$Filler" 71 yJ7_fill_53178 ∈ GW := List.mem_filter.mpr ⟨List.mem_of_getElem? (i := 802) (by decide +kernel), rfl⟩
theorem gw803 : Cond.methodLink "TrueLedger$Filler" 80 yX2_likeFill ∈ GW := List.mem_filter.mpr ⟨List.mem_of_getElem? (i := 803) (by decide +kernel), rfl⟩
theorem gw805 : Cond.instanceMethod yX2_likeFill ∈ GW := List.mem_filter.mpr ⟨List.mem_of_getElem? (i := 805) (by decide +kernel), rfl⟩
theorem gw806 : Cond.code yX2_likeFill cX2_likeFill 4 (some .int) ∈ GW := List.mem_filter.mpr ⟨List.mem_of_getElem? (i := 806) (by decide +kernel), rfl⟩
theorem gw807 : Cond.methodLink "TrueLedger$Filler" 84 yX2_causesOfRow ∈ GW := List.mem_filter.mpr ⟨List.mem_of_getElem? (i := 807) (by decide +kernel), rfl⟩
theorem gw809 : Cond.instanceMethod yX2_causesOfRow ∈ GW := List.mem_filter.mpr ⟨List.mem_of_getElem? (i := 809) (by decide +kernel), rfl⟩
theorem gw81 : Cond.initialized "TrueLedger$Court" ∈ GW := List.mem_filter.mpr ⟨List.mem_of_getElem? (i := 81) (by decide +kernel), rfl⟩
theorem gw810 : Cond.code yX2_causesOfRow cX2_causesOfRow 6 (some .int) ∈ GW := List.mem_filter.mpr ⟨List.mem_of_getElem? (i := 810) (by decide +kernel), rfl⟩
theorem gw811 : Cond.methodLink "TrueLedger$Filler" 121 yX2_give ∈ GW := List.mem_filter.mpr ⟨List.mem_of_getElem? (i := 811) (by decide +kernel), rfl⟩
theorem gw813 : Cond.instanceMethod yX2_give ∈ GW := List.mem_filter.mpr ⟨List.mem_of_getElem? (i := 813) (by decide +kernel), rfl⟩
theorem gw814 : Cond.code yX2_give cX2_give 4 none ∈ GW := List.mem_filter.mpr ⟨List.mem_of_getElem? (i := 814) (by decide +kernel), rfl⟩
theorem gw815 : Cond.methodLink "TrueLedger$Filler" 112 yX2_shiftOf ∈ GW := List.mem_filter.mpr ⟨List.mem_of_getElem? (i := 815) (by decide +kernel), rfl⟩
theorem gw817 : Cond.instanceMethod yX2_shiftOf ∈ GW := List.mem_filter.mpr ⟨List.mem_of_getElem? (i := 817) (by decide +kernel), rfl⟩
theorem gw818 : Cond.code yX2_shiftOf cX2_shiftOf 2 (some .int) ∈ GW := List.mem_filter.mpr ⟨List.mem_of_getElem? (i := 818) (by decide +kernel), rfl⟩
theorem gw819 : Cond.methodLink "TrueLedger$Filler" 127 yX2_runPlain ∈ GW := List.mem_filter.mpr ⟨List.mem_of_getElem? (i := 819) (by decide +kernel), rfl⟩
theorem gw82 : Cond.initialized "TrueLedger$Version" ∈ GW := List.mem_filter.mpr ⟨List.mem_of_getElem? (i := 82) (by decide +kernel), rfl⟩
theorem gw821 : Cond.instanceMethod yX2_runPlain ∈ GW := List.mem_filter.mpr ⟨List.mem_of_getElem? (i := 821) (by decide +kernel), rfl⟩
theorem gw822 : Cond.code yX2_runPlain cX2_runPlain 3 none ∈ GW := List.mem_filter.mpr ⟨List.mem_of_getElem? (i := 822) (by decide +kernel), rfl⟩
theorem gw823 : Cond.methodLink "TrueLedger$Filler" 144 yX4_after ∈ GW := List.mem_filter.mpr ⟨List.mem_of_getElem? (i := 823) (by decide +kernel), rfl⟩
theorem gw824 : Cond.methodLink "TrueLedger$Filler" 137 yX2_runPosted ∈ GW := List.mem_filter.mpr ⟨List.mem_of_getElem? (i := 824) (by decide +kernel), rfl⟩
theorem gw826 : Cond.instanceMethod yX2_runPosted ∈ GW := List.mem_filter.mpr ⟨List.mem_of_getElem? (i := 826) (by decide +kernel), rfl⟩
theorem gw827 : Cond.code yX2_runPosted cX2_runPosted 4 none ∈ GW := List.mem_filter.mpr ⟨List.mem_of_getElem? (i := 827) (by decide +kernel), rfl⟩
theorem gw828 : Cond.methodLink "TrueLedger$Filler" 140 yX2_isPostedTo ∈ GW := List.mem_filter.mpr ⟨List.mem_of_getElem? (i := 828) (by decide +kernel), rfl⟩
theorem gw83 : Cond.initialized "TrueLedger$Mix" ∈ GW := List.mem_filter.mpr ⟨List.mem_of_getElem? (i := 83) (by decide +kernel), rfl⟩
theorem gw830 : Cond.instanceMethod yX2_isPostedTo ∈ GW := List.mem_filter.mpr ⟨List.mem_of_getElem? (i := 830) (by decide +kernel), rfl⟩
theorem gw831 : Cond.code yX2_isPostedTo cX2_isPostedTo 3 (some .boolean) ∈ GW := List.mem_filter.mpr ⟨List.mem_of_getElem? (i := 831) (by decide +kernel), rfl⟩
theorem gw832 : Cond.methodLink "TrueLedger$Filler" 88 yX2_fewestPages ∈ GW := List.mem_filter.mpr ⟨List.mem_of_getElem? (i := 832) (by decide +kernel), rfl⟩
theorem gw834 : Cond.instanceMethod yX2_fewestPages ∈ GW := List.mem_filter.mpr ⟨List.mem_of_getElem? (i := 834) (by decide +kernel), rfl⟩
theorem gw835 : Cond.code yX2_fewestPages cX2_fewestPages 3 (some .int) ∈ GW := List.mem_filter.mpr ⟨List.mem_of_getElem? (i := 835) (by decide +kernel), rfl⟩
theorem gw836 : Cond.fieldLink "TrueLedger$Filler" 154 "TrueLedger$Filler" "FEWEST_FIRST" "[I" ∈ GW := List.mem_filter.mpr ⟨List.mem_of_getElem? (i := 836) (by decide +kernel), rfl⟩
theorem gw838 : Cond.methodLink "TrueLedger$Filler" 157 yX2_settles ∈ GW := List.mem_filter.mpr ⟨List.mem_of_getElem? (i := 838) (by decide +kernel), rfl⟩
theorem gw84 : Cond.initialized "TrueLedger$Sheet" ∈ GW := List.mem_filter.mpr ⟨List.mem_of_getElem? (i := 84) (by decide +kernel), rfl⟩
theorem gw840 : Cond.instanceMethod yX2_settles ∈ GW := List.mem_filter.mpr ⟨List.mem_of_getElem? (i := 840) (by decide +kernel), rfl⟩
theorem gw841 : Cond.code yX2_settles cX2_settles 7 (some .boolean) ∈ GW := List.mem_filter.mpr ⟨List.mem_of_getElem? (i := 841) (by decide +kernel), rfl⟩
theorem gw842 : Cond.methodLink "TrueLedger$Filler" 161 yJ7_fill_031fb ∈ GW := List.mem_filter.mpr ⟨List.mem_of_getElem? (i := 842) (by decide +kernel), rfl⟩
theorem gw843 : Cond.static yJ7_fill_031fb ∈ GW := List.mem_filter.mpr ⟨List.mem_of_getElem? (i := 843) (by decide +kernel), rfl⟩
theorem gw844 : Cond.code yJ7_fill_031fb cJ7_fill_031fb 4 none ∈ GW := List.mem_filter.mpr ⟨List.mem_of_getElem? (i := 844) (by decide +kernel), rfl⟩
theorem gw85 : Cond.initialized "TrueLedgerModel" ∈ GW := List.mem_filter.mpr ⟨List.mem_of_getElem? (i := 85) (by decide +kernel), rfl⟩
theorem gw857 : Cond.methodLink "TrueLedger" 240 yX0_hasLostFrom ∈ GW := List.mem_filter.mpr ⟨List.mem_of_getElem? (i := 857) (by decide +kernel), rfl⟩
theorem gw858 : Cond.instanceMethod yX0_hasLostFrom ∈ GW := List.mem_filter.mpr ⟨List.mem_of_getElem? (i := 858) (by decide +kernel), rfl⟩
theorem gw859 : Cond.selects yX0_hasLostFrom.cls yX0_hasLostFrom yX0_hasLostFrom ∈ GW := List.mem_filter.mpr ⟨List.mem_of_getElem? (i := 859) (by decide +kernel), rfl⟩
theorem gw86 : Cond.initialized "java/util/Arrays" ∈ GW := List.mem_filter.mpr ⟨List.mem_of_getElem? (i := 86) (by decide +kernel), rfl⟩
theorem gw860 : Cond.code yX0_hasLostFrom cX0_hasLostFrom 3 (some .boolean) ∈ GW := List.mem_filter.mpr ⟨List.mem_of_getElem? (i := 860) (by decide +kernel), rfl⟩
theorem gw861 : Cond.methodLink "TrueLedger$Counter" 71 yJ9_max_7cf53 ∈ GW := List.mem_filter.mpr ⟨List.mem_of_getElem? (i := 861) (by decide +kernel), rfl⟩
theorem gw862 : Cond.methodLink "TrueLedger" 247 yX0_holdsEndOf ∈ GW := List.mem_filter.mpr ⟨List.mem_of_getElem? (i := 862) (by decide +kernel), rfl⟩
theorem gw863 : Cond.instanceMethod yX0_holdsEndOf ∈ GW := List.mem_filter.mpr ⟨List.mem_of_getElem? (i := 863) (by decide +kernel), rfl⟩
theorem gw864 : Cond.selects yX0_holdsEndOf.cls yX0_holdsEndOf yX0_holdsEndOf ∈ GW := List.mem_filter.mpr ⟨List.mem_of_getElem? (i := 864) (by decide +kernel), rfl⟩
theorem gw865 : Cond.code yX0_holdsEndOf cX0_holdsEndOf 4 (some .boolean) ∈ GW := List.mem_filter.mpr ⟨List.mem_of_getElem? (i := 865) (by decide +kernel), rfl⟩
theorem gw866 : Cond.methodLink "TrueLedger$Counter" 74 yX0_holdsAt ∈ GW := List.mem_filter.mpr ⟨List.mem_of_getElem? (i := 866) (by decide +kernel), rfl⟩
theorem gw868 : Cond.instanceMethod yX0_holdsAt ∈ GW := List.mem_filter.mpr ⟨List.mem_of_getElem? (i := 868) (by decide +kernel), rfl⟩
theorem gw869 : Cond.code yX0_holdsAt cX0_holdsAt 6 (some .boolean) ∈ GW := List.mem_filter.mpr ⟨List.mem_of_getElem? (i := 869) (by decide +kernel), rfl⟩
theorem gw87 : Cond.initialized "java/lang/String" ∈ GW := List.mem_filter.mpr ⟨List.mem_of_getElem? (i := 87) (by decide +kernel), rfl⟩
theorem gw874 : Cond.methodLink "TrueLedger" 257 yX9_isDay ∈ GW := List.mem_filter.mpr ⟨List.mem_of_getElem? (i := 874) (by decide +kernel), rfl⟩
theorem gw875 : Cond.static yX9_isDay ∈ GW := List.mem_filter.mpr ⟨List.mem_of_getElem? (i := 875) (by decide +kernel), rfl⟩
theorem gw876 : Cond.code yX9_isDay cX9_isDay 1 (some .boolean) ∈ GW := List.mem_filter.mpr ⟨List.mem_of_getElem? (i := 876) (by decide +kernel), rfl⟩
theorem gw877 : Cond.methodLink "TrueLedger" 260 yX5_add ∈ GW := List.mem_filter.mpr ⟨List.mem_of_getElem? (i := 877) (by decide +kernel), rfl⟩
theorem gw878 : Cond.instanceMethod yX5_add ∈ GW := List.mem_filter.mpr ⟨List.mem_of_getElem? (i := 878) (by decide +kernel), rfl⟩
theorem gw879 : Cond.selects yX5_add.cls yX5_add yX5_add ∈ GW := List.mem_filter.mpr ⟨List.mem_of_getElem? (i := 879) (by decide +kernel), rfl⟩
theorem gw88 : Cond.initialized "java/lang/StringLatin1" ∈ GW := List.mem_filter.mpr ⟨List.mem_of_getElem? (i := 88) (by decide +kernel), rfl⟩
theorem gw880 : Cond.code yX5_add cX5_add 4 (some .int) ∈ GW := List.mem_filter.mpr ⟨List.mem_of_getElem? (i := 880) (by decide +kernel), rfl⟩
theorem gw889 : Cond.methodLink "TrueLedger" 266 yX9_owedOn ∈ GW := List.mem_filter.mpr ⟨List.mem_of_getElem? (i := 889) (by decide +kernel), rfl⟩
theorem gw89 : Cond.initialized "java/lang/Math" ∈ GW := List.mem_filter.mpr ⟨List.mem_of_getElem? (i := 89) (by decide +kernel), rfl⟩
theorem gw891 : Cond.instanceMethod yX9_owedOn ∈ GW := List.mem_filter.mpr ⟨List.mem_of_getElem? (i := 891) (by decide +kernel), rfl⟩
theorem gw892 : Cond.code yX9_owedOn cX9_owedOn 6 (some .int) ∈ GW := List.mem_filter.mpr ⟨List.mem_of_getElem? (i := 892) (by decide +kernel), rfl⟩
theorem gw893 : Cond.methodLink "TrueLedger" 269 yX0_isShort ∈ GW := List.mem_filter.mpr ⟨List.mem_of_getElem? (i := 893) (by decide +kernel), rfl⟩
theorem gw894 : Cond.methodLink "TrueLedger" 273 yX5_hasAny ∈ GW := List.mem_filter.mpr ⟨List.mem_of_getElem? (i := 894) (by decide +kernel), rfl⟩
theorem gw895 : Cond.instanceMethod yX5_hasAny ∈ GW := List.mem_filter.mpr ⟨List.mem_of_getElem? (i := 895) (by decide +kernel), rfl⟩
theorem gw896 : Cond.selects yX5_hasAny.cls yX5_hasAny yX5_hasAny ∈ GW := List.mem_filter.mpr ⟨List.mem_of_getElem? (i := 896) (by decide +kernel), rfl⟩
theorem gw897 : Cond.code yX5_hasAny cX5_hasAny 4 (some .boolean) ∈ GW := List.mem_filter.mpr ⟨List.mem_of_getElem? (i := 897) (by decide +kernel), rfl⟩
theorem gw898 : Cond.methodLink "TrueLedger" 277 yX5_withInterest ∈ GW := List.mem_filter.mpr ⟨List.mem_of_getElem? (i := 898) (by decide +kernel), rfl⟩
theorem gw899 : Cond.instanceMethod yX5_withInterest ∈ GW := List.mem_filter.mpr ⟨List.mem_of_getElem? (i := 899) (by decide +kernel), rfl⟩
theorem gw9 : Cond.selects yX6_keep.cls yX6_keep yX6_keep ∈ GW := List.mem_filter.mpr ⟨List.mem_of_getElem? (i := 9) (by decide +kernel), rfl⟩
theorem gw900 : Cond.selects yX5_withInterest.cls yX5_withInterest yX5_withInterest ∈ GW := List.mem_filter.mpr ⟨List.mem_of_getElem? (i := 900) (by decide +kernel), rfl⟩
theorem gw901 : Cond.code yX5_withInterest cX5_withInterest 6 (some .int) ∈ GW := List.mem_filter.mpr ⟨List.mem_of_getElem? (i := 901) (by decide +kernel), rfl⟩
theorem gw906 : Cond.constant "TrueLedger" 280 16777215 ∈ GW := List.mem_filter.mpr ⟨List.mem_of_getElem? (i := 906) (by decide +kernel), rfl⟩
theorem gw907 : Cond.methodLink "TrueLedger" 281 yX1_add ∈ GW := List.mem_filter.mpr ⟨List.mem_of_getElem? (i := 907) (by decide +kernel), rfl⟩
theorem gw908 : Cond.instanceMethod yX1_add ∈ GW := List.mem_filter.mpr ⟨List.mem_of_getElem? (i := 908) (by decide +kernel), rfl⟩
theorem gw909 : Cond.selects yX1_add.cls yX1_add yX1_add ∈ GW := List.mem_filter.mpr ⟨List.mem_of_getElem? (i := 909) (by decide +kernel), rfl⟩
theorem gw910 : Cond.code yX1_add cX1_add 3 (some .int) ∈ GW := List.mem_filter.mpr ⟨List.mem_of_getElem? (i := 910) (by decide +kernel), rfl⟩
theorem gw916 : Cond.instanceMethod yX9_standing ∈ GW := List.mem_filter.mpr ⟨List.mem_of_getElem? (i := 916) (by decide +kernel), rfl⟩
theorem gw917 : Cond.selects yX9_standing.cls yX9_standing yX9_standing ∈ GW := List.mem_filter.mpr ⟨List.mem_of_getElem? (i := 917) (by decide +kernel), rfl⟩
theorem gw918 : Cond.code yX9_standing cX9_standing 1 (some .int) ∈ GW := List.mem_filter.mpr ⟨List.mem_of_getElem? (i := 918) (by decide +kernel), rfl⟩
theorem gw919 : Cond.methodLink "TrueLedger" 286 yX1_ledBackTo ∈ GW := List.mem_filter.mpr ⟨List.mem_of_getElem? (i := 919) (by decide +kernel), rfl⟩
theorem gw920 : Cond.instanceMethod yX1_ledBackTo ∈ GW := List.mem_filter.mpr ⟨List.mem_of_getElem? (i := 920) (by decide +kernel), rfl⟩
theorem gw921 : Cond.selects yX1_ledBackTo.cls yX1_ledBackTo yX1_ledBackTo ∈ GW := List.mem_filter.mpr ⟨List.mem_of_getElem? (i := 921) (by decide +kernel), rfl⟩
theorem gw922 : Cond.code yX1_ledBackTo cX1_ledBackTo 6 (some .int) ∈ GW := List.mem_filter.mpr ⟨List.mem_of_getElem? (i := 922) (by decide +kernel), rfl⟩
theorem gw93 : Cond.initialized "java/lang/Integer" ∈ GW := List.mem_filter.mpr ⟨List.mem_of_getElem? (i := 93) (by decide +kernel), rfl⟩
theorem gw931 : Cond.methodLink "TrueLedger" 289 yX9_enqueue ∈ GW := List.mem_filter.mpr ⟨List.mem_of_getElem? (i := 931) (by decide +kernel), rfl⟩
theorem gw933 : Cond.instanceMethod yX9_enqueue ∈ GW := List.mem_filter.mpr ⟨List.mem_of_getElem? (i := 933) (by decide +kernel), rfl⟩
theorem gw934 : Cond.code yX9_enqueue cX9_enqueue 4 none ∈ GW := List.mem_filter.mpr ⟨List.mem_of_getElem? (i := 934) (by decide +kernel), rfl⟩
theorem gw935 : Cond.methodLink "TrueLedger" 296 yX9_isBefore ∈ GW := List.mem_filter.mpr ⟨List.mem_of_getElem? (i := 935) (by decide +kernel), rfl⟩
theorem gw937 : Cond.instanceMethod yX9_isBefore ∈ GW := List.mem_filter.mpr ⟨List.mem_of_getElem? (i := 937) (by decide +kernel), rfl⟩
theorem gw938 : Cond.code yX9_isBefore cX9_isBefore 5 (some .boolean) ∈ GW := List.mem_filter.mpr ⟨List.mem_of_getElem? (i := 938) (by decide +kernel), rfl⟩
theorem gw939 : Cond.methodLink "TrueLedger" 293 yX9_costOfQueue ∈ GW := List.mem_filter.mpr ⟨List.mem_of_getElem? (i := 939) (by decide +kernel), rfl⟩
theorem gw94 : Cond.initialized "TrueLedger$Counter" ∈ GW := List.mem_filter.mpr ⟨List.mem_of_getElem? (i := 94) (by decide +kernel), rfl⟩
theorem gw941 : Cond.instanceMethod yX9_costOfQueue ∈ GW := List.mem_filter.mpr ⟨List.mem_of_getElem? (i := 941) (by decide +kernel), rfl⟩
theorem gw942 : Cond.code yX9_costOfQueue cX9_costOfQueue 6 (some .int) ∈ GW := List.mem_filter.mpr ⟨List.mem_of_getElem? (i := 942) (by decide +kernel), rfl⟩
theorem gw947 : Cond.methodLink "TrueLedger" 305 yX9_isType ∈ GW := List.mem_filter.mpr ⟨List.mem_of_getElem? (i := 947) (by decide +kernel), rfl⟩
theorem gw948 : Cond.static yX9_isType ∈ GW := List.mem_filter.mpr ⟨List.mem_of_getElem? (i := 948) (by decide +kernel), rfl⟩
theorem gw949 : Cond.code yX9_isType cX9_isType 1 (some .boolean) ∈ GW := List.mem_filter.mpr ⟨List.mem_of_getElem? (i := 949) (by decide +kernel), rfl⟩
theorem gw95 : Cond.initialized "java/lang/System" ∈ GW := List.mem_filter.mpr ⟨List.mem_of_getElem? (i := 95) (by decide +kernel), rfl⟩
theorem gw950 : Cond.methodLink "TrueLedger" 308 yX7_renew ∈ GW := List.mem_filter.mpr ⟨List.mem_of_getElem? (i := 950) (by decide +kernel), rfl⟩
theorem gw951 : Cond.instanceMethod yX7_renew ∈ GW := List.mem_filter.mpr ⟨List.mem_of_getElem? (i := 951) (by decide +kernel), rfl⟩
theorem gw952 : Cond.selects yX7_renew.cls yX7_renew yX7_renew ∈ GW := List.mem_filter.mpr ⟨List.mem_of_getElem? (i := 952) (by decide +kernel), rfl⟩
theorem gw953 : Cond.code yX7_renew cX7_renew 3 none ∈ GW := List.mem_filter.mpr ⟨List.mem_of_getElem? (i := 953) (by decide +kernel), rfl⟩
theorem gw954 : Cond.methodLink "TrueLedger$Sheet" 26 yJ7_fill_53178 ∈ GW := List.mem_filter.mpr ⟨List.mem_of_getElem? (i := 954) (by decide +kernel), rfl⟩
theorem gw955 : Cond.methodLink "TrueLedger$Sheet" 32 yJ9_min_7cf53 ∈ GW := List.mem_filter.mpr ⟨List.mem_of_getElem? (i := 955) (by decide +kernel), rfl⟩
theorem gw964 : Cond.methodLink "TrueLedger" 311 yX7_findingAt ∈ GW := List.mem_filter.mpr ⟨List.mem_of_getElem? (i := 964) (by decide +kernel), rfl⟩
theorem gw965 : Cond.instanceMethod yX7_findingAt ∈ GW := List.mem_filter.mpr ⟨List.mem_of_getElem? (i := 965) (by decide +kernel), rfl⟩
theorem gw966 : Cond.selects yX7_findingAt.cls yX7_findingAt yX7_findingAt ∈ GW := List.mem_filter.mpr ⟨List.mem_of_getElem? (i := 966) (by decide +kernel), rfl⟩
theorem gw967 : Cond.code yX7_findingAt cX7_findingAt 3 (some .int) ∈ GW := List.mem_filter.mpr ⟨List.mem_of_getElem? (i := 967) (by decide +kernel), rfl⟩
theorem gw968 : Cond.methodLink "TrueLedger" 314 yX7_store ∈ GW := List.mem_filter.mpr ⟨List.mem_of_getElem? (i := 968) (by decide +kernel), rfl⟩
theorem gw969 : Cond.instanceMethod yX7_store ∈ GW := List.mem_filter.mpr ⟨List.mem_of_getElem? (i := 969) (by decide +kernel), rfl⟩
theorem gw970 : Cond.selects yX7_store.cls yX7_store yX7_store ∈ GW := List.mem_filter.mpr ⟨List.mem_of_getElem? (i := 970) (by decide +kernel), rfl⟩
theorem gw971 : Cond.code yX7_store cX7_store 3 none ∈ GW := List.mem_filter.mpr ⟨List.mem_of_getElem? (i := 971) (by decide +kernel), rfl⟩
theorem gw976 : Cond.constant "TrueLedger" 317 (-2147483648) ∈ GW := List.mem_filter.mpr ⟨List.mem_of_getElem? (i := 976) (by decide +kernel), rfl⟩
theorem gw981 : Cond.methodLink "TrueLedger" 321 yX7_hasItems ∈ GW := List.mem_filter.mpr ⟨List.mem_of_getElem? (i := 981) (by decide +kernel), rfl⟩
theorem gw982 : Cond.instanceMethod yX7_hasItems ∈ GW := List.mem_filter.mpr ⟨List.mem_of_getElem? (i := 982) (by decide +kernel), rfl⟩
theorem gw983 : Cond.selects yX7_hasItems.cls yX7_hasItems yX7_hasItems ∈ GW := List.mem_filter.mpr ⟨List.mem_of_getElem? (i := 983) (by decide +kernel), rfl⟩
theorem gw984 : Cond.code yX7_hasItems cX7_hasItems 3 (some .boolean) ∈ GW := List.mem_filter.mpr ⟨List.mem_of_getElem? (i := 984) (by decide +kernel), rfl⟩
theorem gw985 : Cond.methodLink "TrueLedger" 324 arraycopyName ∈ GW := List.mem_filter.mpr ⟨List.mem_of_getElem? (i := 985) (by decide +kernel), rfl⟩
theorem gw986 : Cond.static arraycopyName ∈ GW := List.mem_filter.mpr ⟨List.mem_of_getElem? (i := 986) (by decide +kernel), rfl⟩
theorem gw987 : Cond.native arraycopyName ∈ GW := List.mem_filter.mpr ⟨List.mem_of_getElem? (i := 987) (by decide +kernel), rfl⟩
theorem gw993 : Cond.instanceMethod yX9_count ∈ GW := List.mem_filter.mpr ⟨List.mem_of_getElem? (i := 993) (by decide +kernel), rfl⟩
theorem gw994 : Cond.selects yX9_count.cls yX9_count yX9_count ∈ GW := List.mem_filter.mpr ⟨List.mem_of_getElem? (i := 994) (by decide +kernel), rfl⟩
theorem gw995 : Cond.code yX9_count cX9_count 2 (some .int) ∈ GW := List.mem_filter.mpr ⟨List.mem_of_getElem? (i := 995) (by decide +kernel), rfl⟩
theorem gw996 : Cond.methodLink "TrueLedger" 330 yX9_countBytes ∈ GW := List.mem_filter.mpr ⟨List.mem_of_getElem? (i := 996) (by decide +kernel), rfl⟩
theorem gw998 : Cond.instanceMethod yX9_countBytes ∈ GW := List.mem_filter.mpr ⟨List.mem_of_getElem? (i := 998) (by decide +kernel), rfl⟩
theorem gw999 : Cond.code yX9_countBytes cX9_countBytes 4 (some .int) ∈ GW := List.mem_filter.mpr ⟨List.mem_of_getElem? (i := 999) (by decide +kernel), rfl⟩
theorem nw121 : Cond.fieldLinkNest "TrueLedger" 144 "TrueLedger$Search" "row" "[I" "TrueLedger" ∈ NW := List.mem_filter.mpr ⟨List.mem_of_getElem? (i := 121) (by decide +kernel), rfl⟩
theorem nw203 : Cond.fieldLinkNest "TrueLedger" 339 "TrueLedger$Paid" "size" "I" "TrueLedger" ∈ NW := List.mem_filter.mpr ⟨List.mem_of_getElem? (i := 203) (by decide +kernel), rfl⟩
theorem nw205 : Cond.fieldLinkNest "TrueLedger" 263 "TrueLedger$Paid" "interest" "I" "TrueLedger" ∈ NW := List.mem_filter.mpr ⟨List.mem_of_getElem? (i := 205) (by decide +kernel), rfl⟩
theorem nw226 : Cond.fieldLinkNest "TrueLedger" 342 "TrueLedger$Court" "size" "I" "TrueLedger" ∈ NW := List.mem_filter.mpr ⟨List.mem_of_getElem? (i := 226) (by decide +kernel), rfl⟩
theorem nw228 : Cond.fieldLinkNest "TrueLedger" 283 "TrueLedger$Court" "grounds" "I" "TrueLedger" ∈ NW := List.mem_filter.mpr ⟨List.mem_of_getElem? (i := 228) (by decide +kernel), rfl⟩
theorem nw245 : Cond.fieldLinkNest "TrueLedger$Mix" 50 "TrueLedger$Version" "codes" "[I" "TrueLedger" ∈ NW := List.mem_filter.mpr ⟨List.mem_of_getElem? (i := 245) (by decide +kernel), rfl⟩
theorem nw247 : Cond.fieldLinkNest "TrueLedger$Mix" 42 "TrueLedger$Version" "firstCode" "[I" "TrueLedger" ∈ NW := List.mem_filter.mpr ⟨List.mem_of_getElem? (i := 247) (by decide +kernel), rfl⟩
theorem nw249 : Cond.fieldLinkNest "TrueLedger$Mix" 35 "TrueLedger$Version" "actCount" "[I" "TrueLedger" ∈ NW := List.mem_filter.mpr ⟨List.mem_of_getElem? (i := 249) (by decide +kernel), rfl⟩
theorem nw250 : Cond.fieldLinkNest "TrueLedger" 108 "TrueLedger$Version" "actCount" "[I" "TrueLedger" ∈ NW := List.mem_filter.mpr ⟨List.mem_of_getElem? (i := 250) (by decide +kernel), rfl⟩
theorem nw254 : Cond.fieldLinkNest "TrueLedger" 362 "TrueLedger$Version" "length" "I" "TrueLedger" ∈ NW := List.mem_filter.mpr ⟨List.mem_of_getElem? (i := 254) (by decide +kernel), rfl⟩
theorem nw256 : Cond.fieldLinkNest "TrueLedger" 105 "TrueLedger$Version" "faultPlace" "I" "TrueLedger" ∈ NW := List.mem_filter.mpr ⟨List.mem_of_getElem? (i := 256) (by decide +kernel), rfl⟩
theorem nw258 : Cond.fieldLinkNest "TrueLedger" 251 "TrueLedger$Version" "revision" "I" "TrueLedger" ∈ NW := List.mem_filter.mpr ⟨List.mem_of_getElem? (i := 258) (by decide +kernel), rfl⟩
theorem nw289 : Cond.fieldLinkNest "TrueLedger$Filler" 56 "TrueLedger$Mix" "first" "LTrueLedger$Version;" "TrueLedger" ∈ NW := List.mem_filter.mpr ⟨List.mem_of_getElem? (i := 289) (by decide +kernel), rfl⟩
theorem nw292 : Cond.fieldLinkNest "TrueLedger$Mender" 24 "TrueLedger$Mix" "secondLines" "I" "TrueLedger" ∈ NW := List.mem_filter.mpr ⟨List.mem_of_getElem? (i := 292) (by decide +kernel), rfl⟩
theorem nw308 : Cond.fieldLinkNest "TrueLedger$Counter" 64 "TrueLedger$Sheet" "items" "[I" "TrueLedger" ∈ NW := List.mem_filter.mpr ⟨List.mem_of_getElem? (i := 308) (by decide +kernel), rfl⟩
theorem nw309 : Cond.fieldLinkNest "TrueLedger" 133 "TrueLedger$Sheet" "items" "[I" "TrueLedger" ∈ NW := List.mem_filter.mpr ⟨List.mem_of_getElem? (i := 309) (by decide +kernel), rfl⟩
theorem nw311 : Cond.fieldLinkNest "TrueLedger" 123 "TrueLedger$Sheet" "isLost" "Z" "TrueLedger" ∈ NW := List.mem_filter.mpr ⟨List.mem_of_getElem? (i := 311) (by decide +kernel), rfl⟩
theorem nw313 : Cond.fieldLinkNest "TrueLedger" 318 "TrueLedger$Sheet" "type" "I" "TrueLedger" ∈ NW := List.mem_filter.mpr ⟨List.mem_of_getElem? (i := 313) (by decide +kernel), rfl⟩
theorem nw315 : Cond.fieldLinkNest "TrueLedger" 127 "TrueLedger$Sheet" "length" "I" "TrueLedger" ∈ NW := List.mem_filter.mpr ⟨List.mem_of_getElem? (i := 315) (by decide +kernel), rfl⟩
theorem nw556 : Cond.methodLinkNest "TrueLedger$Mix" 38 yX9_modeOf "TrueLedger" ∈ NW := List.mem_filter.mpr ⟨List.mem_of_getElem? (i := 556) (by decide +kernel), rfl⟩
theorem nw601 : Cond.methodLinkNest "TrueLedger$Search" 79 yX9_ledgerOf "TrueLedger" ∈ NW := List.mem_filter.mpr ⟨List.mem_of_getElem? (i := 601) (by decide +kernel), rfl⟩
theorem nw613 : Cond.methodLinkNest "TrueLedger$Search" 76 yX9_coinsOf "TrueLedger" ∈ NW := List.mem_filter.mpr ⟨List.mem_of_getElem? (i := 613) (by decide +kernel), rfl⟩
theorem nw662 : Cond.fieldLinkNest "TrueLedger" 244 "TrueLedger$Counter" "version" "I" "TrueLedger" ∈ NW := List.mem_filter.mpr ⟨List.mem_of_getElem? (i := 662) (by decide +kernel), rfl⟩
theorem nw664 : Cond.fieldLinkNest "TrueLedger$Filler" 95 "TrueLedger$Counter" "events" "[I" "TrueLedger" ∈ NW := List.mem_filter.mpr ⟨List.mem_of_getElem? (i := 664) (by decide +kernel), rfl⟩
theorem nw665 : Cond.fieldLinkNest "TrueLedger" 221 "TrueLedger$Counter" "events" "[I" "TrueLedger" ∈ NW := List.mem_filter.mpr ⟨List.mem_of_getElem? (i := 665) (by decide +kernel), rfl⟩
theorem nw667 : Cond.fieldLinkNest "TrueLedger$Filler" 94 "TrueLedger$Counter" "length" "I" "TrueLedger" ∈ NW := List.mem_filter.mpr ⟨List.mem_of_getElem? (i := 667) (by decide +kernel), rfl⟩
theorem nw668 : Cond.fieldLinkNest "TrueLedger" 220 "TrueLedger$Counter" "length" "I" "TrueLedger" ∈ NW := List.mem_filter.mpr ⟨List.mem_of_getElem? (i := 668) (by decide +kernel), rfl⟩
theorem nw671 : Cond.fieldLinkNest "TrueLedger$Filler" 124 "TrueLedger$Counter" "drawer" "I" "TrueLedger" ∈ NW := List.mem_filter.mpr ⟨List.mem_of_getElem? (i := 671) (by decide +kernel), rfl⟩
theorem nw672 : Cond.fieldLinkNest "TrueLedger" 205 "TrueLedger$Counter" "drawer" "I" "TrueLedger" ∈ NW := List.mem_filter.mpr ⟨List.mem_of_getElem? (i := 672) (by decide +kernel), rfl⟩
theorem nw674 : Cond.fieldLinkNest "TrueLedger$Filler" 134 "TrueLedger$Counter" "ledger" "I" "TrueLedger" ∈ NW := List.mem_filter.mpr ⟨List.mem_of_getElem? (i := 674) (by decide +kernel), rfl⟩
theorem nw675 : Cond.fieldLinkNest "TrueLedger" 208 "TrueLedger$Counter" "ledger" "I" "TrueLedger" ∈ NW := List.mem_filter.mpr ⟨List.mem_of_getElem? (i := 675) (by decide +kernel), rfl⟩
theorem nw677 : Cond.fieldLinkNest "TrueLedger" 237 "TrueLedger$Counter" "pageCost" "I" "TrueLedger" ∈ NW := List.mem_filter.mpr ⟨List.mem_of_getElem? (i := 677) (by decide +kernel), rfl⟩
theorem nw679 : Cond.fieldLinkNest "TrueLedger" 299 "TrueLedger$Counter" "days" "I" "TrueLedger" ∈ NW := List.mem_filter.mpr ⟨List.mem_of_getElem? (i := 679) (by decide +kernel), rfl⟩
theorem nw681 : Cond.fieldLinkNest "TrueLedger" 302 "TrueLedger$Counter" "weight" "I" "TrueLedger" ∈ NW := List.mem_filter.mpr ⟨List.mem_of_getElem? (i := 681) (by decide +kernel), rfl⟩
theorem nw683 : Cond.fieldLinkNest "TrueLedger$Filler" 66 "TrueLedger$Counter" "tally" "[I" "TrueLedger" ∈ NW := List.mem_filter.mpr ⟨List.mem_of_getElem? (i := 683) (by decide +kernel), rfl⟩
theorem nw684 : Cond.fieldLinkNest "TrueLedger" 228 "TrueLedger$Counter" "tally" "[I" "TrueLedger" ∈ NW := List.mem_filter.mpr ⟨List.mem_of_getElem? (i := 684) (by decide +kernel), rfl⟩
theorem nw686 : Cond.fieldLinkNest "TrueLedger$Filler" 77 "TrueLedger$Counter" "allCauses" "I" "TrueLedger" ∈ NW := List.mem_filter.mpr ⟨List.mem_of_getElem? (i := 686) (by decide +kernel), rfl⟩
theorem nw687 : Cond.fieldLinkNest "TrueLedger" 231 "TrueLedger$Counter" "allCauses" "I" "TrueLedger" ∈ NW := List.mem_filter.mpr ⟨List.mem_of_getElem? (i := 687) (by decide +kernel), rfl⟩
theorem nw689 : Cond.fieldLinkNest "TrueLedger$Filler" 91 "TrueLedger$Counter" "pagesToRead" "I" "TrueLedger" ∈ NW := List.mem_filter.mpr ⟨List.mem_of_getElem? (i := 689) (by decide +kernel), rfl⟩
theorem nw690 : Cond.fieldLinkNest "TrueLedger" 234 "TrueLedger$Counter" "pagesToRead" "I" "TrueLedger" ∈ NW := List.mem_filter.mpr ⟨List.mem_of_getElem? (i := 690) (by decide +kernel), rfl⟩
theorem nw692 : Cond.fieldLinkNest "TrueLedger" 211 "TrueLedger$Counter" "judgedAt" "I" "TrueLedger" ∈ NW := List.mem_filter.mpr ⟨List.mem_of_getElem? (i := 692) (by decide +kernel), rfl⟩
theorem nw789 : Cond.methodLinkNest "TrueLedger$Filler" 131 yX9_ledgerOf "TrueLedger" ∈ NW := List.mem_filter.mpr ⟨List.mem_of_getElem? (i := 789) (by decide +kernel), rfl⟩
theorem nw800 : Cond.methodLinkNest "TrueLedger$Filler" 103 yX9_coinsOf "TrueLedger" ∈ NW := List.mem_filter.mpr ⟨List.mem_of_getElem? (i := 800) (by decide +kernel), rfl⟩
theorem kc_b_10 : (Int8.ofInt 10).toInt32 = 10 := by decide
theorem kc_b_100 : (Int8.ofInt 100).toInt32 = 100 := by decide
theorem kc_b_108 : (Int8.ofInt 108).toInt32 = 108 := by decide
theorem kc_b_109 : (Int8.ofInt 109).toInt32 = 109 := by decide
theorem kc_b_112 : (Int8.ofInt 112).toInt32 = 112 := by decide
theorem kc_b_12 : (Int8.ofInt 12).toInt32 = 12 := by decide
theorem kc_b_120 : (Int8.ofInt 120).toInt32 = 120 := by decide
theorem kc_b_15 : (Int8.ofInt 15).toInt32 = 15 := by decide
theorem kc_b_16 : (Int8.ofInt 16).toInt32 = 16 := by decide
theorem kc_b_22 : (Int8.ofInt 22).toInt32 = 22 := by decide
theorem kc_b_24 : (Int8.ofInt 24).toInt32 = 24 := by decide
theorem kc_b_25 : (Int8.ofInt 25).toInt32 = 25 := by decide
theorem kc_b_40 : (Int8.ofInt 40).toInt32 = 40 := by decide
theorem kc_b_43 : (Int8.ofInt 43).toInt32 = 43 := by decide
theorem kc_b_44 : (Int8.ofInt 44).toInt32 = 44 := by decide
theorem kc_b_45 : (Int8.ofInt 45).toInt32 = 45 := by decide
theorem kc_b_48 : (Int8.ofInt 48).toInt32 = 48 := by decide
theorem kc_b_49 : (Int8.ofInt 49).toInt32 = 49 := by decide
theorem kc_b_50 : (Int8.ofInt 50).toInt32 = 50 := by decide
theorem kc_b_57 : (Int8.ofInt 57).toInt32 = 57 := by decide
theorem kc_b_58 : (Int8.ofInt 58).toInt32 = 58 := by decide
theorem kc_b_59 : (Int8.ofInt 59).toInt32 = 59 := by decide
theorem kc_b_6 : (Int8.ofInt 6).toInt32 = 6 := by decide
theorem kc_b_60 : (Int8.ofInt 60).toInt32 = 60 := by decide
theorem kc_b_61 : (Int8.ofInt 61).toInt32 = 61 := by decide
theorem kc_b_63 : (Int8.ofInt 63).toInt32 = 63 := by decide
theorem kc_b_7 : (Int8.ofInt 7).toInt32 = 7 := by decide
theorem kc_b_78 : (Int8.ofInt 78).toInt32 = 78 := by decide
theorem kc_b_8 : (Int8.ofInt 8).toInt32 = 8 := by decide
theorem kc_b_9 : (Int8.ofInt 9).toInt32 = 9 := by decide
theorem kc_b_99 : (Int8.ofInt 99).toInt32 = 99 := by decide
theorem kc_b_m10 : (Int8.ofInt (-10)).toInt32 = (-10) := by decide
theorem kc_b_m2 : (Int8.ofInt (-2)).toInt32 = (-2) := by decide
theorem kc_b_m3 : (Int8.ofInt (-3)).toInt32 = (-3) := by decide
theorem kc_b_m4 : (Int8.ofInt (-4)).toInt32 = (-4) := by decide
theorem kc_b_m99 : (Int8.ofInt (-99)).toInt32 = (-99) := by decide
theorem kc_i_0 : Int32.ofInt 0 = 0 := by decide
theorem kc_i_1 : Int32.ofInt 1 = 1 := by decide
theorem kc_i_2 : Int32.ofInt 2 = 2 := by decide
theorem kc_i_3 : Int32.ofInt 3 = 3 := by decide
theorem kc_i_4 : Int32.ofInt 4 = 4 := by decide
theorem kc_i_5 : Int32.ofInt 5 = 5 := by decide
theorem kc_i_m1 : Int32.ofInt (-1) = (-1) := by decide
theorem kc_s_1000 : (Int16.ofInt 1000).toInt32 = 1000 := by decide
theorem kc_s_1023 : (Int16.ofInt 1023).toInt32 = 1023 := by decide
theorem kc_s_1024 : (Int16.ofInt 1024).toInt32 = 1024 := by decide
theorem kc_s_192 : (Int16.ofInt 192).toInt32 = 192 := by decide
theorem kc_s_255 : (Int16.ofInt 255).toInt32 = 255 := by decide
theorem kc_s_256 : (Int16.ofInt 256).toInt32 = 256 := by decide
theorem kc_s_399 : (Int16.ofInt 399).toInt32 = 399 := by decide
theorem kc_s_585 : (Int16.ofInt 585).toInt32 = 585 := by decide
theorem kc_s_m1000 : (Int16.ofInt (-1000)).toInt32 = (-1000) := by decide
theorem ak_20 : AK 20 0 := by unfold AK; decide
theorem ak_21 : AK 21 0 := by unfold AK; decide
theorem ak_22 : AK 22 0 := by unfold AK; decide
theorem ak_23 : AK 23 0 := by unfold AK; decide
theorem ak_24 : AK 24 0 := by unfold AK; decide
theorem ak_25 : AK 25 0 := by unfold AK; decide
theorem ak_26 : AK 26 0 := by unfold AK; decide
theorem ak_28 : AK 28 0 := by unfold AK; decide
theorem ak_29 : AK 29 0 := by unfold AK; decide
theorem ak_30 : AK 30 1 := by unfold AK; decide
theorem ak_31 : AK 31 1 := by unfold AK; decide
theorem ak_32 : AK 32 0 := by unfold AK; decide
theorem ak_33 : AK 33 0 := by unfold AK; decide
theorem ak_34 : AK 34 0 := by unfold AK; decide
theorem ak_35 : AK 35 0 := by unfold AK; decide
theorem ak_36 : AK 36 0 := by unfold AK; decide
theorem ak_37 : AK 37 0 := by unfold AK; decide
theorem ak_38 : AK 38 0 := by unfold AK; decide
theorem ak_39 : AK 39 0 := by unfold AK; decide
theorem ak_40 : AK 40 0 := by unfold AK; decide
theorem ak_41 : AK 41 0 := by unfold AK; decide
theorem ak_42 : AK 42 0 := by unfold AK; decide
theorem ak_43 : AK 43 0 := by unfold AK; decide
theorem ak_44 : AK 44 0 := by unfold AK; decide
theorem ak_45 : AK 45 0 := by unfold AK; decide
theorem ak_46 : AK 46 0 := by unfold AK; decide
theorem ak_47 : AK 47 0 := by unfold AK; decide
theorem ak_48 : AK 48 0 := by unfold AK; decide
theorem ak_52 : AK 52 0 := by unfold AK; decide
theorem ak_53 : AK 53 0 := by unfold AK; decide
theorem ak_54 : AK 54 0 := by unfold AK; decide
theorem ak_55 : AK 55 2 := by unfold AK; decide
theorem ak_56 : AK 56 0 := by unfold AK; decide
theorem ak_57 : AK 57 0 := by unfold AK; decide
theorem ak_58 : AK 58 0 := by unfold AK; decide
theorem ak_59 : AK 59 0 := by unfold AK; decide
theorem ak_60 : AK 60 0 := by unfold AK; decide
theorem ak_61 : AK 61 0 := by unfold AK; decide
theorem ak_62 : AK 62 0 := by unfold AK; decide
theorem ak_63 : AK 63 0 := by unfold AK; decide
theorem ak_64 : AK 64 0 := by unfold AK; decide
theorem ak_65 : AK 65 0 := by unfold AK; decide
theorem ak_66 : AK 66 0 := by unfold AK; decide
theorem ak_67 : AK 67 0 := by unfold AK; decide
theorem ak_68 : AK 68 0 := by unfold AK; decide
theorem ak_69 : AK 69 0 := by unfold AK; decide
theorem ak_70 : AK 70 0 := by unfold AK; decide
theorem ak_71 : AK 71 0 := by unfold AK; decide
theorem ak_72 : AK 72 0 := by unfold AK; decide
theorem ak_73 : AK 73 0 := by unfold AK; decide
theorem ak_74 : AK 74 0 := by unfold AK; decide
theorem ak_75 : AK 75 0 := by unfold AK; decide
theorem ak_76 : AK 76 0 := by unfold AK; decide
theorem ak_77 : AK 77 0 := by unfold AK; decide
theorem ak_78 : AK 78 0 := by unfold AK; decide
theorem ak_79 : AK 79 0 := by unfold AK; decide
theorem ak_80 : AK 80 0 := by unfold AK; decide
theorem ak_81 : AK 81 2 := by unfold AK; decide
theorem ak_82 : AK 82 0 := by unfold AK; decide
theorem ak_83 : AK 83 0 := by unfold AK; decide
theorem ak_84 : AK 84 0 := by unfold AK; decide
theorem ak_85 : AK 85 0 := by unfold AK; decide
theorem ak_86 : AK 86 0 := by unfold AK; decide
section GFS
variable {G : GG} {n : Nat} {E : EE} {cc : ByteArray} {nL : Nat} {Q : State → Prop} {pc : Nat} {lv : List (Nat × Value)} {st : List Value} {M : Mem}
theorem w_mem {e : Mem} (k : ∀ M1 : Mem, M1 = e → WW G n E nL Q pc lv st M1) : WW G n E nL Q pc lv st e := k e rfl
theorem sw_mid {x : Int32} {lo hi : Nat} (h1 : 0 ≤ lo) (h2 : hi < 2 ^ 31) (h : ¬ (x.toInt < lo ∨ hi < x.toInt)) : ∃ v : Nat, (lo ≤ v ∧ v ≤ hi) ∧ x = nI v := by
  have h0 : ¬ x < 0 := fun q => h (Or.inl (by have := Int32.lt_iff_toInt_lt.mp q; simp at this; omega))
  obtain ⟨j, hj, rfl⟩ := nI_of h0
  rw [nI_toInt hj] at h
  exact ⟨j, by omega, rfl⟩
theorem gf_X0_15 (C : Cx G n E RX0 cc nL) {j : Nat} (hj : j < cnt n 0) (hd : decode cc pc = .ok (.getfield 15, 3)) (k : WW G n E nL Q (pc + 3) lv (.int (M 202 j 0) :: st) M) : WW G n E nL Q pc lv (.ref (gad G 0 j) :: st) M :=
  w_get C (ci := 0) (s := 2) (T := TX0) rfl rfl in_X0 (by decide) (by decide) gw666 hj rfl hd k
theorem gf_X0_19 (C : Cx G n E RX0 cc nL) {j : Nat} (hj : j < cnt n 0) (hd : decode cc pc = .ok (.getfield 19, 3)) (k : WW G n E nL Q (pc + 3) lv (.int (M 203 j 0) :: st) M) : WW G n E nL Q pc lv (.ref (gad G 0 j) :: st) M :=
  w_get C (ci := 0) (s := 3) (T := TX0) rfl rfl in_X0 (by decide) (by decide) gw669 hj rfl hd k
theorem gf_X0_22 (C : Cx G n E RX0 cc nL) {j : Nat} (hj : j < cnt n 0) (hd : decode cc pc = .ok (.getfield 22, 3)) (k : WW G n E nL Q (pc + 3) lv (.int (M 204 j 0) :: st) M) : WW G n E nL Q pc lv (.ref (gad G 0 j) :: st) M :=
  w_get C (ci := 0) (s := 4) (T := TX0) rfl rfl in_X0 (by decide) (by decide) gw670 hj rfl hd k
theorem gf_X0_25 (C : Cx G n E RX0 cc nL) {j : Nat} (hj : j < cnt n 0) (hd : decode cc pc = .ok (.getfield 25, 3)) (k : WW G n E nL Q (pc + 3) lv (.int (M 205 j 0) :: st) M) : WW G n E nL Q pc lv (.ref (gad G 0 j) :: st) M :=
  w_get C (ci := 0) (s := 5) (T := TX0) rfl rfl in_X0 (by decide) (by decide) gw673 hj rfl hd k
theorem gf_X0_28 (C : Cx G n E RX0 cc nL) {j : Nat} (hj : j < cnt n 0) (hd : decode cc pc = .ok (.getfield 28, 3)) (k : WW G n E nL Q (pc + 3) lv (.int (M 206 j 0) :: st) M) : WW G n E nL Q pc lv (.ref (gad G 0 j) :: st) M :=
  w_get C (ci := 0) (s := 6) (T := TX0) rfl rfl in_X0 (by decide) (by decide) gw676 hj rfl hd k
theorem gf_X0_31 (C : Cx G n E RX0 cc nL) {j : Nat} (hj : j < cnt n 0) (hd : decode cc pc = .ok (.getfield 31, 3)) (k : WW G n E nL Q (pc + 3) lv (.int (M 207 j 0) :: st) M) : WW G n E nL Q pc lv (.ref (gad G 0 j) :: st) M :=
  w_get C (ci := 0) (s := 7) (T := TX0) rfl rfl in_X0 (by decide) (by decide) gw678 hj rfl hd k
theorem gf_X0_34 (C : Cx G n E RX0 cc nL) {j : Nat} (hj : j < cnt n 0) (hd : decode cc pc = .ok (.getfield 34, 3)) (k : WW G n E nL Q (pc + 3) lv (.int (M 208 j 0) :: st) M) : WW G n E nL Q pc lv (.ref (gad G 0 j) :: st) M :=
  w_get C (ci := 0) (s := 8) (T := TX0) rfl rfl in_X0 (by decide) (by decide) gw680 hj rfl hd k
theorem gf_X0_49 (C : Cx G n E RX0 cc nL) {j : Nat} (hj : j < cnt n 0) (hd : decode cc pc = .ok (.getfield 49, 3)) (k : WW G n E nL Q (pc + 3) lv (.int (M 200 j 0) :: st) M) : WW G n E nL Q pc lv (.ref (gad G 0 j) :: st) M :=
  w_get C (ci := 0) (s := 0) (T := TX0) rfl rfl in_X0 (by decide) (by decide) gw661 hj rfl hd k
theorem gf_X0_64 (C : Cx G n E RX0 cc nL) {j : Nat} (hj : j < cnt n 7) (hd : decode cc pc = .ok (.getfield 64, 3)) (k : WW G n E nL Q (pc + 3) lv (.ref (gad G 42 j) :: st) M) : WW G n E nL Q pc lv (.ref (gad G 7 j) :: st) M :=
  w_getN C (ci := 7) (s := 0) (T := TX7) rfl rfl in_X7 (by decide) (by decide) nw308 hj rfl hd k
theorem gf_X0_9 (C : Cx G n E RX0 cc nL) {j : Nat} (hj : j < cnt n 0) (hd : decode cc pc = .ok (.getfield 9, 3)) (k : WW G n E nL Q (pc + 3) lv (.ref (gad G 20 j) :: st) M) : WW G n E nL Q pc lv (.ref (gad G 0 j) :: st) M :=
  w_get C (ci := 0) (s := 1) (T := TX0) rfl rfl in_X0 (by decide) (by decide) gw663 hj rfl hd k
theorem gf_X10_102 (C : Cx G n E RX10 cc nL) {j : Nat} (hj : j < cnt n 10) (hd : decode cc pc = .ok (.getfield 102, 3)) (k : WW G n E nL Q (pc + 3) lv (.ref (gad G 81 j) :: st) M) : WW G n E nL Q pc lv (.ref (gad G 10 j) :: st) M :=
  w_get C (ci := 10) (s := 42) (T := TX10) rfl rfl in_X10 (by decide) (by decide) gw1067 hj rfl hd k
theorem gf_X10_105 (C : Cx G n E RX10 cc nL) {j : Nat} (hj : j < cnt n 10) (hd : decode cc pc = .ok (.getfield 105, 3)) (k : WW G n E nL Q (pc + 3) lv (.ref (gad G 82 j) :: st) M) : WW G n E nL Q pc lv (.ref (gad G 10 j) :: st) M :=
  w_get C (ci := 10) (s := 43) (T := TX10) rfl rfl in_X10 (by decide) (by decide) gw1068 hj rfl hd k
theorem gf_X10_108 (C : Cx G n E RX10 cc nL) {j : Nat} (hj : j < cnt n 10) (hd : decode cc pc = .ok (.getfield 108, 3)) (k : WW G n E nL Q (pc + 3) lv (.ref (gad G 83 j) :: st) M) : WW G n E nL Q pc lv (.ref (gad G 10 j) :: st) M :=
  w_get C (ci := 10) (s := 44) (T := TX10) rfl rfl in_X10 (by decide) (by decide) gw1069 hj rfl hd k
theorem gf_X10_111 (C : Cx G n E RX10 cc nL) {j : Nat} (hj : j < cnt n 10) (hd : decode cc pc = .ok (.getfield 111, 3)) (k : WW G n E nL Q (pc + 3) lv (.ref (gad G 84 j) :: st) M) : WW G n E nL Q pc lv (.ref (gad G 10 j) :: st) M :=
  w_get C (ci := 10) (s := 45) (T := TX10) rfl rfl in_X10 (by decide) (by decide) gw1070 hj rfl hd k
theorem gf_X10_114 (C : Cx G n E RX10 cc nL) {j : Nat} (hj : j < cnt n 10) (hd : decode cc pc = .ok (.getfield 114, 3)) (k : WW G n E nL Q (pc + 3) lv (.ref (gad G 85 j) :: st) M) : WW G n E nL Q pc lv (.ref (gad G 10 j) :: st) M :=
  w_get C (ci := 10) (s := 46) (T := TX10) rfl rfl in_X10 (by decide) (by decide) gw1071 hj rfl hd k
theorem gf_X10_125 (C : Cx G n E RX10 cc nL) {j : Nat} (hj : j < cnt n 10) (hd : decode cc pc = .ok (.getfield 125, 3)) (k : WW G n E nL Q (pc + 3) lv (.int (M 710 j 0) :: st) M) : WW G n E nL Q pc lv (.ref (gad G 10 j) :: st) M :=
  w_get C (ci := 10) (s := 10) (T := TX10) rfl rfl in_X10 (by decide) (by decide) gw1035 hj rfl hd k
theorem gf_X10_128 (C : Cx G n E RX10 cc nL) {j : Nat} (hj : j < cnt n 10) (hd : decode cc pc = .ok (.getfield 128, 3)) (k : WW G n E nL Q (pc + 3) lv (.int (M 709 j 0) :: st) M) : WW G n E nL Q pc lv (.ref (gad G 10 j) :: st) M :=
  w_get C (ci := 10) (s := 9) (T := TX10) rfl rfl in_X10 (by decide) (by decide) gw1034 hj rfl hd k
theorem gf_X10_13 (C : Cx G n E RX10 cc nL) {j : Nat} (hj : j < cnt n 10) (hd : decode cc pc = .ok (.getfield 13, 3)) (k : WW G n E nL Q (pc + 3) lv (.ref (gad G 54 j) :: st) M) : WW G n E nL Q pc lv (.ref (gad G 10 j) :: st) M :=
  w_get C (ci := 10) (s := 1) (T := TX10) rfl rfl in_X10 (by decide) (by decide) gw1026 hj rfl hd k
theorem gf_X10_135 (C : Cx G n E RX10 cc nL) {j : Nat} (hj : j < cnt n 10) (hd : decode cc pc = .ok (.getfield 135, 3)) (k : WW G n E nL Q (pc + 3) lv (.int (M 711 j 0) :: st) M) : WW G n E nL Q pc lv (.ref (gad G 10 j) :: st) M :=
  w_get C (ci := 10) (s := 11) (T := TX10) rfl rfl in_X10 (by decide) (by decide) gw1036 hj rfl hd k
theorem gf_X10_145 (C : Cx G n E RX10 cc nL) {j : Nat} (hj : j < cnt n 10) (hd : decode cc pc = .ok (.getfield 145, 3)) (k : WW G n E nL Q (pc + 3) lv (.int (M 712 j 0) :: st) M) : WW G n E nL Q pc lv (.ref (gad G 10 j) :: st) M :=
  w_get C (ci := 10) (s := 12) (T := TX10) rfl rfl in_X10 (by decide) (by decide) gw1037 hj rfl hd k
theorem gf_X10_16 (C : Cx G n E RX10 cc nL) {j : Nat} (hj : j < cnt n 10) (hd : decode cc pc = .ok (.getfield 16, 3)) (k : WW G n E nL Q (pc + 3) lv (.ref (gad G 55 j) :: st) M) : WW G n E nL Q pc lv (.ref (gad G 10 j) :: st) M :=
  w_get C (ci := 10) (s := 2) (T := TX10) rfl rfl in_X10 (by decide) (by decide) gw1027 hj rfl hd k
theorem gf_X10_177 (C : Cx G n E RX10 cc nL) {j : Nat} (hj : j < cnt n 10) (hd : decode cc pc = .ok (.getfield 177, 3)) (k : WW G n E nL Q (pc + 3) lv (.int (M 716 j 0) :: st) M) : WW G n E nL Q pc lv (.ref (gad G 10 j) :: st) M :=
  w_get C (ci := 10) (s := 16) (T := TX10) rfl rfl in_X10 (by decide) (by decide) gw1041 hj rfl hd k
theorem gf_X10_180 (C : Cx G n E RX10 cc nL) {j : Nat} (hj : j < cnt n 10) (hd : decode cc pc = .ok (.getfield 180, 3)) (k : WW G n E nL Q (pc + 3) lv (.int (M 717 j 0) :: st) M) : WW G n E nL Q pc lv (.ref (gad G 10 j) :: st) M :=
  w_get C (ci := 10) (s := 17) (T := TX10) rfl rfl in_X10 (by decide) (by decide) gw1042 hj rfl hd k
theorem gf_X10_183 (C : Cx G n E RX10 cc nL) {j : Nat} (hj : j < cnt n 10) (hd : decode cc pc = .ok (.getfield 183, 3)) (k : WW G n E nL Q (pc + 3) lv (.int (M 718 j 0) :: st) M) : WW G n E nL Q pc lv (.ref (gad G 10 j) :: st) M :=
  w_get C (ci := 10) (s := 18) (T := TX10) rfl rfl in_X10 (by decide) (by decide) gw1043 hj rfl hd k
theorem gf_X10_186 (C : Cx G n E RX10 cc nL) {j : Nat} (hj : j < cnt n 10) (hd : decode cc pc = .ok (.getfield 186, 3)) (k : WW G n E nL Q (pc + 3) lv (.int (M 714 j 0) :: st) M) : WW G n E nL Q pc lv (.ref (gad G 10 j) :: st) M :=
  w_get C (ci := 10) (s := 14) (T := TX10) rfl rfl in_X10 (by decide) (by decide) gw1039 hj rfl hd k
theorem gf_X10_189 (C : Cx G n E RX10 cc nL) {j : Nat} (hj : j < cnt n 10) (hd : decode cc pc = .ok (.getfield 189, 3)) (k : WW G n E nL Q (pc + 3) lv (.int (M 715 j 0) :: st) M) : WW G n E nL Q pc lv (.ref (gad G 10 j) :: st) M :=
  w_get C (ci := 10) (s := 15) (T := TX10) rfl rfl in_X10 (by decide) (by decide) gw1040 hj rfl hd k
theorem gf_X10_20 (C : Cx G n E RX10 cc nL) {j : Nat} (hj : j < cnt n 10) (hd : decode cc pc = .ok (.getfield 20, 3)) (k : WW G n E nL Q (pc + 3) lv (.ref (gad G 56 j) :: st) M) : WW G n E nL Q pc lv (.ref (gad G 10 j) :: st) M :=
  w_get C (ci := 10) (s := 3) (T := TX10) rfl rfl in_X10 (by decide) (by decide) gw1028 hj rfl hd k
theorem gf_X10_203 (C : Cx G n E RX10 cc nL) {j : Nat} (hj : j < cnt n 10) (hd : decode cc pc = .ok (.getfield 203, 3)) (k : WW G n E nL Q (pc + 3) lv (.int (M 747 j 0) :: st) M) : WW G n E nL Q pc lv (.ref (gad G 10 j) :: st) M :=
  w_get C (ci := 10) (s := 47) (T := TX10) rfl rfl in_X10 (by decide) (by decide) gw1072 hj rfl hd k
theorem gf_X10_229 (C : Cx G n E RX10 cc nL) {j : Nat} (hj : j < cnt n 10) (hd : decode cc pc = .ok (.getfield 229, 3)) (k : WW G n E nL Q (pc + 3) lv (.int (M 720 j 0) :: st) M) : WW G n E nL Q pc lv (.ref (gad G 10 j) :: st) M :=
  w_get C (ci := 10) (s := 20) (T := TX10) rfl rfl in_X10 (by decide) (by decide) gw1045 hj rfl hd k
theorem gf_X10_23 (C : Cx G n E RX10 cc nL) {j : Nat} (hj : j < cnt n 10) (hd : decode cc pc = .ok (.getfield 23, 3)) (k : WW G n E nL Q (pc + 3) lv (.ref (gad G 57 j) :: st) M) : WW G n E nL Q pc lv (.ref (gad G 10 j) :: st) M :=
  w_get C (ci := 10) (s := 4) (T := TX10) rfl rfl in_X10 (by decide) (by decide) gw1029 hj rfl hd k
theorem gf_X10_26 (C : Cx G n E RX10 cc nL) {j : Nat} (hj : j < cnt n 10) (hd : decode cc pc = .ok (.getfield 26, 3)) (k : WW G n E nL Q (pc + 3) lv (.ref (gad G 58 j) :: st) M) : WW G n E nL Q pc lv (.ref (gad G 10 j) :: st) M :=
  w_get C (ci := 10) (s := 5) (T := TX10) rfl rfl in_X10 (by decide) (by decide) gw1030 hj rfl hd k
theorem gf_X10_274 (C : Cx G n E RX10 cc nL) {j : Nat} (hj : j < cnt n 10) (hd : decode cc pc = .ok (.getfield 274, 3)) (k : WW G n E nL Q (pc + 3) lv (.int (M 732 j 0) :: st) M) : WW G n E nL Q pc lv (.ref (gad G 10 j) :: st) M :=
  w_get C (ci := 10) (s := 32) (T := TX10) rfl rfl in_X10 (by decide) (by decide) gw1057 hj rfl hd k
theorem gf_X10_287 (C : Cx G n E RX10 cc nL) {j : Nat} (hj : j < cnt n 10) (hd : decode cc pc = .ok (.getfield 287, 3)) (k : WW G n E nL Q (pc + 3) lv (.int (M 737 j 0) :: st) M) : WW G n E nL Q pc lv (.ref (gad G 10 j) :: st) M :=
  w_get C (ci := 10) (s := 37) (T := TX10) rfl rfl in_X10 (by decide) (by decide) gw1062 hj rfl hd k
theorem gf_X10_29 (C : Cx G n E RX10 cc nL) {j : Nat} (hj : j < cnt n 10) (hd : decode cc pc = .ok (.getfield 29, 3)) (k : WW G n E nL Q (pc + 3) lv (.ref (gad G 59 j) :: st) M) : WW G n E nL Q pc lv (.ref (gad G 10 j) :: st) M :=
  w_get C (ci := 10) (s := 6) (T := TX10) rfl rfl in_X10 (by decide) (by decide) gw1031 hj rfl hd k
theorem gf_X10_32 (C : Cx G n E RX10 cc nL) {j : Nat} (hj : j < cnt n 10) (hd : decode cc pc = .ok (.getfield 32, 3)) (k : WW G n E nL Q (pc + 3) lv (.ref (gad G 60 j) :: st) M) : WW G n E nL Q pc lv (.ref (gad G 10 j) :: st) M :=
  w_get C (ci := 10) (s := 7) (T := TX10) rfl rfl in_X10 (by decide) (by decide) gw1032 hj rfl hd k
theorem gf_X10_35 (C : Cx G n E RX10 cc nL) {j : Nat} (hj : j < cnt n 10) (hd : decode cc pc = .ok (.getfield 35, 3)) (k : WW G n E nL Q (pc + 3) lv (.ref (gad G 61 j) :: st) M) : WW G n E nL Q pc lv (.ref (gad G 10 j) :: st) M :=
  w_get C (ci := 10) (s := 8) (T := TX10) rfl rfl in_X10 (by decide) (by decide) gw1033 hj rfl hd k
theorem gf_X10_38 (C : Cx G n E RX10 cc nL) {j : Nat} (hj : j < cnt n 10) (hd : decode cc pc = .ok (.getfield 38, 3)) (k : WW G n E nL Q (pc + 3) lv (.ref (gad G 62 j) :: st) M) : WW G n E nL Q pc lv (.ref (gad G 10 j) :: st) M :=
  w_get C (ci := 10) (s := 13) (T := TX10) rfl rfl in_X10 (by decide) (by decide) gw1038 hj rfl hd k
theorem gf_X10_41 (C : Cx G n E RX10 cc nL) {j : Nat} (hj : j < cnt n 10) (hd : decode cc pc = .ok (.getfield 41, 3)) (k : WW G n E nL Q (pc + 3) lv (.ref (gad G 63 j) :: st) M) : WW G n E nL Q pc lv (.ref (gad G 10 j) :: st) M :=
  w_get C (ci := 10) (s := 19) (T := TX10) rfl rfl in_X10 (by decide) (by decide) gw1044 hj rfl hd k
theorem gf_X10_44 (C : Cx G n E RX10 cc nL) {j : Nat} (hj : j < cnt n 10) (hd : decode cc pc = .ok (.getfield 44, 3)) (k : WW G n E nL Q (pc + 3) lv (.ref (gad G 64 j) :: st) M) : WW G n E nL Q pc lv (.ref (gad G 10 j) :: st) M :=
  w_get C (ci := 10) (s := 21) (T := TX10) rfl rfl in_X10 (by decide) (by decide) gw1046 hj rfl hd k
theorem gf_X10_47 (C : Cx G n E RX10 cc nL) {j : Nat} (hj : j < cnt n 10) (hd : decode cc pc = .ok (.getfield 47, 3)) (k : WW G n E nL Q (pc + 3) lv (.ref (gad G 65 j) :: st) M) : WW G n E nL Q pc lv (.ref (gad G 10 j) :: st) M :=
  w_get C (ci := 10) (s := 22) (T := TX10) rfl rfl in_X10 (by decide) (by decide) gw1047 hj rfl hd k
theorem gf_X10_50 (C : Cx G n E RX10 cc nL) {j : Nat} (hj : j < cnt n 10) (hd : decode cc pc = .ok (.getfield 50, 3)) (k : WW G n E nL Q (pc + 3) lv (.ref (gad G 66 j) :: st) M) : WW G n E nL Q pc lv (.ref (gad G 10 j) :: st) M :=
  w_get C (ci := 10) (s := 23) (T := TX10) rfl rfl in_X10 (by decide) (by decide) gw1048 hj rfl hd k
theorem gf_X10_53 (C : Cx G n E RX10 cc nL) {j : Nat} (hj : j < cnt n 10) (hd : decode cc pc = .ok (.getfield 53, 3)) (k : WW G n E nL Q (pc + 3) lv (.ref (gad G 67 j) :: st) M) : WW G n E nL Q pc lv (.ref (gad G 10 j) :: st) M :=
  w_get C (ci := 10) (s := 24) (T := TX10) rfl rfl in_X10 (by decide) (by decide) gw1049 hj rfl hd k
theorem gf_X10_56 (C : Cx G n E RX10 cc nL) {j : Nat} (hj : j < cnt n 10) (hd : decode cc pc = .ok (.getfield 56, 3)) (k : WW G n E nL Q (pc + 3) lv (.ref (gad G 68 j) :: st) M) : WW G n E nL Q pc lv (.ref (gad G 10 j) :: st) M :=
  w_get C (ci := 10) (s := 25) (T := TX10) rfl rfl in_X10 (by decide) (by decide) gw1050 hj rfl hd k
theorem gf_X10_59 (C : Cx G n E RX10 cc nL) {j : Nat} (hj : j < cnt n 10) (hd : decode cc pc = .ok (.getfield 59, 3)) (k : WW G n E nL Q (pc + 3) lv (.ref (gad G 69 j) :: st) M) : WW G n E nL Q pc lv (.ref (gad G 10 j) :: st) M :=
  w_get C (ci := 10) (s := 26) (T := TX10) rfl rfl in_X10 (by decide) (by decide) gw1051 hj rfl hd k
theorem gf_X10_62 (C : Cx G n E RX10 cc nL) {j : Nat} (hj : j < cnt n 10) (hd : decode cc pc = .ok (.getfield 62, 3)) (k : WW G n E nL Q (pc + 3) lv (.ref (gad G 70 j) :: st) M) : WW G n E nL Q pc lv (.ref (gad G 10 j) :: st) M :=
  w_get C (ci := 10) (s := 27) (T := TX10) rfl rfl in_X10 (by decide) (by decide) gw1052 hj rfl hd k
theorem gf_X10_65 (C : Cx G n E RX10 cc nL) {j : Nat} (hj : j < cnt n 10) (hd : decode cc pc = .ok (.getfield 65, 3)) (k : WW G n E nL Q (pc + 3) lv (.ref (gad G 71 j) :: st) M) : WW G n E nL Q pc lv (.ref (gad G 10 j) :: st) M :=
  w_get C (ci := 10) (s := 28) (T := TX10) rfl rfl in_X10 (by decide) (by decide) gw1053 hj rfl hd k
theorem gf_X10_68 (C : Cx G n E RX10 cc nL) {j : Nat} (hj : j < cnt n 10) (hd : decode cc pc = .ok (.getfield 68, 3)) (k : WW G n E nL Q (pc + 3) lv (.ref (gad G 72 j) :: st) M) : WW G n E nL Q pc lv (.ref (gad G 10 j) :: st) M :=
  w_get C (ci := 10) (s := 29) (T := TX10) rfl rfl in_X10 (by decide) (by decide) gw1054 hj rfl hd k
theorem gf_X10_7 (C : Cx G n E RX10 cc nL) {j : Nat} (hj : j < cnt n 10) (hd : decode cc pc = .ok (.getfield 7, 3)) (k : WW G n E nL Q (pc + 3) lv (.ref (gad G 53 j) :: st) M) : WW G n E nL Q pc lv (.ref (gad G 10 j) :: st) M :=
  w_get C (ci := 10) (s := 0) (T := TX10) rfl rfl in_X10 (by decide) (by decide) gw1025 hj rfl hd k
theorem gf_X10_71 (C : Cx G n E RX10 cc nL) {j : Nat} (hj : j < cnt n 10) (hd : decode cc pc = .ok (.getfield 71, 3)) (k : WW G n E nL Q (pc + 3) lv (.ref (gad G 73 j) :: st) M) : WW G n E nL Q pc lv (.ref (gad G 10 j) :: st) M :=
  w_get C (ci := 10) (s := 30) (T := TX10) rfl rfl in_X10 (by decide) (by decide) gw1055 hj rfl hd k
theorem gf_X10_74 (C : Cx G n E RX10 cc nL) {j : Nat} (hj : j < cnt n 10) (hd : decode cc pc = .ok (.getfield 74, 3)) (k : WW G n E nL Q (pc + 3) lv (.ref (gad G 74 j) :: st) M) : WW G n E nL Q pc lv (.ref (gad G 10 j) :: st) M :=
  w_get C (ci := 10) (s := 31) (T := TX10) rfl rfl in_X10 (by decide) (by decide) gw1056 hj rfl hd k
theorem gf_X10_77 (C : Cx G n E RX10 cc nL) {j : Nat} (hj : j < cnt n 10) (hd : decode cc pc = .ok (.getfield 77, 3)) (k : WW G n E nL Q (pc + 3) lv (.ref (gad G 75 j) :: st) M) : WW G n E nL Q pc lv (.ref (gad G 10 j) :: st) M :=
  w_get C (ci := 10) (s := 33) (T := TX10) rfl rfl in_X10 (by decide) (by decide) gw1058 hj rfl hd k
theorem gf_X10_80 (C : Cx G n E RX10 cc nL) {j : Nat} (hj : j < cnt n 10) (hd : decode cc pc = .ok (.getfield 80, 3)) (k : WW G n E nL Q (pc + 3) lv (.ref (gad G 76 j) :: st) M) : WW G n E nL Q pc lv (.ref (gad G 10 j) :: st) M :=
  w_get C (ci := 10) (s := 34) (T := TX10) rfl rfl in_X10 (by decide) (by decide) gw1059 hj rfl hd k
theorem gf_X10_83 (C : Cx G n E RX10 cc nL) {j : Nat} (hj : j < cnt n 10) (hd : decode cc pc = .ok (.getfield 83, 3)) (k : WW G n E nL Q (pc + 3) lv (.ref (gad G 77 j) :: st) M) : WW G n E nL Q pc lv (.ref (gad G 10 j) :: st) M :=
  w_get C (ci := 10) (s := 35) (T := TX10) rfl rfl in_X10 (by decide) (by decide) gw1060 hj rfl hd k
theorem gf_X10_86 (C : Cx G n E RX10 cc nL) {j : Nat} (hj : j < cnt n 10) (hd : decode cc pc = .ok (.getfield 86, 3)) (k : WW G n E nL Q (pc + 3) lv (.int (M 736 j 0) :: st) M) : WW G n E nL Q pc lv (.ref (gad G 10 j) :: st) M :=
  w_get C (ci := 10) (s := 36) (T := TX10) rfl rfl in_X10 (by decide) (by decide) gw1061 hj rfl hd k
theorem gf_X10_90 (C : Cx G n E RX10 cc nL) {j : Nat} (hj : j < cnt n 10) (hd : decode cc pc = .ok (.getfield 90, 3)) (k : WW G n E nL Q (pc + 3) lv (.ref (gad G 78 j) :: st) M) : WW G n E nL Q pc lv (.ref (gad G 10 j) :: st) M :=
  w_get C (ci := 10) (s := 38) (T := TX10) rfl rfl in_X10 (by decide) (by decide) gw1063 hj rfl hd k
theorem gf_X10_93 (C : Cx G n E RX10 cc nL) {j : Nat} (hj : j < cnt n 10) (hd : decode cc pc = .ok (.getfield 93, 3)) (k : WW G n E nL Q (pc + 3) lv (.ref (gad G 79 j) :: st) M) : WW G n E nL Q pc lv (.ref (gad G 10 j) :: st) M :=
  w_get C (ci := 10) (s := 39) (T := TX10) rfl rfl in_X10 (by decide) (by decide) gw1064 hj rfl hd k
theorem gf_X10_96 (C : Cx G n E RX10 cc nL) {j : Nat} (hj : j < cnt n 10) (hd : decode cc pc = .ok (.getfield 96, 3)) (k : WW G n E nL Q (pc + 3) lv (.int (M 740 j 0) :: st) M) : WW G n E nL Q pc lv (.ref (gad G 10 j) :: st) M :=
  w_get C (ci := 10) (s := 40) (T := TX10) rfl rfl in_X10 (by decide) (by decide) gw1065 hj rfl hd k
theorem gf_X10_99 (C : Cx G n E RX10 cc nL) {j : Nat} (hj : j < cnt n 10) (hd : decode cc pc = .ok (.getfield 99, 3)) (k : WW G n E nL Q (pc + 3) lv (.ref (gad G 80 j) :: st) M) : WW G n E nL Q pc lv (.ref (gad G 10 j) :: st) M :=
  w_get C (ci := 10) (s := 41) (T := TX10) rfl rfl in_X10 (by decide) (by decide) gw1066 hj rfl hd k
theorem gf_X1_15 (C : Cx G n E RX1 cc nL) {j : Nat} (hj : j < cnt n 1) (hd : decode cc pc = .ok (.getfield 15, 3)) (k : WW G n E nL Q (pc + 3) lv (.ref (gad G 23 j) :: st) M) : WW G n E nL Q pc lv (.ref (gad G 1 j) :: st) M :=
  w_get C (ci := 1) (s := 1) (T := TX1) rfl rfl in_X1 (by decide) (by decide) gw224 hj rfl hd k
theorem gf_X1_18 (C : Cx G n E RX1 cc nL) {j : Nat} (hj : j < cnt n 1) (hd : decode cc pc = .ok (.getfield 18, 3)) (k : WW G n E nL Q (pc + 3) lv (.int (M 252 j 0) :: st) M) : WW G n E nL Q pc lv (.ref (gad G 1 j) :: st) M :=
  w_get C (ci := 1) (s := 2) (T := TX1) rfl rfl in_X1 (by decide) (by decide) gw225 hj rfl hd k
theorem gf_X1_9 (C : Cx G n E RX1 cc nL) {j : Nat} (hj : j < cnt n 1) (hd : decode cc pc = .ok (.getfield 9, 3)) (k : WW G n E nL Q (pc + 3) lv (.ref (gad G 22 j) :: st) M) : WW G n E nL Q pc lv (.ref (gad G 1 j) :: st) M :=
  w_get C (ci := 1) (s := 0) (T := TX1) rfl rfl in_X1 (by decide) (by decide) gw223 hj rfl hd k
theorem gf_X2_124 (C : Cx G n E RX2 cc nL) {j : Nat} (hj : j < cnt n 0) (hd : decode cc pc = .ok (.getfield 124, 3)) (k : WW G n E nL Q (pc + 3) lv (.int (M 204 j 0) :: st) M) : WW G n E nL Q pc lv (.ref (gad G 0 j) :: st) M :=
  w_getN C (ci := 0) (s := 4) (T := TX0) rfl rfl in_X0 (by decide) (by decide) nw671 hj rfl hd k
theorem gf_X2_134 (C : Cx G n E RX2 cc nL) {j : Nat} (hj : j < cnt n 0) (hd : decode cc pc = .ok (.getfield 134, 3)) (k : WW G n E nL Q (pc + 3) lv (.int (M 205 j 0) :: st) M) : WW G n E nL Q pc lv (.ref (gad G 0 j) :: st) M :=
  w_getN C (ci := 0) (s := 5) (T := TX0) rfl rfl in_X0 (by decide) (by decide) nw674 hj rfl hd k
theorem gf_X2_15 (C : Cx G n E RX2 cc nL) {j : Nat} (hj : j < cnt n 2) (hd : decode cc pc = .ok (.getfield 15, 3)) (k : WW G n E nL Q (pc + 3) lv (.ref (gad G 25 j) :: st) M) : WW G n E nL Q pc lv (.ref (gad G 2 j) :: st) M :=
  w_get C (ci := 2) (s := 1) (T := TX2) rfl rfl in_X2 (by decide) (by decide) gw156 hj rfl hd k
theorem gf_X2_18 (C : Cx G n E RX2 cc nL) {j : Nat} (hj : j < cnt n 2) (hd : decode cc pc = .ok (.getfield 18, 3)) (k : WW G n E nL Q (pc + 3) lv (.ref (gad G 26 j) :: st) M) : WW G n E nL Q pc lv (.ref (gad G 2 j) :: st) M :=
  w_get C (ci := 2) (s := 2) (T := TX2) rfl rfl in_X2 (by decide) (by decide) gw157 hj rfl hd k
theorem gf_X2_23 (C : Cx G n E RX2 cc nL) {j : Nat} (hj : j < cnt n 2) (hd : decode cc pc = .ok (.getfield 23, 3)) (k : WW G n E nL Q (pc + 3) lv (.ref (gad G 27 j) :: st) M) : WW G n E nL Q pc lv (.ref (gad G 2 j) :: st) M :=
  w_get C (ci := 2) (s := 3) (T := TX2) rfl rfl in_X2 (by decide) (by decide) gw158 hj rfl hd k
theorem gf_X2_26 (C : Cx G n E RX2 cc nL) {j : Nat} (hj : j < cnt n 2) (hd : decode cc pc = .ok (.getfield 26, 3)) (k : WW G n E nL Q (pc + 3) lv (.ref (gad G 28 j) :: st) M) : WW G n E nL Q pc lv (.ref (gad G 2 j) :: st) M :=
  w_get C (ci := 2) (s := 4) (T := TX2) rfl rfl in_X2 (by decide) (by decide) gw159 hj rfl hd k
theorem gf_X2_29 (C : Cx G n E RX2 cc nL) {j : Nat} (hj : j < cnt n 2) (hd : decode cc pc = .ok (.getfield 29, 3)) (k : WW G n E nL Q (pc + 3) lv (.ref (gad G 29 j) :: st) M) : WW G n E nL Q pc lv (.ref (gad G 2 j) :: st) M :=
  w_get C (ci := 2) (s := 5) (T := TX2) rfl rfl in_X2 (by decide) (by decide) gw160 hj rfl hd k
theorem gf_X2_32 (C : Cx G n E RX2 cc nL) {j : Nat} (hj : j < cnt n 2) (hd : decode cc pc = .ok (.getfield 32, 3)) (k : WW G n E nL Q (pc + 3) lv (.ref (gad G 30 j) :: st) M) : WW G n E nL Q pc lv (.ref (gad G 2 j) :: st) M :=
  w_get C (ci := 2) (s := 6) (T := TX2) rfl rfl in_X2 (by decide) (by decide) gw161 hj rfl hd k
theorem gf_X2_36 (C : Cx G n E RX2 cc nL) {j : Nat} (hj : j < cnt n 2) (hd : decode cc pc = .ok (.getfield 36, 3)) (k : WW G n E nL Q (pc + 3) lv (.ref (gad G 31 j) :: st) M) : WW G n E nL Q pc lv (.ref (gad G 2 j) :: st) M :=
  w_get C (ci := 2) (s := 7) (T := TX2) rfl rfl in_X2 (by decide) (by decide) gw162 hj rfl hd k
theorem gf_X2_39 (C : Cx G n E RX2 cc nL) {j : Nat} (hj : j < cnt n 2) (hd : decode cc pc = .ok (.getfield 39, 3)) (k : WW G n E nL Q (pc + 3) lv (.int (M 308 j 0) :: st) M) : WW G n E nL Q pc lv (.ref (gad G 2 j) :: st) M :=
  w_get C (ci := 2) (s := 8) (T := TX2) rfl rfl in_X2 (by decide) (by decide) gw163 hj rfl hd k
theorem gf_X2_43 (C : Cx G n E RX2 cc nL) {j : Nat} (hj : j < cnt n 2) (hd : decode cc pc = .ok (.getfield 43, 3)) (k : WW G n E nL Q (pc + 3) lv (.int (M 309 j 0) :: st) M) : WW G n E nL Q pc lv (.ref (gad G 2 j) :: st) M :=
  w_get C (ci := 2) (s := 9) (T := TX2) rfl rfl in_X2 (by decide) (by decide) gw164 hj rfl hd k
theorem gf_X2_46 (C : Cx G n E RX2 cc nL) {j : Nat} (hj : j < cnt n 2) (hd : decode cc pc = .ok (.getfield 46, 3)) (k : WW G n E nL Q (pc + 3) lv (.int (M 310 j 0) :: st) M) : WW G n E nL Q pc lv (.ref (gad G 2 j) :: st) M :=
  w_get C (ci := 2) (s := 10) (T := TX2) rfl rfl in_X2 (by decide) (by decide) gw165 hj rfl hd k
theorem gf_X2_49 (C : Cx G n E RX2 cc nL) {j : Nat} (hj : j < cnt n 2) (hd : decode cc pc = .ok (.getfield 49, 3)) (k : WW G n E nL Q (pc + 3) lv (.int (M 311 j 0) :: st) M) : WW G n E nL Q pc lv (.ref (gad G 2 j) :: st) M :=
  w_get C (ci := 2) (s := 11) (T := TX2) rfl rfl in_X2 (by decide) (by decide) gw166 hj rfl hd k
theorem gf_X2_56 (C : Cx G n E RX2 cc nL) {j : Nat} (hj : j < cnt n 4) (hd : decode cc pc = .ok (.getfield 56, 3)) (k : WW G n E nL Q (pc + 3) lv (.ref (gad G 8 (M 401 j 0).toNatClampNeg) :: st) M) : WW G n E nL Q pc lv (.ref (gad G 4 j) :: st) M :=
  w_getN C (ci := 4) (s := 1) (T := TX4) rfl rfl in_X4 (by decide) (by decide) nw289 hj rfl hd k
theorem gf_X2_66 (C : Cx G n E RX2 cc nL) {j : Nat} (hj : j < cnt n 0) (hd : decode cc pc = .ok (.getfield 66, 3)) (k : WW G n E nL Q (pc + 3) lv (.ref (gad G 21 j) :: st) M) : WW G n E nL Q pc lv (.ref (gad G 0 j) :: st) M :=
  w_getN C (ci := 0) (s := 9) (T := TX0) rfl rfl in_X0 (by decide) (by decide) nw683 hj rfl hd k
theorem gf_X2_77 (C : Cx G n E RX2 cc nL) {j : Nat} (hj : j < cnt n 0) (hd : decode cc pc = .ok (.getfield 77, 3)) (k : WW G n E nL Q (pc + 3) lv (.int (M 210 j 0) :: st) M) : WW G n E nL Q pc lv (.ref (gad G 0 j) :: st) M :=
  w_getN C (ci := 0) (s := 10) (T := TX0) rfl rfl in_X0 (by decide) (by decide) nw686 hj rfl hd k
theorem gf_X2_9 (C : Cx G n E RX2 cc nL) {j : Nat} (hj : j < cnt n 2) (hd : decode cc pc = .ok (.getfield 9, 3)) (k : WW G n E nL Q (pc + 3) lv (.ref (gad G 24 j) :: st) M) : WW G n E nL Q pc lv (.ref (gad G 2 j) :: st) M :=
  w_get C (ci := 2) (s := 0) (T := TX2) rfl rfl in_X2 (by decide) (by decide) gw155 hj rfl hd k
theorem gf_X2_94 (C : Cx G n E RX2 cc nL) {j : Nat} (hj : j < cnt n 0) (hd : decode cc pc = .ok (.getfield 94, 3)) (k : WW G n E nL Q (pc + 3) lv (.int (M 202 j 0) :: st) M) : WW G n E nL Q pc lv (.ref (gad G 0 j) :: st) M :=
  w_getN C (ci := 0) (s := 2) (T := TX0) rfl rfl in_X0 (by decide) (by decide) nw667 hj rfl hd k
theorem gf_X2_95 (C : Cx G n E RX2 cc nL) {j : Nat} (hj : j < cnt n 0) (hd : decode cc pc = .ok (.getfield 95, 3)) (k : WW G n E nL Q (pc + 3) lv (.ref (gad G 20 j) :: st) M) : WW G n E nL Q pc lv (.ref (gad G 0 j) :: st) M :=
  w_getN C (ci := 0) (s := 1) (T := TX0) rfl rfl in_X0 (by decide) (by decide) nw664 hj rfl hd k
theorem gf_X3_9 (C : Cx G n E RX3 cc nL) {j : Nat} (hj : j < cnt n 3) (hd : decode cc pc = .ok (.getfield 9, 3)) (k : WW G n E nL Q (pc + 3) lv (.ref (gad G 32 j) :: st) M) : WW G n E nL Q pc lv (.ref (gad G 3 j) :: st) M :=
  w_get C (ci := 3) (s := 0) (T := TX3) rfl rfl in_X3 (by decide) (by decide) gw143 hj rfl hd k
theorem gf_X4_15 (C : Cx G n E RX4 cc nL) {j : Nat} (hj : j < cnt n 4) (hd : decode cc pc = .ok (.getfield 15, 3)) (k : WW G n E nL Q (pc + 3) lv (.int (M 403 j 0) :: st) M) : WW G n E nL Q pc lv (.ref (gad G 4 j) :: st) M :=
  w_get C (ci := 4) (s := 3) (T := TX4) rfl rfl in_X4 (by decide) (by decide) gw291 hj rfl hd k
theorem gf_X4_19 (C : Cx G n E RX4 cc nL) {j : Nat} (hj : j < cnt n 4) (hd : decode cc pc = .ok (.getfield 19, 3)) (k : WW G n E nL Q (pc + 3) lv (.ref (gad G 8 (M 401 j 0).toNatClampNeg) :: st) M) : WW G n E nL Q pc lv (.ref (gad G 4 j) :: st) M :=
  w_get C (ci := 4) (s := 1) (T := TX4) rfl rfl in_X4 (by decide) (by decide) gw288 hj rfl hd k
theorem gf_X4_23 (C : Cx G n E RX4 cc nL) {j : Nat} (hj : j < cnt n 4) (hd : decode cc pc = .ok (.getfield 23, 3)) (k : WW G n E nL Q (pc + 3) lv (.ref (gad G 8 (M 402 j 0).toNatClampNeg) :: st) M) : WW G n E nL Q pc lv (.ref (gad G 4 j) :: st) M :=
  w_get C (ci := 4) (s := 2) (T := TX4) rfl rfl in_X4 (by decide) (by decide) gw290 hj rfl hd k
theorem gf_X4_35 (C : Cx G n E RX4 cc nL) {j : Nat} (hj : j < cnt n 8) (hd : decode cc pc = .ok (.getfield 35, 3)) (k : WW G n E nL Q (pc + 3) lv (.ref (gad G 46 j) :: st) M) : WW G n E nL Q pc lv (.ref (gad G 8 j) :: st) M :=
  w_getN C (ci := 8) (s := 3) (T := TX8) rfl rfl in_X8 (by decide) (by decide) nw249 hj rfl hd k
theorem gf_X4_42 (C : Cx G n E RX4 cc nL) {j : Nat} (hj : j < cnt n 8) (hd : decode cc pc = .ok (.getfield 42, 3)) (k : WW G n E nL Q (pc + 3) lv (.ref (gad G 45 j) :: st) M) : WW G n E nL Q pc lv (.ref (gad G 8 j) :: st) M :=
  w_getN C (ci := 8) (s := 2) (T := TX8) rfl rfl in_X8 (by decide) (by decide) nw247 hj rfl hd k
theorem gf_X4_50 (C : Cx G n E RX4 cc nL) {j : Nat} (hj : j < cnt n 8) (hd : decode cc pc = .ok (.getfield 50, 3)) (k : WW G n E nL Q (pc + 3) lv (.ref (gad G 44 j) :: st) M) : WW G n E nL Q pc lv (.ref (gad G 8 j) :: st) M :=
  w_getN C (ci := 8) (s := 1) (T := TX8) rfl rfl in_X8 (by decide) (by decide) nw245 hj rfl hd k
theorem gf_X4_9 (C : Cx G n E RX4 cc nL) {j : Nat} (hj : j < cnt n 4) (hd : decode cc pc = .ok (.getfield 9, 3)) (k : WW G n E nL Q (pc + 3) lv (.ref (gad G 33 j) :: st) M) : WW G n E nL Q pc lv (.ref (gad G 4 j) :: st) M :=
  w_get C (ci := 4) (s := 0) (T := TX4) rfl rfl in_X4 (by decide) (by decide) gw287 hj rfl hd k
theorem gf_X5_15 (C : Cx G n E RX5 cc nL) {j : Nat} (hj : j < cnt n 5) (hd : decode cc pc = .ok (.getfield 15, 3)) (k : WW G n E nL Q (pc + 3) lv (.ref (gad G 35 j) :: st) M) : WW G n E nL Q pc lv (.ref (gad G 5 j) :: st) M :=
  w_get C (ci := 5) (s := 1) (T := TX5) rfl rfl in_X5 (by decide) (by decide) gw200 hj rfl hd k
theorem gf_X5_18 (C : Cx G n E RX5 cc nL) {j : Nat} (hj : j < cnt n 5) (hd : decode cc pc = .ok (.getfield 18, 3)) (k : WW G n E nL Q (pc + 3) lv (.ref (gad G 36 j) :: st) M) : WW G n E nL Q pc lv (.ref (gad G 5 j) :: st) M :=
  w_get C (ci := 5) (s := 2) (T := TX5) rfl rfl in_X5 (by decide) (by decide) gw201 hj rfl hd k
theorem gf_X5_21 (C : Cx G n E RX5 cc nL) {j : Nat} (hj : j < cnt n 5) (hd : decode cc pc = .ok (.getfield 21, 3)) (k : WW G n E nL Q (pc + 3) lv (.int (M 453 j 0) :: st) M) : WW G n E nL Q pc lv (.ref (gad G 5 j) :: st) M :=
  w_get C (ci := 5) (s := 3) (T := TX5) rfl rfl in_X5 (by decide) (by decide) gw202 hj rfl hd k
theorem gf_X5_25 (C : Cx G n E RX5 cc nL) {j : Nat} (hj : j < cnt n 5) (hd : decode cc pc = .ok (.getfield 25, 3)) (k : WW G n E nL Q (pc + 3) lv (.int (M 454 j 0) :: st) M) : WW G n E nL Q pc lv (.ref (gad G 5 j) :: st) M :=
  w_get C (ci := 5) (s := 4) (T := TX5) rfl rfl in_X5 (by decide) (by decide) gw204 hj rfl hd k
theorem gf_X5_9 (C : Cx G n E RX5 cc nL) {j : Nat} (hj : j < cnt n 5) (hd : decode cc pc = .ok (.getfield 9, 3)) (k : WW G n E nL Q (pc + 3) lv (.ref (gad G 34 j) :: st) M) : WW G n E nL Q pc lv (.ref (gad G 5 j) :: st) M :=
  w_get C (ci := 5) (s := 0) (T := TX5) rfl rfl in_X5 (by decide) (by decide) gw199 hj rfl hd k
theorem gf_X6_11 (C : Cx G n E RX6 cc nL) {j : Nat} (hj : j < cnt n 6) (hd : decode cc pc = .ok (.getfield 11, 3)) (k : WW G n E nL Q (pc + 3) lv (.ref (gad G 37 j) :: st) M) : WW G n E nL Q pc lv (.ref (gad G 6 j) :: st) M :=
  w_get C (ci := 6) (s := 0) (T := TX6) rfl rfl in_X6 (by decide) (by decide) gw116 hj rfl hd k
theorem gf_X6_15 (C : Cx G n E RX6 cc nL) {j : Nat} (hj : j < cnt n 6) (hd : decode cc pc = .ok (.getfield 15, 3)) (k : WW G n E nL Q (pc + 3) lv (.ref (gad G 38 j) :: st) M) : WW G n E nL Q pc lv (.ref (gad G 6 j) :: st) M :=
  w_get C (ci := 6) (s := 1) (T := TX6) rfl rfl in_X6 (by decide) (by decide) gw117 hj rfl hd k
theorem gf_X6_18 (C : Cx G n E RX6 cc nL) {j : Nat} (hj : j < cnt n 6) (hd : decode cc pc = .ok (.getfield 18, 3)) (k : WW G n E nL Q (pc + 3) lv (.ref (gad G 39 j) :: st) M) : WW G n E nL Q pc lv (.ref (gad G 6 j) :: st) M :=
  w_get C (ci := 6) (s := 2) (T := TX6) rfl rfl in_X6 (by decide) (by decide) gw118 hj rfl hd k
theorem gf_X6_21 (C : Cx G n E RX6 cc nL) {j : Nat} (hj : j < cnt n 6) (hd : decode cc pc = .ok (.getfield 21, 3)) (k : WW G n E nL Q (pc + 3) lv (.ref (gad G 40 j) :: st) M) : WW G n E nL Q pc lv (.ref (gad G 6 j) :: st) M :=
  w_get C (ci := 6) (s := 3) (T := TX6) rfl rfl in_X6 (by decide) (by decide) gw119 hj rfl hd k
theorem gf_X6_24 (C : Cx G n E RX6 cc nL) {j : Nat} (hj : j < cnt n 6) (hd : decode cc pc = .ok (.getfield 24, 3)) (k : WW G n E nL Q (pc + 3) lv (.ref (gad G 41 j) :: st) M) : WW G n E nL Q pc lv (.ref (gad G 6 j) :: st) M :=
  w_get C (ci := 6) (s := 4) (T := TX6) rfl rfl in_X6 (by decide) (by decide) gw120 hj rfl hd k
theorem gf_X6_27 (C : Cx G n E RX6 cc nL) {j : Nat} (hj : j < cnt n 6) (hd : decode cc pc = .ok (.getfield 27, 3)) (k : WW G n E nL Q (pc + 3) lv (.int (M 505 j 0) :: st) M) : WW G n E nL Q pc lv (.ref (gad G 6 j) :: st) M :=
  w_get C (ci := 6) (s := 5) (T := TX6) rfl rfl in_X6 (by decide) (by decide) gw122 hj rfl hd k
theorem gf_X7_15 (C : Cx G n E RX7 cc nL) {j : Nat} (hj : j < cnt n 7) (hd : decode cc pc = .ok (.getfield 15, 3)) (k : WW G n E nL Q (pc + 3) lv (.int (M 551 j 0) :: st) M) : WW G n E nL Q pc lv (.ref (gad G 7 j) :: st) M :=
  w_get C (ci := 7) (s := 1) (T := TX7) rfl rfl in_X7 (by decide) (by decide) gw310 hj rfl hd k
theorem gf_X7_19 (C : Cx G n E RX7 cc nL) {j : Nat} (hj : j < cnt n 7) (hd : decode cc pc = .ok (.getfield 19, 3)) (k : WW G n E nL Q (pc + 3) lv (.int (M 552 j 0) :: st) M) : WW G n E nL Q pc lv (.ref (gad G 7 j) :: st) M :=
  w_get C (ci := 7) (s := 2) (T := TX7) rfl rfl in_X7 (by decide) (by decide) gw312 hj rfl hd k
theorem gf_X7_23 (C : Cx G n E RX7 cc nL) {j : Nat} (hj : j < cnt n 7) (hd : decode cc pc = .ok (.getfield 23, 3)) (k : WW G n E nL Q (pc + 3) lv (.int (M 553 j 0) :: st) M) : WW G n E nL Q pc lv (.ref (gad G 7 j) :: st) M :=
  w_get C (ci := 7) (s := 3) (T := TX7) rfl rfl in_X7 (by decide) (by decide) gw314 hj rfl hd k
theorem gf_X7_9 (C : Cx G n E RX7 cc nL) {j : Nat} (hj : j < cnt n 7) (hd : decode cc pc = .ok (.getfield 9, 3)) (k : WW G n E nL Q (pc + 3) lv (.ref (gad G 42 j) :: st) M) : WW G n E nL Q pc lv (.ref (gad G 7 j) :: st) M :=
  w_get C (ci := 7) (s := 0) (T := TX7) rfl rfl in_X7 (by decide) (by decide) gw307 hj rfl hd k
theorem gf_X8_15 (C : Cx G n E RX8 cc nL) {j : Nat} (hj : j < cnt n 8) (hd : decode cc pc = .ok (.getfield 15, 3)) (k : WW G n E nL Q (pc + 3) lv (.ref (gad G 44 j) :: st) M) : WW G n E nL Q pc lv (.ref (gad G 8 j) :: st) M :=
  w_get C (ci := 8) (s := 1) (T := TX8) rfl rfl in_X8 (by decide) (by decide) gw244 hj rfl hd k
theorem gf_X8_18 (C : Cx G n E RX8 cc nL) {j : Nat} (hj : j < cnt n 8) (hd : decode cc pc = .ok (.getfield 18, 3)) (k : WW G n E nL Q (pc + 3) lv (.ref (gad G 45 j) :: st) M) : WW G n E nL Q pc lv (.ref (gad G 8 j) :: st) M :=
  w_get C (ci := 8) (s := 2) (T := TX8) rfl rfl in_X8 (by decide) (by decide) gw246 hj rfl hd k
theorem gf_X8_21 (C : Cx G n E RX8 cc nL) {j : Nat} (hj : j < cnt n 8) (hd : decode cc pc = .ok (.getfield 21, 3)) (k : WW G n E nL Q (pc + 3) lv (.ref (gad G 46 j) :: st) M) : WW G n E nL Q pc lv (.ref (gad G 8 j) :: st) M :=
  w_get C (ci := 8) (s := 3) (T := TX8) rfl rfl in_X8 (by decide) (by decide) gw248 hj rfl hd k
theorem gf_X8_24 (C : Cx G n E RX8 cc nL) {j : Nat} (hj : j < cnt n 8) (hd : decode cc pc = .ok (.getfield 24, 3)) (k : WW G n E nL Q (pc + 3) lv (.ref (gad G 47 j) :: st) M) : WW G n E nL Q pc lv (.ref (gad G 8 j) :: st) M :=
  w_get C (ci := 8) (s := 4) (T := TX8) rfl rfl in_X8 (by decide) (by decide) gw251 hj rfl hd k
theorem gf_X8_27 (C : Cx G n E RX8 cc nL) {j : Nat} (hj : j < cnt n 8) (hd : decode cc pc = .ok (.getfield 27, 3)) (k : WW G n E nL Q (pc + 3) lv (.ref (gad G 48 j) :: st) M) : WW G n E nL Q pc lv (.ref (gad G 8 j) :: st) M :=
  w_get C (ci := 8) (s := 5) (T := TX8) rfl rfl in_X8 (by decide) (by decide) gw252 hj rfl hd k
theorem gf_X8_30 (C : Cx G n E RX8 cc nL) {j : Nat} (hj : j < cnt n 8) (hd : decode cc pc = .ok (.getfield 30, 3)) (k : WW G n E nL Q (pc + 3) lv (.int (M 606 j 0) :: st) M) : WW G n E nL Q pc lv (.ref (gad G 8 j) :: st) M :=
  w_get C (ci := 8) (s := 6) (T := TX8) rfl rfl in_X8 (by decide) (by decide) gw253 hj rfl hd k
theorem gf_X8_34 (C : Cx G n E RX8 cc nL) {j : Nat} (hj : j < cnt n 8) (hd : decode cc pc = .ok (.getfield 34, 3)) (k : WW G n E nL Q (pc + 3) lv (.int (M 607 j 0) :: st) M) : WW G n E nL Q pc lv (.ref (gad G 8 j) :: st) M :=
  w_get C (ci := 8) (s := 7) (T := TX8) rfl rfl in_X8 (by decide) (by decide) gw255 hj rfl hd k
theorem gf_X8_37 (C : Cx G n E RX8 cc nL) {j : Nat} (hj : j < cnt n 8) (hd : decode cc pc = .ok (.getfield 37, 3)) (k : WW G n E nL Q (pc + 3) lv (.int (M 608 j 0) :: st) M) : WW G n E nL Q pc lv (.ref (gad G 8 j) :: st) M :=
  w_get C (ci := 8) (s := 8) (T := TX8) rfl rfl in_X8 (by decide) (by decide) gw257 hj rfl hd k
theorem gf_X8_40 (C : Cx G n E RX8 cc nL) {j : Nat} (hj : j < cnt n 8) (hd : decode cc pc = .ok (.getfield 40, 3)) (k : WW G n E nL Q (pc + 3) lv (.int (M 609 j 0) :: st) M) : WW G n E nL Q pc lv (.ref (gad G 8 j) :: st) M :=
  w_get C (ci := 8) (s := 9) (T := TX8) rfl rfl in_X8 (by decide) (by decide) gw259 hj rfl hd k
theorem gf_X8_9 (C : Cx G n E RX8 cc nL) {j : Nat} (hj : j < cnt n 8) (hd : decode cc pc = .ok (.getfield 9, 3)) (k : WW G n E nL Q (pc + 3) lv (.ref (gad G 43 j) :: st) M) : WW G n E nL Q pc lv (.ref (gad G 8 j) :: st) M :=
  w_get C (ci := 8) (s := 0) (T := TX8) rfl rfl in_X8 (by decide) (by decide) gw243 hj rfl hd k
theorem gf_X9_105 (C : Cx G n E RX9 cc nL) {j : Nat} (hj : j < cnt n 8) (hd : decode cc pc = .ok (.getfield 105, 3)) (k : WW G n E nL Q (pc + 3) lv (.int (M 607 j 0) :: st) M) : WW G n E nL Q pc lv (.ref (gad G 8 j) :: st) M :=
  w_getN C (ci := 8) (s := 7) (T := TX8) rfl rfl in_X8 (by decide) (by decide) nw256 hj rfl hd k
theorem gf_X9_108 (C : Cx G n E RX9 cc nL) {j : Nat} (hj : j < cnt n 8) (hd : decode cc pc = .ok (.getfield 108, 3)) (k : WW G n E nL Q (pc + 3) lv (.ref (gad G 46 j) :: st) M) : WW G n E nL Q pc lv (.ref (gad G 8 j) :: st) M :=
  w_getN C (ci := 8) (s := 3) (T := TX8) rfl rfl in_X8 (by decide) (by decide) nw250 hj rfl hd k
theorem gf_X9_11 (C : Cx G n E RX9 cc nL) {j : Nat} (hj : j < cnt n 9) (hd : decode cc pc = .ok (.getfield 11, 3)) (k : WW G n E nL Q (pc + 3) lv (.ref (gad G 49 j) :: st) M) : WW G n E nL Q pc lv (.ref (gad G 9 j) :: st) M :=
  w_get C (ci := 9) (s := 0) (T := TX9) rfl rfl in_X9 (by decide) (by decide) gw325 hj rfl hd k
theorem gf_X9_123 (C : Cx G n E RX9 cc nL) {j : Nat} (hj : j < cnt n 7) (hd : decode cc pc = .ok (.getfield 123, 3)) (k : WW G n E nL Q (pc + 3) lv (.int (M 551 j 0) :: st) M) : WW G n E nL Q pc lv (.ref (gad G 7 j) :: st) M :=
  w_getN C (ci := 7) (s := 1) (T := TX7) rfl rfl in_X7 (by decide) (by decide) nw311 hj rfl hd k
theorem gf_X9_127 (C : Cx G n E RX9 cc nL) {j : Nat} (hj : j < cnt n 7) (hd : decode cc pc = .ok (.getfield 127, 3)) (k : WW G n E nL Q (pc + 3) lv (.int (M 553 j 0) :: st) M) : WW G n E nL Q pc lv (.ref (gad G 7 j) :: st) M :=
  w_getN C (ci := 7) (s := 3) (T := TX7) rfl rfl in_X7 (by decide) (by decide) nw315 hj rfl hd k
theorem gf_X9_133 (C : Cx G n E RX9 cc nL) {j : Nat} (hj : j < cnt n 7) (hd : decode cc pc = .ok (.getfield 133, 3)) (k : WW G n E nL Q (pc + 3) lv (.ref (gad G 42 j) :: st) M) : WW G n E nL Q pc lv (.ref (gad G 7 j) :: st) M :=
  w_getN C (ci := 7) (s := 0) (T := TX7) rfl rfl in_X7 (by decide) (by decide) nw309 hj rfl hd k
theorem gf_X9_144 (C : Cx G n E RX9 cc nL) {j : Nat} (hj : j < cnt n 6) (hd : decode cc pc = .ok (.getfield 144, 3)) (k : WW G n E nL Q (pc + 3) lv (.ref (gad G 41 j) :: st) M) : WW G n E nL Q pc lv (.ref (gad G 6 j) :: st) M :=
  w_getN C (ci := 6) (s := 4) (T := TX6) rfl rfl in_X6 (by decide) (by decide) nw121 hj rfl hd k
theorem gf_X9_17 (C : Cx G n E RX9 cc nL) {j : Nat} (hj : j < cnt n 9) (hd : decode cc pc = .ok (.getfield 17, 3)) (k : WW G n E nL Q (pc + 3) lv (.ref (gad G 50 j) :: st) M) : WW G n E nL Q pc lv (.ref (gad G 9 j) :: st) M :=
  w_get C (ci := 9) (s := 1) (T := TX9) rfl rfl in_X9 (by decide) (by decide) gw326 hj rfl hd k
theorem gf_X9_211 (C : Cx G n E RX9 cc nL) {j : Nat} (hj : j < cnt n 0) (hd : decode cc pc = .ok (.getfield 211, 3)) (k : WW G n E nL Q (pc + 3) lv (.int (M 212 j 0) :: st) M) : WW G n E nL Q pc lv (.ref (gad G 0 j) :: st) M :=
  w_getN C (ci := 0) (s := 12) (T := TX0) rfl rfl in_X0 (by decide) (by decide) nw692 hj rfl hd k
theorem gf_X9_220 (C : Cx G n E RX9 cc nL) {j : Nat} (hj : j < cnt n 0) (hd : decode cc pc = .ok (.getfield 220, 3)) (k : WW G n E nL Q (pc + 3) lv (.int (M 202 j 0) :: st) M) : WW G n E nL Q pc lv (.ref (gad G 0 j) :: st) M :=
  w_getN C (ci := 0) (s := 2) (T := TX0) rfl rfl in_X0 (by decide) (by decide) nw668 hj rfl hd k
theorem gf_X9_221 (C : Cx G n E RX9 cc nL) {j : Nat} (hj : j < cnt n 0) (hd : decode cc pc = .ok (.getfield 221, 3)) (k : WW G n E nL Q (pc + 3) lv (.ref (gad G 20 j) :: st) M) : WW G n E nL Q pc lv (.ref (gad G 0 j) :: st) M :=
  w_getN C (ci := 0) (s := 1) (T := TX0) rfl rfl in_X0 (by decide) (by decide) nw665 hj rfl hd k
theorem gf_X9_228 (C : Cx G n E RX9 cc nL) {j : Nat} (hj : j < cnt n 0) (hd : decode cc pc = .ok (.getfield 228, 3)) (k : WW G n E nL Q (pc + 3) lv (.ref (gad G 21 j) :: st) M) : WW G n E nL Q pc lv (.ref (gad G 0 j) :: st) M :=
  w_getN C (ci := 0) (s := 9) (T := TX0) rfl rfl in_X0 (by decide) (by decide) nw684 hj rfl hd k
theorem gf_X9_23 (C : Cx G n E RX9 cc nL) {j : Nat} (hj : j < cnt n 9) (hd : decode cc pc = .ok (.getfield 23, 3)) (k : WW G n E nL Q (pc + 3) lv (.ref (gad G 51 j) :: st) M) : WW G n E nL Q pc lv (.ref (gad G 9 j) :: st) M :=
  w_get C (ci := 9) (s := 2) (T := TX9) rfl rfl in_X9 (by decide) (by decide) gw327 hj rfl hd k
theorem gf_X9_231 (C : Cx G n E RX9 cc nL) {j : Nat} (hj : j < cnt n 0) (hd : decode cc pc = .ok (.getfield 231, 3)) (k : WW G n E nL Q (pc + 3) lv (.int (M 210 j 0) :: st) M) : WW G n E nL Q pc lv (.ref (gad G 0 j) :: st) M :=
  w_getN C (ci := 0) (s := 10) (T := TX0) rfl rfl in_X0 (by decide) (by decide) nw687 hj rfl hd k
theorem gf_X9_234 (C : Cx G n E RX9 cc nL) {j : Nat} (hj : j < cnt n 0) (hd : decode cc pc = .ok (.getfield 234, 3)) (k : WW G n E nL Q (pc + 3) lv (.int (M 211 j 0) :: st) M) : WW G n E nL Q pc lv (.ref (gad G 0 j) :: st) M :=
  w_getN C (ci := 0) (s := 11) (T := TX0) rfl rfl in_X0 (by decide) (by decide) nw690 hj rfl hd k
theorem gf_X9_237 (C : Cx G n E RX9 cc nL) {j : Nat} (hj : j < cnt n 0) (hd : decode cc pc = .ok (.getfield 237, 3)) (k : WW G n E nL Q (pc + 3) lv (.int (M 206 j 0) :: st) M) : WW G n E nL Q pc lv (.ref (gad G 0 j) :: st) M :=
  w_getN C (ci := 0) (s := 6) (T := TX0) rfl rfl in_X0 (by decide) (by decide) nw677 hj rfl hd k
theorem gf_X9_244 (C : Cx G n E RX9 cc nL) {j : Nat} (hj : j < cnt n 0) (hd : decode cc pc = .ok (.getfield 244, 3)) (k : WW G n E nL Q (pc + 3) lv (.int (M 200 j 0) :: st) M) : WW G n E nL Q pc lv (.ref (gad G 0 j) :: st) M :=
  w_getN C (ci := 0) (s := 0) (T := TX0) rfl rfl in_X0 (by decide) (by decide) nw662 hj rfl hd k
theorem gf_X9_251 (C : Cx G n E RX9 cc nL) {j : Nat} (hj : j < cnt n 8) (hd : decode cc pc = .ok (.getfield 251, 3)) (k : WW G n E nL Q (pc + 3) lv (.int (M 608 j 0) :: st) M) : WW G n E nL Q pc lv (.ref (gad G 8 j) :: st) M :=
  w_getN C (ci := 8) (s := 8) (T := TX8) rfl rfl in_X8 (by decide) (by decide) nw258 hj rfl hd k
theorem gf_X9_263 (C : Cx G n E RX9 cc nL) {j : Nat} (hj : j < cnt n 5) (hd : decode cc pc = .ok (.getfield 263, 3)) (k : WW G n E nL Q (pc + 3) lv (.int (M 454 j 0) :: st) M) : WW G n E nL Q pc lv (.ref (gad G 5 j) :: st) M :=
  w_getN C (ci := 5) (s := 4) (T := TX5) rfl rfl in_X5 (by decide) (by decide) nw205 hj rfl hd k
theorem gf_X9_27 (C : Cx G n E RX9 cc nL) {j : Nat} (hj : j < cnt n 9) (hd : decode cc pc = .ok (.getfield 27, 3)) (k : WW G n E nL Q (pc + 3) lv (.ref (gad G 52 j) :: st) M) : WW G n E nL Q pc lv (.ref (gad G 9 j) :: st) M :=
  w_get C (ci := 9) (s := 3) (T := TX9) rfl rfl in_X9 (by decide) (by decide) gw328 hj rfl hd k
theorem gf_X9_283 (C : Cx G n E RX9 cc nL) {j : Nat} (hj : j < cnt n 1) (hd : decode cc pc = .ok (.getfield 283, 3)) (k : WW G n E nL Q (pc + 3) lv (.int (M 253 j 0) :: st) M) : WW G n E nL Q pc lv (.ref (gad G 1 j) :: st) M :=
  w_getN C (ci := 1) (s := 3) (T := TX1) rfl rfl in_X1 (by decide) (by decide) nw228 hj rfl hd k
theorem gf_X9_299 (C : Cx G n E RX9 cc nL) {j : Nat} (hj : j < cnt n 0) (hd : decode cc pc = .ok (.getfield 299, 3)) (k : WW G n E nL Q (pc + 3) lv (.int (M 207 j 0) :: st) M) : WW G n E nL Q pc lv (.ref (gad G 0 j) :: st) M :=
  w_getN C (ci := 0) (s := 7) (T := TX0) rfl rfl in_X0 (by decide) (by decide) nw679 hj rfl hd k
theorem gf_X9_302 (C : Cx G n E RX9 cc nL) {j : Nat} (hj : j < cnt n 0) (hd : decode cc pc = .ok (.getfield 302, 3)) (k : WW G n E nL Q (pc + 3) lv (.int (M 208 j 0) :: st) M) : WW G n E nL Q pc lv (.ref (gad G 0 j) :: st) M :=
  w_getN C (ci := 0) (s := 8) (T := TX0) rfl rfl in_X0 (by decide) (by decide) nw681 hj rfl hd k
theorem gf_X9_318 (C : Cx G n E RX9 cc nL) {j : Nat} (hj : j < cnt n 7) (hd : decode cc pc = .ok (.getfield 318, 3)) (k : WW G n E nL Q (pc + 3) lv (.int (M 552 j 0) :: st) M) : WW G n E nL Q pc lv (.ref (gad G 7 j) :: st) M :=
  w_getN C (ci := 7) (s := 2) (T := TX7) rfl rfl in_X7 (by decide) (by decide) nw313 hj rfl hd k
theorem gf_X9_339 (C : Cx G n E RX9 cc nL) {j : Nat} (hj : j < cnt n 5) (hd : decode cc pc = .ok (.getfield 339, 3)) (k : WW G n E nL Q (pc + 3) lv (.int (M 453 j 0) :: st) M) : WW G n E nL Q pc lv (.ref (gad G 5 j) :: st) M :=
  w_getN C (ci := 5) (s := 3) (T := TX5) rfl rfl in_X5 (by decide) (by decide) nw203 hj rfl hd k
theorem gf_X9_34 (C : Cx G n E RX9 cc nL) {j : Nat} (hj : j < cnt n 9) (hd : decode cc pc = .ok (.getfield 34, 3)) (k : WW G n E nL Q (pc + 3) lv (.ref (gad G 6 j) :: st) M) : WW G n E nL Q pc lv (.ref (gad G 9 j) :: st) M :=
  w_get C (ci := 9) (s := 5) (T := TX9) rfl rfl in_X9 (by decide) (by decide) gw330 hj rfl hd k
theorem gf_X9_342 (C : Cx G n E RX9 cc nL) {j : Nat} (hj : j < cnt n 1) (hd : decode cc pc = .ok (.getfield 342, 3)) (k : WW G n E nL Q (pc + 3) lv (.int (M 252 j 0) :: st) M) : WW G n E nL Q pc lv (.ref (gad G 1 j) :: st) M :=
  w_getN C (ci := 1) (s := 2) (T := TX1) rfl rfl in_X1 (by decide) (by decide) nw226 hj rfl hd k
theorem gf_X9_362 (C : Cx G n E RX9 cc nL) {j : Nat} (hj : j < cnt n 8) (hd : decode cc pc = .ok (.getfield 362, 3)) (k : WW G n E nL Q (pc + 3) lv (.int (M 606 j 0) :: st) M) : WW G n E nL Q pc lv (.ref (gad G 8 j) :: st) M :=
  w_getN C (ci := 8) (s := 6) (T := TX8) rfl rfl in_X8 (by decide) (by decide) nw254 hj rfl hd k
theorem gf_X9_41 (C : Cx G n E RX9 cc nL) {j : Nat} (hj : j < cnt n 9) (hd : decode cc pc = .ok (.getfield 41, 3)) (k : WW G n E nL Q (pc + 3) lv (.ref (gad G 3 j) :: st) M) : WW G n E nL Q pc lv (.ref (gad G 9 j) :: st) M :=
  w_get C (ci := 9) (s := 6) (T := TX9) rfl rfl in_X9 (by decide) (by decide) gw331 hj rfl hd k
theorem gf_X9_48 (C : Cx G n E RX9 cc nL) {j : Nat} (hj : j < cnt n 9) (hd : decode cc pc = .ok (.getfield 48, 3)) (k : WW G n E nL Q (pc + 3) lv (.ref (gad G 2 j) :: st) M) : WW G n E nL Q pc lv (.ref (gad G 9 j) :: st) M :=
  w_get C (ci := 9) (s := 7) (T := TX9) rfl rfl in_X9 (by decide) (by decide) gw332 hj rfl hd k
theorem gf_X9_55 (C : Cx G n E RX9 cc nL) {j : Nat} (hj : j < cnt n 9) (hd : decode cc pc = .ok (.getfield 55, 3)) (k : WW G n E nL Q (pc + 3) lv (.ref (gad G 5 j) :: st) M) : WW G n E nL Q pc lv (.ref (gad G 9 j) :: st) M :=
  w_get C (ci := 9) (s := 8) (T := TX9) rfl rfl in_X9 (by decide) (by decide) gw333 hj rfl hd k
theorem gf_X9_62 (C : Cx G n E RX9 cc nL) {j : Nat} (hj : j < cnt n 9) (hd : decode cc pc = .ok (.getfield 62, 3)) (k : WW G n E nL Q (pc + 3) lv (.ref (gad G 1 j) :: st) M) : WW G n E nL Q pc lv (.ref (gad G 9 j) :: st) M :=
  w_get C (ci := 9) (s := 9) (T := TX9) rfl rfl in_X9 (by decide) (by decide) gw334 hj rfl hd k
theorem gf_X9_66 (C : Cx G n E RX9 cc nL) {j : Nat} (hj : j < cnt n 9) (hd : decode cc pc = .ok (.getfield 66, 3)) (k : WW G n E nL Q (pc + 3) lv (.int (M 660 j 0) :: st) M) : WW G n E nL Q pc lv (.ref (gad G 9 j) :: st) M :=
  w_get C (ci := 9) (s := 10) (T := TX9) rfl rfl in_X9 (by decide) (by decide) gw335 hj rfl hd k
theorem gf_X9_70 (C : Cx G n E RX9 cc nL) {j : Nat} (hj : j < cnt n 9) (hd : decode cc pc = .ok (.getfield 70, 3)) (k : WW G n E nL Q (pc + 3) lv (.int (M 661 j 0) :: st) M) : WW G n E nL Q pc lv (.ref (gad G 9 j) :: st) M :=
  w_get C (ci := 9) (s := 11) (T := TX9) rfl rfl in_X9 (by decide) (by decide) gw336 hj rfl hd k
theorem gf_X9_73 (C : Cx G n E RX9 cc nL) {j : Nat} (hj : j < cnt n 9) (hd : decode cc pc = .ok (.getfield 73, 3)) (k : WW G n E nL Q (pc + 3) lv (.int (M 662 j 0) :: st) M) : WW G n E nL Q pc lv (.ref (gad G 9 j) :: st) M :=
  w_get C (ci := 9) (s := 12) (T := TX9) rfl rfl in_X9 (by decide) (by decide) gw337 hj rfl hd k
theorem gf_X9_76 (C : Cx G n E RX9 cc nL) {j : Nat} (hj : j < cnt n 9) (hd : decode cc pc = .ok (.getfield 76, 3)) (k : WW G n E nL Q (pc + 3) lv (.int (M 663 j 0) :: st) M) : WW G n E nL Q pc lv (.ref (gad G 9 j) :: st) M :=
  w_get C (ci := 9) (s := 13) (T := TX9) rfl rfl in_X9 (by decide) (by decide) gw338 hj rfl hd k
theorem gf_X9_85 (C : Cx G n E RX9 cc nL) {j : Nat} (hj : j < cnt n 9) (hd : decode cc pc = .ok (.getfield 85, 3)) (k : WW G n E nL Q (pc + 3) lv (.ref (gad G 4 j) :: st) M) : WW G n E nL Q pc lv (.ref (gad G 9 j) :: st) M :=
  w_get C (ci := 9) (s := 4) (T := TX9) rfl rfl in_X9 (by decide) (by decide) gw329 hj rfl hd k
theorem pf_X0_15 (C : Cx G n E RX0 cc nL) {j : Nat} {v : Int32} (hj : j < cnt n 0) (hd : decode cc pc = .ok (.putfield 15, 3)) (k : WW G n E nL Q (pc + 3) lv st (mst M 202 j 0 v)) : WW G n E nL Q pc lv (.int v :: .ref (gad G 0 j) :: st) M :=
  w_putX C (ci := 0) (s := 2) (T := TX0) rfl rfl in_X0 (by decide) (by decide) tyX0 tyX0_ok nmX0 rfl gw666 hj rfl rfl (fun H H' hR ht oq => Rep.putI C.gok hR (by decide) hj (by decide) rfl (by decide) ht oq) hd k
theorem pf_X0_19 (C : Cx G n E RX0 cc nL) {j : Nat} {v : Int32} (hj : j < cnt n 0) (hd : decode cc pc = .ok (.putfield 19, 3)) (k : WW G n E nL Q (pc + 3) lv st (mst M 203 j 0 v)) : WW G n E nL Q pc lv (.int v :: .ref (gad G 0 j) :: st) M :=
  w_putX C (ci := 0) (s := 3) (T := TX0) rfl rfl in_X0 (by decide) (by decide) tyX0 tyX0_ok nmX0 rfl gw669 hj rfl rfl (fun H H' hR ht oq => Rep.putI C.gok hR (by decide) hj (by decide) rfl (by decide) ht oq) hd k
theorem pf_X0_28 (C : Cx G n E RX0 cc nL) {j : Nat} {v : Int32} (hj : j < cnt n 0) (hd : decode cc pc = .ok (.putfield 28, 3)) (k : WW G n E nL Q (pc + 3) lv st (mst M 206 j 0 v)) : WW G n E nL Q pc lv (.int v :: .ref (gad G 0 j) :: st) M :=
  w_putX C (ci := 0) (s := 6) (T := TX0) rfl rfl in_X0 (by decide) (by decide) tyX0 tyX0_ok nmX0 rfl gw676 hj rfl rfl (fun H H' hR ht oq => Rep.putI C.gok hR (by decide) hj (by decide) rfl (by decide) ht oq) hd k
theorem pf_X0_31 (C : Cx G n E RX0 cc nL) {j : Nat} {v : Int32} (hj : j < cnt n 0) (hd : decode cc pc = .ok (.putfield 31, 3)) (k : WW G n E nL Q (pc + 3) lv st (mst M 207 j 0 v)) : WW G n E nL Q pc lv (.int v :: .ref (gad G 0 j) :: st) M :=
  w_putX C (ci := 0) (s := 7) (T := TX0) rfl rfl in_X0 (by decide) (by decide) tyX0 tyX0_ok nmX0 rfl gw678 hj rfl rfl (fun H H' hR ht oq => Rep.putI C.gok hR (by decide) hj (by decide) rfl (by decide) ht oq) hd k
theorem pf_X0_34 (C : Cx G n E RX0 cc nL) {j : Nat} {v : Int32} (hj : j < cnt n 0) (hd : decode cc pc = .ok (.putfield 34, 3)) (k : WW G n E nL Q (pc + 3) lv st (mst M 208 j 0 v)) : WW G n E nL Q pc lv (.int v :: .ref (gad G 0 j) :: st) M :=
  w_putX C (ci := 0) (s := 8) (T := TX0) rfl rfl in_X0 (by decide) (by decide) tyX0 tyX0_ok nmX0 rfl gw680 hj rfl rfl (fun H H' hR ht oq => Rep.putI C.gok hR (by decide) hj (by decide) rfl (by decide) ht oq) hd k
theorem pf_X0_46 (C : Cx G n E RX0 cc nL) {j : Nat} {v : Int32} (hj : j < cnt n 0) (hd : decode cc pc = .ok (.putfield 46, 3)) (k : WW G n E nL Q (pc + 3) lv st (mst M 212 j 0 v)) : WW G n E nL Q pc lv (.int v :: .ref (gad G 0 j) :: st) M :=
  w_putX C (ci := 0) (s := 12) (T := TX0) rfl rfl in_X0 (by decide) (by decide) tyX0 tyX0_ok nmX0 rfl gw691 hj rfl rfl (fun H H' hR ht oq => Rep.putI C.gok hR (by decide) hj (by decide) rfl (by decide) ht oq) hd k
theorem pf_X10_125 (C : Cx G n E RX10 cc nL) {j : Nat} {v : Int32} (hj : j < cnt n 10) (hd : decode cc pc = .ok (.putfield 125, 3)) (k : WW G n E nL Q (pc + 3) lv st (mst M 710 j 0 v)) : WW G n E nL Q pc lv (.int v :: .ref (gad G 10 j) :: st) M :=
  w_putX C (ci := 10) (s := 10) (T := TX10) rfl rfl in_X10 (by decide) (by decide) tyX10 tyX10_ok nmX10 rfl gw1035 hj rfl rfl (fun H H' hR ht oq => Rep.putI C.gok hR (by decide) hj (by decide) rfl (by decide) ht oq) hd k
theorem pf_X10_128 (C : Cx G n E RX10 cc nL) {j : Nat} {v : Int32} (hj : j < cnt n 10) (hd : decode cc pc = .ok (.putfield 128, 3)) (k : WW G n E nL Q (pc + 3) lv st (mst M 709 j 0 v)) : WW G n E nL Q pc lv (.int v :: .ref (gad G 10 j) :: st) M :=
  w_putX C (ci := 10) (s := 9) (T := TX10) rfl rfl in_X10 (by decide) (by decide) tyX10 tyX10_ok nmX10 rfl gw1034 hj rfl rfl (fun H H' hR ht oq => Rep.putI C.gok hR (by decide) hj (by decide) rfl (by decide) ht oq) hd k
theorem pf_X10_135 (C : Cx G n E RX10 cc nL) {j : Nat} {v : Int32} (hj : j < cnt n 10) (hd : decode cc pc = .ok (.putfield 135, 3)) (k : WW G n E nL Q (pc + 3) lv st (mst M 711 j 0 v)) : WW G n E nL Q pc lv (.int v :: .ref (gad G 10 j) :: st) M :=
  w_putX C (ci := 10) (s := 11) (T := TX10) rfl rfl in_X10 (by decide) (by decide) tyX10 tyX10_ok nmX10 rfl gw1036 hj rfl rfl (fun H H' hR ht oq => Rep.putI C.gok hR (by decide) hj (by decide) rfl (by decide) ht oq) hd k
theorem pf_X10_145 (C : Cx G n E RX10 cc nL) {j : Nat} {v : Int32} (hj : j < cnt n 10) (hd : decode cc pc = .ok (.putfield 145, 3)) (k : WW G n E nL Q (pc + 3) lv st (mst M 712 j 0 v)) : WW G n E nL Q pc lv (.int v :: .ref (gad G 10 j) :: st) M :=
  w_putX C (ci := 10) (s := 12) (T := TX10) rfl rfl in_X10 (by decide) (by decide) tyX10 tyX10_ok nmX10 rfl gw1037 hj rfl rfl (fun H H' hR ht oq => Rep.putI C.gok hR (by decide) hj (by decide) rfl (by decide) ht oq) hd k
theorem pf_X10_177 (C : Cx G n E RX10 cc nL) {j : Nat} {v : Int32} (hj : j < cnt n 10) (hd : decode cc pc = .ok (.putfield 177, 3)) (k : WW G n E nL Q (pc + 3) lv st (mst M 716 j 0 v)) : WW G n E nL Q pc lv (.int v :: .ref (gad G 10 j) :: st) M :=
  w_putX C (ci := 10) (s := 16) (T := TX10) rfl rfl in_X10 (by decide) (by decide) tyX10 tyX10_ok nmX10 rfl gw1041 hj rfl rfl (fun H H' hR ht oq => Rep.putI C.gok hR (by decide) hj (by decide) rfl (by decide) ht oq) hd k
theorem pf_X10_180 (C : Cx G n E RX10 cc nL) {j : Nat} {v : Int32} (hj : j < cnt n 10) (hd : decode cc pc = .ok (.putfield 180, 3)) (k : WW G n E nL Q (pc + 3) lv st (mst M 717 j 0 v)) : WW G n E nL Q pc lv (.int v :: .ref (gad G 10 j) :: st) M :=
  w_putX C (ci := 10) (s := 17) (T := TX10) rfl rfl in_X10 (by decide) (by decide) tyX10 tyX10_ok nmX10 rfl gw1042 hj rfl rfl (fun H H' hR ht oq => Rep.putI C.gok hR (by decide) hj (by decide) rfl (by decide) ht oq) hd k
theorem pf_X10_183 (C : Cx G n E RX10 cc nL) {j : Nat} {v : Int32} (hj : j < cnt n 10) (hd : decode cc pc = .ok (.putfield 183, 3)) (k : WW G n E nL Q (pc + 3) lv st (mst M 718 j 0 v)) : WW G n E nL Q pc lv (.int v :: .ref (gad G 10 j) :: st) M :=
  w_putX C (ci := 10) (s := 18) (T := TX10) rfl rfl in_X10 (by decide) (by decide) tyX10 tyX10_ok nmX10 rfl gw1043 hj rfl rfl (fun H H' hR ht oq => Rep.putI C.gok hR (by decide) hj (by decide) rfl (by decide) ht oq) hd k
theorem pf_X10_186 (C : Cx G n E RX10 cc nL) {j : Nat} {v : Int32} (hj : j < cnt n 10) (hd : decode cc pc = .ok (.putfield 186, 3)) (k : WW G n E nL Q (pc + 3) lv st (mst M 714 j 0 v)) : WW G n E nL Q pc lv (.int v :: .ref (gad G 10 j) :: st) M :=
  w_putX C (ci := 10) (s := 14) (T := TX10) rfl rfl in_X10 (by decide) (by decide) tyX10 tyX10_ok nmX10 rfl gw1039 hj rfl rfl (fun H H' hR ht oq => Rep.putI C.gok hR (by decide) hj (by decide) rfl (by decide) ht oq) hd k
theorem pf_X10_189 (C : Cx G n E RX10 cc nL) {j : Nat} {v : Int32} (hj : j < cnt n 10) (hd : decode cc pc = .ok (.putfield 189, 3)) (k : WW G n E nL Q (pc + 3) lv st (mst M 715 j 0 v)) : WW G n E nL Q pc lv (.int v :: .ref (gad G 10 j) :: st) M :=
  w_putX C (ci := 10) (s := 15) (T := TX10) rfl rfl in_X10 (by decide) (by decide) tyX10 tyX10_ok nmX10 rfl gw1040 hj rfl rfl (fun H H' hR ht oq => Rep.putI C.gok hR (by decide) hj (by decide) rfl (by decide) ht oq) hd k
theorem pf_X10_203 (C : Cx G n E RX10 cc nL) {j : Nat} {v : Int32} (hj : j < cnt n 10) (hd : decode cc pc = .ok (.putfield 203, 3)) (k : WW G n E nL Q (pc + 3) lv st (mst M 747 j 0 v)) : WW G n E nL Q pc lv (.int v :: .ref (gad G 10 j) :: st) M :=
  w_putX C (ci := 10) (s := 47) (T := TX10) rfl rfl in_X10 (by decide) (by decide) tyX10 tyX10_ok nmX10 rfl gw1072 hj rfl rfl (fun H H' hR ht oq => Rep.putI C.gok hR (by decide) hj (by decide) rfl (by decide) ht oq) hd k
theorem pf_X10_229 (C : Cx G n E RX10 cc nL) {j : Nat} {v : Int32} (hj : j < cnt n 10) (hd : decode cc pc = .ok (.putfield 229, 3)) (k : WW G n E nL Q (pc + 3) lv st (mst M 720 j 0 v)) : WW G n E nL Q pc lv (.int v :: .ref (gad G 10 j) :: st) M :=
  w_putX C (ci := 10) (s := 20) (T := TX10) rfl rfl in_X10 (by decide) (by decide) tyX10 tyX10_ok nmX10 rfl gw1045 hj rfl rfl (fun H H' hR ht oq => Rep.putI C.gok hR (by decide) hj (by decide) rfl (by decide) ht oq) hd k
theorem pf_X10_274 (C : Cx G n E RX10 cc nL) {j : Nat} {v : Int32} (hj : j < cnt n 10) (hd : decode cc pc = .ok (.putfield 274, 3)) (k : WW G n E nL Q (pc + 3) lv st (mst M 732 j 0 v)) : WW G n E nL Q pc lv (.int v :: .ref (gad G 10 j) :: st) M :=
  w_putX C (ci := 10) (s := 32) (T := TX10) rfl rfl in_X10 (by decide) (by decide) tyX10 tyX10_ok nmX10 rfl gw1057 hj rfl rfl (fun H H' hR ht oq => Rep.putI C.gok hR (by decide) hj (by decide) rfl (by decide) ht oq) hd k
theorem pf_X10_287 (C : Cx G n E RX10 cc nL) {j : Nat} {v : Int32} (hj : j < cnt n 10) (hd : decode cc pc = .ok (.putfield 287, 3)) (k : WW G n E nL Q (pc + 3) lv st (mst M 737 j 0 v)) : WW G n E nL Q pc lv (.int v :: .ref (gad G 10 j) :: st) M :=
  w_putX C (ci := 10) (s := 37) (T := TX10) rfl rfl in_X10 (by decide) (by decide) tyX10 tyX10_ok nmX10 rfl gw1062 hj rfl rfl (fun H H' hR ht oq => Rep.putI C.gok hR (by decide) hj (by decide) rfl (by decide) ht oq) hd k
theorem pf_X10_86 (C : Cx G n E RX10 cc nL) {j : Nat} {v : Int32} (hj : j < cnt n 10) (hd : decode cc pc = .ok (.putfield 86, 3)) (k : WW G n E nL Q (pc + 3) lv st (mst M 736 j 0 v)) : WW G n E nL Q pc lv (.int v :: .ref (gad G 10 j) :: st) M :=
  w_putX C (ci := 10) (s := 36) (T := TX10) rfl rfl in_X10 (by decide) (by decide) tyX10 tyX10_ok nmX10 rfl gw1061 hj rfl rfl (fun H H' hR ht oq => Rep.putI C.gok hR (by decide) hj (by decide) rfl (by decide) ht oq) hd k
theorem pf_X10_96 (C : Cx G n E RX10 cc nL) {j : Nat} {v : Int32} (hj : j < cnt n 10) (hd : decode cc pc = .ok (.putfield 96, 3)) (k : WW G n E nL Q (pc + 3) lv st (mst M 740 j 0 v)) : WW G n E nL Q pc lv (.int v :: .ref (gad G 10 j) :: st) M :=
  w_putX C (ci := 10) (s := 40) (T := TX10) rfl rfl in_X10 (by decide) (by decide) tyX10 tyX10_ok nmX10 rfl gw1065 hj rfl rfl (fun H H' hR ht oq => Rep.putI C.gok hR (by decide) hj (by decide) rfl (by decide) ht oq) hd k
theorem pf_X1_18 (C : Cx G n E RX1 cc nL) {j : Nat} {v : Int32} (hj : j < cnt n 1) (hd : decode cc pc = .ok (.putfield 18, 3)) (k : WW G n E nL Q (pc + 3) lv st (mst M 252 j 0 v)) : WW G n E nL Q pc lv (.int v :: .ref (gad G 1 j) :: st) M :=
  w_putX C (ci := 1) (s := 2) (T := TX1) rfl rfl in_X1 (by decide) (by decide) tyX1 tyX1_ok nmX1 rfl gw225 hj rfl rfl (fun H H' hR ht oq => Rep.putI C.gok hR (by decide) hj (by decide) rfl (by decide) ht oq) hd k
theorem pf_X2_39 (C : Cx G n E RX2 cc nL) {j : Nat} {v : Int32} (hj : j < cnt n 2) (hd : decode cc pc = .ok (.putfield 39, 3)) (k : WW G n E nL Q (pc + 3) lv st (mst M 308 j 0 v)) : WW G n E nL Q pc lv (.int v :: .ref (gad G 2 j) :: st) M :=
  w_putX C (ci := 2) (s := 8) (T := TX2) rfl rfl in_X2 (by decide) (by decide) tyX2 tyX2_ok nmX2 rfl gw163 hj rfl rfl (fun H H' hR ht oq => Rep.putI C.gok hR (by decide) hj (by decide) rfl (by decide) ht oq) hd k
theorem pf_X2_43 (C : Cx G n E RX2 cc nL) {j : Nat} {v : Int32} (hj : j < cnt n 2) (hd : decode cc pc = .ok (.putfield 43, 3)) (k : WW G n E nL Q (pc + 3) lv st (mst M 309 j 0 v)) : WW G n E nL Q pc lv (.int v :: .ref (gad G 2 j) :: st) M :=
  w_putX C (ci := 2) (s := 9) (T := TX2) rfl rfl in_X2 (by decide) (by decide) tyX2 tyX2_ok nmX2 rfl gw164 hj rfl rfl (fun H H' hR ht oq => Rep.putI C.gok hR (by decide) hj (by decide) rfl (by decide) ht oq) hd k
theorem pf_X2_46 (C : Cx G n E RX2 cc nL) {j : Nat} {v : Int32} (hj : j < cnt n 2) (hd : decode cc pc = .ok (.putfield 46, 3)) (k : WW G n E nL Q (pc + 3) lv st (mst M 310 j 0 v)) : WW G n E nL Q pc lv (.int v :: .ref (gad G 2 j) :: st) M :=
  w_putX C (ci := 2) (s := 10) (T := TX2) rfl rfl in_X2 (by decide) (by decide) tyX2 tyX2_ok nmX2 rfl gw165 hj rfl rfl (fun H H' hR ht oq => Rep.putI C.gok hR (by decide) hj (by decide) rfl (by decide) ht oq) hd k
theorem pf_X2_49 (C : Cx G n E RX2 cc nL) {j : Nat} {v : Int32} (hj : j < cnt n 2) (hd : decode cc pc = .ok (.putfield 49, 3)) (k : WW G n E nL Q (pc + 3) lv st (mst M 311 j 0 v)) : WW G n E nL Q pc lv (.int v :: .ref (gad G 2 j) :: st) M :=
  w_putX C (ci := 2) (s := 11) (T := TX2) rfl rfl in_X2 (by decide) (by decide) tyX2 tyX2_ok nmX2 rfl gw166 hj rfl rfl (fun H H' hR ht oq => Rep.putI C.gok hR (by decide) hj (by decide) rfl (by decide) ht oq) hd k
theorem pf_X2_77 (C : Cx G n E RX2 cc nL) {j : Nat} {v : Int32} (hj : j < cnt n 0) (hd : decode cc pc = .ok (.putfield 77, 3)) (k : WW G n E nL Q (pc + 3) lv st (mst M 210 j 0 v)) : WW G n E nL Q pc lv (.int v :: .ref (gad G 0 j) :: st) M :=
  w_putXN C (ci := 0) (s := 10) (T := TX0) rfl rfl in_X0 (by decide) (by decide) tyX0 tyX0_ok nmX0 rfl nw686 hj rfl rfl (fun H H' hR ht oq => Rep.putI C.gok hR (by decide) hj (by decide) rfl (by decide) ht oq) hd k
theorem pf_X2_91 (C : Cx G n E RX2 cc nL) {j : Nat} {v : Int32} (hj : j < cnt n 0) (hd : decode cc pc = .ok (.putfield 91, 3)) (k : WW G n E nL Q (pc + 3) lv st (mst M 211 j 0 v)) : WW G n E nL Q pc lv (.int v :: .ref (gad G 0 j) :: st) M :=
  w_putXN C (ci := 0) (s := 11) (T := TX0) rfl rfl in_X0 (by decide) (by decide) tyX0 tyX0_ok nmX0 rfl nw689 hj rfl rfl (fun H H' hR ht oq => Rep.putI C.gok hR (by decide) hj (by decide) rfl (by decide) ht oq) hd k
theorem pf_X3_24 (C : Cx G n E RX3 cc nL) {j : Nat} {v : Int32} (hj : j < cnt n 4) (hd : decode cc pc = .ok (.putfield 24, 3)) (k : WW G n E nL Q (pc + 3) lv st (mst M 403 j 0 v)) : WW G n E nL Q pc lv (.int v :: .ref (gad G 4 j) :: st) M :=
  w_putXN C (ci := 4) (s := 3) (T := TX4) rfl rfl in_X4 (by decide) (by decide) tyX4 tyX4_ok nmX4 rfl nw292 hj rfl rfl (fun H H' hR ht oq => Rep.putI C.gok hR (by decide) hj (by decide) rfl (by decide) ht oq) hd k
theorem pf_X4_15 (C : Cx G n E RX4 cc nL) {j : Nat} {v : Int32} (hj : j < cnt n 4) (hd : decode cc pc = .ok (.putfield 15, 3)) (k : WW G n E nL Q (pc + 3) lv st (mst M 403 j 0 v)) : WW G n E nL Q pc lv (.int v :: .ref (gad G 4 j) :: st) M :=
  w_putX C (ci := 4) (s := 3) (T := TX4) rfl rfl in_X4 (by decide) (by decide) tyX4 tyX4_ok nmX4 rfl gw291 hj rfl rfl (fun H H' hR ht oq => Rep.putI C.gok hR (by decide) hj (by decide) rfl (by decide) ht oq) hd k
theorem pf_X4_19 (C : Cx G n E RX4 cc nL) {v : Nat} (hv : v < 4) (hd : decode cc pc = .ok (.putfield 19, 3)) (k : WW G n E nL Q (pc + 3) lv st (mst M 401 0 0 (nI v))) : WW G n E nL Q pc lv (.ref (gad G 8 v) :: .ref (gad G 4 0) :: st) M := by
  have hj : 0 < cnt n 4 := (Nat.le_of_ble_eq_true rfl)
  exact w_putX C (ci := 4) (s := 1) (T := TX4) rfl rfl in_X4 (by decide) (by decide) tyX4 tyX4_ok nmX4 rfl gw288 hj rfl rfl (fun H H' hR ht oq => Rep.putD C.gok hR (by decide) hv ht oq) hd k
theorem pf_X4_23 (C : Cx G n E RX4 cc nL) {v : Nat} (hv : v < 4) (hd : decode cc pc = .ok (.putfield 23, 3)) (k : WW G n E nL Q (pc + 3) lv st (mst M 402 0 0 (nI v))) : WW G n E nL Q pc lv (.ref (gad G 8 v) :: .ref (gad G 4 0) :: st) M := by
  have hj : 0 < cnt n 4 := (Nat.le_of_ble_eq_true rfl)
  exact w_putX C (ci := 4) (s := 2) (T := TX4) rfl rfl in_X4 (by decide) (by decide) tyX4 tyX4_ok nmX4 rfl gw290 hj rfl rfl (fun H H' hR ht oq => Rep.putD C.gok hR (by decide) hv ht oq) hd k
theorem pf_X5_21 (C : Cx G n E RX5 cc nL) {j : Nat} {v : Int32} (hj : j < cnt n 5) (hd : decode cc pc = .ok (.putfield 21, 3)) (k : WW G n E nL Q (pc + 3) lv st (mst M 453 j 0 v)) : WW G n E nL Q pc lv (.int v :: .ref (gad G 5 j) :: st) M :=
  w_putX C (ci := 5) (s := 3) (T := TX5) rfl rfl in_X5 (by decide) (by decide) tyX5 tyX5_ok nmX5 rfl gw202 hj rfl rfl (fun H H' hR ht oq => Rep.putI C.gok hR (by decide) hj (by decide) rfl (by decide) ht oq) hd k
theorem pf_X6_27 (C : Cx G n E RX6 cc nL) {j : Nat} {v : Int32} (hj : j < cnt n 6) (hd : decode cc pc = .ok (.putfield 27, 3)) (k : WW G n E nL Q (pc + 3) lv st (mst M 505 j 0 v)) : WW G n E nL Q pc lv (.int v :: .ref (gad G 6 j) :: st) M :=
  w_putX C (ci := 6) (s := 5) (T := TX6) rfl rfl in_X6 (by decide) (by decide) tyX6 tyX6_ok nmX6 rfl gw122 hj rfl rfl (fun H H' hR ht oq => Rep.putI C.gok hR (by decide) hj (by decide) rfl (by decide) ht oq) hd k
theorem pf_X7_15 (C : Cx G n E RX7 cc nL) {j : Nat} {v : Int32} (hj : j < cnt n 7) (h1 : narrow .boolean (.int v) = .int v) (h2 : fits .boolean (.int v) = true) (hd : decode cc pc = .ok (.putfield 15, 3)) (k : WW G n E nL Q (pc + 3) lv st (mst M 551 j 0 v)) : WW G n E nL Q pc lv (.int v :: .ref (gad G 7 j) :: st) M :=
  w_putX C (ci := 7) (s := 1) (T := TX7) rfl rfl in_X7 (by decide) (by decide) tyX7 tyX7_ok nmX7 rfl gw310 hj h1 h2 (fun H H' hR ht oq => Rep.putI C.gok hR (by decide) hj (by decide) rfl (by decide) ht oq) hd k
theorem pf_X7_19 (C : Cx G n E RX7 cc nL) {j : Nat} {v : Int32} (hj : j < cnt n 7) (hd : decode cc pc = .ok (.putfield 19, 3)) (k : WW G n E nL Q (pc + 3) lv st (mst M 552 j 0 v)) : WW G n E nL Q pc lv (.int v :: .ref (gad G 7 j) :: st) M :=
  w_putX C (ci := 7) (s := 2) (T := TX7) rfl rfl in_X7 (by decide) (by decide) tyX7 tyX7_ok nmX7 rfl gw312 hj rfl rfl (fun H H' hR ht oq => Rep.putI C.gok hR (by decide) hj (by decide) rfl (by decide) ht oq) hd k
theorem pf_X7_23 (C : Cx G n E RX7 cc nL) {j : Nat} {v : Int32} (hj : j < cnt n 7) (hd : decode cc pc = .ok (.putfield 23, 3)) (k : WW G n E nL Q (pc + 3) lv st (mst M 553 j 0 v)) : WW G n E nL Q pc lv (.int v :: .ref (gad G 7 j) :: st) M :=
  w_putX C (ci := 7) (s := 3) (T := TX7) rfl rfl in_X7 (by decide) (by decide) tyX7 tyX7_ok nmX7 rfl gw314 hj rfl rfl (fun H H' hR ht oq => Rep.putI C.gok hR (by decide) hj (by decide) rfl (by decide) ht oq) hd k
theorem pf_X8_30 (C : Cx G n E RX8 cc nL) {j : Nat} {v : Int32} (hj : j < cnt n 8) (hd : decode cc pc = .ok (.putfield 30, 3)) (k : WW G n E nL Q (pc + 3) lv st (mst M 606 j 0 v)) : WW G n E nL Q pc lv (.int v :: .ref (gad G 8 j) :: st) M :=
  w_putX C (ci := 8) (s := 6) (T := TX8) rfl rfl in_X8 (by decide) (by decide) tyX8 tyX8_ok nmX8 rfl gw253 hj rfl rfl (fun H H' hR ht oq => Rep.putI C.gok hR (by decide) hj (by decide) rfl (by decide) ht oq) hd k
theorem pf_X8_34 (C : Cx G n E RX8 cc nL) {j : Nat} {v : Int32} (hj : j < cnt n 8) (hd : decode cc pc = .ok (.putfield 34, 3)) (k : WW G n E nL Q (pc + 3) lv st (mst M 607 j 0 v)) : WW G n E nL Q pc lv (.int v :: .ref (gad G 8 j) :: st) M :=
  w_putX C (ci := 8) (s := 7) (T := TX8) rfl rfl in_X8 (by decide) (by decide) tyX8 tyX8_ok nmX8 rfl gw255 hj rfl rfl (fun H H' hR ht oq => Rep.putI C.gok hR (by decide) hj (by decide) rfl (by decide) ht oq) hd k
theorem pf_X8_37 (C : Cx G n E RX8 cc nL) {j : Nat} {v : Int32} (hj : j < cnt n 8) (hd : decode cc pc = .ok (.putfield 37, 3)) (k : WW G n E nL Q (pc + 3) lv st (mst M 608 j 0 v)) : WW G n E nL Q pc lv (.int v :: .ref (gad G 8 j) :: st) M :=
  w_putX C (ci := 8) (s := 8) (T := TX8) rfl rfl in_X8 (by decide) (by decide) tyX8 tyX8_ok nmX8 rfl gw257 hj rfl rfl (fun H H' hR ht oq => Rep.putI C.gok hR (by decide) hj (by decide) rfl (by decide) ht oq) hd k
theorem pf_X8_40 (C : Cx G n E RX8 cc nL) {j : Nat} {v : Int32} (hj : j < cnt n 8) (h1 : narrow .boolean (.int v) = .int v) (h2 : fits .boolean (.int v) = true) (hd : decode cc pc = .ok (.putfield 40, 3)) (k : WW G n E nL Q (pc + 3) lv st (mst M 609 j 0 v)) : WW G n E nL Q pc lv (.int v :: .ref (gad G 8 j) :: st) M :=
  w_putX C (ci := 8) (s := 9) (T := TX8) rfl rfl in_X8 (by decide) (by decide) tyX8 tyX8_ok nmX8 rfl gw259 hj h1 h2 (fun H H' hR ht oq => Rep.putI C.gok hR (by decide) hj (by decide) rfl (by decide) ht oq) hd k
theorem pf_X9_123 (C : Cx G n E RX9 cc nL) {j : Nat} {v : Int32} (hj : j < cnt n 7) (h1 : narrow .boolean (.int v) = .int v) (h2 : fits .boolean (.int v) = true) (hd : decode cc pc = .ok (.putfield 123, 3)) (k : WW G n E nL Q (pc + 3) lv st (mst M 551 j 0 v)) : WW G n E nL Q pc lv (.int v :: .ref (gad G 7 j) :: st) M :=
  w_putXN C (ci := 7) (s := 1) (T := TX7) rfl rfl in_X7 (by decide) (by decide) tyX7 tyX7_ok nmX7 rfl nw311 hj h1 h2 (fun H H' hR ht oq => Rep.putI C.gok hR (by decide) hj (by decide) rfl (by decide) ht oq) hd k
theorem pf_X9_205 (C : Cx G n E RX9 cc nL) {j : Nat} {v : Int32} (hj : j < cnt n 0) (hd : decode cc pc = .ok (.putfield 205, 3)) (k : WW G n E nL Q (pc + 3) lv st (mst M 204 j 0 v)) : WW G n E nL Q pc lv (.int v :: .ref (gad G 0 j) :: st) M :=
  w_putXN C (ci := 0) (s := 4) (T := TX0) rfl rfl in_X0 (by decide) (by decide) tyX0 tyX0_ok nmX0 rfl nw672 hj rfl rfl (fun H H' hR ht oq => Rep.putI C.gok hR (by decide) hj (by decide) rfl (by decide) ht oq) hd k
theorem pf_X9_208 (C : Cx G n E RX9 cc nL) {j : Nat} {v : Int32} (hj : j < cnt n 0) (hd : decode cc pc = .ok (.putfield 208, 3)) (k : WW G n E nL Q (pc + 3) lv st (mst M 205 j 0 v)) : WW G n E nL Q pc lv (.int v :: .ref (gad G 0 j) :: st) M :=
  w_putXN C (ci := 0) (s := 5) (T := TX0) rfl rfl in_X0 (by decide) (by decide) tyX0 tyX0_ok nmX0 rfl nw675 hj rfl rfl (fun H H' hR ht oq => Rep.putI C.gok hR (by decide) hj (by decide) rfl (by decide) ht oq) hd k
theorem pf_X9_211 (C : Cx G n E RX9 cc nL) {j : Nat} {v : Int32} (hj : j < cnt n 0) (hd : decode cc pc = .ok (.putfield 211, 3)) (k : WW G n E nL Q (pc + 3) lv st (mst M 212 j 0 v)) : WW G n E nL Q pc lv (.int v :: .ref (gad G 0 j) :: st) M :=
  w_putXN C (ci := 0) (s := 12) (T := TX0) rfl rfl in_X0 (by decide) (by decide) tyX0 tyX0_ok nmX0 rfl nw692 hj rfl rfl (fun H H' hR ht oq => Rep.putI C.gok hR (by decide) hj (by decide) rfl (by decide) ht oq) hd k
theorem pf_X9_263 (C : Cx G n E RX9 cc nL) {j : Nat} {v : Int32} (hj : j < cnt n 5) (hd : decode cc pc = .ok (.putfield 263, 3)) (k : WW G n E nL Q (pc + 3) lv st (mst M 454 j 0 v)) : WW G n E nL Q pc lv (.int v :: .ref (gad G 5 j) :: st) M :=
  w_putXN C (ci := 5) (s := 4) (T := TX5) rfl rfl in_X5 (by decide) (by decide) tyX5 tyX5_ok nmX5 rfl nw205 hj rfl rfl (fun H H' hR ht oq => Rep.putI C.gok hR (by decide) hj (by decide) rfl (by decide) ht oq) hd k
theorem pf_X9_283 (C : Cx G n E RX9 cc nL) {j : Nat} {v : Int32} (hj : j < cnt n 1) (hd : decode cc pc = .ok (.putfield 283, 3)) (k : WW G n E nL Q (pc + 3) lv st (mst M 253 j 0 v)) : WW G n E nL Q pc lv (.int v :: .ref (gad G 1 j) :: st) M :=
  w_putXN C (ci := 1) (s := 3) (T := TX1) rfl rfl in_X1 (by decide) (by decide) tyX1 tyX1_ok nmX1 rfl nw228 hj rfl rfl (fun H H' hR ht oq => Rep.putI C.gok hR (by decide) hj (by decide) rfl (by decide) ht oq) hd k
theorem pf_X9_70 (C : Cx G n E RX9 cc nL) {j : Nat} {v : Int32} (hj : j < cnt n 9) (hd : decode cc pc = .ok (.putfield 70, 3)) (k : WW G n E nL Q (pc + 3) lv st (mst M 661 j 0 v)) : WW G n E nL Q pc lv (.int v :: .ref (gad G 9 j) :: st) M :=
  w_putX C (ci := 9) (s := 11) (T := TX9) rfl rfl in_X9 (by decide) (by decide) tyX9 tyX9_ok nmX9 rfl gw336 hj rfl rfl (fun H H' hR ht oq => Rep.putI C.gok hR (by decide) hj (by decide) rfl (by decide) ht oq) hd k
theorem pf_X9_73 (C : Cx G n E RX9 cc nL) {j : Nat} {v : Int32} (hj : j < cnt n 9) (hd : decode cc pc = .ok (.putfield 73, 3)) (k : WW G n E nL Q (pc + 3) lv st (mst M 662 j 0 v)) : WW G n E nL Q pc lv (.int v :: .ref (gad G 9 j) :: st) M :=
  w_putX C (ci := 9) (s := 12) (T := TX9) rfl rfl in_X9 (by decide) (by decide) tyX9 tyX9_ok nmX9 rfl gw337 hj rfl rfl (fun H H' hR ht oq => Rep.putI C.gok hR (by decide) hj (by decide) rfl (by decide) ht oq) hd k
theorem pf_X9_76 (C : Cx G n E RX9 cc nL) {j : Nat} {v : Int32} (hj : j < cnt n 9) (hd : decode cc pc = .ok (.putfield 76, 3)) (k : WW G n E nL Q (pc + 3) lv st (mst M 663 j 0 v)) : WW G n E nL Q pc lv (.int v :: .ref (gad G 9 j) :: st) M :=
  w_putX C (ci := 9) (s := 13) (T := TX9) rfl rfl in_X9 (by decide) (by decide) tyX9 tyX9_ok nmX9 rfl gw338 hj rfl rfl (fun H H' hR ht oq => Rep.putI C.gok hR (by decide) hj (by decide) rfl (by decide) ht oq) hd k
end GFS
theorem mt_J0_coder_7d493 : MT yJ0_coder_7d493 cJ0_coder_7d493 1 (some .byte) 0 := ⟨gw428, gw87, by decide, by decide, by decide +kernel⟩
theorem mt_J0_indexOf_0f7a4 : MT yJ0_indexOf_0f7a4 cJ0_indexOf_0f7a4 2 (some .int) 1 := ⟨gw410, gw87, by decide, by decide, by decide +kernel⟩
theorem mt_J0_indexOf_7cf53 : MT yJ0_indexOf_7cf53 cJ0_indexOf_7cf53 3 (some .int) 2 := ⟨gw414, gw87, by decide, by decide, by decide +kernel⟩
theorem mt_J0_isLatin1_aae02 : MT yJ0_isLatin1_aae02 cJ0_isLatin1_aae02 1 (some .boolean) 0 := ⟨gw418, gw87, by decide, by decide, by decide +kernel⟩
theorem mt_J0_length_8abf5 : MT yJ0_length_8abf5 cJ0_length_8abf5 1 (some .int) 0 := ⟨gw424, gw87, by decide, by decide, by decide +kernel⟩
theorem mt_J1_canEncode_9a6ad : MT yJ1_canEncode_9a6ad cJ1_canEncode_9a6ad 1 (some .boolean) 1 := ⟨gw434, gw88, by decide, by decide, by decide +kernel⟩
theorem mt_J1_indexOfChar_4cfef : MT yJ1_indexOfChar_4cfef cJ1_indexOfChar_4cfef 6 (some .int) 4 := ⟨gw443, gw88, by decide, by decide, by decide +kernel⟩
theorem mt_J1_indexOf_4cfef : MT yJ1_indexOf_4cfef cJ1_indexOf_4cfef 4 (some .int) 4 := ⟨gw431, gw88, by decide, by decide, by decide +kernel⟩
theorem mt_J6_bitCount_0f7a4 : MT yJ6_bitCount_0f7a4 cJ6_bitCount_0f7a4 1 (some .int) 1 := ⟨gw628, gw93, by decide, by decide, by decide +kernel⟩
theorem mt_J7_fill_031fb : MT yJ7_fill_031fb cJ7_fill_031fb 4 none 2 := ⟨gw844, gw86, by decide, by decide, by decide +kernel⟩
theorem mt_J7_fill_53178 : MT yJ7_fill_53178 cJ7_fill_53178 4 none 2 := ⟨gw398, gw86, by decide, by decide, by decide +kernel⟩
theorem mt_J9_max_7cf53 : MT yJ9_max_7cf53 cJ9_max_7cf53 2 (some .int) 2 := ⟨gw437, gw89, by decide, by decide, by decide +kernel⟩
theorem mt_J9_min_7cf53 : MT yJ9_min_7cf53 cJ9_min_7cf53 2 (some .int) 2 := ⟨gw440, gw89, by decide, by decide, by decide +kernel⟩
theorem mt_X0_change : MT yX0_change cX0_change 4 (some .int) 2 := ⟨gw763, gw94, by decide, by decide, by decide +kernel⟩
theorem mt_X0_hasLostFrom : MT yX0_hasLostFrom cX0_hasLostFrom 3 (some .boolean) 1 := ⟨gw860, gw94, by decide, by decide, by decide +kernel⟩
theorem mt_X0_holdsAt : MT yX0_holdsAt cX0_holdsAt 6 (some .boolean) 3 := ⟨gw869, gw94, by decide, by decide, by decide +kernel⟩
theorem mt_X0_holdsEndOf : MT yX0_holdsEndOf cX0_holdsEndOf 4 (some .boolean) 2 := ⟨gw865, gw94, by decide, by decide, by decide +kernel⟩
theorem mt_X0_isShort : MT yX0_isShort cX0_isShort 1 (some .boolean) 0 := ⟨gw755, gw94, by decide, by decide, by decide +kernel⟩
theorem mt_X0_takeLog : MT yX0_takeLog cX0_takeLog 6 (some .int) 2 := ⟨gw735, gw94, by decide, by decide, by decide +kernel⟩
theorem mt_X0_told : MT yX0_told cX0_told 2 (some .int) 1 := ⟨gw751, gw94, by decide, by decide, by decide +kernel⟩
theorem mt_X10_aboutOf : MT yX10_aboutOf cX10_aboutOf 3 (some .int) 2 := ⟨gw1323, gw85, by decide, by decide, by decide +kernel⟩
theorem mt_X10_act : MT yX10_act cX10_act 6 none 0 := ⟨gw1219, gw85, by decide, by decide, by decide +kernel⟩
theorem mt_X10_actsOf : MT yX10_actsOf cX10_actsOf 3 (some .int) 2 := ⟨gw1230, gw85, by decide, by decide, by decide +kernel⟩
theorem mt_X10_amount : MT yX10_amount cX10_amount 1 (some .int) 1 := ⟨gw1366, gw85, by decide, by decide, by decide +kernel⟩
theorem mt_X10_areLike : MT yX10_areLike cX10_areLike 8 (some .boolean) 3 := ⟨gw1242, gw85, by decide, by decide, by decide +kernel⟩
theorem mt_X10_begins : MT yX10_begins cX10_begins 2 none 0 := ⟨gw1264, gw85, by decide, by decide, by decide +kernel⟩
theorem mt_X10_byteNow : MT yX10_byteNow cX10_byteNow 1 (some .int) 0 := ⟨gw1208, gw85, by decide, by decide, by decide +kernel⟩
theorem mt_X10_causesBy : MT yX10_causesBy cX10_causesBy 5 (some .int) 2 := ⟨gw1351, gw85, by decide, by decide, by decide +kernel⟩
theorem mt_X10_comesIn : MT yX10_comesIn cX10_comesIn 8 (some .boolean) 3 := ⟨gw1390, gw85, by decide, by decide, by decide +kernel⟩
theorem mt_X10_costBy : MT yX10_costBy cX10_costBy 4 (some .int) 3 := ⟨gw1447, gw85, by decide, by decide, by decide +kernel⟩
theorem mt_X10_count : MT yX10_count cX10_count 4 (some .int) 1 := ⟨gw1484, gw85, by decide, by decide, by decide +kernel⟩
theorem mt_X10_daysOfSet : MT yX10_daysOfSet cX10_daysOfSet 4 (some .int) 1 := ⟨gw1443, gw85, by decide, by decide, by decide +kernel⟩
theorem mt_X10_differOf : MT yX10_differOf cX10_differOf 5 (some .int) 2 := ⟨gw1238, gw85, by decide, by decide, by decide +kernel⟩
theorem mt_X10_doesPart : MT yX10_doesPart cX10_doesPart 4 (some .boolean) 2 := ⟨gw1284, gw85, by decide, by decide, by decide +kernel⟩
theorem mt_X10_eventOf : MT yX10_eventOf cX10_eventOf 1 (some .int) 1 := ⟨gw1211, gw85, by decide, by decide, by decide +kernel⟩
theorem mt_X10_faultOf : MT yX10_faultOf cX10_faultOf 2 (some .int) 1 := ⟨gw1192, gw85, by decide, by decide, by decide +kernel⟩
theorem mt_X10_fillMany : MT yX10_fillMany cX10_fillMany 2 (some .int) 1 := ⟨gw1347, gw85, by decide, by decide, by decide +kernel⟩
theorem mt_X10_filledBy : MT yX10_filledBy cX10_filledBy 6 none 2 := ⟨gw1359, gw85, by decide, by decide, by decide +kernel⟩
theorem mt_X10_goes : MT yX10_goes cX10_goes 9 none 1 := ⟨gw1268, gw85, by decide, by decide, by decide +kernel⟩
theorem mt_X10_goesAll : MT yX10_goesAll cX10_goesAll 5 none 3 := ⟨gw1363, gw85, by decide, by decide, by decide +kernel⟩
theorem mt_X10_in : MT yX10_in cX10_in 3 (some .boolean) 3 := ⟨gw1180, gw85, by decide, by decide, by decide +kernel⟩
theorem mt_X10_isClear : MT yX10_isClear cX10_isClear 3 (some .boolean) 2 := ⟨gw1355, gw85, by decide, by decide, by decide +kernel⟩
theorem mt_X10_isCounter : MT yX10_isCounter cX10_isCounter 2 (some .boolean) 1 := ⟨gw1307, gw85, by decide, by decide, by decide +kernel⟩
theorem mt_X10_isEvent : MT yX10_isEvent cX10_isEvent 1 (some .boolean) 1 := ⟨gw1256, gw85, by decide, by decide, by decide +kernel⟩
theorem mt_X10_isFromAfar : MT yX10_isFromAfar cX10_isFromAfar 4 (some .boolean) 1 := ⟨gw1370, gw85, by decide, by decide, by decide +kernel⟩
theorem mt_X10_isMix : MT yX10_isMix cX10_isMix 3 (some .boolean) 3 := ⟨gw1249, gw85, by decide, by decide, by decide +kernel⟩
theorem mt_X10_isOwed : MT yX10_isOwed cX10_isOwed 3 (some .boolean) 1 := ⟨gw1414, gw85, by decide, by decide, by decide +kernel⟩
theorem mt_X10_isSheet : MT yX10_isSheet cX10_isSheet 1 (some .boolean) 1 := ⟨gw1253, gw85, by decide, by decide, by decide +kernel⟩
theorem mt_X10_isShort : MT yX10_isShort cX10_isShort 2 (some .boolean) 1 := ⟨gw1331, gw85, by decide, by decide, by decide +kernel⟩
theorem mt_X10_isVersion : MT yX10_isVersion cX10_isVersion 1 (some .boolean) 1 := ⟨gw1177, gw85, by decide, by decide, by decide +kernel⟩
theorem mt_X10_lacks : MT yX10_lacks cX10_lacks 4 (some .int) 3 := ⟨gw1463, gw85, by decide, by decide, by decide +kernel⟩
theorem mt_X10_lay : MT yX10_lay cX10_lay 4 none 3 := ⟨gw1467, gw85, by decide, by decide, by decide +kernel⟩
theorem mt_X10_lostMany : MT yX10_lostMany cX10_lostMany 4 (some .int) 1 := ⟨gw1327, gw85, by decide, by decide, by decide +kernel⟩
theorem mt_X10_meets : MT yX10_meets cX10_meets 2 (some .int) 1 := ⟨gw1311, gw85, by decide, by decide, by decide +kernel⟩
theorem mt_X10_mixes : MT yX10_mixes cX10_mixes 4 none 3 := ⟨gw1260, gw85, by decide, by decide, by decide +kernel⟩
theorem mt_X10_mode : MT yX10_mode cX10_mode 2 (some .int) 0 := ⟨gw1215, gw85, by decide, by decide, by decide +kernel⟩
theorem mt_X10_noLines : MT yX10_noLines cX10_noLines 3 none 1 := ⟨gw1200, gw85, by decide, by decide, by decide +kernel⟩
theorem mt_X10_ones : MT yX10_ones cX10_ones 3 (some .int) 1 := ⟨gw1295, gw85, by decide, by decide, by decide +kernel⟩
theorem mt_X10_owedAll : MT yX10_owedAll cX10_owedAll 4 (some .int) 1 := ⟨gw1406, gw85, by decide, by decide, by decide +kernel⟩
theorem mt_X10_owedOn : MT yX10_owedOn cX10_owedOn 5 (some .int) 2 := ⟨gw1410, gw85, by decide, by decide, by decide +kernel⟩
theorem mt_X10_part : MT yX10_part cX10_part 5 none 0 := ⟨gw1204, gw85, by decide, by decide, by decide +kernel⟩
theorem mt_X10_partsBy : MT yX10_partsBy cX10_partsBy 4 (some .int) 1 := ⟨gw1280, gw85, by decide, by decide, by decide +kernel⟩
theorem mt_X10_reads : MT yX10_reads cX10_reads 3 none 1 := ⟨gw1196, gw85, by decide, by decide, by decide +kernel⟩
theorem mt_X10_registerOf : MT yX10_registerOf cX10_registerOf 1 (some .int) 1 := ⟨gw1222, gw85, by decide, by decide, by decide +kernel⟩
theorem mt_X10_sets : MT yX10_sets cX10_sets 3 none 2 := ⟨gw1272, gw85, by decide, by decide, by decide +kernel⟩
theorem mt_X10_settles : MT yX10_settles cX10_settles 6 (some .boolean) 2 := ⟨gw1382, gw85, by decide, by decide, by decide +kernel⟩
theorem mt_X10_standsOn : MT yX10_standsOn cX10_standsOn 6 (some .int) 1 := ⟨gw1431, gw85, by decide, by decide, by decide +kernel⟩
theorem mt_X1_add : MT yX1_add cX1_add 3 (some .int) 2 := ⟨gw910, gw81, by decide, by decide, by decide +kernel⟩
theorem mt_X1_ledBackTo : MT yX1_ledBackTo cX1_ledBackTo 6 (some .int) 1 := ⟨gw922, gw81, by decide, by decide, by decide +kernel⟩
theorem mt_X2_addPosted : MT yX2_addPosted cX2_addPosted 5 none 2 := ⟨gw795, gw79, by decide, by decide, by decide +kernel⟩
theorem mt_X2_begin : MT yX2_begin cX2_begin 3 none 1 := ⟨gw783, gw79, by decide, by decide, by decide +kernel⟩
theorem mt_X2_causesOfRow : MT yX2_causesOfRow cX2_causesOfRow 6 (some .int) 3 := ⟨gw810, gw79, by decide, by decide, by decide +kernel⟩
theorem mt_X2_fewestPages : MT yX2_fewestPages cX2_fewestPages 3 (some .int) 1 := ⟨gw835, gw79, by decide, by decide, by decide +kernel⟩
theorem mt_X2_findLikeEvents : MT yX2_findLikeEvents cX2_findLikeEvents 4 none 1 := ⟨gw799, gw79, by decide, by decide, by decide +kernel⟩
theorem mt_X2_give : MT yX2_give cX2_give 4 none 1 := ⟨gw814, gw79, by decide, by decide, by decide +kernel⟩
theorem mt_X2_isPostedTo : MT yX2_isPostedTo cX2_isPostedTo 3 (some .boolean) 1 := ⟨gw831, gw79, by decide, by decide, by decide +kernel⟩
theorem mt_X2_judge : MT yX2_judge cX2_judge 7 none 2 := ⟨gw779, gw79, by decide, by decide, by decide +kernel⟩
theorem mt_X2_likeFill : MT yX2_likeFill cX2_likeFill 4 (some .int) 1 := ⟨gw806, gw79, by decide, by decide, by decide +kernel⟩
theorem mt_X2_postFromAfar : MT yX2_postFromAfar cX2_postFromAfar 6 none 1 := ⟨gw788, gw79, by decide, by decide, by decide +kernel⟩
theorem mt_X2_runPlain : MT yX2_runPlain cX2_runPlain 3 none 1 := ⟨gw822, gw79, by decide, by decide, by decide +kernel⟩
theorem mt_X2_runPosted : MT yX2_runPosted cX2_runPosted 4 none 1 := ⟨gw827, gw79, by decide, by decide, by decide +kernel⟩
theorem mt_X2_settles : MT yX2_settles cX2_settles 7 (some .boolean) 2 := ⟨gw841, gw79, by decide, by decide, by decide +kernel⟩
theorem mt_X2_shiftOf : MT yX2_shiftOf cX2_shiftOf 2 (some .int) 1 := ⟨gw818, gw79, by decide, by decide, by decide +kernel⟩
theorem mt_X3_fewestLines : MT yX3_fewestLines cX3_fewestLines 10 (some .int) 3 := ⟨gw635, gw78, by decide, by decide, by decide +kernel⟩
theorem mt_X3_ruleOut : MT yX3_ruleOut cX3_ruleOut 5 none 3 := ⟨gw651, gw78, by decide, by decide, by decide +kernel⟩
theorem mt_X3_tellChoices : MT yX3_tellChoices cX3_tellChoices 5 (some .int) 1 := ⟨gw640, gw78, by decide, by decide, by decide +kernel⟩
theorem mt_X4_act : MT yX4_act cX4_act 4 none 1 := ⟨gw563, gw83, by decide, by decide, by decide +kernel⟩
theorem mt_X4_after : MT yX4_after cX4_after 9 (some .int) 2 := ⟨gw551, gw83, by decide, by decide, by decide +kernel⟩
theorem mt_X4_lineOf : MT yX4_lineOf cX4_lineOf 3 (some .int) 2 := ⟨gw555, gw83, by decide, by decide, by decide +kernel⟩
theorem mt_X4_set : MT yX4_set cX4_set 4 none 3 := ⟨gw529, gw83, by decide, by decide, by decide +kernel⟩
theorem mt_X5_add : MT yX5_add cX5_add 4 (some .int) 3 := ⟨gw880, gw80, by decide, by decide, by decide +kernel⟩
theorem mt_X5_hasAny : MT yX5_hasAny cX5_hasAny 4 (some .boolean) 2 := ⟨gw897, gw80, by decide, by decide, by decide +kernel⟩
theorem mt_X5_withInterest : MT yX5_withInterest cX5_withInterest 6 (some .int) 2 := ⟨gw901, gw80, by decide, by decide, by decide +kernel⟩
theorem mt_X6_drawerOf : MT yX6_drawerOf cX6_drawerOf 1 (some .int) 1 := ⟨gw612, gw77, by decide, by decide, by decide +kernel⟩
theorem mt_X6_find : MT yX6_find cX6_find 9 (some .int) 2 := ⟨gw582, gw77, by decide, by decide, by decide +kernel⟩
theorem mt_X6_goOnFrom : MT yX6_goOnFrom cX6_goOnFrom 9 (some .int) 3 := ⟨gw605, gw77, by decide, by decide, by decide +kernel⟩
theorem mt_X6_keep : MT yX6_keep cX6_keep 5 none 4 := ⟨gw596, gw77, by decide, by decide, by decide +kernel⟩
theorem mt_X6_keyOf : MT yX6_keyOf cX6_keyOf 2 (some .int) 2 := ⟨gw587, gw77, by decide, by decide, by decide +kernel⟩
theorem mt_X6_linesOfRow : MT yX6_linesOfRow cX6_linesOfRow 6 (some .int) 2 := ⟨gw646, gw77, by decide, by decide, by decide +kernel⟩
theorem mt_X6_partsByBalance : MT yX6_partsByBalance cX6_partsByBalance 3 (some .boolean) 3 := ⟨gw599, gw77, by decide, by decide, by decide +kernel⟩
theorem mt_X6_slotOf : MT yX6_slotOf cX6_slotOf 4 (some .int) 1 := ⟨gw591, gw77, by decide, by decide, by decide +kernel⟩
theorem mt_X6_stateOf : MT yX6_stateOf cX6_stateOf 1 (some .int) 1 := ⟨gw608, gw77, by decide, by decide, by decide +kernel⟩
theorem mt_X6_tellRow : MT yX6_tellRow cX6_tellRow 6 none 3 := ⟨gw617, gw77, by decide, by decide, by decide +kernel⟩
theorem mt_X7_countEvents : MT yX7_countEvents cX7_countEvents 4 (some .int) 1 := ⟨gw538, gw84, by decide, by decide, by decide +kernel⟩
theorem mt_X7_findingAt : MT yX7_findingAt cX7_findingAt 3 (some .int) 2 := ⟨gw967, gw84, by decide, by decide, by decide +kernel⟩
theorem mt_X7_hasItems : MT yX7_hasItems cX7_hasItems 3 (some .boolean) 2 := ⟨gw984, gw84, by decide, by decide, by decide +kernel⟩
theorem mt_X7_holdsEvent : MT yX7_holdsEvent cX7_holdsEvent 2 (some .boolean) 1 := ⟨gw542, gw84, by decide, by decide, by decide +kernel⟩
theorem mt_X7_renew : MT yX7_renew cX7_renew 3 none 2 := ⟨gw953, gw84, by decide, by decide, by decide +kernel⟩
theorem mt_X7_store : MT yX7_store cX7_store 3 none 2 := ⟨gw971, gw84, by decide, by decide, by decide +kernel⟩
theorem mt_X8_append : MT yX8_append cX8_append 2 (some .int) 1 := ⟨gw379, gw82, by decide, by decide, by decide +kernel⟩
theorem mt_X8_empty : MT yX8_empty cX8_empty 2 (some .int) 0 := ⟨gw387, gw82, by decide, by decide, by decide +kernel⟩
theorem mt_X8_findFault : MT yX8_findFault cX8_findFault 3 (some .int) 0 := ⟨gw402, gw82, by decide, by decide, by decide +kernel⟩
theorem mt_X8_read : MT yX8_read cX8_read 1 none 0 := ⟨gw395, gw82, by decide, by decide, by decide +kernel⟩
theorem mt_X8_readLines : MT yX8_readLines cX8_readLines 7 none 0 := ⟨gw498, gw82, by decide, by decide, by decide +kernel⟩
theorem mt_X8_stepBehind : MT yX8_stepBehind cX8_stepBehind 4 (some .int) 2 := ⟨gw405, gw82, by decide, by decide, by decide +kernel⟩
theorem mt_X8_tellsAlike : MT yX8_tellsAlike cX8_tellsAlike 8 (some .boolean) 3 := ⟨gw516, gw82, by decide, by decide, by decide +kernel⟩
theorem mt_X8_valueOf : MT yX8_valueOf cX8_valueOf 2 (some .int) 1 := ⟨gw501, gw82, by decide, by decide, by decide +kernel⟩
theorem mt_X9_about : MT yX9_about cX9_about 4 (some .int) 2 := ⟨gw747, gw76, by decide, by decide, by decide +kernel⟩
theorem mt_X9_acts : MT yX9_acts cX9_acts 4 (some .int) 2 := ⟨gw505, gw76, by decide, by decide, by decide +kernel⟩
theorem mt_X9_coinsOf : MT yX9_coinsOf cX9_coinsOf 1 (some .int) 1 := ⟨gw566, gw76, by decide, by decide, by decide +kernel⟩
theorem mt_X9_costOfQueue : MT yX9_costOfQueue cX9_costOfQueue 6 (some .int) 1 := ⟨gw942, gw76, by decide, by decide, by decide +kernel⟩
theorem mt_X9_count : MT yX9_count cX9_count 2 (some .int) 1 := ⟨gw995, gw76, by decide, by decide, by decide +kernel⟩
theorem mt_X9_countBytes : MT yX9_countBytes cX9_countBytes 4 (some .int) 0 := ⟨gw999, gw76, by decide, by decide, by decide +kernel⟩
theorem mt_X9_countLogged : MT yX9_countLogged cX9_countLogged 4 (some .int) 0 := ⟨gw1003, gw76, by decide, by decide, by decide +kernel⟩
theorem mt_X9_countShort : MT yX9_countShort cX9_countShort 4 (some .int) 0 := ⟨gw1007, gw76, by decide, by decide, by decide +kernel⟩
theorem mt_X9_counterAt : MT yX9_counterAt cX9_counterAt 2 (some (.object "TrueLedger$Counter")) 1 := ⟨gw727, gw76, by decide, by decide, by decide +kernel⟩
theorem mt_X9_endOfRun : MT yX9_endOfRun cX9_endOfRun 8 (some .int) 3 := ⟨gw546, gw76, by decide, by decide, by decide +kernel⟩
theorem mt_X9_enqueue : MT yX9_enqueue cX9_enqueue 4 none 2 := ⟨gw934, gw76, by decide, by decide, by decide +kernel⟩
theorem mt_X9_fault : MT yX9_fault cX9_fault 3 (some .int) 1 := ⟨gw391, gw76, by decide, by decide, by decide +kernel⟩
theorem mt_X9_finding : MT yX9_finding cX9_finding 2 (some .int) 1 := ⟨gw731, gw76, by decide, by decide, by decide +kernel⟩
theorem mt_X9_isBefore : MT yX9_isBefore cX9_isBefore 5 (some .boolean) 2 := ⟨gw938, gw76, by decide, by decide, by decide +kernel⟩
theorem mt_X9_isDay : MT yX9_isDay cX9_isDay 1 (some .boolean) 1 := ⟨gw876, gw76, by decide, by decide, by decide +kernel⟩
theorem mt_X9_isType : MT yX9_isType cX9_isType 1 (some .boolean) 1 := ⟨gw949, gw76, by decide, by decide, by decide +kernel⟩
theorem mt_X9_judge : MT yX9_judge cX9_judge 3 none 1 := ⟨gw775, gw76, by decide, by decide, by decide +kernel⟩
theorem mt_X9_ledgerOf : MT yX9_ledgerOf cX9_ledgerOf 1 (some .int) 1 := ⟨gw569, gw76, by decide, by decide, by decide +kernel⟩
theorem mt_X9_linesUnlike : MT yX9_linesUnlike cX9_linesUnlike 4 (some .int) 2 := ⟨gw512, gw76, by decide, by decide, by decide +kernel⟩
theorem mt_X9_modeOf : MT yX9_modeOf cX9_modeOf 1 (some .int) 1 := ⟨gw558, gw76, by decide, by decide, by decide +kernel⟩
theorem mt_X9_owedOn : MT yX9_owedOn cX9_owedOn 6 (some .int) 2 := ⟨gw892, gw76, by decide, by decide, by decide +kernel⟩
theorem mt_X9_seekParting : MT yX9_seekParting cX9_seekParting 5 (some .int) 3 := ⟨gw578, gw76, by decide, by decide, by decide +kernel⟩
theorem mt_X9_setMix : MT yX9_setMix cX9_setMix 6 (some .boolean) 3 := ⟨gw524, gw76, by decide, by decide, by decide +kernel⟩
theorem mt_X9_sheetAt : MT yX9_sheetAt cX9_sheetAt 2 (some (.object "TrueLedger$Sheet")) 1 := ⟨gw534, gw76, by decide, by decide, by decide +kernel⟩
theorem mt_X9_standing : MT yX9_standing cX9_standing 1 (some .int) 0 := ⟨gw918, gw76, by decide, by decide, by decide +kernel⟩
theorem mt_X9_versionAt : MT yX9_versionAt cX9_versionAt 2 (some (.object "TrueLedger$Version")) 1 := ⟨gw375, gw76, by decide, by decide, by decide +kernel⟩
