/-! THE LAW: words of its calls -/
theorem glI9 : Cond.initialized "TrueLedger" ∈ GW := List.mem_filter.mpr ⟨List.mem_of_getElem? (i := 76) (by decide +kernel), rfl⟩
theorem glI10 : Cond.initialized "TrueLedgerModel" ∈ GW := List.mem_filter.mpr ⟨List.mem_of_getElem? (i := 85) (by decide +kernel), rfl⟩
theorem gl368 : Cond.methodLink "TrueLedgerLaw" 13 yX9_type ∈ GW := List.mem_filter.mpr ⟨List.mem_of_getElem? (i := 368) (by decide +kernel), rfl⟩
theorem gl369 : Cond.instanceMethod yX9_type ∈ GW := List.mem_filter.mpr ⟨List.mem_of_getElem? (i := 369) (by decide +kernel), rfl⟩
theorem gl370 : Cond.selects yX9_type.cls yX9_type yX9_type ∈ GW := List.mem_filter.mpr ⟨List.mem_of_getElem? (i := 370) (by decide +kernel), rfl⟩
theorem gl371 : Cond.code yX9_type cX9_type 4 (some .int) ∈ GW := List.mem_filter.mpr ⟨List.mem_of_getElem? (i := 371) (by decide +kernel), rfl⟩
theorem gl1171 : Cond.methodLink "TrueLedgerLaw" 17 yX10_type ∈ GW := List.mem_filter.mpr ⟨List.mem_of_getElem? (i := 1171) (by decide +kernel), rfl⟩
theorem gl1172 : Cond.instanceMethod yX10_type ∈ GW := List.mem_filter.mpr ⟨List.mem_of_getElem? (i := 1172) (by decide +kernel), rfl⟩
theorem gl1173 : Cond.selects yX10_type.cls yX10_type yX10_type ∈ GW := List.mem_filter.mpr ⟨List.mem_of_getElem? (i := 1173) (by decide +kernel), rfl⟩
theorem gl1174 : Cond.code yX10_type cX10_type 3 (some .int) ∈ GW := List.mem_filter.mpr ⟨List.mem_of_getElem? (i := 1174) (by decide +kernel), rfl⟩
theorem gl380 : Cond.methodLink "TrueLedgerLaw" 18 yX9_wipe ∈ GW := List.mem_filter.mpr ⟨List.mem_of_getElem? (i := 380) (by decide +kernel), rfl⟩
theorem gl381 : Cond.instanceMethod yX9_wipe ∈ GW := List.mem_filter.mpr ⟨List.mem_of_getElem? (i := 381) (by decide +kernel), rfl⟩
theorem gl382 : Cond.selects yX9_wipe.cls yX9_wipe yX9_wipe ∈ GW := List.mem_filter.mpr ⟨List.mem_of_getElem? (i := 382) (by decide +kernel), rfl⟩
theorem gl383 : Cond.code yX9_wipe cX9_wipe 3 (some .int) ∈ GW := List.mem_filter.mpr ⟨List.mem_of_getElem? (i := 383) (by decide +kernel), rfl⟩
theorem gl1181 : Cond.methodLink "TrueLedgerLaw" 22 yX10_wipe ∈ GW := List.mem_filter.mpr ⟨List.mem_of_getElem? (i := 1181) (by decide +kernel), rfl⟩
theorem gl1182 : Cond.instanceMethod yX10_wipe ∈ GW := List.mem_filter.mpr ⟨List.mem_of_getElem? (i := 1182) (by decide +kernel), rfl⟩
theorem gl1183 : Cond.selects yX10_wipe.cls yX10_wipe yX10_wipe ∈ GW := List.mem_filter.mpr ⟨List.mem_of_getElem? (i := 1183) (by decide +kernel), rfl⟩
theorem gl1184 : Cond.code yX10_wipe cX10_wipe 3 (some .int) ∈ GW := List.mem_filter.mpr ⟨List.mem_of_getElem? (i := 1184) (by decide +kernel), rfl⟩
theorem gl388 : Cond.methodLink "TrueLedgerLaw" 23 yX9_fault ∈ GW := List.mem_filter.mpr ⟨List.mem_of_getElem? (i := 388) (by decide +kernel), rfl⟩
theorem gl389 : Cond.instanceMethod yX9_fault ∈ GW := List.mem_filter.mpr ⟨List.mem_of_getElem? (i := 389) (by decide +kernel), rfl⟩
theorem gl390 : Cond.selects yX9_fault.cls yX9_fault yX9_fault ∈ GW := List.mem_filter.mpr ⟨List.mem_of_getElem? (i := 390) (by decide +kernel), rfl⟩
theorem gl391 : Cond.code yX9_fault cX9_fault 3 (some .int) ∈ GW := List.mem_filter.mpr ⟨List.mem_of_getElem? (i := 391) (by decide +kernel), rfl⟩
theorem gl1185 : Cond.methodLink "TrueLedgerLaw" 26 yX10_fault ∈ GW := List.mem_filter.mpr ⟨List.mem_of_getElem? (i := 1185) (by decide +kernel), rfl⟩
theorem gl1186 : Cond.instanceMethod yX10_fault ∈ GW := List.mem_filter.mpr ⟨List.mem_of_getElem? (i := 1186) (by decide +kernel), rfl⟩
theorem gl1187 : Cond.selects yX10_fault.cls yX10_fault yX10_fault ∈ GW := List.mem_filter.mpr ⟨List.mem_of_getElem? (i := 1187) (by decide +kernel), rfl⟩
theorem gl1188 : Cond.code yX10_fault cX10_fault 2 (some .int) ∈ GW := List.mem_filter.mpr ⟨List.mem_of_getElem? (i := 1188) (by decide +kernel), rfl⟩
theorem gl502 : Cond.methodLink "TrueLedgerLaw" 27 yX9_acts ∈ GW := List.mem_filter.mpr ⟨List.mem_of_getElem? (i := 502) (by decide +kernel), rfl⟩
theorem gl503 : Cond.instanceMethod yX9_acts ∈ GW := List.mem_filter.mpr ⟨List.mem_of_getElem? (i := 503) (by decide +kernel), rfl⟩
theorem gl504 : Cond.selects yX9_acts.cls yX9_acts yX9_acts ∈ GW := List.mem_filter.mpr ⟨List.mem_of_getElem? (i := 504) (by decide +kernel), rfl⟩
theorem gl505 : Cond.code yX9_acts cX9_acts 4 (some .int) ∈ GW := List.mem_filter.mpr ⟨List.mem_of_getElem? (i := 505) (by decide +kernel), rfl⟩
theorem gl1223 : Cond.methodLink "TrueLedgerLaw" 30 yX10_acts ∈ GW := List.mem_filter.mpr ⟨List.mem_of_getElem? (i := 1223) (by decide +kernel), rfl⟩
theorem gl1224 : Cond.instanceMethod yX10_acts ∈ GW := List.mem_filter.mpr ⟨List.mem_of_getElem? (i := 1224) (by decide +kernel), rfl⟩
theorem gl1225 : Cond.selects yX10_acts.cls yX10_acts yX10_acts ∈ GW := List.mem_filter.mpr ⟨List.mem_of_getElem? (i := 1225) (by decide +kernel), rfl⟩
theorem gl1226 : Cond.code yX10_acts cX10_acts 3 (some .int) ∈ GW := List.mem_filter.mpr ⟨List.mem_of_getElem? (i := 1226) (by decide +kernel), rfl⟩
theorem gl506 : Cond.methodLink "TrueLedgerLaw" 31 yX9_differ ∈ GW := List.mem_filter.mpr ⟨List.mem_of_getElem? (i := 506) (by decide +kernel), rfl⟩
theorem gl507 : Cond.instanceMethod yX9_differ ∈ GW := List.mem_filter.mpr ⟨List.mem_of_getElem? (i := 507) (by decide +kernel), rfl⟩
theorem gl508 : Cond.selects yX9_differ.cls yX9_differ yX9_differ ∈ GW := List.mem_filter.mpr ⟨List.mem_of_getElem? (i := 508) (by decide +kernel), rfl⟩
theorem gl509 : Cond.code yX9_differ cX9_differ 5 (some .int) ∈ GW := List.mem_filter.mpr ⟨List.mem_of_getElem? (i := 509) (by decide +kernel), rfl⟩
theorem gl1231 : Cond.methodLink "TrueLedgerLaw" 34 yX10_differ ∈ GW := List.mem_filter.mpr ⟨List.mem_of_getElem? (i := 1231) (by decide +kernel), rfl⟩
theorem gl1232 : Cond.instanceMethod yX10_differ ∈ GW := List.mem_filter.mpr ⟨List.mem_of_getElem? (i := 1232) (by decide +kernel), rfl⟩
theorem gl1233 : Cond.selects yX10_differ.cls yX10_differ yX10_differ ∈ GW := List.mem_filter.mpr ⟨List.mem_of_getElem? (i := 1233) (by decide +kernel), rfl⟩
theorem gl1234 : Cond.code yX10_differ cX10_differ 3 (some .int) ∈ GW := List.mem_filter.mpr ⟨List.mem_of_getElem? (i := 1234) (by decide +kernel), rfl⟩
theorem gl517 : Cond.methodLink "TrueLedgerLaw" 35 yX9_run ∈ GW := List.mem_filter.mpr ⟨List.mem_of_getElem? (i := 517) (by decide +kernel), rfl⟩
theorem gl518 : Cond.instanceMethod yX9_run ∈ GW := List.mem_filter.mpr ⟨List.mem_of_getElem? (i := 518) (by decide +kernel), rfl⟩
theorem gl519 : Cond.selects yX9_run.cls yX9_run yX9_run ∈ GW := List.mem_filter.mpr ⟨List.mem_of_getElem? (i := 519) (by decide +kernel), rfl⟩
theorem gl520 : Cond.code yX9_run cX9_run 8 (some .int) ∈ GW := List.mem_filter.mpr ⟨List.mem_of_getElem? (i := 520) (by decide +kernel), rfl⟩
theorem gl1243 : Cond.methodLink "TrueLedgerLaw" 39 yX10_run ∈ GW := List.mem_filter.mpr ⟨List.mem_of_getElem? (i := 1243) (by decide +kernel), rfl⟩
theorem gl1244 : Cond.instanceMethod yX10_run ∈ GW := List.mem_filter.mpr ⟨List.mem_of_getElem? (i := 1244) (by decide +kernel), rfl⟩
theorem gl1245 : Cond.selects yX10_run.cls yX10_run yX10_run ∈ GW := List.mem_filter.mpr ⟨List.mem_of_getElem? (i := 1245) (by decide +kernel), rfl⟩
theorem gl1246 : Cond.code yX10_run cX10_run 8 (some .int) ∈ GW := List.mem_filter.mpr ⟨List.mem_of_getElem? (i := 1246) (by decide +kernel), rfl⟩
theorem gl571 : Cond.methodLink "TrueLedgerLaw" 40 yX9_parting ∈ GW := List.mem_filter.mpr ⟨List.mem_of_getElem? (i := 571) (by decide +kernel), rfl⟩
theorem gl572 : Cond.instanceMethod yX9_parting ∈ GW := List.mem_filter.mpr ⟨List.mem_of_getElem? (i := 572) (by decide +kernel), rfl⟩
theorem gl573 : Cond.selects yX9_parting.cls yX9_parting yX9_parting ∈ GW := List.mem_filter.mpr ⟨List.mem_of_getElem? (i := 573) (by decide +kernel), rfl⟩
theorem gl574 : Cond.code yX9_parting cX9_parting 4 (some .int) ∈ GW := List.mem_filter.mpr ⟨List.mem_of_getElem? (i := 574) (by decide +kernel), rfl⟩
theorem gl1273 : Cond.methodLink "TrueLedgerLaw" 44 yX10_parting ∈ GW := List.mem_filter.mpr ⟨List.mem_of_getElem? (i := 1273) (by decide +kernel), rfl⟩
theorem gl1274 : Cond.instanceMethod yX10_parting ∈ GW := List.mem_filter.mpr ⟨List.mem_of_getElem? (i := 1274) (by decide +kernel), rfl⟩
theorem gl1275 : Cond.selects yX10_parting.cls yX10_parting yX10_parting ∈ GW := List.mem_filter.mpr ⟨List.mem_of_getElem? (i := 1275) (by decide +kernel), rfl⟩
theorem gl1276 : Cond.code yX10_parting cX10_parting 4 (some .int) ∈ GW := List.mem_filter.mpr ⟨List.mem_of_getElem? (i := 1276) (by decide +kernel), rfl⟩
theorem gl618 : Cond.methodLink "TrueLedgerLaw" 45 yX9_event ∈ GW := List.mem_filter.mpr ⟨List.mem_of_getElem? (i := 618) (by decide +kernel), rfl⟩
theorem gl619 : Cond.instanceMethod yX9_event ∈ GW := List.mem_filter.mpr ⟨List.mem_of_getElem? (i := 619) (by decide +kernel), rfl⟩
theorem gl620 : Cond.selects yX9_event.cls yX9_event yX9_event ∈ GW := List.mem_filter.mpr ⟨List.mem_of_getElem? (i := 620) (by decide +kernel), rfl⟩
theorem gl621 : Cond.code yX9_event cX9_event 6 (some .int) ∈ GW := List.mem_filter.mpr ⟨List.mem_of_getElem? (i := 621) (by decide +kernel), rfl⟩
theorem gl1285 : Cond.methodLink "TrueLedgerLaw" 49 yX10_event ∈ GW := List.mem_filter.mpr ⟨List.mem_of_getElem? (i := 1285) (by decide +kernel), rfl⟩
theorem gl1286 : Cond.instanceMethod yX10_event ∈ GW := List.mem_filter.mpr ⟨List.mem_of_getElem? (i := 1286) (by decide +kernel), rfl⟩
theorem gl1287 : Cond.selects yX10_event.cls yX10_event yX10_event ∈ GW := List.mem_filter.mpr ⟨List.mem_of_getElem? (i := 1287) (by decide +kernel), rfl⟩
theorem gl1288 : Cond.code yX10_event cX10_event 6 (some .int) ∈ GW := List.mem_filter.mpr ⟨List.mem_of_getElem? (i := 1288) (by decide +kernel), rfl⟩
theorem gl622 : Cond.methodLink "TrueLedgerLaw" 50 yX9_mended ∈ GW := List.mem_filter.mpr ⟨List.mem_of_getElem? (i := 622) (by decide +kernel), rfl⟩
theorem gl623 : Cond.instanceMethod yX9_mended ∈ GW := List.mem_filter.mpr ⟨List.mem_of_getElem? (i := 623) (by decide +kernel), rfl⟩
theorem gl624 : Cond.selects yX9_mended.cls yX9_mended yX9_mended ∈ GW := List.mem_filter.mpr ⟨List.mem_of_getElem? (i := 624) (by decide +kernel), rfl⟩
theorem gl625 : Cond.code yX9_mended cX9_mended 6 (some .int) ∈ GW := List.mem_filter.mpr ⟨List.mem_of_getElem? (i := 625) (by decide +kernel), rfl⟩
theorem gl1289 : Cond.methodLink "TrueLedgerLaw" 53 yX10_mended ∈ GW := List.mem_filter.mpr ⟨List.mem_of_getElem? (i := 1289) (by decide +kernel), rfl⟩
theorem gl1290 : Cond.instanceMethod yX10_mended ∈ GW := List.mem_filter.mpr ⟨List.mem_of_getElem? (i := 1290) (by decide +kernel), rfl⟩
theorem gl1291 : Cond.selects yX10_mended.cls yX10_mended yX10_mended ∈ GW := List.mem_filter.mpr ⟨List.mem_of_getElem? (i := 1291) (by decide +kernel), rfl⟩
theorem gl1292 : Cond.code yX10_mended cX10_mended 7 (some .int) ∈ GW := List.mem_filter.mpr ⟨List.mem_of_getElem? (i := 1292) (by decide +kernel), rfl⟩
theorem gl652 : Cond.methodLink "TrueLedgerLaw" 54 yX9_counter ∈ GW := List.mem_filter.mpr ⟨List.mem_of_getElem? (i := 652) (by decide +kernel), rfl⟩
theorem gl653 : Cond.instanceMethod yX9_counter ∈ GW := List.mem_filter.mpr ⟨List.mem_of_getElem? (i := 653) (by decide +kernel), rfl⟩
theorem gl654 : Cond.selects yX9_counter.cls yX9_counter yX9_counter ∈ GW := List.mem_filter.mpr ⟨List.mem_of_getElem? (i := 654) (by decide +kernel), rfl⟩
theorem gl655 : Cond.code yX9_counter cX9_counter 2 (some .int) ∈ GW := List.mem_filter.mpr ⟨List.mem_of_getElem? (i := 655) (by decide +kernel), rfl⟩
theorem gl1296 : Cond.methodLink "TrueLedgerLaw" 57 yX10_counter ∈ GW := List.mem_filter.mpr ⟨List.mem_of_getElem? (i := 1296) (by decide +kernel), rfl⟩
theorem gl1297 : Cond.instanceMethod yX10_counter ∈ GW := List.mem_filter.mpr ⟨List.mem_of_getElem? (i := 1297) (by decide +kernel), rfl⟩
theorem gl1298 : Cond.selects yX10_counter.cls yX10_counter yX10_counter ∈ GW := List.mem_filter.mpr ⟨List.mem_of_getElem? (i := 1298) (by decide +kernel), rfl⟩
theorem gl1299 : Cond.code yX10_counter cX10_counter 2 (some .int) ∈ GW := List.mem_filter.mpr ⟨List.mem_of_getElem? (i := 1299) (by decide +kernel), rfl⟩
theorem gl720 : Cond.methodLink "TrueLedgerLaw" 58 yX9_log ∈ GW := List.mem_filter.mpr ⟨List.mem_of_getElem? (i := 720) (by decide +kernel), rfl⟩
theorem gl721 : Cond.instanceMethod yX9_log ∈ GW := List.mem_filter.mpr ⟨List.mem_of_getElem? (i := 721) (by decide +kernel), rfl⟩
theorem gl722 : Cond.selects yX9_log.cls yX9_log yX9_log ∈ GW := List.mem_filter.mpr ⟨List.mem_of_getElem? (i := 722) (by decide +kernel), rfl⟩
theorem gl723 : Cond.code yX9_log cX9_log 6 (some .int) ∈ GW := List.mem_filter.mpr ⟨List.mem_of_getElem? (i := 723) (by decide +kernel), rfl⟩
theorem gl1300 : Cond.methodLink "TrueLedgerLaw" 61 yX10_log ∈ GW := List.mem_filter.mpr ⟨List.mem_of_getElem? (i := 1300) (by decide +kernel), rfl⟩
theorem gl1301 : Cond.instanceMethod yX10_log ∈ GW := List.mem_filter.mpr ⟨List.mem_of_getElem? (i := 1301) (by decide +kernel), rfl⟩
theorem gl1302 : Cond.selects yX10_log.cls yX10_log yX10_log ∈ GW := List.mem_filter.mpr ⟨List.mem_of_getElem? (i := 1302) (by decide +kernel), rfl⟩
theorem gl1303 : Cond.code yX10_log cX10_log 8 (some .int) ∈ GW := List.mem_filter.mpr ⟨List.mem_of_getElem? (i := 1303) (by decide +kernel), rfl⟩
theorem gl738 : Cond.methodLink "TrueLedgerLaw" 62 yX9_claim ∈ GW := List.mem_filter.mpr ⟨List.mem_of_getElem? (i := 738) (by decide +kernel), rfl⟩
theorem gl739 : Cond.instanceMethod yX9_claim ∈ GW := List.mem_filter.mpr ⟨List.mem_of_getElem? (i := 739) (by decide +kernel), rfl⟩
theorem gl740 : Cond.selects yX9_claim.cls yX9_claim yX9_claim ∈ GW := List.mem_filter.mpr ⟨List.mem_of_getElem? (i := 740) (by decide +kernel), rfl⟩
theorem gl741 : Cond.code yX9_claim cX9_claim 5 (some .int) ∈ GW := List.mem_filter.mpr ⟨List.mem_of_getElem? (i := 741) (by decide +kernel), rfl⟩
theorem gl1312 : Cond.methodLink "TrueLedgerLaw" 65 yX10_claim ∈ GW := List.mem_filter.mpr ⟨List.mem_of_getElem? (i := 1312) (by decide +kernel), rfl⟩
theorem gl1313 : Cond.instanceMethod yX10_claim ∈ GW := List.mem_filter.mpr ⟨List.mem_of_getElem? (i := 1313) (by decide +kernel), rfl⟩
theorem gl1314 : Cond.selects yX10_claim.cls yX10_claim yX10_claim ∈ GW := List.mem_filter.mpr ⟨List.mem_of_getElem? (i := 1314) (by decide +kernel), rfl⟩
theorem gl1315 : Cond.code yX10_claim cX10_claim 4 (some .int) ∈ GW := List.mem_filter.mpr ⟨List.mem_of_getElem? (i := 1315) (by decide +kernel), rfl⟩
theorem gl744 : Cond.methodLink "TrueLedgerLaw" 66 yX9_about ∈ GW := List.mem_filter.mpr ⟨List.mem_of_getElem? (i := 744) (by decide +kernel), rfl⟩
theorem gl745 : Cond.instanceMethod yX9_about ∈ GW := List.mem_filter.mpr ⟨List.mem_of_getElem? (i := 745) (by decide +kernel), rfl⟩
theorem gl746 : Cond.selects yX9_about.cls yX9_about yX9_about ∈ GW := List.mem_filter.mpr ⟨List.mem_of_getElem? (i := 746) (by decide +kernel), rfl⟩
theorem gl747 : Cond.code yX9_about cX9_about 4 (some .int) ∈ GW := List.mem_filter.mpr ⟨List.mem_of_getElem? (i := 747) (by decide +kernel), rfl⟩
theorem gl1316 : Cond.methodLink "TrueLedgerLaw" 69 yX10_about ∈ GW := List.mem_filter.mpr ⟨List.mem_of_getElem? (i := 1316) (by decide +kernel), rfl⟩
theorem gl1317 : Cond.instanceMethod yX10_about ∈ GW := List.mem_filter.mpr ⟨List.mem_of_getElem? (i := 1317) (by decide +kernel), rfl⟩
theorem gl1318 : Cond.selects yX10_about.cls yX10_about yX10_about ∈ GW := List.mem_filter.mpr ⟨List.mem_of_getElem? (i := 1318) (by decide +kernel), rfl⟩
theorem gl1319 : Cond.code yX10_about cX10_about 3 (some .int) ∈ GW := List.mem_filter.mpr ⟨List.mem_of_getElem? (i := 1319) (by decide +kernel), rfl⟩
theorem gl756 : Cond.methodLink "TrueLedgerLaw" 70 yX9_tell ∈ GW := List.mem_filter.mpr ⟨List.mem_of_getElem? (i := 756) (by decide +kernel), rfl⟩
theorem gl757 : Cond.instanceMethod yX9_tell ∈ GW := List.mem_filter.mpr ⟨List.mem_of_getElem? (i := 757) (by decide +kernel), rfl⟩
theorem gl758 : Cond.selects yX9_tell.cls yX9_tell yX9_tell ∈ GW := List.mem_filter.mpr ⟨List.mem_of_getElem? (i := 758) (by decide +kernel), rfl⟩
theorem gl759 : Cond.code yX9_tell cX9_tell 5 (some .int) ∈ GW := List.mem_filter.mpr ⟨List.mem_of_getElem? (i := 759) (by decide +kernel), rfl⟩
theorem gl1332 : Cond.methodLink "TrueLedgerLaw" 73 yX10_tell ∈ GW := List.mem_filter.mpr ⟨List.mem_of_getElem? (i := 1332) (by decide +kernel), rfl⟩
theorem gl1333 : Cond.instanceMethod yX10_tell ∈ GW := List.mem_filter.mpr ⟨List.mem_of_getElem? (i := 1333) (by decide +kernel), rfl⟩
theorem gl1334 : Cond.selects yX10_tell.cls yX10_tell yX10_tell ∈ GW := List.mem_filter.mpr ⟨List.mem_of_getElem? (i := 1334) (by decide +kernel), rfl⟩
theorem gl1335 : Cond.code yX10_tell cX10_tell 5 (some .int) ∈ GW := List.mem_filter.mpr ⟨List.mem_of_getElem? (i := 1335) (by decide +kernel), rfl⟩
theorem gl764 : Cond.methodLink "TrueLedgerLaw" 74 yX9_logged ∈ GW := List.mem_filter.mpr ⟨List.mem_of_getElem? (i := 764) (by decide +kernel), rfl⟩
theorem gl765 : Cond.instanceMethod yX9_logged ∈ GW := List.mem_filter.mpr ⟨List.mem_of_getElem? (i := 765) (by decide +kernel), rfl⟩
theorem gl766 : Cond.selects yX9_logged.cls yX9_logged yX9_logged ∈ GW := List.mem_filter.mpr ⟨List.mem_of_getElem? (i := 766) (by decide +kernel), rfl⟩
theorem gl767 : Cond.code yX9_logged cX9_logged 4 (some .int) ∈ GW := List.mem_filter.mpr ⟨List.mem_of_getElem? (i := 767) (by decide +kernel), rfl⟩
theorem gl1336 : Cond.methodLink "TrueLedgerLaw" 77 yX10_logged ∈ GW := List.mem_filter.mpr ⟨List.mem_of_getElem? (i := 1336) (by decide +kernel), rfl⟩
theorem gl1337 : Cond.instanceMethod yX10_logged ∈ GW := List.mem_filter.mpr ⟨List.mem_of_getElem? (i := 1337) (by decide +kernel), rfl⟩
theorem gl1338 : Cond.selects yX10_logged.cls yX10_logged yX10_logged ∈ GW := List.mem_filter.mpr ⟨List.mem_of_getElem? (i := 1338) (by decide +kernel), rfl⟩
theorem gl1339 : Cond.code yX10_logged cX10_logged 3 (some .int) ∈ GW := List.mem_filter.mpr ⟨List.mem_of_getElem? (i := 1339) (by decide +kernel), rfl⟩
theorem gl768 : Cond.methodLink "TrueLedgerLaw" 78 yX9_fills ∈ GW := List.mem_filter.mpr ⟨List.mem_of_getElem? (i := 768) (by decide +kernel), rfl⟩
theorem gl769 : Cond.instanceMethod yX9_fills ∈ GW := List.mem_filter.mpr ⟨List.mem_of_getElem? (i := 769) (by decide +kernel), rfl⟩
theorem gl770 : Cond.selects yX9_fills.cls yX9_fills yX9_fills ∈ GW := List.mem_filter.mpr ⟨List.mem_of_getElem? (i := 770) (by decide +kernel), rfl⟩
theorem gl771 : Cond.code yX9_fills cX9_fills 4 (some .int) ∈ GW := List.mem_filter.mpr ⟨List.mem_of_getElem? (i := 771) (by decide +kernel), rfl⟩
theorem gl1340 : Cond.methodLink "TrueLedgerLaw" 81 yX10_fills ∈ GW := List.mem_filter.mpr ⟨List.mem_of_getElem? (i := 1340) (by decide +kernel), rfl⟩
theorem gl1341 : Cond.instanceMethod yX10_fills ∈ GW := List.mem_filter.mpr ⟨List.mem_of_getElem? (i := 1341) (by decide +kernel), rfl⟩
theorem gl1342 : Cond.selects yX10_fills.cls yX10_fills yX10_fills ∈ GW := List.mem_filter.mpr ⟨List.mem_of_getElem? (i := 1342) (by decide +kernel), rfl⟩
theorem gl1343 : Cond.code yX10_fills cX10_fills 6 (some .int) ∈ GW := List.mem_filter.mpr ⟨List.mem_of_getElem? (i := 1343) (by decide +kernel), rfl⟩
theorem gl845 : Cond.methodLink "TrueLedgerLaw" 82 yX9_causes ∈ GW := List.mem_filter.mpr ⟨List.mem_of_getElem? (i := 845) (by decide +kernel), rfl⟩
theorem gl846 : Cond.instanceMethod yX9_causes ∈ GW := List.mem_filter.mpr ⟨List.mem_of_getElem? (i := 846) (by decide +kernel), rfl⟩
theorem gl847 : Cond.selects yX9_causes.cls yX9_causes yX9_causes ∈ GW := List.mem_filter.mpr ⟨List.mem_of_getElem? (i := 847) (by decide +kernel), rfl⟩
theorem gl848 : Cond.code yX9_causes cX9_causes 3 (some .int) ∈ GW := List.mem_filter.mpr ⟨List.mem_of_getElem? (i := 848) (by decide +kernel), rfl⟩
theorem gl1371 : Cond.methodLink "TrueLedgerLaw" 85 yX10_causes ∈ GW := List.mem_filter.mpr ⟨List.mem_of_getElem? (i := 1371) (by decide +kernel), rfl⟩
theorem gl1372 : Cond.instanceMethod yX10_causes ∈ GW := List.mem_filter.mpr ⟨List.mem_of_getElem? (i := 1372) (by decide +kernel), rfl⟩
theorem gl1373 : Cond.selects yX10_causes.cls yX10_causes yX10_causes ∈ GW := List.mem_filter.mpr ⟨List.mem_of_getElem? (i := 1373) (by decide +kernel), rfl⟩
theorem gl1374 : Cond.code yX10_causes cX10_causes 4 (some .int) ∈ GW := List.mem_filter.mpr ⟨List.mem_of_getElem? (i := 1374) (by decide +kernel), rfl⟩
theorem gl849 : Cond.methodLink "TrueLedgerLaw" 86 yX9_settling ∈ GW := List.mem_filter.mpr ⟨List.mem_of_getElem? (i := 849) (by decide +kernel), rfl⟩
theorem gl850 : Cond.instanceMethod yX9_settling ∈ GW := List.mem_filter.mpr ⟨List.mem_of_getElem? (i := 850) (by decide +kernel), rfl⟩
theorem gl851 : Cond.selects yX9_settling.cls yX9_settling yX9_settling ∈ GW := List.mem_filter.mpr ⟨List.mem_of_getElem? (i := 851) (by decide +kernel), rfl⟩
theorem gl852 : Cond.code yX9_settling cX9_settling 4 (some .int) ∈ GW := List.mem_filter.mpr ⟨List.mem_of_getElem? (i := 852) (by decide +kernel), rfl⟩
theorem gl1375 : Cond.methodLink "TrueLedgerLaw" 89 yX10_settling ∈ GW := List.mem_filter.mpr ⟨List.mem_of_getElem? (i := 1375) (by decide +kernel), rfl⟩
theorem gl1376 : Cond.instanceMethod yX10_settling ∈ GW := List.mem_filter.mpr ⟨List.mem_of_getElem? (i := 1376) (by decide +kernel), rfl⟩
theorem gl1377 : Cond.selects yX10_settling.cls yX10_settling yX10_settling ∈ GW := List.mem_filter.mpr ⟨List.mem_of_getElem? (i := 1377) (by decide +kernel), rfl⟩
theorem gl1378 : Cond.code yX10_settling cX10_settling 7 (some .int) ∈ GW := List.mem_filter.mpr ⟨List.mem_of_getElem? (i := 1378) (by decide +kernel), rfl⟩
theorem gl853 : Cond.methodLink "TrueLedgerLaw" 90 yX9_like ∈ GW := List.mem_filter.mpr ⟨List.mem_of_getElem? (i := 853) (by decide +kernel), rfl⟩
theorem gl854 : Cond.instanceMethod yX9_like ∈ GW := List.mem_filter.mpr ⟨List.mem_of_getElem? (i := 854) (by decide +kernel), rfl⟩
theorem gl855 : Cond.selects yX9_like.cls yX9_like yX9_like ∈ GW := List.mem_filter.mpr ⟨List.mem_of_getElem? (i := 855) (by decide +kernel), rfl⟩
theorem gl856 : Cond.code yX9_like cX9_like 7 (some .int) ∈ GW := List.mem_filter.mpr ⟨List.mem_of_getElem? (i := 856) (by decide +kernel), rfl⟩
theorem gl1383 : Cond.methodLink "TrueLedgerLaw" 93 yX10_like ∈ GW := List.mem_filter.mpr ⟨List.mem_of_getElem? (i := 1383) (by decide +kernel), rfl⟩
theorem gl1384 : Cond.instanceMethod yX10_like ∈ GW := List.mem_filter.mpr ⟨List.mem_of_getElem? (i := 1384) (by decide +kernel), rfl⟩
theorem gl1385 : Cond.selects yX10_like.cls yX10_like yX10_like ∈ GW := List.mem_filter.mpr ⟨List.mem_of_getElem? (i := 1385) (by decide +kernel), rfl⟩
theorem gl1386 : Cond.code yX10_like cX10_like 5 (some .int) ∈ GW := List.mem_filter.mpr ⟨List.mem_of_getElem? (i := 1386) (by decide +kernel), rfl⟩
theorem gl870 : Cond.methodLink "TrueLedgerLaw" 94 yX9_pay ∈ GW := List.mem_filter.mpr ⟨List.mem_of_getElem? (i := 870) (by decide +kernel), rfl⟩
theorem gl871 : Cond.instanceMethod yX9_pay ∈ GW := List.mem_filter.mpr ⟨List.mem_of_getElem? (i := 871) (by decide +kernel), rfl⟩
theorem gl872 : Cond.selects yX9_pay.cls yX9_pay yX9_pay ∈ GW := List.mem_filter.mpr ⟨List.mem_of_getElem? (i := 872) (by decide +kernel), rfl⟩
theorem gl873 : Cond.code yX9_pay cX9_pay 4 (some .int) ∈ GW := List.mem_filter.mpr ⟨List.mem_of_getElem? (i := 873) (by decide +kernel), rfl⟩
theorem gl1391 : Cond.methodLink "TrueLedgerLaw" 97 yX10_pay ∈ GW := List.mem_filter.mpr ⟨List.mem_of_getElem? (i := 1391) (by decide +kernel), rfl⟩
theorem gl1392 : Cond.instanceMethod yX10_pay ∈ GW := List.mem_filter.mpr ⟨List.mem_of_getElem? (i := 1392) (by decide +kernel), rfl⟩
theorem gl1393 : Cond.selects yX10_pay.cls yX10_pay yX10_pay ∈ GW := List.mem_filter.mpr ⟨List.mem_of_getElem? (i := 1393) (by decide +kernel), rfl⟩
theorem gl1394 : Cond.code yX10_pay cX10_pay 4 (some .int) ∈ GW := List.mem_filter.mpr ⟨List.mem_of_getElem? (i := 1394) (by decide +kernel), rfl⟩
theorem gl881 : Cond.methodLink "TrueLedgerLaw" 98 yX9_interest ∈ GW := List.mem_filter.mpr ⟨List.mem_of_getElem? (i := 881) (by decide +kernel), rfl⟩
theorem gl882 : Cond.instanceMethod yX9_interest ∈ GW := List.mem_filter.mpr ⟨List.mem_of_getElem? (i := 882) (by decide +kernel), rfl⟩
theorem gl883 : Cond.selects yX9_interest.cls yX9_interest yX9_interest ∈ GW := List.mem_filter.mpr ⟨List.mem_of_getElem? (i := 883) (by decide +kernel), rfl⟩
theorem gl884 : Cond.code yX9_interest cX9_interest 3 (some .int) ∈ GW := List.mem_filter.mpr ⟨List.mem_of_getElem? (i := 884) (by decide +kernel), rfl⟩
theorem gl1395 : Cond.methodLink "TrueLedgerLaw" 101 yX10_interest ∈ GW := List.mem_filter.mpr ⟨List.mem_of_getElem? (i := 1395) (by decide +kernel), rfl⟩
theorem gl1396 : Cond.instanceMethod yX10_interest ∈ GW := List.mem_filter.mpr ⟨List.mem_of_getElem? (i := 1396) (by decide +kernel), rfl⟩
theorem gl1397 : Cond.selects yX10_interest.cls yX10_interest yX10_interest ∈ GW := List.mem_filter.mpr ⟨List.mem_of_getElem? (i := 1397) (by decide +kernel), rfl⟩
theorem gl1398 : Cond.code yX10_interest cX10_interest 3 (some .int) ∈ GW := List.mem_filter.mpr ⟨List.mem_of_getElem? (i := 1398) (by decide +kernel), rfl⟩
theorem gl885 : Cond.methodLink "TrueLedgerLaw" 102 yX9_owed ∈ GW := List.mem_filter.mpr ⟨List.mem_of_getElem? (i := 885) (by decide +kernel), rfl⟩
theorem gl886 : Cond.instanceMethod yX9_owed ∈ GW := List.mem_filter.mpr ⟨List.mem_of_getElem? (i := 886) (by decide +kernel), rfl⟩
theorem gl887 : Cond.selects yX9_owed.cls yX9_owed yX9_owed ∈ GW := List.mem_filter.mpr ⟨List.mem_of_getElem? (i := 887) (by decide +kernel), rfl⟩
theorem gl888 : Cond.code yX9_owed cX9_owed 3 (some .int) ∈ GW := List.mem_filter.mpr ⟨List.mem_of_getElem? (i := 888) (by decide +kernel), rfl⟩
theorem gl1399 : Cond.methodLink "TrueLedgerLaw" 105 yX10_owed ∈ GW := List.mem_filter.mpr ⟨List.mem_of_getElem? (i := 1399) (by decide +kernel), rfl⟩
theorem gl1400 : Cond.instanceMethod yX10_owed ∈ GW := List.mem_filter.mpr ⟨List.mem_of_getElem? (i := 1400) (by decide +kernel), rfl⟩
theorem gl1401 : Cond.selects yX10_owed.cls yX10_owed yX10_owed ∈ GW := List.mem_filter.mpr ⟨List.mem_of_getElem? (i := 1401) (by decide +kernel), rfl⟩
theorem gl1402 : Cond.code yX10_owed cX10_owed 3 (some .int) ∈ GW := List.mem_filter.mpr ⟨List.mem_of_getElem? (i := 1402) (by decide +kernel), rfl⟩
theorem gl902 : Cond.methodLink "TrueLedgerLaw" 106 yX9_judgment ∈ GW := List.mem_filter.mpr ⟨List.mem_of_getElem? (i := 902) (by decide +kernel), rfl⟩
theorem gl903 : Cond.instanceMethod yX9_judgment ∈ GW := List.mem_filter.mpr ⟨List.mem_of_getElem? (i := 903) (by decide +kernel), rfl⟩
theorem gl904 : Cond.selects yX9_judgment.cls yX9_judgment yX9_judgment ∈ GW := List.mem_filter.mpr ⟨List.mem_of_getElem? (i := 904) (by decide +kernel), rfl⟩
theorem gl905 : Cond.code yX9_judgment cX9_judgment 3 (some .int) ∈ GW := List.mem_filter.mpr ⟨List.mem_of_getElem? (i := 905) (by decide +kernel), rfl⟩
theorem gl1415 : Cond.methodLink "TrueLedgerLaw" 109 yX10_judgment ∈ GW := List.mem_filter.mpr ⟨List.mem_of_getElem? (i := 1415) (by decide +kernel), rfl⟩
theorem gl1416 : Cond.instanceMethod yX10_judgment ∈ GW := List.mem_filter.mpr ⟨List.mem_of_getElem? (i := 1416) (by decide +kernel), rfl⟩
theorem gl1417 : Cond.selects yX10_judgment.cls yX10_judgment yX10_judgment ∈ GW := List.mem_filter.mpr ⟨List.mem_of_getElem? (i := 1417) (by decide +kernel), rfl⟩
theorem gl1418 : Cond.code yX10_judgment cX10_judgment 3 (some .int) ∈ GW := List.mem_filter.mpr ⟨List.mem_of_getElem? (i := 1418) (by decide +kernel), rfl⟩
theorem gl911 : Cond.methodLink "TrueLedgerLaw" 110 yX9_ground ∈ GW := List.mem_filter.mpr ⟨List.mem_of_getElem? (i := 911) (by decide +kernel), rfl⟩
theorem gl912 : Cond.instanceMethod yX9_ground ∈ GW := List.mem_filter.mpr ⟨List.mem_of_getElem? (i := 912) (by decide +kernel), rfl⟩
theorem gl913 : Cond.selects yX9_ground.cls yX9_ground yX9_ground ∈ GW := List.mem_filter.mpr ⟨List.mem_of_getElem? (i := 913) (by decide +kernel), rfl⟩
theorem gl914 : Cond.code yX9_ground cX9_ground 4 (some .int) ∈ GW := List.mem_filter.mpr ⟨List.mem_of_getElem? (i := 914) (by decide +kernel), rfl⟩
theorem gl1420 : Cond.methodLink "TrueLedgerLaw" 114 yX10_ground ∈ GW := List.mem_filter.mpr ⟨List.mem_of_getElem? (i := 1420) (by decide +kernel), rfl⟩
theorem gl1421 : Cond.instanceMethod yX10_ground ∈ GW := List.mem_filter.mpr ⟨List.mem_of_getElem? (i := 1421) (by decide +kernel), rfl⟩
theorem gl1422 : Cond.selects yX10_ground.cls yX10_ground yX10_ground ∈ GW := List.mem_filter.mpr ⟨List.mem_of_getElem? (i := 1422) (by decide +kernel), rfl⟩
theorem gl1423 : Cond.code yX10_ground cX10_ground 4 (some .int) ∈ GW := List.mem_filter.mpr ⟨List.mem_of_getElem? (i := 1423) (by decide +kernel), rfl⟩
theorem gl915 : Cond.methodLink "TrueLedgerLaw" 115 yX9_standing ∈ GW := List.mem_filter.mpr ⟨List.mem_of_getElem? (i := 915) (by decide +kernel), rfl⟩
theorem gl916 : Cond.instanceMethod yX9_standing ∈ GW := List.mem_filter.mpr ⟨List.mem_of_getElem? (i := 916) (by decide +kernel), rfl⟩
theorem gl917 : Cond.selects yX9_standing.cls yX9_standing yX9_standing ∈ GW := List.mem_filter.mpr ⟨List.mem_of_getElem? (i := 917) (by decide +kernel), rfl⟩
theorem gl918 : Cond.code yX9_standing cX9_standing 1 (some .int) ∈ GW := List.mem_filter.mpr ⟨List.mem_of_getElem? (i := 918) (by decide +kernel), rfl⟩
theorem gl1424 : Cond.methodLink "TrueLedgerLaw" 119 yX10_standing ∈ GW := List.mem_filter.mpr ⟨List.mem_of_getElem? (i := 1424) (by decide +kernel), rfl⟩
theorem gl1425 : Cond.instanceMethod yX10_standing ∈ GW := List.mem_filter.mpr ⟨List.mem_of_getElem? (i := 1425) (by decide +kernel), rfl⟩
theorem gl1426 : Cond.selects yX10_standing.cls yX10_standing yX10_standing ∈ GW := List.mem_filter.mpr ⟨List.mem_of_getElem? (i := 1426) (by decide +kernel), rfl⟩
theorem gl1427 : Cond.code yX10_standing cX10_standing 1 (some .int) ∈ GW := List.mem_filter.mpr ⟨List.mem_of_getElem? (i := 1427) (by decide +kernel), rfl⟩
theorem gl923 : Cond.methodLink "TrueLedgerLaw" 120 yX9_falling ∈ GW := List.mem_filter.mpr ⟨List.mem_of_getElem? (i := 923) (by decide +kernel), rfl⟩
theorem gl924 : Cond.instanceMethod yX9_falling ∈ GW := List.mem_filter.mpr ⟨List.mem_of_getElem? (i := 924) (by decide +kernel), rfl⟩
theorem gl925 : Cond.selects yX9_falling.cls yX9_falling yX9_falling ∈ GW := List.mem_filter.mpr ⟨List.mem_of_getElem? (i := 925) (by decide +kernel), rfl⟩
theorem gl926 : Cond.code yX9_falling cX9_falling 2 (some .int) ∈ GW := List.mem_filter.mpr ⟨List.mem_of_getElem? (i := 926) (by decide +kernel), rfl⟩
theorem gl1432 : Cond.methodLink "TrueLedgerLaw" 123 yX10_falling ∈ GW := List.mem_filter.mpr ⟨List.mem_of_getElem? (i := 1432) (by decide +kernel), rfl⟩
theorem gl1433 : Cond.instanceMethod yX10_falling ∈ GW := List.mem_filter.mpr ⟨List.mem_of_getElem? (i := 1433) (by decide +kernel), rfl⟩
theorem gl1434 : Cond.selects yX10_falling.cls yX10_falling yX10_falling ∈ GW := List.mem_filter.mpr ⟨List.mem_of_getElem? (i := 1434) (by decide +kernel), rfl⟩
theorem gl1435 : Cond.code yX10_falling cX10_falling 2 (some .int) ∈ GW := List.mem_filter.mpr ⟨List.mem_of_getElem? (i := 1435) (by decide +kernel), rfl⟩
theorem gl927 : Cond.methodLink "TrueLedgerLaw" 124 yX9_order ∈ GW := List.mem_filter.mpr ⟨List.mem_of_getElem? (i := 927) (by decide +kernel), rfl⟩
theorem gl928 : Cond.instanceMethod yX9_order ∈ GW := List.mem_filter.mpr ⟨List.mem_of_getElem? (i := 928) (by decide +kernel), rfl⟩
theorem gl929 : Cond.selects yX9_order.cls yX9_order yX9_order ∈ GW := List.mem_filter.mpr ⟨List.mem_of_getElem? (i := 929) (by decide +kernel), rfl⟩
theorem gl930 : Cond.code yX9_order cX9_order 6 (some .int) ∈ GW := List.mem_filter.mpr ⟨List.mem_of_getElem? (i := 930) (by decide +kernel), rfl⟩
theorem gl1436 : Cond.methodLink "TrueLedgerLaw" 127 yX10_order ∈ GW := List.mem_filter.mpr ⟨List.mem_of_getElem? (i := 1436) (by decide +kernel), rfl⟩
theorem gl1437 : Cond.instanceMethod yX10_order ∈ GW := List.mem_filter.mpr ⟨List.mem_of_getElem? (i := 1437) (by decide +kernel), rfl⟩
theorem gl1438 : Cond.selects yX10_order.cls yX10_order yX10_order ∈ GW := List.mem_filter.mpr ⟨List.mem_of_getElem? (i := 1438) (by decide +kernel), rfl⟩
theorem gl1439 : Cond.code yX10_order cX10_order 8 (some .int) ∈ GW := List.mem_filter.mpr ⟨List.mem_of_getElem? (i := 1439) (by decide +kernel), rfl⟩
theorem gl943 : Cond.methodLink "TrueLedgerLaw" 128 yX9_sheet ∈ GW := List.mem_filter.mpr ⟨List.mem_of_getElem? (i := 943) (by decide +kernel), rfl⟩
theorem gl944 : Cond.instanceMethod yX9_sheet ∈ GW := List.mem_filter.mpr ⟨List.mem_of_getElem? (i := 944) (by decide +kernel), rfl⟩
theorem gl945 : Cond.selects yX9_sheet.cls yX9_sheet yX9_sheet ∈ GW := List.mem_filter.mpr ⟨List.mem_of_getElem? (i := 945) (by decide +kernel), rfl⟩
theorem gl946 : Cond.code yX9_sheet cX9_sheet 5 (some .int) ∈ GW := List.mem_filter.mpr ⟨List.mem_of_getElem? (i := 946) (by decide +kernel), rfl⟩
theorem gl1448 : Cond.methodLink "TrueLedgerLaw" 131 yX10_sheet ∈ GW := List.mem_filter.mpr ⟨List.mem_of_getElem? (i := 1448) (by decide +kernel), rfl⟩
theorem gl1449 : Cond.instanceMethod yX10_sheet ∈ GW := List.mem_filter.mpr ⟨List.mem_of_getElem? (i := 1449) (by decide +kernel), rfl⟩
theorem gl1450 : Cond.selects yX10_sheet.cls yX10_sheet yX10_sheet ∈ GW := List.mem_filter.mpr ⟨List.mem_of_getElem? (i := 1450) (by decide +kernel), rfl⟩
theorem gl1451 : Cond.code yX10_sheet cX10_sheet 5 (some .int) ∈ GW := List.mem_filter.mpr ⟨List.mem_of_getElem? (i := 1451) (by decide +kernel), rfl⟩
theorem gl956 : Cond.methodLink "TrueLedgerLaw" 132 yX9_lose ∈ GW := List.mem_filter.mpr ⟨List.mem_of_getElem? (i := 956) (by decide +kernel), rfl⟩
theorem gl957 : Cond.instanceMethod yX9_lose ∈ GW := List.mem_filter.mpr ⟨List.mem_of_getElem? (i := 957) (by decide +kernel), rfl⟩
theorem gl958 : Cond.selects yX9_lose.cls yX9_lose yX9_lose ∈ GW := List.mem_filter.mpr ⟨List.mem_of_getElem? (i := 958) (by decide +kernel), rfl⟩
theorem gl959 : Cond.code yX9_lose cX9_lose 3 (some .int) ∈ GW := List.mem_filter.mpr ⟨List.mem_of_getElem? (i := 959) (by decide +kernel), rfl⟩
theorem gl1452 : Cond.methodLink "TrueLedgerLaw" 135 yX10_lose ∈ GW := List.mem_filter.mpr ⟨List.mem_of_getElem? (i := 1452) (by decide +kernel), rfl⟩
theorem gl1453 : Cond.instanceMethod yX10_lose ∈ GW := List.mem_filter.mpr ⟨List.mem_of_getElem? (i := 1453) (by decide +kernel), rfl⟩
theorem gl1454 : Cond.selects yX10_lose.cls yX10_lose yX10_lose ∈ GW := List.mem_filter.mpr ⟨List.mem_of_getElem? (i := 1454) (by decide +kernel), rfl⟩
theorem gl1455 : Cond.code yX10_lose cX10_lose 2 (some .int) ∈ GW := List.mem_filter.mpr ⟨List.mem_of_getElem? (i := 1455) (by decide +kernel), rfl⟩
theorem gl960 : Cond.methodLink "TrueLedgerLaw" 136 yX9_put ∈ GW := List.mem_filter.mpr ⟨List.mem_of_getElem? (i := 960) (by decide +kernel), rfl⟩
theorem gl961 : Cond.instanceMethod yX9_put ∈ GW := List.mem_filter.mpr ⟨List.mem_of_getElem? (i := 961) (by decide +kernel), rfl⟩
theorem gl962 : Cond.selects yX9_put.cls yX9_put yX9_put ∈ GW := List.mem_filter.mpr ⟨List.mem_of_getElem? (i := 962) (by decide +kernel), rfl⟩
theorem gl963 : Cond.code yX9_put cX9_put 7 (some .int) ∈ GW := List.mem_filter.mpr ⟨List.mem_of_getElem? (i := 963) (by decide +kernel), rfl⟩
theorem gl1456 : Cond.methodLink "TrueLedgerLaw" 139 yX10_put ∈ GW := List.mem_filter.mpr ⟨List.mem_of_getElem? (i := 1456) (by decide +kernel), rfl⟩
theorem gl1457 : Cond.instanceMethod yX10_put ∈ GW := List.mem_filter.mpr ⟨List.mem_of_getElem? (i := 1457) (by decide +kernel), rfl⟩
theorem gl1458 : Cond.selects yX10_put.cls yX10_put yX10_put ∈ GW := List.mem_filter.mpr ⟨List.mem_of_getElem? (i := 1458) (by decide +kernel), rfl⟩
theorem gl1459 : Cond.code yX10_put cX10_put 6 (some .int) ∈ GW := List.mem_filter.mpr ⟨List.mem_of_getElem? (i := 1459) (by decide +kernel), rfl⟩
theorem gl972 : Cond.methodLink "TrueLedgerLaw" 140 yX9_get ∈ GW := List.mem_filter.mpr ⟨List.mem_of_getElem? (i := 972) (by decide +kernel), rfl⟩
theorem gl973 : Cond.instanceMethod yX9_get ∈ GW := List.mem_filter.mpr ⟨List.mem_of_getElem? (i := 973) (by decide +kernel), rfl⟩
theorem gl974 : Cond.selects yX9_get.cls yX9_get yX9_get ∈ GW := List.mem_filter.mpr ⟨List.mem_of_getElem? (i := 974) (by decide +kernel), rfl⟩
theorem gl975 : Cond.code yX9_get cX9_get 6 (some .int) ∈ GW := List.mem_filter.mpr ⟨List.mem_of_getElem? (i := 975) (by decide +kernel), rfl⟩
theorem gl1468 : Cond.methodLink "TrueLedgerLaw" 143 yX10_get ∈ GW := List.mem_filter.mpr ⟨List.mem_of_getElem? (i := 1468) (by decide +kernel), rfl⟩
theorem gl1469 : Cond.instanceMethod yX10_get ∈ GW := List.mem_filter.mpr ⟨List.mem_of_getElem? (i := 1469) (by decide +kernel), rfl⟩
theorem gl1470 : Cond.selects yX10_get.cls yX10_get yX10_get ∈ GW := List.mem_filter.mpr ⟨List.mem_of_getElem? (i := 1470) (by decide +kernel), rfl⟩
theorem gl1471 : Cond.code yX10_get cX10_get 5 (some .int) ∈ GW := List.mem_filter.mpr ⟨List.mem_of_getElem? (i := 1471) (by decide +kernel), rfl⟩
theorem gl977 : Cond.methodLink "TrueLedgerLaw" 144 yX9_copy ∈ GW := List.mem_filter.mpr ⟨List.mem_of_getElem? (i := 977) (by decide +kernel), rfl⟩
theorem gl978 : Cond.instanceMethod yX9_copy ∈ GW := List.mem_filter.mpr ⟨List.mem_of_getElem? (i := 978) (by decide +kernel), rfl⟩
theorem gl979 : Cond.selects yX9_copy.cls yX9_copy yX9_copy ∈ GW := List.mem_filter.mpr ⟨List.mem_of_getElem? (i := 979) (by decide +kernel), rfl⟩
theorem gl980 : Cond.code yX9_copy cX9_copy 8 (some .int) ∈ GW := List.mem_filter.mpr ⟨List.mem_of_getElem? (i := 980) (by decide +kernel), rfl⟩
theorem gl1473 : Cond.methodLink "TrueLedgerLaw" 148 yX10_copy ∈ GW := List.mem_filter.mpr ⟨List.mem_of_getElem? (i := 1473) (by decide +kernel), rfl⟩
theorem gl1474 : Cond.instanceMethod yX10_copy ∈ GW := List.mem_filter.mpr ⟨List.mem_of_getElem? (i := 1474) (by decide +kernel), rfl⟩
theorem gl1475 : Cond.selects yX10_copy.cls yX10_copy yX10_copy ∈ GW := List.mem_filter.mpr ⟨List.mem_of_getElem? (i := 1475) (by decide +kernel), rfl⟩
theorem gl1476 : Cond.code yX10_copy cX10_copy 7 (some .int) ∈ GW := List.mem_filter.mpr ⟨List.mem_of_getElem? (i := 1476) (by decide +kernel), rfl⟩
theorem gl988 : Cond.methodLink "TrueLedgerLaw" 149 yX9_write ∈ GW := List.mem_filter.mpr ⟨List.mem_of_getElem? (i := 988) (by decide +kernel), rfl⟩
theorem gl989 : Cond.instanceMethod yX9_write ∈ GW := List.mem_filter.mpr ⟨List.mem_of_getElem? (i := 989) (by decide +kernel), rfl⟩
theorem gl990 : Cond.selects yX9_write.cls yX9_write yX9_write ∈ GW := List.mem_filter.mpr ⟨List.mem_of_getElem? (i := 990) (by decide +kernel), rfl⟩
theorem gl991 : Cond.code yX9_write cX9_write 6 (some .int) ∈ GW := List.mem_filter.mpr ⟨List.mem_of_getElem? (i := 991) (by decide +kernel), rfl⟩
theorem gl1477 : Cond.methodLink "TrueLedgerLaw" 152 yX10_write ∈ GW := List.mem_filter.mpr ⟨List.mem_of_getElem? (i := 1477) (by decide +kernel), rfl⟩
theorem gl1478 : Cond.instanceMethod yX10_write ∈ GW := List.mem_filter.mpr ⟨List.mem_of_getElem? (i := 1478) (by decide +kernel), rfl⟩
theorem gl1479 : Cond.selects yX10_write.cls yX10_write yX10_write ∈ GW := List.mem_filter.mpr ⟨List.mem_of_getElem? (i := 1479) (by decide +kernel), rfl⟩
theorem gl1480 : Cond.code yX10_write cX10_write 4 (some .int) ∈ GW := List.mem_filter.mpr ⟨List.mem_of_getElem? (i := 1480) (by decide +kernel), rfl⟩
theorem gl992 : Cond.methodLink "TrueLedgerLaw" 153 yX9_count ∈ GW := List.mem_filter.mpr ⟨List.mem_of_getElem? (i := 992) (by decide +kernel), rfl⟩
theorem gl993 : Cond.instanceMethod yX9_count ∈ GW := List.mem_filter.mpr ⟨List.mem_of_getElem? (i := 993) (by decide +kernel), rfl⟩
theorem gl994 : Cond.selects yX9_count.cls yX9_count yX9_count ∈ GW := List.mem_filter.mpr ⟨List.mem_of_getElem? (i := 994) (by decide +kernel), rfl⟩
theorem gl995 : Cond.code yX9_count cX9_count 2 (some .int) ∈ GW := List.mem_filter.mpr ⟨List.mem_of_getElem? (i := 995) (by decide +kernel), rfl⟩
theorem gl1481 : Cond.methodLink "TrueLedgerLaw" 156 yX10_count ∈ GW := List.mem_filter.mpr ⟨List.mem_of_getElem? (i := 1481) (by decide +kernel), rfl⟩
theorem gl1482 : Cond.instanceMethod yX10_count ∈ GW := List.mem_filter.mpr ⟨List.mem_of_getElem? (i := 1482) (by decide +kernel), rfl⟩
theorem gl1483 : Cond.selects yX10_count.cls yX10_count yX10_count ∈ GW := List.mem_filter.mpr ⟨List.mem_of_getElem? (i := 1483) (by decide +kernel), rfl⟩
theorem gl1484 : Cond.code yX10_count cX10_count 4 (some .int) ∈ GW := List.mem_filter.mpr ⟨List.mem_of_getElem? (i := 1484) (by decide +kernel), rfl⟩
theorem gl1008 : Cond.methodLink "TrueLedgerLaw" 157 yX9_digest ∈ GW := List.mem_filter.mpr ⟨List.mem_of_getElem? (i := 1008) (by decide +kernel), rfl⟩
theorem gl1009 : Cond.instanceMethod yX9_digest ∈ GW := List.mem_filter.mpr ⟨List.mem_of_getElem? (i := 1009) (by decide +kernel), rfl⟩
theorem gl1010 : Cond.selects yX9_digest.cls yX9_digest yX9_digest ∈ GW := List.mem_filter.mpr ⟨List.mem_of_getElem? (i := 1010) (by decide +kernel), rfl⟩
theorem gl1011 : Cond.code yX9_digest cX9_digest 5 (some .long) ∈ GW := List.mem_filter.mpr ⟨List.mem_of_getElem? (i := 1011) (by decide +kernel), rfl⟩
theorem gl1485 : Cond.methodLink "TrueLedgerLaw" 161 yX10_digest ∈ GW := List.mem_filter.mpr ⟨List.mem_of_getElem? (i := 1485) (by decide +kernel), rfl⟩
theorem gl1486 : Cond.instanceMethod yX10_digest ∈ GW := List.mem_filter.mpr ⟨List.mem_of_getElem? (i := 1486) (by decide +kernel), rfl⟩
theorem gl1487 : Cond.selects yX10_digest.cls yX10_digest yX10_digest ∈ GW := List.mem_filter.mpr ⟨List.mem_of_getElem? (i := 1487) (by decide +kernel), rfl⟩
theorem gl1488 : Cond.code yX10_digest cX10_digest 5 (some .long) ∈ GW := List.mem_filter.mpr ⟨List.mem_of_getElem? (i := 1488) (by decide +kernel), rfl⟩
theorem ml_X9_type : MT yX9_type cX9_type 4 (some .int) 2 := ⟨gl371, glI9, by decide, by decide, by decide +kernel⟩
theorem ml_X10_type : MT yX10_type cX10_type 3 (some .int) 2 := ⟨gl1174, glI10, by decide, by decide, by decide +kernel⟩
theorem ml_X9_wipe : MT yX9_wipe cX9_wipe 3 (some .int) 1 := ⟨gl383, glI9, by decide, by decide, by decide +kernel⟩
theorem ml_X10_wipe : MT yX10_wipe cX10_wipe 3 (some .int) 1 := ⟨gl1184, glI10, by decide, by decide, by decide +kernel⟩
theorem ml_X9_fault : MT yX9_fault cX9_fault 3 (some .int) 1 := ⟨gl391, glI9, by decide, by decide, by decide +kernel⟩
theorem ml_X10_fault : MT yX10_fault cX10_fault 2 (some .int) 1 := ⟨gl1188, glI10, by decide, by decide, by decide +kernel⟩
theorem ml_X9_acts : MT yX9_acts cX9_acts 4 (some .int) 2 := ⟨gl505, glI9, by decide, by decide, by decide +kernel⟩
theorem ml_X10_acts : MT yX10_acts cX10_acts 3 (some .int) 2 := ⟨gl1226, glI10, by decide, by decide, by decide +kernel⟩
theorem ml_X9_differ : MT yX9_differ cX9_differ 5 (some .int) 2 := ⟨gl509, glI9, by decide, by decide, by decide +kernel⟩
theorem ml_X10_differ : MT yX10_differ cX10_differ 3 (some .int) 2 := ⟨gl1234, glI10, by decide, by decide, by decide +kernel⟩
theorem ml_X9_run : MT yX9_run cX9_run 8 (some .int) 6 := ⟨gl520, glI9, by decide, by decide, by decide +kernel⟩
theorem ml_X10_run : MT yX10_run cX10_run 8 (some .int) 6 := ⟨gl1246, glI10, by decide, by decide, by decide +kernel⟩
theorem ml_X9_parting : MT yX9_parting cX9_parting 4 (some .int) 3 := ⟨gl574, glI9, by decide, by decide, by decide +kernel⟩
theorem ml_X10_parting : MT yX10_parting cX10_parting 4 (some .int) 3 := ⟨gl1276, glI10, by decide, by decide, by decide +kernel⟩
theorem ml_X9_event : MT yX9_event cX9_event 6 (some .int) 4 := ⟨gl621, glI9, by decide, by decide, by decide +kernel⟩
theorem ml_X10_event : MT yX10_event cX10_event 6 (some .int) 4 := ⟨gl1288, glI10, by decide, by decide, by decide +kernel⟩
theorem ml_X9_mended : MT yX9_mended cX9_mended 6 (some .int) 2 := ⟨gl625, glI9, by decide, by decide, by decide +kernel⟩
theorem ml_X10_mended : MT yX10_mended cX10_mended 7 (some .int) 2 := ⟨gl1292, glI10, by decide, by decide, by decide +kernel⟩
theorem ml_X9_counter : MT yX9_counter cX9_counter 2 (some .int) 1 := ⟨gl655, glI9, by decide, by decide, by decide +kernel⟩
theorem ml_X10_counter : MT yX10_counter cX10_counter 2 (some .int) 1 := ⟨gl1299, glI10, by decide, by decide, by decide +kernel⟩
theorem ml_X9_log : MT yX9_log cX9_log 6 (some .int) 3 := ⟨gl723, glI9, by decide, by decide, by decide +kernel⟩
theorem ml_X10_log : MT yX10_log cX10_log 8 (some .int) 3 := ⟨gl1303, glI10, by decide, by decide, by decide +kernel⟩
theorem ml_X9_claim : MT yX9_claim cX9_claim 5 (some .int) 3 := ⟨gl741, glI9, by decide, by decide, by decide +kernel⟩
theorem ml_X10_claim : MT yX10_claim cX10_claim 4 (some .int) 3 := ⟨gl1315, glI10, by decide, by decide, by decide +kernel⟩
theorem ml_X9_about : MT yX9_about cX9_about 4 (some .int) 2 := ⟨gl747, glI9, by decide, by decide, by decide +kernel⟩
theorem ml_X10_about : MT yX10_about cX10_about 3 (some .int) 2 := ⟨gl1319, glI10, by decide, by decide, by decide +kernel⟩
theorem ml_X9_tell : MT yX9_tell cX9_tell 5 (some .int) 3 := ⟨gl759, glI9, by decide, by decide, by decide +kernel⟩
theorem ml_X10_tell : MT yX10_tell cX10_tell 5 (some .int) 3 := ⟨gl1335, glI10, by decide, by decide, by decide +kernel⟩
theorem ml_X9_logged : MT yX9_logged cX9_logged 4 (some .int) 2 := ⟨gl767, glI9, by decide, by decide, by decide +kernel⟩
theorem ml_X10_logged : MT yX10_logged cX10_logged 3 (some .int) 2 := ⟨gl1339, glI10, by decide, by decide, by decide +kernel⟩
theorem ml_X9_fills : MT yX9_fills cX9_fills 4 (some .int) 2 := ⟨gl771, glI9, by decide, by decide, by decide +kernel⟩
theorem ml_X10_fills : MT yX10_fills cX10_fills 6 (some .int) 2 := ⟨gl1343, glI10, by decide, by decide, by decide +kernel⟩
theorem ml_X9_causes : MT yX9_causes cX9_causes 3 (some .int) 1 := ⟨gl848, glI9, by decide, by decide, by decide +kernel⟩
theorem ml_X10_causes : MT yX10_causes cX10_causes 4 (some .int) 1 := ⟨gl1374, glI10, by decide, by decide, by decide +kernel⟩
theorem ml_X9_settling : MT yX9_settling cX9_settling 4 (some .int) 2 := ⟨gl852, glI9, by decide, by decide, by decide +kernel⟩
theorem ml_X10_settling : MT yX10_settling cX10_settling 7 (some .int) 2 := ⟨gl1378, glI10, by decide, by decide, by decide +kernel⟩
theorem ml_X9_like : MT yX9_like cX9_like 7 (some .int) 2 := ⟨gl856, glI9, by decide, by decide, by decide +kernel⟩
theorem ml_X10_like : MT yX10_like cX10_like 5 (some .int) 2 := ⟨gl1386, glI10, by decide, by decide, by decide +kernel⟩
theorem ml_X9_pay : MT yX9_pay cX9_pay 4 (some .int) 3 := ⟨gl873, glI9, by decide, by decide, by decide +kernel⟩
theorem ml_X10_pay : MT yX10_pay cX10_pay 4 (some .int) 3 := ⟨gl1394, glI10, by decide, by decide, by decide +kernel⟩
theorem ml_X9_interest : MT yX9_interest cX9_interest 3 (some .int) 1 := ⟨gl884, glI9, by decide, by decide, by decide +kernel⟩
theorem ml_X10_interest : MT yX10_interest cX10_interest 3 (some .int) 1 := ⟨gl1398, glI10, by decide, by decide, by decide +kernel⟩
theorem ml_X9_owed : MT yX9_owed cX9_owed 3 (some .int) 2 := ⟨gl888, glI9, by decide, by decide, by decide +kernel⟩
theorem ml_X10_owed : MT yX10_owed cX10_owed 3 (some .int) 2 := ⟨gl1402, glI10, by decide, by decide, by decide +kernel⟩
theorem ml_X9_judgment : MT yX9_judgment cX9_judgment 3 (some .int) 2 := ⟨gl905, glI9, by decide, by decide, by decide +kernel⟩
theorem ml_X10_judgment : MT yX10_judgment cX10_judgment 3 (some .int) 2 := ⟨gl1418, glI10, by decide, by decide, by decide +kernel⟩
theorem ml_X9_ground : MT yX9_ground cX9_ground 4 (some .int) 2 := ⟨gl914, glI9, by decide, by decide, by decide +kernel⟩
theorem ml_X10_ground : MT yX10_ground cX10_ground 4 (some .int) 2 := ⟨gl1423, glI10, by decide, by decide, by decide +kernel⟩
theorem ml_X9_standing : MT yX9_standing cX9_standing 1 (some .int) 0 := ⟨gl918, glI9, by decide, by decide, by decide +kernel⟩
theorem ml_X10_standing : MT yX10_standing cX10_standing 1 (some .int) 0 := ⟨gl1427, glI10, by decide, by decide, by decide +kernel⟩
theorem ml_X9_falling : MT yX9_falling cX9_falling 2 (some .int) 1 := ⟨gl926, glI9, by decide, by decide, by decide +kernel⟩
theorem ml_X10_falling : MT yX10_falling cX10_falling 2 (some .int) 1 := ⟨gl1435, glI10, by decide, by decide, by decide +kernel⟩
theorem ml_X9_order : MT yX9_order cX9_order 6 (some .int) 2 := ⟨gl930, glI9, by decide, by decide, by decide +kernel⟩
theorem ml_X10_order : MT yX10_order cX10_order 8 (some .int) 2 := ⟨gl1439, glI10, by decide, by decide, by decide +kernel⟩
theorem ml_X9_sheet : MT yX9_sheet cX9_sheet 5 (some .int) 3 := ⟨gl946, glI9, by decide, by decide, by decide +kernel⟩
theorem ml_X10_sheet : MT yX10_sheet cX10_sheet 5 (some .int) 3 := ⟨gl1451, glI10, by decide, by decide, by decide +kernel⟩
theorem ml_X9_lose : MT yX9_lose cX9_lose 3 (some .int) 1 := ⟨gl959, glI9, by decide, by decide, by decide +kernel⟩
theorem ml_X10_lose : MT yX10_lose cX10_lose 2 (some .int) 1 := ⟨gl1455, glI10, by decide, by decide, by decide +kernel⟩
theorem ml_X9_put : MT yX9_put cX9_put 7 (some .int) 4 := ⟨gl963, glI9, by decide, by decide, by decide +kernel⟩
theorem ml_X10_put : MT yX10_put cX10_put 6 (some .int) 4 := ⟨gl1459, glI10, by decide, by decide, by decide +kernel⟩
theorem ml_X9_get : MT yX9_get cX9_get 6 (some .int) 3 := ⟨gl975, glI9, by decide, by decide, by decide +kernel⟩
theorem ml_X10_get : MT yX10_get cX10_get 5 (some .int) 3 := ⟨gl1471, glI10, by decide, by decide, by decide +kernel⟩
theorem ml_X9_copy : MT yX9_copy cX9_copy 8 (some .int) 5 := ⟨gl980, glI9, by decide, by decide, by decide +kernel⟩
theorem ml_X10_copy : MT yX10_copy cX10_copy 7 (some .int) 5 := ⟨gl1476, glI10, by decide, by decide, by decide +kernel⟩
theorem ml_X9_write : MT yX9_write cX9_write 6 (some .int) 2 := ⟨gl991, glI9, by decide, by decide, by decide +kernel⟩
theorem ml_X10_write : MT yX10_write cX10_write 4 (some .int) 2 := ⟨gl1480, glI10, by decide, by decide, by decide +kernel⟩
theorem ml_X9_count : MT yX9_count cX9_count 2 (some .int) 1 := ⟨gl995, glI9, by decide, by decide, by decide +kernel⟩
theorem ml_X10_count : MT yX10_count cX10_count 4 (some .int) 1 := ⟨gl1484, glI10, by decide, by decide, by decide +kernel⟩
theorem ml_X9_digest : MT yX9_digest cX9_digest 5 (some .long) 0 := ⟨gl1011, glI9, by decide, by decide, by decide +kernel⟩
theorem ml_X10_digest : MT yX10_digest cX10_digest 5 (some .long) 0 := ⟨gl1488, glI10, by decide, by decide, by decide +kernel⟩
