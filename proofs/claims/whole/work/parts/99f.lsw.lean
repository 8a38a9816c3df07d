/-! THE LAW: its switch, from its entry to its end -/
section LAW
variable {p : Program} {l : Launch} {e : Env} {s : State} {m : MethodId} {below : List Frame} {meth : Method} {c : Code} {b L t : Nat} {xs : Nat → Int32} {G : GG} {n : Nat} {Q : State → Prop} {M S : Mem}
theorem law_sw (C0 : lw_At p s m meth c b L xs) (hAO : AO4 s) (hG : GX s G n) (hL : L ≤ 3584) (ht : 7 * t + 7 ≤ L) (h512 : t < 512) (hS : SOK S) (hI : InvC t S M) (hJ : InvR S M) (k : ∀ (G1 : GG) (n1 : Nat) (M1 S1 : Mem), GX s G1 n1 → SOK S1 → InvC (t + 1) S1 M1 → InvR S1 M1 → WW G1 n1 (EL p l e s m below meth c b (t + 1)) 4 Q 1422 (LV G1 b t) [] M1) : WW G n (EL p l e s m below meth c b t) 4 Q 33 (LV G b t) [.int (xs (7 * t) &&& 63)] M := by
  have C : Cx G n (EL p l e s m below meth c b t) R_law cL_law 4 := cx_of C0 hG
  have X : SX G (EL p l e s m below meth c b t) b L xs := sx_of C0 hAO hG
  have HR : RM (EL p l e s m below meth c b t) 16 648 := rm_of (by omega)
  have k1 : ∀ M1 S1 : Mem, SOK S1 → InvC (t + 1) S1 M1 → InvR S1 M1 → WW G n (EL p l e s m below meth c b t) 4 Q 1422 (LV G b t) [] M1 := fun M1 S1 a1 a2 a3 => w_widen (by omega) (by omega) (k G n M1 S1 hG a1 a2 a3)
  obtain ⟨cs, hc, ec⟩ := and63 (xs (7 * t))
  rw [ec]
  by_cases hlt : cs < 35
  · have hcs : cs = 0 ∨ cs = 1 ∨ cs = 2 ∨ cs = 3 ∨ cs = 4 ∨ cs = 5 ∨ cs = 6 ∨ cs = 7 ∨ cs = 8 ∨ cs = 9 ∨ cs = 10 ∨ cs = 11 ∨ cs = 12 ∨ cs = 13 ∨ cs = 14 ∨ cs = 15 ∨ cs = 16 ∨ cs = 17 ∨ cs = 18 ∨ cs = 19 ∨ cs = 20 ∨ cs = 21 ∨ cs = 22 ∨ cs = 23 ∨ cs = 24 ∨ cs = 25 ∨ cs = 26 ∨ cs = 27 ∨ cs = 28 ∨ cs = 29 ∨ cs = 30 ∨ cs = 31 ∨ cs = 32 ∨ cs = 33 ∨ cs = 34 := by omega
    rcases hcs with rfl | rfl | rfl | rfl | rfl | rfl | rfl | rfl | rfl | rfl | rfl | rfl | rfl | rfl | rfl | rfl | rfl | rfl | rfl | rfl | rfl | rfl | rfl | rfl | rfl | rfl | rfl | rfl | rfl | rfl | rfl | rfl | rfl | rfl | rfl
    · exact w_swIn C dL_law_33 (by decide) (by decide) (off := 155) rfl (tgt := 188) rfl (lc_type C X HR hL ht h512 hS hI hJ k1)
    · exact w_swIn C dL_law_33 (by decide) (by decide) (off := 188) rfl (tgt := 221) rfl (lc_wipe C X HR hL ht h512 hS hI hJ k1)
    · exact w_swIn C dL_law_33 (by decide) (by decide) (off := 211) rfl (tgt := 244) rfl (lc_fault C X HR hL ht h512 hS hI hJ k1)
    · exact w_swIn C dL_law_33 (by decide) (by decide) (off := 234) rfl (tgt := 267) rfl (lc_acts C X HR hL ht h512 hS hI hJ k1)
    · exact w_swIn C dL_law_33 (by decide) (by decide) (off := 267) rfl (tgt := 300) rfl (lc_differ C X HR hL ht h512 hS hI hJ k1)
    · exact w_swIn C dL_law_33 (by decide) (by decide) (off := 300) rfl (tgt := 333) rfl (lc_run C X HR hL ht h512 hS hI hJ k1)
    · exact w_swIn C dL_law_33 (by decide) (by decide) (off := 375) rfl (tgt := 408) rfl (lc_parting C X HR hL ht h512 hS hI hJ k1)
    · exact w_swIn C dL_law_33 (by decide) (by decide) (off := 418) rfl (tgt := 451) rfl (lc_event C X HR hL ht h512 hS hI hJ k1)
    · exact w_swIn C dL_law_33 (by decide) (by decide) (off := 471) rfl (tgt := 504) rfl (lc_mended C X HR hL ht h512 hS hI hJ k1)
    · exact w_swIn C dL_law_33 (by decide) (by decide) (off := 504) rfl (tgt := 537) rfl (lc_counter C0 hAO hG hL ht h512 hS hI hJ k)
    · exact w_swIn C dL_law_33 (by decide) (by decide) (off := 527) rfl (tgt := 560) rfl (lc_log C X HR hL ht h512 hS hI hJ k1)
    · exact w_swIn C dL_law_33 (by decide) (by decide) (off := 570) rfl (tgt := 603) rfl (lc_claim C X HR hL ht h512 hS hI hJ k1)
    · exact w_swIn C dL_law_33 (by decide) (by decide) (off := 613) rfl (tgt := 646) rfl (lc_about C X HR hL ht h512 hS hI hJ k1)
    · exact w_swIn C dL_law_33 (by decide) (by decide) (off := 646) rfl (tgt := 679) rfl (lc_tell C X HR hL ht h512 hS hI hJ k1)
    · exact w_swIn C dL_law_33 (by decide) (by decide) (off := 689) rfl (tgt := 722) rfl (lc_logged C X HR hL ht h512 hS hI hJ k1)
    · exact w_swIn C dL_law_33 (by decide) (by decide) (off := 722) rfl (tgt := 755) rfl (lc_fills C X HR hL ht h512 hS hI hJ k1)
    · exact w_swIn C dL_law_33 (by decide) (by decide) (off := 755) rfl (tgt := 788) rfl (lc_causes C X HR hL ht h512 hS hI hJ k1)
    · exact w_swIn C dL_law_33 (by decide) (by decide) (off := 778) rfl (tgt := 811) rfl (lc_settling C X HR hL ht h512 hS hI hJ k1)
    · exact w_swIn C dL_law_33 (by decide) (by decide) (off := 811) rfl (tgt := 844) rfl (lc_like C X HR hL ht h512 hS hI hJ k1)
    · exact w_swIn C dL_law_33 (by decide) (by decide) (off := 844) rfl (tgt := 877) rfl (lc_pay C X HR hL ht h512 hS hI hJ k1)
    · exact w_swIn C dL_law_33 (by decide) (by decide) (off := 887) rfl (tgt := 920) rfl (lc_interest C X HR hL ht h512 hS hI hJ k1)
    · exact w_swIn C dL_law_33 (by decide) (by decide) (off := 910) rfl (tgt := 943) rfl (lc_owed C X HR hL ht h512 hS hI hJ k1)
    · exact w_swIn C dL_law_33 (by decide) (by decide) (off := 943) rfl (tgt := 976) rfl (lc_judgment C X HR hL ht h512 hS hI hJ k1)
    · exact w_swIn C dL_law_33 (by decide) (by decide) (off := 976) rfl (tgt := 1009) rfl (lc_ground C X HR hL ht h512 hS hI hJ k1)
    · exact w_swIn C dL_law_33 (by decide) (by decide) (off := 1025) rfl (tgt := 1058) rfl (lc_standing C X HR hL ht h512 hS hI hJ k1)
    · exact w_swIn C dL_law_33 (by decide) (by decide) (off := 1038) rfl (tgt := 1071) rfl (lc_falling C X HR hL ht h512 hS hI hJ k1)
    · exact w_swIn C dL_law_33 (by decide) (by decide) (off := 1061) rfl (tgt := 1094) rfl (lc_order C X HR hL ht h512 hS hI hJ k1)
    · exact w_swIn C dL_law_33 (by decide) (by decide) (off := 1094) rfl (tgt := 1127) rfl (lc_sheet C X HR hL ht h512 hS hI hJ k1)
    · exact w_swIn C dL_law_33 (by decide) (by decide) (off := 1137) rfl (tgt := 1170) rfl (lc_lose C X HR hL ht h512 hS hI hJ k1)
    · exact w_swIn C dL_law_33 (by decide) (by decide) (off := 1160) rfl (tgt := 1193) rfl (lc_put C X HR hL ht h512 hS hI hJ k1)
    · exact w_swIn C dL_law_33 (by decide) (by decide) (off := 1213) rfl (tgt := 1246) rfl (lc_get C X HR hL ht h512 hS hI hJ k1)
    · exact w_swIn C dL_law_33 (by decide) (by decide) (off := 1256) rfl (tgt := 1289) rfl (lc_copy C X HR hL ht h512 hS hI hJ k1)
    · exact w_swIn C dL_law_33 (by decide) (by decide) (off := 1319) rfl (tgt := 1352) rfl (lc_write C X HR hL ht h512 hS hI hJ k1)
    · exact w_swIn C dL_law_33 (by decide) (by decide) (off := 1352) rfl (tgt := 1385) rfl (lc_count C X HR hL ht h512 hS hI hJ k1)
    · exact w_swIn C dL_law_33 (by decide) (by decide) (off := 1375) rfl (tgt := 1408) rfl (lc_digest C X HR hL ht h512 hS hI hJ k1)
  · refine w_swOut C dL_law_33 (Or.inr ?_) (tgt := 1422) rfl (k1 M S hS hI.more hJ)
    rw [nI_toInt (by omega)]
    omega
theorem law_loop (C0 : lw_At p s m meth c b L xs) (hAO : AO4 s) (hL : L ≤ 3584) : ∀ (d t : Nat), t + d = 512 → ∀ (G : GG) (n : Nat) (M S : Mem), GX s G n → SOK S → InvC t S M → InvR S M → WW G n (EL p l e s m below meth c b t) 4 (lw_Z below #[Value.ref b] s) 18 (LV G b t) [] M := by
  intro d
  induction d with
  | zero =>
    intro t htd G n M S hG hS hI hJ
    exact law_head (cx_of C0 hG) (sx_of C0 hAO hG) hL (by omega) (law_ret C0 hG (by omega)) (fun h => by omega)
  | succ d ih =>
    intro t htd G n M S hG hS hI hJ
    refine law_head (cx_of C0 hG) (sx_of C0 hAO hG) hL (by omega) (law_ret C0 hG (by omega)) (fun h => ?_)
    refine law_sw C0 hAO hG hL h (by omega) hS hI hJ (fun G1 n1 M1 S1 g1 a1 a2 a3 => ?_)
    exact law_tail (cx_of C0 g1) (ih (t + 1) (by omega) G1 n1 M1 S1 g1 a1 a2 a3)
end LAW
