/-! THE LAW: its loop -/
theorem and63 (x : Int32) : ∃ c, c < 64 ∧ x &&& 63 = nI c := by
  refine ⟨(x.toBitVec &&& 63#32).toNat, ?_, ?_⟩
  · rw [BitVec.toNat_and]
    exact Nat.lt_succ_of_le Nat.and_le_right
  · apply Int32.toBitVec_inj.mp
    show x.toBitVec &&& 63#32 = BitVec.ofNat 32 (x.toBitVec &&& 63#32).toNat
    rw [BitVec.ofNat_toNat, BitVec.setWidth_eq]
def GX (s : State) (G : GG) (n : Nat) : Prop := va_K (gC G, gI G) vwCl (tysG G) s ∧ KC G s s.heap ∧ KS G s ∧ GOK G n ∧ gb G = s.heap.size
theorem CQ.gx {s : State} {G : GG} {n : Nat} {M : Mem} {v r : Int32} {w : GG × Nat × Mem} (hG : GX s G n) (h : CQ G n M v r w) : GX s w.1 w.2.1 ∧ gad w.1 9 0 = gad G 9 0 ∧ gad w.1 10 0 = gad G 10 0 ∧ gA w.1 = gA G := by
  unfold CQ at h
  by_cases hv : 0 ≤ v ∧ v ≤ 3
  · rw [if_pos hv] at h
    by_cases hz : M 660 0 0 = 12
    · rw [if_pos hz] at h
      obtain ⟨rfl, rfl⟩ := h
      exact ⟨hG, rfl, rfl, rfl⟩
    · rw [if_neg hz] at h
      obtain ⟨rfl, hn12, a, rfl, hk⟩ := h
      exact ⟨⟨hG.1, hG.2.1, hG.2.2.1, hk, hG.2.2.2.2⟩, gnx_o (fun q => by omega), gnx_o (fun q => by omega), rfl⟩
  · rw [if_neg hv] at h
    obtain ⟨rfl, rfl⟩ := h
    exact ⟨hG, rfl, rfl, rfl⟩
theorem w_know {G : GG} {n : Nat} {E : EE} {nL : Nat} {Q : State → Prop} {pc : Nat} {lv : List (Nat × Value)} {st : List Value} {M : Mem} (k : M 660 0 0 = nI n → n ≤ 12 → WW G n E nL Q pc lv st M) : WW G n E nL Q pc lv st M := by
  obtain ⟨p, l, e, R, s, m, args, below, meth, c, ce, sl⟩ := E
  exact fun H locs ls hR hS hl => k hR.1.1 hR.1.2 H locs ls hR hS hl
section LOOP
variable {p : Program} {l : Launch} {e : Env} {s : State} {m : MethodId} {below : List Frame} {meth : Method} {c : Code} {b L t : Nat} {xs : Nat → Int32} {G : GG} {n : Nat} {Q : State → Prop} {M S : Mem}
abbrev EL (p : Program) (l : Launch) (e : Env) (s : State) (m : MethodId) (below : List Frame) (meth : Method) (c : Code) (b t : Nat) : EE := (p, l, e, room_1, s, m, #[Value.ref b], below, meth, c, 114 + 3 * t, 13922 + 29 * t)
theorem cx_of (C0 : lw_At p s m meth c b L xs) (hG : GX s G n) : Cx G n (EL p l e s m below meth c b t) R_law cL_law 4 := by
  obtain ⟨h1, h2, h3, h4, h5, h6, h7, h8, h9, h10⟩ := C0
  exact ⟨h1, h2, h4, h5, fun w hw => h6 w (gw_tbl hw), h9, hG.1, st_NW h6, hG.2.1, hG.2.2.1, hG.2.2.2.1, Nat.le_of_eq hG.2.2.2.2⟩
theorem sx_of (C0 : lw_At p s m meth c b L xs) (hAO : AO4 s) (hG : GX s G n) : SX G (EL p l e s m below meth c b t) b L xs := by
  obtain ⟨h1, h2, h3, h4, h5, h6, h7, h8, h9, h10⟩ := C0
  exact ⟨h7, h8, hG.2.2.2.2, hAO⟩
theorem rm_of (ht : t ≤ 512) : RM (EL p l e s m below meth c b t) 16 648 := ⟨rfl, rfl, show 114 + 3 * t ≤ 600000 by omega, show 13922 + 29 * t ≤ 7302250 by omega⟩
theorem lc_counter (C0 : lw_At p s m meth c b L xs) (hAO : AO4 s) (hG : GX s G n) (hL : L ≤ 3584) (ht : 7 * t + 7 ≤ L) (h512 : t < 512) (hS : SOK S) (hI : InvC t S M) (hJ : InvR S M) (k : ∀ (G1 : GG) (n1 : Nat) (M1 S1 : Mem), GX s G1 n1 → SOK S1 → InvC (t + 1) S1 M1 → InvR S1 M1 → WW G1 n1 (EL p l e s m below meth c b (t + 1)) 4 Q 1422 (LV G1 b t) [] M1) : WW G n (EL p l e s m below meth c b t) 4 Q 537 (LV G b t) [] M := by
  have C : Cx G n (EL p l e s m below meth c b t) R_law cL_law 4 := cx_of C0 hG
  have X : SX G (EL p l e s m below meth c b t) b L xs := sx_of C0 hAO hG
  refine w_know (fun hn h12 => ?_)
  refine w_aload_n C 1 dL_law_537 rfl rfl ?_
  refine w_arg C X hL ht (a := 1) (by decide) (by decide) dL_law_538 dL_law_539 dL_law_540 dL_law_541 dL_law_542 ?_
  refine w_counter C hAO gl652 (by decide) (show 114 + 3 * t + 3 ≤ 600000 by omega) (show 13922 + 29 * t + 29 ≤ 7302250 by omega) (Nat.le_of_ble_eq_true rfl) dL_law_543 (fun r w H locs ls hq hR hS' hl => ?_)
  obtain ⟨hG', e9, e10, eA⟩ := hq.gx hG
  obtain ⟨rfl, h1, f1⟩ := cnt_pure hS hI hn h12 hq
  refine W.widen (k := 114 + 3 * (t + 1)) (n := 13922 + 29 * (t + 1)) (by omega) (by omega) ?_
  have C' : Cx w.1 w.2.1 (EL p l e s m below meth c b (t + 1)) R_law cL_law 4 := cx_of C0 hG'
  have X' : SX w.1 (EL p l e s m below meth c b (t + 1)) b L xs := sx_of C0 hAO hG'
  have HR' : RM (EL p l e s m below meth c b (t + 1)) 16 648 := rm_of (by omega)
  suffices K : WW w.1 w.2.1 (EL p l e s m below meth c b (t + 1)) 4 Q 546 (LV w.1 b t) [.int (a_counter S (xs (7 * t + 1)))] w.2.2 by
    refine K H locs ls hR (by rw [eA]; exact hS') ?_
    show lv_has ls 4 [(0, .ref b), (1, .ref (gad w.1 9 0)), (2, .ref (gad w.1 10 0)), (3, .int (nI (7 * t)))]
    rw [e9, e10]
    exact hl
  refine w_aload_n C' 2 dL_law_546 rfl rfl ?_
  refine w_arg C' X' hL ht (a := 1) (by decide) (by decide) dL_law_547 dL_law_548 dL_law_549 dL_law_550 dL_law_551 ?_
  refine back_I (run_V C' HR' ml_X10_counter (ci := 10) rfl (by decide) (Nat.le_of_ble_eq_true rfl) gl1297 gl1298 gl1296 (by decide) rfl (Nat.le_of_ble_eq_true rfl) dL_law_552 (As := [.int (xs (7 * t + 1))]) rfl (c_X10_counter _ _ _ (R_counter hS (hJ.frC f1) (xs (7 * t + 1)) (Q := fun r M2 => r = a_counter S (xs (7 * t + 1)) ∧ InvR (n_counter S (xs (7 * t + 1))) M2 ∧ FrR w.2.2 M2) (fun M2 h2 f2 => ⟨rfl, h2, f2⟩)))) (fun r1 M2 hw => ?_)
  obtain ⟨rfl, h2, f2⟩ := hw
  refine w_icmp_eq C' dL_law_555 (tgt := 1422) rfl (fun _ => ?_) (fun h => absurd rfl h)
  exact k _ _ _ _ hG' (S_counter hS _) (h1.frR f2) h2
theorem law_tail {E : EE} (C : Cx G n E R_law cL_law 4) (k : WW G n E 4 Q 18 (LV G b (t + 1)) [] M) : WW G n E 4 Q 1422 (LV G b t) [] M := by
  refine w_iinc C 3 dL_law_1422 rfl (v := nI (7 * (t + 1))) ?_ (by decide) rfl ?_
  · rw [show Int32.ofInt 7 = nI 7 by decide, nI_add, show 7 * t + 7 = 7 * (t + 1) by omega]
  · refine w_sub [1, 2, 3, 0] rfl ?_
    exact w_goto C dL_law_1425 (tgt := 18) rfl k
theorem law_head {E : EE} (C : Cx G n E R_law cL_law 4) (X : SX G E b L xs) (hL : L ≤ 3584) (ht : t ≤ 512) (kx : WW G n E 4 Q 1428 (LV G b t) [] M) (kb : 7 * t + 7 ≤ L → WW G n E 4 Q 33 (LV G b t) [.int (xs (7 * t) &&& 63)] M) : WW G n E 4 Q 18 (LV G b t) [] M := by
  refine w_iload_n C 3 dL_law_18 rfl rfl ?_
  refine w_aload_n C 0 dL_law_19 rfl rfl ?_
  refine w_slen C X dL_law_20 ?_
  refine w_bipush C dL_law_21 (v := 7) (by decide) ?_
  refine w_isub C dL_law_23 ?_
  refine w_icmp_gt C dL_law_24 (tgt := 1428) rfl (fun _ => kx) (fun h => ?_)
  have hb : 7 * t + 7 ≤ L := by
    rw [ti_lt] at h
    have e7 : (7 : Int32).toInt = 7 := by decide
    have eL : (nI L).toInt = (L : Int) := nI_toInt (by omega)
    have et : (nI (7 * t)).toInt = ((7 * t : Nat) : Int) := nI_toInt (by omega)
    rw [ti_sub (by rw [eL, e7]; omega) (by rw [eL, e7]; omega), eL, e7, et] at h
    omega
  refine w_aload_n C 0 dL_law_27 rfl rfl ?_
  refine w_iload_n C 3 dL_law_28 rfl rfl ?_
  refine w_sld C X ((ni_in (by omega)).mpr (by omega)) dL_law_29 ?_
  rw [ni_cl (by omega)]
  refine w_bipush C dL_law_30 (v := 63) (by decide) ?_
  refine w_iand C dL_law_32 ?_
  exact kb hb
theorem law_ret (C0 : lw_At p s m meth c b L xs) (hG : GX s G n) (ht : t ≤ 512) : WW G n (EL p l e s m below meth c b t) 4 (lw_Z below #[Value.ref b] s) 1428 (LV G b t) [] M := by
  obtain ⟨h1, h2, h3, h4, h5, h6, h7, h8, h9, h10⟩ := C0
  intro H locs ls hR hS hl
  refine va_forget (fun q hq => ?_) ?_
  · have : gb G ≤ q.base := hS.2.2 q hq
    rw [hG.2.2.2.2] at this
    exact this
  · refine W.widen (k := 600000) (n := 7302250) (by omega) (by omega) ?_
    refine lv_iconst h1 h2 dL_law_1428 kc_i_1 ?_
    exact lw_ret h1 h2 h3 h9 dL_law_1429
end LOOP
