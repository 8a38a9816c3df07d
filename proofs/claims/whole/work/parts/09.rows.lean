/-! ROWS AS THE PROGRAM TAKES THEM -/
def AK (k t : Nat) : Prop := 20 ≤ k ∧ k < 87 ∧ ek k = 0 ∧ atc k = t
theorem Cx.gok {G : GG} {n : Nat} {E : EE} {own : String} {cc : ByteArray} {nL : Nat} (C : Cx G n E own cc nL) : GOK G n := by
  obtain ⟨p, l, e, R, s, m, args, below, meth, c, ce, sl⟩ := E
  exact C.2.2.2.2.2.2.2.2.2.2.1
section R9
variable {G : GG} {n : Nat} {E : EE} {own : String} {cc : ByteArray} {nL : Nat} {Q : State → Prop} {pc : Nat} {lv : List (Nat × Value)} {st : List Value} {M : Mem} {fr lo : Nat}
theorem w_lv {lv' : List (Nat × Value)} (h : lv = lv') (k : WW G n E nL Q pc lv' st M) : WW G n E nL Q pc lv st M := h ▸ k
theorem w_istore_nV (C : Cx G n E own cc nL) {kf : Fin 4} {i : Nat} {e : Int32} (hd : decode cc pc = .ok (.istore_n kf, 1)) (hi : (kf : Nat) = i) (hn : i < nL) (k : ∀ x : Int32, x = e → WW G n E nL Q (pc + 1) ((i, Value.int x) :: lv.filter (fun q => !(q.1 == i) && !(q.1 + 1 == i && q.2.category == 2))) st M) : WW G n E nL Q pc lv (.int e :: st) M :=
  w_istore_n C hd hi hn rfl (k e rfl)
theorem w_istoreV (C : Cx G n E own cc nL) {i : Nat} {e : Int32} (hd : decode cc pc = .ok (.istore i, 2)) (hn : i < nL) (k : ∀ x : Int32, x = e → WW G n E nL Q (pc + 2) ((i, Value.int x) :: lv.filter (fun q => !(q.1 == i) && !(q.1 + 1 == i && q.2.category == 2))) st M) : WW G n E nL Q pc lv (.int e :: st) M :=
  w_istore C hd hn rfl (k e rfl)
theorem w_lstore_nV (C : Cx G n E own cc nL) {kf : Fin 4} {i : Nat} {e : Int64} (hd : decode cc pc = .ok (.lstore_n kf, 1)) (hi : (kf : Nat) = i) (hn : i + 1 < nL) (k : ∀ x : Int64, x = e → WW G n E nL Q (pc + 1) ((i, Value.long x) :: lv.filter (fun q => !(q.1 == i) && (!(q.1 == i + 1) && !(q.1 + 1 == i && q.2.category == 2)))) st M) : WW G n E nL Q pc lv (.long e :: st) M :=
  w_lstore_n C hd hi hn rfl (k e rfl)
theorem w_iincV (C : Cx G n E own cc nL) (q : Nat) {i : Nat} {z : Int} {x zv : Int32} {lv' : List (Nat × Value)} (hd : decode cc pc = .ok (.iinc i z, 3)) (hz : Int32.ofInt z = zv) (hk : lv[q]? = some (i, .int x)) (hn : i < nL) (h : (i, Value.int (x + zv)) :: lv.filter (fun q => !(q.1 == i) && !(q.1 + 1 == i && q.2.category == 2)) = lv') (k : WW G n E nL Q (pc + 3) lv' st M) : WW G n E nL Q pc lv st M :=
  w_iinc C q hd hk (by rw [hz]) hn h k
theorem v_iald (C : Cx G n E own cc nL) {kk j L : Nat} {i : Int32} (ha : AK kk 0) (hL : alen kk = L) (hj : j < cnt n kk) (hi : vp_in i L) (hd : decode cc pc = .ok (.iaload, 1)) (k : WW G n E nL Q (pc + 1) lv (.int (M kk j i.toNatClampNeg) :: st) M) : WW G n E nL Q pc lv (.int i :: .ref (gad G kk j) :: st) M :=
  w_iald C ha.1 ha.2.1 ha.2.2.1 ha.2.2.2 hj (hL ▸ hi) hd k
theorem v_bald (C : Cx G n E own cc nL) {kk j L : Nat} {i : Int32} (ha : AK kk 1) (hL : alen kk = L) (hj : j < cnt n kk) (hi : vp_in i L) (hd : decode cc pc = .ok (.baload, 1)) (k : WW G n E nL Q (pc + 1) lv (.int (M kk j i.toNatClampNeg) :: st) M) : WW G n E nL Q pc lv (.int i :: .ref (gad G kk j) :: st) M :=
  w_bald C ha.1 ha.2.1 ha.2.2.1 ha.2.2.2 hj (hL ▸ hi) hd k
theorem v_zald (C : Cx G n E own cc nL) {kk j L : Nat} {i : Int32} (ha : AK kk 2) (hL : alen kk = L) (hj : j < cnt n kk) (hi : vp_in i L) (hd : decode cc pc = .ok (.baload, 1)) (k : WW G n E nL Q (pc + 1) lv (.int (M kk j i.toNatClampNeg) :: st) M) : WW G n E nL Q pc lv (.int i :: .ref (gad G kk j) :: st) M :=
  w_zald C ha.1 ha.2.1 ha.2.2.1 ha.2.2.2 hj (hL ▸ hi) hd k
theorem v_iast (C : Cx G n E own cc nL) {kk j L : Nat} {i v : Int32} (ha : AK kk 0) (hL : alen kk = L) (hj : j < cnt n kk) (hi : vp_in i L) (hd : decode cc pc = .ok (.iastore, 1)) (k : WW G n E nL Q (pc + 1) lv st (mst M kk j i.toNatClampNeg v)) : WW G n E nL Q pc lv (.int v :: .int i :: .ref (gad G kk j) :: st) M :=
  w_iast C ha.1 ha.2.1 ha.2.2.1 ha.2.2.2 hj (hL ▸ hi) hd k
theorem v_bast (C : Cx G n E own cc nL) {kk j L : Nat} {i v : Int32} (ha : AK kk 1) (hL : alen kk = L) (hj : j < cnt n kk) (hi : vp_in i L) (hd : decode cc pc = .ok (.bastore, 1)) (k : WW G n E nL Q (pc + 1) lv st (mst M kk j i.toNatClampNeg v.toInt8.toInt32)) : WW G n E nL Q pc lv (.int v :: .int i :: .ref (gad G kk j) :: st) M :=
  w_bast C ha.1 ha.2.1 ha.2.2.1 ha.2.2.2 hj (hL ▸ hi) hd k
theorem v_zast (C : Cx G n E own cc nL) {kk j L : Nat} {i v : Int32} (ha : AK kk 2) (hL : alen kk = L) (hj : j < cnt n kk) (hi : vp_in i L) (hn : narrow .boolean (.int v) = .int v) (hd : decode cc pc = .ok (.bastore, 1)) (k : WW G n E nL Q (pc + 1) lv st (mst M kk j i.toNatClampNeg v)) : WW G n E nL Q pc lv (.int v :: .int i :: .ref (gad G kk j) :: st) M :=
  w_zast C ha.1 ha.2.1 ha.2.2.1 ha.2.2.2 hj (hL ▸ hi) hn hd k
theorem v_alen (C : Cx G n E own cc nL) {kk j t : Nat} {ty : FieldType} (ha : AK kk t) (hty : (tysG G)[t]? = some (gR G t, ty)) (hj : j < cnt n kk) (hd : decode cc pc = .ok (.arraylength, 1)) (k : WW G n E nL Q (pc + 1) lv (.int (nI (alen kk)) :: st) M) : WW G n E nL Q pc lv (.ref (gad G kk j) :: st) M :=
  w_alen C ha.1 ha.2.1 ha.2.2.2 hty hj rfl hd k
/-- the rows of references -/
theorem v_aaldV (C : Cx G n E own cc nL) {i : Int32} (hi : vp_in i 4) (hd : decode cc pc = .ok (.aaload, 1)) (k : WW G n E nL Q (pc + 1) lv (.ref (gad G 8 i.toNatClampNeg) :: st) M) : WW G n E nL Q pc lv (.int i :: .ref (gad G 49 0) :: st) M :=
  w_aald C (kk := 49) (j := 0) (by decide) (by decide) (t := 3) rfl rfl rfl (Nat.le_of_ble_eq_true rfl) hi rfl hd k
theorem v_aaldS (C : Cx G n E own cc nL) {i : Int32} (hi : vp_in i 4) (hd : decode cc pc = .ok (.aaload, 1)) (k : WW G n E nL Q (pc + 1) lv (.ref (gad G 7 i.toNatClampNeg) :: st) M) : WW G n E nL Q pc lv (.int i :: .ref (gad G 51 0) :: st) M :=
  w_aald C (kk := 51) (j := 0) (by decide) (by decide) (t := 4) rfl rfl rfl (Nat.le_of_ble_eq_true rfl) hi rfl hd k
theorem v_aaldP (C : Cx G n E own cc nL) {i : Int32} (hi : vp_in i 13) (hd : decode cc pc = .ok (.aaload, 1)) (k : WW G n E nL Q (pc + 1) lv (.ref (gad G 86 i.toNatClampNeg) :: st) M) : WW G n E nL Q pc lv (.int i :: .ref (gad G 27 0) :: st) M :=
  w_aald C (kk := 27) (j := 0) (by decide) (by decide) (t := 6) rfl rfl rfl (Nat.le_of_ble_eq_true rfl) hi rfl hd k
def nc (M : Mem) : Nat := (M 660 0 0).toNatClampNeg
theorem nc_rep {H : Heap} (hR : Rep G n M H) : nc M = n := by
  unfold nc
  rw [hR.1.1]
  exact nI_clamp (by have := hR.1.2; omega)
theorem v_aaldC (C : Cx G n E own cc nL) {i : Int32} (hi : vp_in i 12) (hd : decode cc pc = .ok (.aaload, 1)) (k1 : i.toNatClampNeg < nc M → i.toNatClampNeg < cnt n 0 → WW G n E nL Q (pc + 1) lv (.ref (gad G 0 i.toNatClampNeg) :: st) M) (k0 : ¬ i.toNatClampNeg < nc M → WW G n E nL Q (pc + 1) lv (.null :: st) M) : WW G n E nL Q pc lv (.int i :: .ref (gad G 50 0) :: st) M := by
  by_cases h : i.toNatClampNeg < n
  · have hv : av G n M 50 0 i.toNatClampNeg = .ref (gad G 0 i.toNatClampNeg) := if_pos h
    obtain ⟨p, l, e, R, s0, m, args, below, meth, c, ce, sl⟩ := E
    intro H locs ls hR hS hl
    exact w_aald C (kk := 50) (j := 0) (by decide) (by decide) (t := 5) rfl rfl rfl (Nat.le_of_ble_eq_true rfl) hi hv hd (k1 (by rw [nc_rep hR]; exact h) h) H locs ls hR hS hl
  · have hv : av G n M 50 0 i.toNatClampNeg = .null := if_neg h
    obtain ⟨p, l, e, R, s0, m, args, below, meth, c, ce, sl⟩ := E
    intro H locs ls hR hS hl
    exact w_aald C (kk := 50) (j := 0) (by decide) (by decide) (t := 5) rfl rfl rfl (Nat.le_of_ble_eq_true rfl) hi hv hd (k0 (by rw [nc_rep hR]; exact h)) H locs ls hR hS hl
/-- a reference to a VERSION that a MIX holds: it is one of the four -/
theorem v_getD (C : Cx G n E own cc nL) {s1 : Nat} {v : Value} (hs : s1 = 401 ∨ s1 = 402) (k : (M s1 0 0).toNatClampNeg < 4 → WW G n E nL Q pc lv (v :: st) M) : WW G n E nL Q pc lv (v :: st) M := by
  obtain ⟨p, l, e, R, s0, m, args, below, meth, c, ce, sl⟩ := E
  intro H locs ls hR hS hl
  refine k ?_ H locs ls hR hS hl
  rcases hs with rfl | rfl
  · exact hR.2.1.1
  · exact hR.2.1.2
theorem w_swAt (C : Cx G n E own cc nL) {dflt lo hi : Int} {offs : Array Int} {len : Nat} {x v : Int32} {off : Int} {tgt : Nat} (hx : x = v) (hd : decode cc pc = .ok (.tableswitch dflt lo hi offs, len)) (h : (¬ v.toInt < lo) ∧ (¬ hi < v.toInt) ∧ offs[(v.toInt - lo).toNat]? = some off) (ht : (pc : Int) + off = (tgt : Int)) (k : WW G n E nL Q tgt lv st M) : WW G n E nL Q pc lv (.int x :: st) M := by
  subst hx
  exact w_swIn C hd h.1 h.2.1 h.2.2 ht k
theorem sw_out {x : Int32} {N : Nat} (hN : N < 2 ^ 31) (h : ∀ v : Nat, v ≤ N → ¬ x = nI v) : x.toInt < 0 ∨ (N : Int) < x.toInt := by
  by_cases h0 : x < 0
  · left; simpa using Int32.lt_iff_toInt_lt.mp h0
  · right
    obtain ⟨j, hj, rfl⟩ := nI_of h0
    rw [nI_toInt hj]
    have : ¬ j ≤ N := fun q => h j q rfl
    omega
/-! texts and the table -/
theorem w_ldcS (C : Cx G n E own cc nL) {ix i : Nat} {tx : String} (hS : ∀ U : State, KS G U → vk_R own ix tx (gK G i) U) (hd : decode cc pc = .ok (.ldc ix, 2)) (k : WW G n E nL Q (pc + 2) lv (.ref (gK G i) :: st) M) : WW G n E nL Q pc lv st M := by
  obtain ⟨p, l, e, R, s, m, args, below, meth, c, ce, sl⟩ := E
  exact fun H locs ls hR hSS hl => va_ldcS C.1 C.2.1 C.2.2.2.1 (hS s C.2.2.2.2.2.2.2.2.2.1) hd (k H locs ls hR hSS hl)
theorem w_sval (C : Cx G n E own cc nL) {ix i : Nat} (hi : i < 3) (hlink : Cond.fieldLink own ix "java/lang/String" "value" "[B" ∈ GW) (hd : decode cc pc = .ok (.getfield ix, 3)) (k : WW G n E nL Q (pc + 3) lv (.ref (gV G i) :: st) M) : WW G n E nL Q pc lv (.ref (gK G i) :: st) M := by
  obtain ⟨p, l, e, R, s, m, args, below, meth, c, ce, sl⟩ := E
  obtain ⟨hx, hb, hml, hown, hts, hlk, hK, hNW, hKC, hKS, hG, hgb⟩ := C
  exact fun H locs ls hR hS hl => vk_getf hx hb (hKC.1.1 i hi).2.2.1 hS hown (hts _ hlink) (fun _ h => h) hd (k H locs ls hR hS hl)
theorem w_scod (C : Cx G n E own cc nL) {ix i : Nat} (hi : i < 3) (hlink : Cond.fieldLink own ix "java/lang/String" "coder" "B" ∈ GW) (hd : decode cc pc = .ok (.getfield ix, 3)) (k : WW G n E nL Q (pc + 3) lv (.int 0 :: st) M) : WW G n E nL Q pc lv (.ref (gK G i) :: st) M := by
  obtain ⟨p, l, e, R, s, m, args, below, meth, c, ce, sl⟩ := E
  obtain ⟨hx, hb, hml, hown, hts, hlk, hK, hNW, hKC, hKS, hG, hgb⟩ := C
  exact fun H locs ls hR hS hl => vk_getf hx hb (hKC.1.1 i hi).2.1 hS hown (hts _ hlink) (fun _ h => h) hd (k H locs ls hR hS hl)
theorem w_scomp (C : Cx G n E own cc nL) {ix : Nat} (hlink : Cond.fieldLink own ix "java/lang/String" "COMPACT_STRINGS" "Z" ∈ GW) (hd : decode cc pc = .ok (.getstatic ix, 3)) (k : WW G n E nL Q (pc + 3) lv (.int 1 :: st) M) : WW G n E nL Q pc lv st M := by
  obtain ⟨p, l, e, R, s, m, args, below, meth, c, ce, sl⟩ := E
  obtain ⟨hx, hb, hml, hown, hts, hlk, hK, hNW, hKC, hKS, hG, hgb⟩ := C
  exact fun H locs ls hR hS hl => va_gets hx hb hKC.2.1 hS hown (hts _ hlink) (fun _ h => h) hd (k H locs ls hR hS hl)
theorem w_few (C : Cx G n E own cc nL) {ix : Nat} (hlink : Cond.fieldLink own ix "TrueLedger$Filler" "FEWEST_FIRST" "[I" ∈ GW) (hd : decode cc pc = .ok (.getstatic ix, 3)) (k : WW G n E nL Q (pc + 3) lv (.ref (gF G) :: st) M) : WW G n E nL Q pc lv st M := by
  obtain ⟨p, l, e, R, s, m, args, below, meth, c, ce, sl⟩ := E
  obtain ⟨hx, hb, hml, hown, hts, hlk, hK, hNW, hKC, hKS, hG, hgb⟩ := C
  exact fun H locs ls hR hS hl => va_gets hx hb hKC.2.2.1 hS hown (hts _ hlink) (fun _ h => h) hd (k H locs ls hR hS hl)
theorem w_fald (C : Cx G n E own cc nL) {i : Int32} (hi : vp_in i 8) (hd : decode cc pc = .ok (.iaload, 1)) (k : WW G n E nL Q (pc + 1) lv (.int (fewL.getD i.toNatClampNeg 0) :: st) M) : WW G n E nL Q pc lv (.int i :: .ref (gF G) :: st) M := by
  obtain ⟨p, l, e, R, s, m, args, below, meth, c, ce, sl⟩ := E
  obtain ⟨hx, hb, hml, hown, hts, hlk, hK, hNW, hKC, hKS, hG, hgb⟩ := C
  exact fun H locs ls hR hS hl => va_ti hx hb hKC.2.2.2 hS hi rfl hd (k H locs ls hR hS hl)
theorem w_flen (C : Cx G n E own cc nL) (hd : decode cc pc = .ok (.arraylength, 1)) (k : WW G n E nL Q (pc + 1) lv (.int 8 :: st) M) : WW G n E nL Q pc lv (.ref (gF G) :: st) M := by
  obtain ⟨p, l, e, R, s, m, args, below, meth, c, ce, sl⟩ := E
  obtain ⟨hx, hb, hml, hown, hts, hlk, hK, hNW, hKC, hKS, hG, hgb⟩ := C
  exact fun H locs ls hR hS hl => va_tlen hx hb hKC.2.2.2 hS rfl hd (k H locs ls hR hS hl)
def sbat (i : Nat) (x : Int32) : Int32 := (sbyt.getD i []).getD x.toNatClampNeg 0
theorem w_sbald (C : Cx G n E own cc nL) {i : Nat} {x : Int32} (hi : i < 3) (hx : vp_in x (slen.getD i 0)) (hd : decode cc pc = .ok (.baload, 1)) (k : WW G n E nL Q (pc + 1) lv (.int (sbat i x) :: st) M) : WW G n E nL Q pc lv (.int x :: .ref (gV G i) :: st) M := by
  obtain ⟨p, l, e, R, s, m, args, below, meth, c, ce, sl⟩ := E
  obtain ⟨hxx, hb, hml, hown, hts, hlk, hK, hNW, hKC, hKS, hG, hgb⟩ := C
  exact fun H locs ls hR hS hl => va_tb hxx hb (hKC.1.1 i hi).2.2.2 hS hx rfl hd (k H locs ls hR hS hl)
theorem w_sblen (C : Cx G n E own cc nL) {i : Nat} (hi : i < 3) (hd : decode cc pc = .ok (.arraylength, 1)) (k : WW G n E nL Q (pc + 1) lv (.int (nI (slen.getD i 0)) :: st) M) : WW G n E nL Q pc lv (.ref (gV G i) :: st) M := by
  obtain ⟨p, l, e, R, s, m, args, below, meth, c, ce, sl⟩ := E
  obtain ⟨hxx, hb, hml, hown, hts, hlk, hK, hNW, hKC, hKS, hG, hgb⟩ := C
  exact fun H locs ls hR hS hl => va_tlen hxx hb (hKC.1.1 i hi).2.2.2 hS rfl hd (k H locs ls hR hS hl)
variable {y : MethodName} {code : ByteArray} {mL np f1 l1 ix : Nat} {ret : Option FieldType} {As : List Value} {Qc : Array Value → State → Outcome → State → Prop}
/-- a call of a text's own method -/
theorem run_VT (C : Cx G n E own cc nL) (HR : RM E fr lo) (mt : MT y code mL ret np) {i : Nat} (hyc : y.cls = "java/lang/String") (hi : i < 3) (hinst : Cond.instanceMethod y ∈ GW) (hsel : Cond.selects y.cls y y ∈ GW) (hlink : Cond.methodLink own ix y ∈ GW)
    (hroom : f1 + 1 ≤ fr ∧ 8 + (mL + 11) + l1 ≤ lo) (hn : As.length = np) (hst : (st.map fun v => v.category).sum ≤ 8) (hd : decode cc pc = .ok (.invokevirtual ix, 3)) {st0 : List Value} (hs0 : As.reverse ++ .ref (gK G i) :: st = st0)
    (hM : Ct G n E.2.1 y code mL ret f1 l1 (.ref (gK G i) :: As) M Qc) : RunW G n E nL pc lv st0 st M (Qc (Value.ref (gK G i) :: As).toArray) := by
  obtain ⟨p, l, e, R, s, m, args, below, meth, c, ce, sl⟩ := E
  obtain ⟨hx, hb, hml, hown, hts, hlk, hK, hNW, hKC, hKS, hG, hgb⟩ := C
  obtain ⟨rfl, rfl, hce, hsl⟩ := HR
  intro H locs ls hR hS hl
  have hp := pre_ok hK hNW hKC hKS hG hgb hR hS (.ref (gK G i) :: As)
  subst hs0
  exact va_runV (Ts := GW) (own := own) ⟨hx, hb, hml, hown, hts⟩ hM ⟨callB_of np hts (gw_in mt.1) rfl rfl rfl (hts _ mt.2.1) (hts _ hlink) mt.2.2 hroom, hts _ hinst, hts _ hsel⟩ ⟨hp.1, by rw [hyc]; exact vk_recv hKC.1 hi hS, hp.2⟩ rfl hn hl.1 rfl (lv_room hst) hd ⟨hce, hsl⟩
end R9
