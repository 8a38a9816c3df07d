/-! CALLS AND CONTRACTS -/
def RM (E : EE) (fr lo : Nat) : Prop := match E with
  | (p, l, e, R, s, m, args, below, meth, c, ce, sl) => R.frames = fr ∧ R.locals = lo ∧ ce ≤ R.cells ∧ sl ≤ R.slots
def RT (E : EE) (ret : Option FieldType) : Prop := match E with
  | (p, l, e, R, s, m, args, below, meth, c, ce, sl) => meth.sig.returnType = ret
def QE (G : GG) (E : EE) (Qc : Array Value → State → Outcome → State → Prop) : State → Prop := match E with
  | (p, l, e, R, s, m, args, below, meth, c, ce, sl) => MQ below Qc args s ce sl (gA G)
abbrev Qi (G : GG) (n : Nat) (Q : Int32 → Mem → Prop) : Array Value → State → Outcome → State → Prop := va_Qi Q (fun u t => Rep G n u t.heap) (gA G)
abbrev Ql (G : GG) (n : Nat) (Q : Int64 → Mem → Prop) : Array Value → State → Outcome → State → Prop := va_Ql Q (fun u t => Rep G n u t.heap) (gA G)
abbrev Qv (G : GG) (n : Nat) (Q : Mem → Prop) : Array Value → State → Outcome → State → Prop := va_Qv Q (fun u t => Rep G n u t.heap) (gA G)
abbrev Qr (G : GG) (n kd : Nat) (Q : Option Nat → Mem → Prop) : Array Value → State → Outcome → State → Prop := va_Qq (fun (a : Option Nat) (u : Mem) => ∃ r : Option Nat, a = r.map (gad G kd) ∧ Q r u ∧ ∀ j, r = some j → j < cnt n kd) (fun u t => Rep G n u t.heap) (gA G)
abbrev Ct (G : GG) (n : Nat) (l : Launch) (y : MethodName) (code : ByteArray) (mL : Nat) (ret : Option FieldType) (fr lo : Nat) (av : List Value) (M : Mem) (Qc : Array Value → State → Outcome → State → Prop) : Prop :=
  Met l y (Cond.code y code mL ret :: GW) ({ frames := fr, cells := 0, slots := 0, locals := lo }) (va_Pc av (PreM G n M)) Qc 0 0 (gA G)
theorem ct_of {G : GG} {n : Nat} {l : Launch} {y : MethodName} {code : ByteArray} {mL : Nat} {ret : Option FieldType} {fr lo : Nat} {av : List Value} {lv : List (Nat × Value)} {M : Mem} {Qc : Array Value → State → Outcome → State → Prop} (hy : plainName y.cls = true) (hlen : (lg_sl av).length ≤ mL) (hlv : lv_args 0 av = lv)
    (body : ∀ E : EE, Cx G n E y.cls code mL → RM E fr lo → RT E ret → E.2.1 = l → WW G n E mL (QE G E Qc) 0 lv [] M) : Ct G n l y code mL ret fr lo av M Qc := by
  refine Met.ofW (cc := code) (maxL := mL) (ret := ret) hy rfl ?_
  intro p e s m args below meth c s₁ B hml hv
  obtain ⟨rfl, hR, hK, hNW, hKC, hKS, hG, hgb⟩ := hv
  have hts := atoms_spec (ws := Cond.code y code mL ret :: GW) B.pre
  have h := body (p, l, e, ({ frames := fr, cells := 0, slots := 0, locals := lo } : Room), s, m, av.toArray, below, meth, c, 0, 0)
    ⟨B.exec, B.bytes, hml, findClass_of_methodNamed B.named, fun w hw => hts w (List.mem_cons_of_mem _ hw), B.notSynchronized, hK, hNW, hKC, hKS, hG, hgb⟩ ⟨rfl, rfl, Nat.le_refl _, Nat.le_refl _⟩ B.returns rfl
  have hl := lv_entry av (n := mL) hlen
  rw [lg_entry_eq]
  rw [hlv] at hl
  exact h s.heap [] _ hR va_S.rf hl
theorem pre_ok {G : GG} {n : Nat} {M : Mem} {s : State} {H : Heap} {locs : List Loc} (hK : va_K (gC G, gI G) vwCl (tysG G) s) (hNW : ∀ w ∈ NW, va_Nw w s) (hKC : KC G s s.heap) (hKS : KS G s) (hG : GOK G n) (hgb : gb G ≤ s.heap.size) (hR : Rep G n M H) (hS : va_S (gA G) s.heap H locs) (av : List Value) : PreS s H (va_Pc av (PreM G n M)) av := by
  refine ⟨fun a U g mk q => ?_, fun U hU hW => ?_⟩
  · obtain ⟨q0, q1, q2, q3, q4, q5, q6, q7⟩ := q
    exact ⟨q0, q1, va_K.moved (u := U) (U := U.calling g mk a) (Vm.Alike.refl U.vm) q2, fun w hw => NW_same (s := U) hw rfl (q3 w hw), KC.moved (u := U) (U := U.calling g mk a) (Vm.Alike.refl U.vm) q4, KS.same (s := U) (U := U.calling g mk a) rfl q5, q6, q7⟩
  · subst hU
    exact ⟨rfl, hR, va_K.moved hW.alike hK, fun w hw => NW_warm hw hW (hNW w hw), (hKC.kept hS.2.1).moved hW.alike, hKS.warm hW, hG, Nat.le_trans hgb hS.1⟩
def MT (y : MethodName) (code : ByteArray) (mL : Nat) (ret : Option FieldType) (np : Nat) : Prop := Cond.code y code mL ret ∈ GW ∧ Cond.initialized y.cls ∈ GW ∧ (y.cls ≠ "java/lang/invoke/MethodHandle" ∧ y.cls ≠ "java/lang/invoke/VarHandle" ∧ (parseMethodDescriptor y.desc).map (fun d => d.parameters.length) = some np)
theorem GW_good {w : Cond} (h : w ∈ GW) : (w.onTables && w.keeps) = true ∨ ∃ ty, w = .arrayClass ty := good_of_word (List.mem_filter.mp h).2
theorem gw_in {c : Cond} (h : c ∈ GW) : GoodIn GW (c :: GW) := fun w hw => by
  rcases List.mem_cons.mp hw with rfl | hw
  · exact ⟨h, GW_good h⟩
  · exact ⟨hw, GW_good hw⟩
theorem Rep.at {G : GG} {n : Nat} {M : Mem} {H : Heap} {t : State} (hR : Rep G n M H) (ht : t.heap = H) : Rep G n M t.heap := ht ▸ hR
def RunW (G : GG) (n : Nat) (E : EE) (nL : Nat) (pc : Nat) (lv : List (Nat × Value)) (st0 rest : List Value) (M : Mem) (Qa : State → Outcome → State → Prop) : Prop := match E with
  | (p, l, e, R, s, m, args, below, meth, c, ce, sl) => ∀ (H : Heap) (locs : List Loc) (ls : Array Slot), Rep G n M H → va_S (gA G) s.heap H locs → lv_has ls nL lv → va_Run p l e R s m args below meth c H locs ce sl 0 0 (F0 m pc ls st0) rest Qa (gA G)
section CROWS
variable {G : GG} {n : Nat} {E : EE} {own : String} {cc : ByteArray} {nL : Nat} {Q : State → Prop} {pc : Nat} {lv : List (Nat × Value)} {st : List Value} {M : Mem} {fr lo : Nat}
  {y : MethodName} {code : ByteArray} {mL np f1 l1 ix : Nat} {ret : Option FieldType} {As : List Value} {Qc : Array Value → State → Outcome → State → Prop}
theorem recv_ok {s : State} {H : Heap} {Cn : String} {T : u_T} {N ci j : Nat} (hK : va_K (gC G, gI G) vwCl (tysG G) s) (hR : Rep G n M H) (hc : vwCl[ci]? = some (Cn, T, N)) (hci : ci < 11) (hj : j < cnt n ci) : ∃ cell : Cell, H[gad G ci j]? = some cell ∧ cell.vm.isStatics = false ∧ s.vm.findClass Cn = some cell.cls := by
  obtain ⟨cell, q1, q2, q3, q4⟩ := hR.2.2.1 ci j hci hj
  exact ⟨cell, q1, by rw [q3]; rfl, by rw [q2]; exact (hK.1 ci _ hc).2.1⟩
theorem run_V (C : Cx G n E own cc nL) (HR : RM E fr lo) (mt : MT y code mL ret np) {T : u_T} {N ci j : Nat} (hc : vwCl[ci]? = some (y.cls, T, N)) (hci : ci < 11) (hj : j < cnt n ci) (hinst : Cond.instanceMethod y ∈ GW) (hsel : Cond.selects y.cls y y ∈ GW) (hlink : Cond.methodLink own ix y ∈ GW)
    (hroom : f1 + 1 ≤ fr ∧ 8 + (mL + 11) + l1 ≤ lo) (hn : As.length = np) (hst : (st.map fun v => v.category).sum ≤ 8) (hd : decode cc pc = .ok (.invokevirtual ix, 3)) {st0 : List Value} (hs0 : As.reverse ++ .ref (gad G ci j) :: st = st0)
    (hM : Ct G n E.2.1 y code mL ret f1 l1 (.ref (gad G ci j) :: As) M Qc) : RunW G n E nL pc lv st0 st M (Qc (Value.ref (gad G ci j) :: As).toArray) := by
  obtain ⟨p, l, e, R, s, m, args, below, meth, c, ce, sl⟩ := E
  obtain ⟨hx, hb, hml, hown, hts, hlk, hK, hNW, hKC, hKS, hG, hgb⟩ := C
  obtain ⟨rfl, rfl, hce, hsl⟩ := HR
  intro H locs ls hR hS hl
  have hp := pre_ok hK hNW hKC hKS hG hgb hR hS (.ref (gad G ci j) :: As)
  subst hs0
  exact va_runV (Ts := GW) (own := own) ⟨hx, hb, hml, hown, hts⟩ hM ⟨callB_of np hts (gw_in mt.1) rfl rfl rfl (hts _ mt.2.1) (hts _ hlink) mt.2.2 hroom, hts _ hinst, hts _ hsel⟩ ⟨hp.1, recv_ok hK hR hc hci hj, hp.2⟩ rfl hn hl.1 rfl (lv_room hst) hd ⟨hce, hsl⟩
theorem run_VN (C : Cx G n E own cc nL) (HR : RM E fr lo) (mt : MT y code mL ret np) {T : u_T} {N ci j : Nat} {host : String} (hc : vwCl[ci]? = some (y.cls, T, N)) (hci : ci < 11) (hj : j < cnt n ci) (hinst : Cond.instanceMethod y ∈ GW) (hsel : Cond.selects y.cls y y ∈ GW) (hlink : Cond.methodLinkNest own ix y host ∈ NW)
    (hroom : f1 + 1 ≤ fr ∧ 8 + (mL + 11) + l1 ≤ lo) (hn : As.length = np) (hst : (st.map fun v => v.category).sum ≤ 8) (hd : decode cc pc = .ok (.invokevirtual ix, 3)) {st0 : List Value} (hs0 : As.reverse ++ .ref (gad G ci j) :: st = st0)
    (hM : Ct G n E.2.1 y code mL ret f1 l1 (.ref (gad G ci j) :: As) M Qc) : RunW G n E nL pc lv st0 st M (Qc (Value.ref (gad G ci j) :: As).toArray) := by
  obtain ⟨p, l, e, R, s, m, args, below, meth, c, ce, sl⟩ := E
  obtain ⟨hx, hb, hml, hown, hts, hlk, hK, hNW, hKC, hKS, hG, hgb⟩ := C
  obtain ⟨rfl, rfl, hce, hsl⟩ := HR
  intro H locs ls hR hS hl
  have hp := pre_ok hK hNW hKC hKS hG hgb hR hS (.ref (gad G ci j) :: As)
  subst hs0
  exact va_runVN (Ts := GW) (own := own) ⟨hx, hb, hml, hown, hts⟩ hM ⟨va_cnB np hts (gw_in mt.1) rfl rfl rfl (hNW _ hlink) (hts _ mt.2.1) mt.2.2 hroom, hts _ hinst, hts _ hsel⟩ ⟨hp.1, recv_ok hK hR hc hci hj, hp.2⟩ rfl hn hl.1 rfl (lv_room hst) hd ⟨hce, hsl⟩
theorem run_S (C : Cx G n E own cc nL) (HR : RM E fr lo) (mt : MT y code mL ret np) (hstat : Cond.static y ∈ GW) (hlink : Cond.methodLink own ix y ∈ GW)
    (hroom : f1 + 1 ≤ fr ∧ 8 + (mL + 11) + l1 ≤ lo) (hn : As.length = np) (hst : (st.map fun v => v.category).sum ≤ 8) (hd : decode cc pc = .ok (.invokestatic ix, 3)) {st0 : List Value} (hs0 : As.reverse ++ st = st0)
    (hM : Ct G n E.2.1 y code mL ret f1 l1 As M Qc) : RunW G n E nL pc lv st0 st M (Qc As.toArray) := by
  obtain ⟨p, l, e, R, s, m, args, below, meth, c, ce, sl⟩ := E
  obtain ⟨hx, hb, hml, hown, hts, hlk, hK, hNW, hKC, hKS, hG, hgb⟩ := C
  obtain ⟨rfl, rfl, hce, hsl⟩ := HR
  intro H locs ls hR hS hl
  have hp := pre_ok hK hNW hKC hKS hG hgb hR hS As
  subst hs0
  exact va_runS (Ts := GW) (own := own) ⟨hx, hb, hml, hown, hts⟩ hM ⟨callB_of np hts (gw_in mt.1) rfl rfl rfl (hts _ mt.2.1) (hts _ hlink) mt.2.2 hroom, hts _ hstat⟩ hp rfl hn hl.1 rfl (lv_room hst) hd ⟨hce, hsl⟩
theorem run_SN (C : Cx G n E own cc nL) (HR : RM E fr lo) (mt : MT y code mL ret np) {host : String} (hstat : Cond.static y ∈ GW) (hlink : Cond.methodLinkNest own ix y host ∈ NW)
    (hroom : f1 + 1 ≤ fr ∧ 8 + (mL + 11) + l1 ≤ lo) (hn : As.length = np) (hst : (st.map fun v => v.category).sum ≤ 8) (hd : decode cc pc = .ok (.invokestatic ix, 3)) {st0 : List Value} (hs0 : As.reverse ++ st = st0)
    (hM : Ct G n E.2.1 y code mL ret f1 l1 As M Qc) : RunW G n E nL pc lv st0 st M (Qc As.toArray) := by
  obtain ⟨p, l, e, R, s, m, args, below, meth, c, ce, sl⟩ := E
  obtain ⟨hx, hb, hml, hown, hts, hlk, hK, hNW, hKC, hKS, hG, hgb⟩ := C
  obtain ⟨rfl, rfl, hce, hsl⟩ := HR
  intro H locs ls hR hS hl
  have hp := pre_ok hK hNW hKC hKS hG hgb hR hS As
  subst hs0
  exact va_runSN (Ts := GW) (own := own) ⟨hx, hb, hml, hown, hts⟩ hM ⟨va_cnB np hts (gw_in mt.1) rfl rfl rfl (hNW _ hlink) (hts _ mt.2.1) mt.2.2 hroom, hts _ hstat, trivial⟩ hp rfl hn hl.1 rfl (lv_room hst) hd ⟨hce, hsl⟩
variable {st0 : List Value} {a : Array Value}
theorem back_I {Q1 : Int32 → Mem → Prop} (hr : RunW G n E nL pc lv st0 st M (Qi G n Q1 a)) (k : ∀ (r : Int32) (u : Mem), Q1 r u → WW G n E nL Q (pc + 3) lv (.int r :: st) u) : WW G n E nL Q pc lv st0 M := by
  obtain ⟨p, l, e, R, s, m, args, below, meth, c, ce, sl⟩ := E
  intro H locs ls hR hS hl
  exact va_calli (hr H locs ls hR hS hl) hS (fun q _ h => h) (fun q h => h) (fun r u t H1 locs1 ht hvm hw hB hz hk hS1 => by subst ht; exact k r u hw t.heap locs1 ls hB hS1 hl)
theorem back_L {Q1 : Int64 → Mem → Prop} (hr : RunW G n E nL pc lv st0 st M (Ql G n Q1 a)) (k : ∀ (r : Int64) (u : Mem), Q1 r u → WW G n E nL Q (pc + 3) lv (.long r :: st) u) : WW G n E nL Q pc lv st0 M := by
  obtain ⟨p, l, e, R, s, m, args, below, meth, c, ce, sl⟩ := E
  intro H locs ls hR hS hl
  exact va_calll (hr H locs ls hR hS hl) hS (fun q _ h => h) (fun q h => h) (fun r u t H1 locs1 ht hvm hw hB hz hk hS1 => by subst ht; exact k r u hw t.heap locs1 ls hB hS1 hl)
theorem back_V {Q1 : Mem → Prop} (hr : RunW G n E nL pc lv st0 st M (Qv G n Q1 a)) (k : ∀ (u : Mem), Q1 u → WW G n E nL Q (pc + 3) lv st u) : WW G n E nL Q pc lv st0 M := by
  obtain ⟨p, l, e, R, s, m, args, below, meth, c, ce, sl⟩ := E
  intro H locs ls hR hS hl
  exact va_callv (hr H locs ls hR hS hl) hS (fun q _ h => h) (fun q h => h) (fun u t H1 locs1 ht hvm hw hB hz hk hS1 => by subst ht; exact k u hw t.heap locs1 ls hB hS1 hl)
theorem back_R {kd : Nat} {Q1 : Option Nat → Mem → Prop} (hr : RunW G n E nL pc lv st0 st M (Qr G n kd Q1 a)) (k0 : ∀ (u : Mem), Q1 none u → WW G n E nL Q (pc + 3) lv (.null :: st) u) (k1 : ∀ (j : Nat) (u : Mem), j < cnt n kd → Q1 (some j) u → WW G n E nL Q (pc + 3) lv (.ref (gad G kd j) :: st) u) : WW G n E nL Q pc lv st0 M := by
  obtain ⟨p, l, e, R, s, m, args, below, meth, c, ce, sl⟩ := E
  intro H locs ls hR hS hl
  refine va_callq (hr H locs ls hR hS hl) hS (fun q _ h => h) (fun q h => h) (fun r u t H1 locs1 ht hvm hw hB hz hk hS1 => ?_)
  subst ht
  obtain ⟨r0, rfl, hq, hv⟩ := hw
  cases r0 with
  | none => exact k0 u hq t.heap locs1 ls hB hS1 hl
  | some j => exact k1 j u (hv j rfl) hq t.heap locs1 ls hB hS1 hl
theorem ret_I (C : Cx G n E own cc nL) (HT : RT E (some .int)) {v : Int32} {Q1 : Int32 → Mem → Prop} (hq : Q1 v M) (hd : decode cc pc = .ok (.ireturn, 1)) : WW G n E nL (QE G E (Qi G n Q1)) pc lv [.int v] M := by
  obtain ⟨p, l, e, R, s, m, args, below, meth, c, ce, sl⟩ := E
  intro H locs ls hR hS hl
  exact W.iret C.1 C.2.1 HT (fun t ht hW => ⟨⟨v, M, rfl, hq, hR.at ht⟩, hS.F ht⟩) hS.2.2 hd C.2.2.2.2.2.1
theorem ret_Z (C : Cx G n E own cc nL) {ty : FieldType} (HT : RT E (some ty)) {v : Int32} (hn : narrow ty (.int v) = .int v) {Q1 : Int32 → Mem → Prop} (hq : Q1 v M) (hd : decode cc pc = .ok (.ireturn, 1)) : WW G n E nL (QE G E (Qi G n Q1)) pc lv [.int v] M := by
  obtain ⟨p, l, e, R, s, m, args, below, meth, c, ce, sl⟩ := E
  intro H locs ls hR hS hl
  exact W.zret C.1 C.2.1 HT hn (fun t ht hW => ⟨⟨v, M, rfl, hq, hR.at ht⟩, hS.F ht⟩) hS.2.2 hd C.2.2.2.2.2.1
theorem ret_L (C : Cx G n E own cc nL) (HT : RT E (some .long)) {v : Int64} {Q1 : Int64 → Mem → Prop} (hq : Q1 v M) (hd : decode cc pc = .ok (.lreturn, 1)) : WW G n E nL (QE G E (Ql G n Q1)) pc lv [.long v] M := by
  obtain ⟨p, l, e, R, s, m, args, below, meth, c, ce, sl⟩ := E
  intro H locs ls hR hS hl
  exact W.lret C.1 C.2.1 HT (fun t ht hW => ⟨⟨v, M, rfl, hq, hR.at ht⟩, hS.F ht⟩) hS.2.2 hd C.2.2.2.2.2.1
theorem ret_V (C : Cx G n E own cc nL) (HT : RT E none) {Q1 : Mem → Prop} (hq : Q1 M) (hd : decode cc pc = .ok (.return_, 1)) : WW G n E nL (QE G E (Qv G n Q1)) pc lv [] M := by
  obtain ⟨p, l, e, R, s, m, args, below, meth, c, ce, sl⟩ := E
  intro H locs ls hR hS hl
  exact W.vret C.1 C.2.1 HT (fun t ht hW => ⟨⟨M, rfl, hq, hR.at ht⟩, hS.F ht⟩) hS.2.2 hd C.2.2.2.2.2.1
theorem ret_R (C : Cx G n E own cc nL) {s1 : String} (HT : RT E (some (.object s1))) {kd j : Nat} (hj : j < cnt n kd) {Q1 : Option Nat → Mem → Prop} (hq : Q1 (some j) M) (hd : decode cc pc = .ok (.areturn, 1)) : WW G n E nL (QE G E (Qr G n kd Q1)) pc lv [.ref (gad G kd j)] M := by
  obtain ⟨p, l, e, R, s, m, args, below, meth, c, ce, sl⟩ := E
  intro H locs ls hR hS hl
  exact W.aret C.1 C.2.1 HT (Or.inl ⟨_, rfl⟩) (Or.inr ⟨_, rfl⟩) (fun t ht hW => ⟨⟨some (gad G kd j), M, rfl, ⟨some j, rfl, hq, fun j' e => by cases e; exact hj⟩, hR.at ht⟩, hS.F ht⟩) hS.2.2 hd C.2.2.2.2.2.1
theorem ret_N (C : Cx G n E own cc nL) {s1 : String} (HT : RT E (some (.object s1))) {kd : Nat} {Q1 : Option Nat → Mem → Prop} (hq : Q1 none M) (hd : decode cc pc = .ok (.areturn, 1)) : WW G n E nL (QE G E (Qr G n kd Q1)) pc lv [.null] M := by
  obtain ⟨p, l, e, R, s, m, args, below, meth, c, ce, sl⟩ := E
  intro H locs ls hR hS hl
  exact W.aret C.1 C.2.1 HT (Or.inl ⟨_, rfl⟩) (Or.inl rfl) (fun t ht hW => ⟨⟨none, M, rfl, ⟨none, rfl, hq, fun j' e => by cases e⟩, hR.at ht⟩, hS.F ht⟩) hS.2.2 hd C.2.2.2.2.2.1
/-- System.arraycopy of ints -/
theorem w_acopy (C : Cx G n E own cc nL) (HR : RM E fr lo) {k0 j0 k1 j1 : Nat} {sp dp z : Int32} (h1 : 20 ≤ k0) (h2 : k0 < 87) (h3 : ek k0 = 0) (h4 : atc k0 = 0) (h5 : j0 < cnt n k0) (h1' : 20 ≤ k1) (h2' : k1 < 87) (h3' : ek k1 = 0) (h4' : atc k1 = 0) (h5' : j1 < cnt n k1)
    (hlink : Cond.methodLink own ix arraycopyName ∈ GW) (hnat : Cond.native arraycopyName ∈ GW) (hstat : Cond.static arraycopyName ∈ GW) (hini : Cond.initialized "java/lang/System" ∈ GW)
    (g1 : ¬ sp < 0) (g2 : ¬ dp < 0) (g3 : ¬ z < 0) (g4 : sp.toNatClampNeg + z.toNatClampNeg ≤ alen k0) (g5 : dp.toNatClampNeg + z.toNatClampNeg ≤ alen k1)
    (hfr : 1 ≤ fr) (hlo : (st.map fun v => v.category).sum + (nativeFrameWords "java/lang/System" "arraycopy" 5 + 11) ≤ lo) (hd : decode cc pc = .ok (.invokestatic ix, 3))
    (k : WW G n E nL Q (pc + 3) lv st (mcp M k1 j1 dp.toNatClampNeg k0 j0 sp.toNatClampNeg z.toNatClampNeg)) : WW G n E nL Q pc lv (.int z :: .int dp :: .ref (gad G k1 j1) :: .int sp :: .ref (gad G k0 j0) :: st) M := by
  obtain ⟨p, l, e, R, s, m, args, below, meth, c, ce, sl⟩ := E
  obtain ⟨hx, hb, hml, hown, hts, hlk, hK, hNW, hKC, hKS, hG, hgb⟩ := C
  obtain ⟨rfl, rfl, hce, hsl⟩ := HR
  intro H locs ls hR hS hl
  have a0 := hR.arr h1 h2 h5
  have a1 := hR.arr h1' h2' h5'
  rw [h4] at a0
  rw [h4'] at a1
  have e0 : arrV (gR G 0) (alen k0) (fun i => av G n M k0 j0 i) = vp_cell (gR G 0) (alen k0, .inl (M k0 j0)) := by
    rw [vp_cell_i]; congr 1; funext i; exact av_int h3
  have e1 : arrV (gR G 0) (alen k1) (fun i => av G n M k1 j1 i) = vp_cell (gR G 0) (alen k1, .inl (M k1 j1)) := by
    rw [vp_cell_i]; congr 1; funext i; exact av_int h3'
  rw [e0] at a0
  rw [e1] at a1
  have nn : ∀ q : Int32, ¬ q < 0 → q.toInt = (q.toNatClampNeg : Int) := by
    intro q hq
    have hz0 : (0 : Int) ≤ q.toInt := by
      have := Int32.not_lt.mp hq
      simpa using Int32.le_iff_toInt_le.mp this
    show q.toInt = ((q.toInt.toNat : Nat) : Int)
    omega
  intro T hT X
  obtain ⟨-, kc0, hk0, cm0, hkk0⟩ := (hK.2 0 (gR G 0, .int) rfl).1 (alen k0) (fun j => .int (M k0 j0 j))
  obtain ⟨-, kc1, hk1, cm1, hkk1⟩ := (hK.2 0 (gR G 0, .int) rfl).1 (alen k1) (fun j => .int (M k1 j1 j))
  obtain ⟨vm', X', step⟩ := X.arraycopy hx hown (hts _ hlink) (hts _ hnat) (hts _ hstat) (hts _ hini) (src := gad G k0 j0) (dst := gad G k1 j1) (cs := vp_cell (gR G 0) (alen k0, .inl (M k0 j0))) (cd := vp_cell (gR G 0) (alen k1, .inl (M k1 j1))) (srcPos := sp) (destPos := dp) (n := z) (by rw [hT]; exact a0) (by rw [hT]; exact a1)
    (fun _ h => by cases h) (fun _ h => by cases h) (fun h => by cases h) (fun h => by cases h) hk0 hk1 hkk0 hkk1 (by simp [refKind]) g1 g2 g3
    (by rw [nn sp g1, nn z g3]; show ¬ _ > ((arrV (gR G 0) (alen k0) (fun j => .int (M k0 j0 j))).slots.size : Int); rw [arrV_size]; omega)
    (by rw [nn dp g2, nn z g3]; show ¬ _ > ((arrV (gR G 0) (alen k1) (fun j => .int (M k1 j1 j))).slots.size : Int); rw [arrV_size]; omega)
    (fun vm₁ _ i hi => by
      have e : (vp_cell (gR G 0) (alen k0, .inl (M k0 j0))).slots.getD (sp.toNatClampNeg + i) .null = .int (M k0 j0 (sp.toNatClampNeg + i)) := by
        show (arrV (gR G 0) (alen k0) (fun j => .int (M k0 j0 j))).slots.getD _ _ = _
        rw [Array.getD_eq_getD_getElem?, arrV_read _ _ (by omega)]
        rfl
      refine ⟨?_, ?_⟩
      · rw [e]
        rfl
      · rw [e]
        exact trivial)
    (g := F0 m pc ls (.int z :: .int dp :: .ref (gad G k1 j1) :: .int sp :: .ref (gad G k0 j0) :: st)) rfl (hl.1.trans hml.symm) (rest := st) rfl (by rw [hb]; exact hd) hfr (by show 2 * 0 + _ + _ ≤ _; omega)
  have ec : copied (vp_cell (gR G 0) (alen k0, .inl (M k0 j0))) (vp_cell (gR G 0) (alen k1, .inl (M k1 j1))) sp dp z = vp_cell (gR G 0) (alen k1, .inl (va_cpy (M k0 j0) (M k1 j1) sp.toNatClampNeg dp.toNatClampNeg z.toNatClampNeg)) := va_copied (fun z => .int z) (gR G 0) (gR G 0) (M k0 j0) (M k1 j1) g4
  rw [ec] at X' step
  have hlt : gad G k1 j1 < H.size := (Array.getElem?_eq_some_iff.mp a1).1
  generalize hcell : vp_cell (gR G 0) (alen k1, .inl (va_cpy (M k0 j0) (M k1 j1) sp.toNatClampNeg dp.toNatClampNeg z.toNatClampNeg)) = cell at X' step
  have hheap : ((T.setVm vm').setCell (gad G k1 j1) cell).heap = H.setIfInBounds (gad G k1 j1) cell := by rw [← hT]; rfl
  have oq : ∀ q : Nat, q ≠ gad G k1 j1 → (H.setIfInBounds (gad G k1 j1) cell)[q]? = H[q]? := fun q hq => by simp [Array.getElem?_setIfInBounds, Ne.symm hq]
  have hRn : Rep G n (mcp M k1 j1 dp.toNatClampNeg k0 j0 sp.toNatClampNeg z.toNatClampNeg) (H.setIfInBounds (gad G k1 j1) cell) := by
    refine Rep.putA hG hR h1' h2' h5' h3' (fun k' e => mcp_ne e) (fun j' i' e => by rw [mcp_k, if_neg (fun q => e q.1)]) ?_ oq
    rw [h4', ← hcell, vp_cell_i]
    have : (fun i => Value.int (va_cpy (M k0 j0) (M k1 j1) sp.toNatClampNeg dp.toNatClampNeg z.toNatClampNeg i)) = fun i => .int (mcp M k1 j1 dp.toNatClampNeg k0 j0 sp.toNatClampNeg z.toNatClampNeg k1 j1 i) := by
      funext i
      rw [mcp_k]
      simp [va_cpy]
    rw [← this]
    simp [Array.getElem?_setIfInBounds, hlt]
  obtain ⟨t, b1, b2⟩ := k _ _ ls hRn ⟨by simp; exact hS.1, fun q w1 w2 => by
      rw [oq q (fun e => w2 (by rw [e]; exact hG.2 k1 j1 h2' h5'))]
      exact hS.2.1 q w1 w2, fun q hq => by
      rcases List.mem_append.mp hq with h | h
      · exact hS.2.2 q h
      · obtain ⟨z', -, hz⟩ := List.mem_map.mp h
        rw [← hz]
        exact hG.2 k1 j1 h2' h5'⟩ hl _ hheap X'
  exact ⟨t, step t b1, b2⟩
end CROWS
