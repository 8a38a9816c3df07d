/-! THE CLAIM OUT OF ONE WALK OF THE LAW'S BODY. Your part is whole_start (and what it stands on); all else here is the same for every law, but numbers. -/
def R_law : String := "TrueLedgerLaw"
def lw_P (b : Addr) (xs : List Int32) (args : Array Value) (s : State) : Prop := args = #[.ref b] ∧ s.IntsAt b xs ∧ xs.length ≤ 3584 ∧ (Jvm.Cond.and given_1 narrow_1).before args s = true
def lw_Q (_ : Array Value) (s : State) (o : Outcome) (t : State) : Prop := o = .returned (some (.int 1)) ∧ Framed s o t [] 600000 7302250
def lw_Z (below : List Frame) (a : Array Value) (s : State) : State → Prop := fun t => ∃ o, t.status = .running ∧ Ended t below o ∧ lw_Q a s o t
/-- the law's own end, with 1 on the stack, nothing written that was there before, its room as the claim has it -/
theorem lw_ret {p : Program} {l : Launch} {e : Env} {s : State} {m : MethodId} {below : List Frame} {meth : Method} {c : Code} {b : Nat} (hx : p.tables.exec = Jvm.exec) (hb : c.code = code) (hr : meth.sig.returnType = ret) (hlocks : meth.locks = false) {pc : Nat} {H : Heap} {ls : Array Slot} (hdg : decode code pc = .ok (.ireturn, 1)) : W p l e room_1 s m #[Value.ref b] below meth c H [] 600000 7302250 (lw_Z below #[Value.ref b] s) (F0 m pc ls [.int 1]) := by
  intro T hT X
  obtain ⟨fs, hret, hrun, hended, hW, hframe⟩ := X.leave (v := some (.int 1)) (hlocks := hlocks) (fun h => by rw [hr] at h; cases h)
  have hmeth' : T.vm.method? m = some meth := X.method'
  refine ⟨T.setFrames fs, ?_, .returned (some (.int 1)), hrun, hended, rfl, ⟨_, rfl⟩, hW, hframe⟩
  jvm_step X.here [X.here.top, hx, hb, hdg, hmeth', hr, ret, narrow_b1]
  (try refine ⟨rfl, ?_⟩); (try refine ⟨rfl, ?_⟩)
  first | (intro acts; rw [hret _ acts rfl rfl rfl]) | rw [hret _ _ rfl rfl rfl]
  exact Steps.refl _
/-- what holds at the law's entry: the machine, the code, the tables' words (any of lw_tbl by 'hts w (by decide +kernel)'), the script of L ints xs at the cell b, what the Statement gives of the start (any of its parts by flat_of_before) -/
def lw_At (p : Program) (s : State) (m : MethodId) (meth : Method) (c : Code) (b L : Nat) (xs : Nat → Int32) : Prop :=
  p.tables.exec = Jvm.exec ∧ c.code = code ∧ meth.sig.returnType = ret ∧ c.maxLocals = 4 ∧ s.vm.findClass R_law = some m.cls ∧ (∀ w ∈ lw_tbl, w.before #[Value.ref b] s = true) ∧ va_X b L xs s s.heap ∧ b < s.heap.size ∧ meth.locks = false ∧ (Jvm.Cond.and given_1 narrow_1).before #[Value.ref b] s = true
/-! THE LAW: rows of its own -/
def SX (G : GG) (E : EE) (b L : Nat) (xs : Nat → Int32) : Prop := match E with
  | (p, l, e, R, s, m, args, below, meth, c, ce, sl) => va_X b L xs s s.heap ∧ b < s.heap.size ∧ gb G = s.heap.size ∧ AO4 s
abbrev LV (G : GG) (b t : Nat) : List (Nat × Value) := [(0, .ref b), (1, .ref (gad G 9 0)), (2, .ref (gad G 10 0)), (3, .int (nI (7 * t)))]
theorem lg_same {x : Int64} : lg_cmp x x = 0 := by
  unfold lg_cmp
  rw [if_neg (fun h => absurd h (Int64.lt_irrefl)), if_pos rfl]
section LROWS
variable {G : GG} {n : Nat} {E : EE} {own : String} {cc : ByteArray} {nL : Nat} {Q : State → Prop} {pc : Nat} {lv : List (Nat × Value)} {st : List Value} {M : Mem} {b L t : Nat} {xs : Nat → Int32}
theorem w_sld (C : Cx G n E own cc nL) (X : SX G E b L xs) {i : Int32} (hi : vp_in i L) (hd : decode cc pc = .ok (.iaload, 1)) (k : WW G n E nL Q (pc + 1) lv (.int (xs i.toNatClampNeg) :: st) M) : WW G n E nL Q pc lv (.int i :: .ref b :: st) M := by
  obtain ⟨p, l, e, R, s, m, args, below, meth, c, ce, sl⟩ := E
  obtain ⟨x1, x2, x3, x4⟩ := X
  exact fun H locs ls hR hS hl => va_sld C.1 C.2.1 x1 x2 (A := gA G) (fun q => by have : gb G ≤ b := q; omega) hS hi hd (k H locs ls hR hS hl)
theorem w_slen (C : Cx G n E own cc nL) (X : SX G E b L xs) (hd : decode cc pc = .ok (.arraylength, 1)) (k : WW G n E nL Q (pc + 1) lv (.int (nI L) :: st) M) : WW G n E nL Q pc lv (.ref b :: st) M := by
  obtain ⟨p, l, e, R, s, m, args, below, meth, c, ce, sl⟩ := E
  obtain ⟨x1, x2, x3, x4⟩ := X
  exact fun H locs ls hR hS hl => va_slen C.1 C.2.1 x1 x2 (A := gA G) (fun q => by have : gb G ≤ b := q; omega) hS hd (k H locs ls hR hS hl)
theorem w_arg (C : Cx G n E own cc nL) (X : SX G E b L xs) (hL : L ≤ 3584) (ht : 7 * t + 7 ≤ L) {a : Nat} {z : Int} (ha : a < 7) (hz : Int32.ofInt z = nI a) (d0 : decode cc pc = .ok (.aload_n 0, 1)) (d1 : decode cc (pc + 1) = .ok (.iload_n 3, 1)) (d2 : decode cc (pc + 1 + 1) = .ok (.iconst z, 1)) (d3 : decode cc (pc + 1 + 1 + 1) = .ok (.iadd, 1)) (d4 : decode cc (pc + 1 + 1 + 1 + 1) = .ok (.iaload, 1)) (k : WW G n E nL Q (pc + 1 + 1 + 1 + 1 + 1) (LV G b t) (.int (xs (7 * t + a)) :: st) M) : WW G n E nL Q pc (LV G b t) st M := by
  refine w_aload_n C 0 d0 rfl rfl ?_
  refine w_iload_n C 3 d1 rfl rfl ?_
  refine w_iconst C d2 hz ?_
  refine w_iadd C d3 ?_
  rw [nI_add]
  refine w_sld C X ((ni_in (by omega)).mpr (by omega)) d4 ?_
  rw [ni_cl (by omega)]
  exact k
theorem w_arg6 (C : Cx G n E own cc nL) (X : SX G E b L xs) (hL : L ≤ 3584) (ht : 7 * t + 7 ≤ L) {a : Nat} {z : Int} (ha : a < 7) (hz : (Int8.ofInt z).toInt32 = nI a) (d0 : decode cc pc = .ok (.aload_n 0, 1)) (d1 : decode cc (pc + 1) = .ok (.iload_n 3, 1)) (d2 : decode cc (pc + 1 + 1) = .ok (.bipush z, 2)) (d3 : decode cc (pc + 1 + 1 + 2) = .ok (.iadd, 1)) (d4 : decode cc (pc + 1 + 1 + 2 + 1) = .ok (.iaload, 1)) (k : WW G n E nL Q (pc + 1 + 1 + 2 + 1 + 1) (LV G b t) (.int (xs (7 * t + a)) :: st) M) : WW G n E nL Q pc (LV G b t) st M := by
  refine w_aload_n C 0 d0 rfl rfl ?_
  refine w_iload_n C 3 d1 rfl rfl ?_
  refine w_bipush C d2 hz ?_
  refine w_iadd C d3 ?_
  rw [nI_add]
  refine w_sld C X ((ni_in (by omega)).mpr (by omega)) d4 ?_
  rw [ni_cl (by omega)]
  exact k
end LROWS
theorem prec_ok {G : GG} {n : Nat} {M : Mem} {s : State} {H : Heap} {locs : List Loc} (hAO : AO4 s) (hK : va_K (gC G, gI G) vwCl (tysG G) s) (hNW : ∀ w ∈ NW, va_Nw w s) (hKC : KC G s s.heap) (hKS : KS G s) (hG : GOK G n) (hgb : gb G ≤ s.heap.size) (hR : Rep G n M H) (hS : va_S (gA G) s.heap H locs) (av : List Value) : PreS s H (va_Pc av (fun U => PreM G n M U ∧ AO4 U)) av := by
  obtain ⟨h1, h2⟩ := pre_ok hK hNW hKC hKS hG hgb hR hS av
  refine ⟨fun a U g mk q => ?_, fun U hU hW => ?_⟩
  · obtain ⟨q0, q1, q2⟩ := q
    obtain ⟨r0, r1⟩ := h1 a U g mk ⟨q0, q1⟩
    exact ⟨r0, r1, AO4.moved (u := U) (U := U.calling g mk a) (Vm.Alike.refl U.vm) q2⟩
  · obtain ⟨r0, r1⟩ := h2 U hU hW
    exact ⟨r0, r1, hAO.moved hW.alike⟩
theorem w_counter {p : Program} {l : Launch} {e : Env} {R : Room} {s : State} {m : MethodId} {args : Array Value} {below : List Frame} {meth : Method} {c : Code} {ce sl : Nat} {G : GG} {n : Nat} {own : String} {cc : ByteArray} {nL : Nat} {Q : State → Prop} {pc : Nat} {lv : List (Nat × Value)} {st : List Value} {M : Mem} (C : Cx G n (p, l, e, R, s, m, args, below, meth, c, ce, sl) own cc nL) (hAO : AO4 s) {ix : Nat} {v : Int32} (hlink : Cond.methodLink own ix yX9_counter ∈ GW) (hroom : 3 ≤ R.frames ∧ 61 ≤ R.locals) (hce : ce + 3 ≤ R.cells) (hsl : sl + 29 ≤ R.slots) (hst : (st.map fun v => v.category).sum ≤ 8) (hd : decode cc pc = .ok (.invokevirtual ix, 3))
    (k : ∀ (r : Int32) (w : GG × Nat × Mem) (H : Heap) (locs : List Loc) (ls : Array Slot), CQ G n M v r w → Rep w.1 w.2.1 w.2.2 H → va_S (gA G) s.heap H locs → lv_has ls nL lv → W p l e R s m args below meth c H locs (ce + 3) (sl + 29) Q (F0 m (pc + 3) ls (.int r :: st))) : WW G n (p, l, e, R, s, m, args, below, meth, c, ce, sl) nL Q pc lv (.int v :: .ref (gad G 9 0) :: st) M := by
  obtain ⟨hx, hb, hml, hown, hts, hlk, hK, hNW, hKC, hKS, hG, hgb⟩ := C
  intro H locs ls hR hS hl
  have hp := prec_ok (n := n) hAO hK hNW hKC hKS hG hgb hR hS [.ref (gad G 9 0), .int v]
  have hM := c_X9_counter (G := G) (n := n) (l := l) v M
  have hrun := va_runV (Ts := GW) (own := own) (H := H) (locs := locs) (cells := ce) (slots := sl) (e := e) (below := below) (meth := meth) (g := F0 m pc ls ([Value.int v].reverse ++ .ref (gad G 9 0) :: st)) (rest := st) (As := [.int v]) (b := gad G 9 0) ⟨hx, hb, hml, hown, hts⟩ hM ⟨callB_of 1 hts (gw_in ml_X9_counter.1) rfl rfl rfl (hts _ ml_X9_counter.2.1) (hts _ hlink) ml_X9_counter.2.2 hroom, hts _ gl653, hts _ gl654⟩ ⟨hp.1, recv_ok hK hR (ci := 9) (j := 0) rfl (by decide) (Nat.le_of_ble_eq_true rfl), hp.2⟩ rfl rfl hl.1 rfl (lv_room hst) hd ⟨hce, hsl⟩
  exact va_calli hrun hS (fun q _ h => h) (fun q h => h) (fun r u t H1 locs1 ht hvm hw hB hz hk hS1 => by subst ht; exact k r u t.heap locs1 ls hw hB hS1 hl)
theorem cnt_pure {G : GG} {n t : Nat} {S M : Mem} {v r : Int32} {w : GG × Nat × Mem} (hS : SOK S) (hI : InvC t S M) (hn : M 660 0 0 = nI n) (h12 : n ≤ 12) (h : CQ G n M v r w) : r = a_counter S v ∧ InvC (t + 1) (n_counter S v) w.2.2 ∧ FrC M w.2.2 := by
  have e660 : M 660 0 0 = S 660 0 0 := by rw [hI.1.k 660]
  have en : nc S = n := by
    unfold nc
    rw [← e660, hn, ni_cl (by omega)]
  unfold CQ at h
  unfold a_counter n_counter
  by_cases hv : 0 ≤ v ∧ v ≤ 3
  · rw [if_pos hv] at h
    rw [if_pos hv, if_pos hv]
    by_cases hz : M 660 0 0 = 12
    · rw [if_pos hz] at h
      rw [e660] at hz
      rw [if_pos hz, if_pos hz]
      obtain ⟨rfl, rfl⟩ := h
      exact ⟨rfl, hI.more, FrC.rf⟩
    · rw [if_neg hz] at h
      rw [e660] at hz
      rw [if_neg hz, if_neg hz]
      obtain ⟨rfl, hn12, a, rfl, -⟩ := h
      refine ⟨e660, ?_, fun k hk => ?_⟩
      · have := hI.mc (v := v) (by rw [en]; exact hn12)
        rw [en] at this ⊢
        exact this
      · show mkc M n v k = M k
        unfold refk at hk
        exact mkc_o (by omega) (by omega)
  · rw [if_neg hv] at h
    rw [if_neg hv, if_neg hv]
    obtain ⟨rfl, rfl⟩ := h
    exact ⟨rfl, hI.more, FrC.rf⟩
