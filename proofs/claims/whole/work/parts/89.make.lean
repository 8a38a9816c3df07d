/-! CONSTRUCTORS: cells one behind another -/
abbrev CD : Type := (Nat × List Value) ⊕ (Nat × Nat × (Nat → Value))
def clAt (G : GG) (a : Nat) (d : CD) (H : Heap) : Prop := match d with
  | .inl (ci, fs) => t_OB a (gC G ci) (nsl ci) (gI G ci) H (fun s => fs.getD s .null)
  | .inr (t, N, f) => H[a]? = some (arrV (gR G t) N f)
theorem clAt.kept {G : GG} {a : Nat} {d : CD} {H H1 : Heap} (h : clAt G a d H) (e : H1[a]? = H[a]?) : clAt G a d H1 := by
  cases d with
  | inl x => exact t_OB.kept h e
  | inr x => exact e.trans h
theorem clAt.lt {G : GG} {a : Nat} {d : CD} {H : Heap} (h : clAt G a d H) : a < H.size := by
  cases d with
  | inl x => obtain ⟨cell, q, _⟩ := h; exact (Array.getElem?_eq_some_iff.mp q).1
  | inr x => exact (Array.getElem?_eq_some_iff.mp h).1
def adr (a sz : Nat) : Nat → Nat
  | 0 => a
  | k + 1 => sz + k
def HW (G : GG) (a sz : Nat) (ws : List CD) (H : Heap) : Prop := (a < sz ∧ 0 < ws.length ∧ H.size + 1 = sz + ws.length) ∧ ∀ k d, ws[k]? = some d → clAt G (adr a sz k) d H
def AA (a sz : Nat) : Nat → Prop := fun q => q = a ∨ sz ≤ q
theorem adr_p {a sz k : Nat} (h : 0 < k) : adr a sz k = sz + k - 1 := by
  cases k with
  | zero => omega
  | succ k => rfl
theorem adr_j {a sz k j : Nat} (ha : a < sz) (h : adr a sz k = adr a sz j) : k = j := by
  cases k with
  | zero =>
    cases j with
    | zero => rfl
    | succ j => have : a = sz + j := h; omega
  | succ k =>
    cases j with
    | zero => have : sz + k = a := h; omega
    | succ j => have : sz + k = sz + j := h; omega
theorem adr_A {a sz k : Nat} : AA a sz (adr a sz k) := by
  cases k with
  | zero => exact Or.inl rfl
  | succ k => exact Or.inr (Nat.le_add_right _ _)
theorem HW.app {G : GG} {a sz : Nat} {ws : List CD} {H H1 : Heap} {d : CD} (h : HW G a sz ws H) (z : H1.size = H.size + 1) (o : ∀ q, q < H.size → H1[q]? = H[q]?) (hd : clAt G H.size d H1) : adr a sz ws.length = H.size ∧ HW G a sz (ws ++ [d]) H1 := by
  obtain ⟨⟨h1, h2, h3⟩, h4⟩ := h
  have e : adr a sz ws.length = H.size := by rw [adr_p h2]; omega
  refine ⟨e, ⟨h1, by rw [List.length_append]; omega, by rw [List.length_append]; show H1.size + 1 = sz + (ws.length + 1); omega⟩, fun k d' hk => ?_⟩
  by_cases hl : k < ws.length
  · rw [List.getElem?_append_left hl] at hk
    have := h4 k d' hk
    exact this.kept (o _ this.lt)
  · rw [List.getElem?_append_right (by omega)] at hk
    have hz : k - ws.length < 1 := (List.getElem?_eq_some_iff.mp hk).1
    have ek : k = ws.length := by omega
    subst ek
    rw [Nat.sub_self] at hk
    cases hk
    rw [e]; exact hd
theorem HW.put {G : GG} {a sz : Nat} {ws : List CD} {H H1 : Heap} {d : CD} {k : Nat} (h : HW G a sz ws H) (z : H1.size = H.size) (o : ∀ q, q ≠ adr a sz k → H1[q]? = H[q]?) (hd : clAt G (adr a sz k) d H1) : HW G a sz (ws.set k d) H1 := by
  obtain ⟨⟨h1, h2, h3⟩, h4⟩ := h
  refine ⟨⟨h1, by rw [List.length_set]; exact h2, by rw [List.length_set, z]; exact h3⟩, fun j d' hj => ?_⟩
  by_cases e : k = j
  · subst e
    have hl : k < ws.length := by
      have := (List.getElem?_eq_some_iff.mp hj).1
      rw [List.length_set] at this; exact this
    rw [List.getElem?_set_self hl] at hj
    cases hj; exact hd
  · rw [List.getElem?_set_ne e] at hj
    exact (h4 j d' hj).kept (o _ (fun q => e (adr_j h1 q).symm))
theorem HW.mid {G : GG} {a sz : Nat} {w0 : List CD} {d : CD} {H : Heap} (h : HW G a sz (w0 ++ [d]) H) (h0 : 0 < w0.length) : HW G (adr a sz w0.length) (sz + w0.length) [d] H := by
  obtain ⟨⟨h1, h2, h3⟩, h4⟩ := h
  rw [List.length_append] at h3
  have h3' : H.size + 1 = sz + (w0.length + 1) := h3
  refine ⟨⟨by rw [adr_p h0]; omega, Nat.one_pos, by show H.size + 1 = sz + w0.length + 1; omega⟩, fun k d' hk => ?_⟩
  have hz : k < 1 := (List.getElem?_eq_some_iff.mp hk).1
  have ek : k = 0 := by omega
  subst ek
  cases hk
  exact h4 w0.length d (by rw [List.getElem?_append_right (Nat.le_refl _), Nat.sub_self]; rfl)
theorem HW.join {G : GG} {a sz : Nat} {w0 nw : List CD} {d : CD} {H H1 : Heap} (h : HW G a sz (w0 ++ [d]) H) (h0 : 0 < w0.length) (hk : ∀ q : Nat, q < H.size → ¬ AA (adr a sz w0.length) (sz + w0.length) q → H1[q]? = H[q]?) (h1 : HW G (adr a sz w0.length) (sz + w0.length) nw H1) : HW G a sz (w0 ++ nw) H1 := by
  obtain ⟨⟨a1, a2, a3⟩, a4⟩ := h
  obtain ⟨⟨b1, b2, b3⟩, b4⟩ := h1
  rw [List.length_append] at a3
  have a3' : H.size + 1 = sz + (w0.length + 1) := a3
  have eA := adr_p (a := a) (sz := sz) h0
  refine ⟨⟨a1, by rw [List.length_append]; omega, by rw [List.length_append]; omega⟩, fun k d' hkk => ?_⟩
  by_cases hl : k < w0.length
  · rw [List.getElem?_append_left hl] at hkk
    have hc := a4 k d' (by rw [List.getElem?_append_left hl]; exact hkk)
    refine hc.kept (hk _ hc.lt (fun q => ?_))
    rcases q with q | q
    · have := adr_j a1 q; omega
    · have := hc.lt; omega
  · rw [List.getElem?_append_right (by omega)] at hkk
    have := b4 _ d' hkk
    have e : adr (adr a sz w0.length) (sz + w0.length) (k - w0.length) = adr a sz k := by
      by_cases ek : k = w0.length
      · rw [ek, Nat.sub_self]; rfl
      · rw [adr_p (show 0 < k - w0.length by omega), adr_p (show 0 < k by omega)]; omega
    rw [e] at this; exact this
def AOA (U : State) : Prop := (Cond.arrayOver (.array .int)).before #[] U = true
theorem AOA.moved {u U : State} (hvm : u.vm.Alike U.vm) (h : AOA u) : AOA U := by
  obtain ⟨comp, c, k, h1, h2, h3, h4, h5⟩ := arrayOverA_spec h
  obtain ⟨k', hk', he⟩ := hvm.2.2 _ _ h3
  have hi : (U.vm.classes.findIdx? fun (x : Class) => match x.kind with | .array component _ => component == comp | _ => false) = some c := by
    rw [hvm.findIdx?_eq _ (fun _ => rfl)]
    exact h2
  have hkind : k'.kind = .array comp (.array .int) := by rw [he]; exact h4
  have f1 : U.vm.findClass (FieldType.array .int).toString = some comp := by rw [hvm.findClass]; exact h1
  have f2 : U.vm.findClass ("[" ++ (FieldType.array .int).toString) = some c := by rw [hvm.findClass]; exact h5
  unfold AOA Cond.before Cond.holds
  simp only [Cond.value]
  rw [f1, Option.bind_some]
  refine (congrArg (fun o : Option Nat => (o.bind (fun c => (U.vm.classes[c]?).map fun (k : Class) => match k.kind with | .array _ ty => decide (ty = FieldType.array .int) && decide (U.vm.findClass ("[" ++ (FieldType.array .int).toString) = some c) | _ => false) == some true)) hi).trans ?_
  simp [hk', hkind, f2]
def AO4 (U : State) : Prop := va_AO "TrueLedger$Version" U ∧ va_AO "TrueLedger$Counter" U ∧ va_AO "TrueLedger$Sheet" U ∧ AOA U
theorem AO4.moved {u U : State} (hvm : u.vm.Alike U.vm) (h : AO4 u) : AO4 U := ⟨h.1.moved hvm, h.2.1.moved hvm, h.2.2.1.moved hvm, h.2.2.2.moved hvm⟩
def PreI (G : GG) (a sz : Nat) (ws : List CD) (U : State) : Prop := HW G a sz ws U.heap ∧ va_K (gC G, gI G) vwCl (tysG G) U ∧ (∀ w ∈ NW, va_Nw w U) ∧ AO4 U
abbrev CtI (G : GG) (l : Launch) (y : MethodName) (code : ByteArray) (mL fr mc ms lo a sz : Nat) (As : List Value) (ws0 ws1 : List CD) : Prop :=
  Met l y (Cond.code y code mL none :: GW) ({ frames := fr, cells := mc, slots := ms, locals := lo }) (va_Pc (.ref a :: As) (PreI G a sz ws0)) (va_Qv (fun u : List CD => u = ws1) (fun u t => HW G a sz u t.heap) (AA a sz)) mc ms (AA a sz)
abbrev EI : Type := Program × Launch × Env × Room × State × MethodId × Array Value × List Frame × Method × Code
def WI (G : GG) (E : EI) (nL : Nat) (Q : State → Prop) (a sz : Nat) (pc : Nat) (lv : List (Nat × Value)) (st : List Value) (ws : List CD) (ce sl : Nat) : Prop := match E with
  | (p, l, e, R, s, m, args, below, meth, c) => ∀ (H : Heap) (locs : List Loc) (ls : Array Slot), HW G a sz ws H → va_S (AA a sz) s.heap H locs → lv_has ls nL lv → W p l e R s m args below meth c H locs ce sl Q (F0 m pc ls st)
def CxI (G : GG) (E : EI) (own : String) (cc : ByteArray) (nL : Nat) : Prop := match E with
  | (p, l, e, R, s, m, args, below, meth, c) => p.tables.exec = Jvm.exec ∧ c.code = cc ∧ c.maxLocals = nL ∧ s.vm.findClass own = some m.cls ∧ (∀ w ∈ GW, w.before args s = true) ∧ meth.locks = false ∧ va_K (gC G, gI G) vwCl (tysG G) s ∧ (∀ w ∈ NW, va_Nw w s) ∧ AO4 s ∧ meth.name = "<init>" ∧ meth.sig.returnType = none
def RMI (E : EI) (fr mc ms lo : Nat) : Prop := match E with
  | (p, l, e, R, s, m, args, below, meth, c) => R = { frames := fr, cells := mc, slots := ms, locals := lo }
def QEI (G : GG) (E : EI) (a sz : Nat) (ws1 : List CD) (mc ms : Nat) : State → Prop := match E with
  | (p, l, e, R, s, m, args, below, meth, c) => MQ below (va_Qv (fun u : List CD => u = ws1) (fun u t => HW G a sz u t.heap) (AA a sz)) args s mc ms (AA a sz)
theorem cti_of {G : GG} {l : Launch} {y : MethodName} {code : ByteArray} {mL fr mc ms lo a sz : Nat} {As : List Value} {lv : List (Nat × Value)} {ws0 ws1 : List CD} (hy : plainName y.cls = true) (hyn : y.name = "<init>") (hlen : (lg_sl (.ref a :: As)).length ≤ mL) (hlv : lv_args 0 (.ref a :: As) = lv)
    (body : ∀ E : EI, CxI G E y.cls code mL → RMI E fr mc ms lo → E.2.1 = l → WI G E mL (QEI G E a sz ws1 mc ms) a sz 0 lv [] ws0 0 0) : CtI G l y code mL fr mc ms lo a sz As ws0 ws1 := by
  refine Met.ofW (cc := code) (maxL := mL) (ret := none) hy rfl ?_
  intro p e s m args below meth c s₁ B hml hv
  obtain ⟨rfl, hW, hK, hNW, hAO⟩ := hv
  have hts := atoms_spec (ws := Cond.code y code mL none :: GW) B.pre
  have hnm : meth.name = "<init>" := (name_of_methodNamed B.named B.method).1.trans hyn
  have h := body (p, l, e, ({ frames := fr, cells := mc, slots := ms, locals := lo } : Room), s, m, (Value.ref a :: As).toArray, below, meth, c)
    ⟨B.exec, B.bytes, hml, findClass_of_methodNamed B.named, fun w hw => hts w (List.mem_cons_of_mem _ hw), B.notSynchronized, hK, hNW, hAO, hnm, B.returns⟩ rfl rfl
  have hl := lv_entry (Value.ref a :: As) (n := mL) hlen
  rw [lg_entry_eq]
  rw [hlv] at hl
  exact h s.heap [] _ hW va_S.rf hl
section IROWS
variable {G : GG} {E : EI} {own : String} {cc : ByteArray} {nL : Nat} {Q : State → Prop} {a sz pc : Nat} {lv : List (Nat × Value)} {st : List Value} {ws : List CD} {ce sl : Nat}
theorem i_eq {pc' : Nat} (h : pc = pc') (k : WI G E nL Q a sz pc' lv st ws ce sl) : WI G E nL Q a sz pc lv st ws ce sl := h ▸ k
theorem i_iconst (C : CxI G E own cc nL) {z : Int} {v : Int32} (hd : decode cc pc = .ok (.iconst z, 1)) (hv : Int32.ofInt z = v) (k : WI G E nL Q a sz (pc + 1) lv (.int v :: st) ws ce sl) : WI G E nL Q a sz pc lv st ws ce sl := by
  obtain ⟨p, l, e, R, s, m, args, below, meth, c⟩ := E
  exact fun H locs ls hR hS hl => lv_iconst C.1 C.2.1 hd hv (k H locs ls hR hS hl)
theorem i_bipush (C : CxI G E own cc nL) {z : Int} {v : Int32} (hd : decode cc pc = .ok (.bipush z, 2)) (hv : (Int8.ofInt z).toInt32 = v) (k : WI G E nL Q a sz (pc + 2) lv (.int v :: st) ws ce sl) : WI G E nL Q a sz pc lv st ws ce sl := by
  obtain ⟨p, l, e, R, s, m, args, below, meth, c⟩ := E
  exact fun H locs ls hR hS hl => lv_bipush C.1 C.2.1 hd hv (k H locs ls hR hS hl)
theorem i_sipush (C : CxI G E own cc nL) {z : Int} {v : Int32} (hd : decode cc pc = .ok (.sipush z, 3)) (hv : (Int16.ofInt z).toInt32 = v) (k : WI G E nL Q a sz (pc + 3) lv (.int v :: st) ws ce sl) : WI G E nL Q a sz pc lv st ws ce sl := by
  obtain ⟨p, l, e, R, s, m, args, below, meth, c⟩ := E
  exact fun H locs ls hR hS hl => lv_sipush C.1 C.2.1 hd hv (k H locs ls hR hS hl)
theorem i_aload_n (C : CxI G E own cc nL) (q : Nat) {kf : Fin 4} {i x : Nat} (hd : decode cc pc = .ok (.aload_n kf, 1)) (hi : (kf : Nat) = i) (h : lv[q]? = some (i, .ref x)) (k : WI G E nL Q a sz (pc + 1) lv (.ref x :: st) ws ce sl) : WI G E nL Q a sz pc lv st ws ce sl := by
  obtain ⟨p, l, e, R, s, m, args, below, meth, c⟩ := E
  exact fun H locs ls hR hS hl => lv_aload_n C.1 C.2.1 hd hi (lv_at hl q h) (k H locs ls hR hS hl)
theorem i_iload_n (C : CxI G E own cc nL) (q : Nat) {kf : Fin 4} {i : Nat} {x : Int32} (hd : decode cc pc = .ok (.iload_n kf, 1)) (hi : (kf : Nat) = i) (h : lv[q]? = some (i, .int x)) (k : WI G E nL Q a sz (pc + 1) lv (.int x :: st) ws ce sl) : WI G E nL Q a sz pc lv st ws ce sl := by
  obtain ⟨p, l, e, R, s, m, args, below, meth, c⟩ := E
  exact fun H locs ls hR hS hl => lv_iload_n C.1 C.2.1 hd hi (lv_at hl q h) (k H locs ls hR hS hl)
theorem i_istore_n (C : CxI G E own cc nL) {kf : Fin 4} {i : Nat} {x : Int32} {lv' : List (Nat × Value)} (hd : decode cc pc = .ok (.istore_n kf, 1)) (hi : (kf : Nat) = i) (hn : i < nL) (h : (i, Value.int x) :: lv.filter (fun q => !(q.1 == i) && !(q.1 + 1 == i && q.2.category == 2)) = lv') (k : WI G E nL Q a sz (pc + 1) lv' st ws ce sl) : WI G E nL Q a sz pc lv (Value.int x :: st) ws ce sl := by
  obtain ⟨p, l, e, R, s, m, args, below, meth, c⟩ := E
  exact fun H locs ls hR hS hl => lv_istore_n C.1 C.2.1 hd hi hl hn h (fun ls' hl' => k H locs ls' hR hS hl')
theorem i_iinc (C : CxI G E own cc nL) (q : Nat) {i : Nat} {z : Int} {x v : Int32} {lv' : List (Nat × Value)} (hd : decode cc pc = .ok (.iinc i z, 3)) (hk : lv[q]? = some (i, .int x)) (hv : x + Int32.ofInt z = v) (hn : i < nL) (h : (i, Value.int v) :: lv.filter (fun q => !(q.1 == i) && !(q.1 + 1 == i && q.2.category == 2)) = lv') (k : WI G E nL Q a sz (pc + 3) lv' st ws ce sl) : WI G E nL Q a sz pc lv st ws ce sl := by
  obtain ⟨p, l, e, R, s, m, args, below, meth, c⟩ := E
  exact fun H locs ls hR hS hl => lv_iinc C.1 C.2.1 hd hl hk hv hn h (fun ls' hl' => k H locs ls' hR hS hl')
theorem i_goto (C : CxI G E own cc nL) {off : Int} {tgt : Nat} (hd : decode cc pc = .ok (.goto off, 3)) (ht : (pc : Int) + off = (tgt : Int)) (k : WI G E nL Q a sz tgt lv st ws ce sl) : WI G E nL Q a sz pc lv st ws ce sl := by
  obtain ⟨p, l, e, R, s, m, args, below, meth, c⟩ := E
  exact fun H locs ls hR hS hl => lv_goto C.1 C.2.1 hd ht (k H locs ls hR hS hl)
theorem i_icmp_ge (C : CxI G E own cc nL) {x y : Int32} {off : Int} {tgt : Nat} (hd : decode cc pc = .ok (.if_icmp .ge off, 3)) (ht : (pc : Int) + off = (tgt : Int)) (kt : y ≤ x → WI G E nL Q a sz tgt lv st ws ce sl) (kf : ¬ y ≤ x → WI G E nL Q a sz (pc + 3) lv st ws ce sl) : WI G E nL Q a sz pc lv (.int y :: .int x :: st) ws ce sl := by
  obtain ⟨p, l, e, R, s, m, args, below, meth, c⟩ := E
  exact fun H locs ls hR hS hl => lv_icmp_ge C.1 C.2.1 hd ht (fun h => kt h H locs ls hR hS hl) (fun h => kf h H locs ls hR hS hl)
theorem i_dup (C : CxI G E own cc nL) {v : Value} (hd : decode cc pc = .ok (.dup, 1)) (hv : v.category = 1) (k : WI G E nL Q a sz (pc + 1) lv (v :: v :: st) ws ce sl) : WI G E nL Q a sz pc lv (v :: st) ws ce sl := by
  obtain ⟨p, l, e, R, s, m, args, below, meth, c⟩ := E
  exact fun H locs ls hR hS hl => lv_dup C.1 C.2.1 hd hv (k H locs ls hR hS hl)
end IROWS
