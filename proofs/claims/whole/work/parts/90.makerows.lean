/-! CONSTRUCTORS: rows that make, write, call -/
theorem HW.apps {G : GG} {a sz : Nat} {ws ds : List CD} {H H1 : Heap} (h : HW G a sz ws H) (z : H1.size = H.size + ds.length) (o : ∀ q, q < H.size → H1[q]? = H[q]?) (hd : ∀ k d, ds[k]? = some d → clAt G (H.size + k) d H1) : adr a sz ws.length = H.size ∧ HW G a sz (ws ++ ds) H1 := by
  obtain ⟨⟨h1, h2, h3⟩, h4⟩ := h
  have e : adr a sz ws.length = H.size := by rw [adr_p h2]; omega
  refine ⟨e, ⟨h1, by rw [List.length_append]; omega, by rw [List.length_append]; omega⟩, fun k d' hk => ?_⟩
  by_cases hl : k < ws.length
  · rw [List.getElem?_append_left hl] at hk
    have := h4 k d' hk
    exact this.kept (o _ this.lt)
  · rw [List.getElem?_append_right (by omega)] at hk
    have := hd _ d' hk
    rw [show H.size + (k - ws.length) = adr a sz k by rw [adr_p (by omega)]; omega] at this
    exact this
theorem sgrow {A : Nat → Prop} {H0 H H1 : Heap} {locs : List Loc} (hS : va_S A H0 H locs) (z : H.size ≤ H1.size) (o : ∀ q, q < H.size → H1[q]? = H[q]?) : va_S A H0 H1 locs := ⟨Nat.le_trans hS.1 z, fun x h1 h2 => (o x (Nat.lt_of_lt_of_le h1 hS.1)).trans (hS.2.1 x h1 h2), hS.2.2⟩
section JROWS
variable {G : GG} {E : EI} {own : String} {cc : ByteArray} {nL : Nat} {Q : State → Prop} {a sz pc : Nat} {lv : List (Nat × Value)} {st : List Value} {ws : List CD} {ce sl fr mc ms lo : Nat}
theorem i_obj (C : CxI G E own cc nL) (HR : RMI E fr mc ms lo) {ix x : Nat} (hlink : Cond.methodLink own ix Lib.objectInit ∈ GW) (hinst : Cond.instanceMethod Lib.objectInit ∈ GW) (hcode : Cond.code Lib.objectInit ⟨#[0xb1]⟩ 1 none ∈ GW) (hfr : 1 ≤ fr) (hlo : (st.map fun v => v.category).sum + 12 ≤ lo) (hd : decode cc pc = .ok (.invokespecial ix, 3)) (k : WI G E nL Q a sz (pc + 3) lv st ws ce sl) : WI G E nL Q a sz pc lv (.ref x :: st) ws ce sl := by
  obtain ⟨p, l, e, R, s, m, args, below, meth, c⟩ := E
  obtain ⟨hx, hb, hml, hown, hts, hlk, hK, hNW, hAO, hnm, hrt⟩ := C
  cases HR
  intro H locs ls hW hS hl
  exact W.objInit hx hb hown (hts _ hlink) (hts _ hinst) (hts _ hcode) rfl (hl.1.trans hml.symm) rfl hd hfr (by show 2 * 0 + _ + 12 ≤ lo; omega) (k H locs ls hW hS hl)
theorem i_new (C : CxI G E own cc nL) (HR : RMI E fr mc ms lo) {Cn : String} {T : u_T} {N ci ix : Nat} {fs : List Value} (hc : vwCl[ci]? = some (Cn, T, N)) (hN : nsl ci = N) (hin : ∀ w ∈ u_ws Cn T N, w ∈ GW) (ty0 : Nat → FieldType) (hty : ∀ k, k < N → parseFieldDescriptor (T k).2.2.1 = some (ty0 k)) (hfs : ∀ j, j < N → defaultValue (ty0 j) = fs.getD j .null) (hcl : Cond.classLink own ix Cn ∈ GW) (hins : Cond.instantiable Cn N ∈ GW) (hini : Cond.initialized Cn ∈ GW) (h1 : ce + 1 ≤ mc) (h2 : sl + N ≤ ms) (hd : decode cc pc = .ok (.new ix, 3)) (k : WI G E nL Q a sz (pc + 3) lv (.ref (adr a sz ws.length) :: st) (ws ++ [.inl (ci, fs)]) (ce + 1) (sl + N)) : WI G E nL Q a sz pc lv st ws ce sl := by
  obtain ⟨p, l, e, R, s, m, args, below, meth, c⟩ := E
  obtain ⟨hx, hb, hml, hown, hts, hlk, hK, hNW, hAO, hnm, hrt⟩ := C
  cases HR
  subst hN
  intro H locs ls hW hS hl
  have hKn := hK.1 ci _ hc
  refine W.newcK hx hb hown (hts _ hcl) (hts _ hins) (hts _ hini) rfl hd h1 h2 hKn.2.1 rfl fun H1 kC hkC e1 z1 o1 => ?_
  have hb2 : clAt G H.size (.inl (ci, fs)) H1 := (u_born ty0 hts hin hKn hkC e1 hty).to hfs
  obtain ⟨ea, hW1⟩ := hW.app z1 o1 hb2
  have := k H1 locs ls hW1 (sgrow hS (by omega) o1) hl
  rw [ea] at this
  exact this
theorem i_newa (C : CxI G E own cc nL) (HR : RMI E fr mc ms lo) {atype : ArrayType} {t : Nat} {ty : FieldType} (hty : newarray.typeOf atype = ty) (ht : (tysG G)[t]? = some (gR G t, ty)) (hra : ∀ (U : State) (cA : ClassId), va_RA U cA ty → U.vm.findClass ("[" ++ ty.toString) = some cA) (hdv : defaultValue ty = .int 0) (harr : Cond.arrayClass ty ∈ GW) {n : Int32} {N : Nat} (hn : ¬ n < 0) (hN : n.toNatClampNeg = N) (hby : N * componentBytes ty ≤ 536870912) (h1 : ce + 1 ≤ mc) (h2 : sl + N ≤ ms) (hd : decode cc pc = .ok (.newarray atype, 2)) (k : WI G E nL Q a sz (pc + 2) lv (.ref (adr a sz ws.length) :: st) (ws ++ [.inr (t, N, fun _ => .int 0)]) (ce + 1) (sl + N)) : WI G E nL Q a sz pc lv (.int n :: st) ws ce sl := by
  obtain ⟨p, l, e, R, s, m, args, below, meth, c⟩ := E
  obtain ⟨hx, hb, hml, hown, hts, hlk, hK, hNW, hAO, hnm, hrt⟩ := C
  cases HR
  subst hty
  intro H locs ls hW hS hl
  refine va_newaK hx hb (hts _ harr) rfl hd rfl hn hN hby h1 h2 rfl fun H1 cA e1 z1 o1 hAr hNm => ?_
  have hcA : cA = gR G t := Option.some.inj (hNm.symm.trans (hra s _ (hK.2 t _ ht).2))
  subst hcA
  rw [hdv] at e1
  obtain ⟨ea, hW1⟩ := hW.app (d := .inr (t, N, fun _ => .int 0)) z1 o1 e1
  have := k H1 locs ls hW1 (sgrow hS (by omega) o1) hl
  rw [ea] at this
  exact this
theorem i_anew (C : CxI G E own cc nL) (HR : RMI E fr mc ms lo) {Cn : String} {t ix : Nat} (ht : (tysG G)[t]? = some (gR G t, .object Cn)) (hcl : Cond.classLink own ix Cn ∈ GW) (hao : ∀ U, AO4 U → va_AO Cn U) {n : Int32} {N : Nat} (hn : ¬ n < 0) (hN : n.toNatClampNeg = N) (hby : N * 4 ≤ 536870912) (h1 : ce + 1 ≤ mc) (h2 : sl + N ≤ ms) (hd : decode cc pc = .ok (.anewarray ix, 3)) (k : WI G E nL Q a sz (pc + 3) lv (.ref (adr a sz ws.length) :: st) (ws ++ [.inr (t, N, fun _ => .null)]) (ce + 1) (sl + N)) : WI G E nL Q a sz pc lv (.int n :: st) ws ce sl := by
  obtain ⟨p, l, e, R, s, m, args, below, meth, c⟩ := E
  obtain ⟨hx, hb, hml, hown, hts, hlk, hK, hNW, hAO, hnm, hrt⟩ := C
  cases HR
  subst hN
  intro H locs ls hW hS hl
  refine W.anew hx hb hown (hts _ hcl) (va_AO.use (hao s hAO)) rfl hd rfl hn hby h1 h2 fun cA kA comp f1 f2 f3 f4 => ?_
  obtain ⟨kA', comp', g1, g2, g3, g4⟩ := (hK.2 t _ ht).2
  have hcA : cA = gR G t := Option.some.inj (f1.symm.trans g4)
  subst hcA
  generalize hH1 : H.push ({ cls := gR G t, slots := Array.replicate n.toNatClampNeg .null, vm := .none } : Cell) = H1
  have z1 : H1.size = H.size + 1 := by rw [← hH1, Array.size_push]
  have e1 : H1[H.size]? = some (arrV (gR G t) n.toNatClampNeg (fun _ => .null)) := by rw [← hH1, Array.getElem?_push_size, ← arrV_new]
  have o1 : ∀ q : Nat, q < H.size → H1[q]? = H[q]? := fun q hq => by rw [← hH1, Array.getElem?_push, if_neg (Nat.ne_of_lt hq)]
  obtain ⟨ea, hW1⟩ := hW.app (d := .inr (t, n.toNatClampNeg, fun _ => .null)) z1 o1 e1
  have := k H1 locs ls hW1 (sgrow hS (by omega) o1) hl
  rw [ea] at this
  exact this
theorem i_mna (C : CxI G E own cc nL) (HR : RMI E fr mc ms lo) {ix : Nat} (hcl : Cond.classLink own ix ("[" ++ (FieldType.array .int).toString) ∈ GW) (harr : Cond.arrayClass .int ∈ GW) {n k0 : Int32} {N K : Nat} (hn : ¬ n < 0) (hk : ¬ k0 < 0) (hN : n.toNatClampNeg = N) (hKK : k0.toNatClampNeg = K) (hb1 : N * 4 ≤ 536870912) (hb2 : K * 4 ≤ 536870912) (h1 : ce + (1 + N) ≤ mc) (h2 : sl + (N + N * K) ≤ ms) (hd : decode cc pc = .ok (.multianewarray ix 2, 4)) (k : WI G E nL Q a sz (pc + 4) lv (.ref (adr a sz ws.length) :: st) (ws ++ (.inr (6, N, fun j => if j < N then .ref (adr a sz ws.length + 1 + j) else .null) :: List.replicate N (.inr (0, K, fun _ => .int 0)))) (ce + 1 + N) (sl + N + N * K)) : WI G E nL Q a sz pc lv (.int k0 :: .int n :: st) ws ce sl := by
  obtain ⟨p, l, e, R, s, m, args, below, meth, c⟩ := E
  obtain ⟨hx, hb, hml, hown, hts, hlk, hK, hNW, hAO, hnm, hrt⟩ := C
  cases HR
  intro H locs ls hW hS hl
  refine mn_row hx hb hown (hts _ hcl) hAO.2.2.2 (hts _ harr) hn hk hN hKK hb1 hb2 h1 h2 hd fun H1 cA comp f1 f2 z1 o1 e1 e2 => ?_
  have hcA : cA = gR G 6 := Option.some.inj (f1.symm.trans (hK.2 6 (gR G 6, .array .int) rfl).2)
  have hco : comp = gR G 0 := Option.some.inj (f2.symm.trans (hK.2 0 (gR G 0, .int) rfl).2)
  subst hcA
  subst hco
  have ea0 : adr a sz ws.length = H.size := by rw [adr_p hW.1.2.1]; have := hW.1.2.2; omega
  rw [ea0] at k
  obtain ⟨ea, hW1⟩ := hW.apps (H1 := H1) (ds := .inr (6, N, fun j => if j < N then .ref (H.size + 1 + j) else .null) :: List.replicate N (.inr (0, K, fun _ => .int 0))) (by rw [List.length_cons, List.length_replicate]; omega) o1 (fun j d hj => by
    cases j with
    | zero => cases hj; exact e1
    | succ j =>
      have hl2 : j < N := by
        have := (List.getElem?_eq_some_iff.mp hj).1
        rw [List.length_cons, List.length_replicate] at this; omega
      rw [List.getElem?_cons_succ, List.getElem?_replicate, if_pos hl2] at hj
      cases hj
      have := e2 j hl2
      rw [show H.size + 1 + j = H.size + (j + 1) by omega] at this
      exact this)
  exact k H1 locs ls hW1 (sgrow hS (by omega) o1) hl
theorem i_put (C : CxI G E own cc nL) {Cn : String} {T : u_T} {N ci s0 ix : Nat} {v : Value} {fs : List Value} {r : List CD} (hc : vwCl[ci]? = some (Cn, T, N)) (hN : nsl ci = N) (hin : ∀ w ∈ u_ws Cn T N, w ∈ GW) (hs : s0 < N) (ty0 : Nat → FieldType) (hty : ∀ k, k < N → parseFieldDescriptor (T k).2.2.1 = some (ty0 k)) (hnm2 : ∀ x, x < N → ∀ y, y < N → x ≠ y → (T x).2.1 ≠ (T y).2.1) (hfin : (T s0).2.2.2 = false) (hlink : Cond.fieldLink own ix (T s0).1 (T s0).2.1 (T s0).2.2.1 ∈ GW) (hn : narrow (ty0 s0) v = v) (hfit : fits (ty0 s0) v = true) (hl0 : fs.length = N) (hd : decode cc pc = .ok (.putfield ix, 3)) (k : WI G E nL Q a sz (pc + 3) lv st (.inl (ci, fs.set s0 v) :: r) ce sl) : WI G E nL Q a sz pc lv (v :: .ref a :: st) (.inl (ci, fs) :: r) ce sl := by
  obtain ⟨p, l, e, R, s, m, args, below, meth, c⟩ := E
  obtain ⟨hx, hb, hml, hown, hts, hlk, hK, hNW, hAO, hnm, hrt⟩ := C
  subst hN
  intro H locs ls hW hS hl
  have hap := w_apart hts hin ty0 hty hnm2 hK hc
  obtain ⟨cell, q1, q2, q3, q4⟩ := hW.2 0 (.inl (ci, fs)) rfl
  obtain ⟨hSl, hfc, kC, hkC, hkind⟩ := hK.1 ci _ hc
  obtain ⟨cf, kf, fi, f, hi, hsl⟩ := hSl s0 hs
  have hlay := hts _ (hin _ (u_in_lay hs))
  unfold u_lay at hlay
  rw [if_neg (by rw [hfin]; decide)] at hlay
  have hst := (u_facts hfc hkC (u_lays hts hin hs) hi).1
  have h6 := u_store hfc hkC hkind hlay hi (hty s0 hs) hn hfit
  refine W.putK hx hb (f := f) ⟨hown, hts _ hlink, ⟨_, _, _, hi⟩, hst⟩ (by rw [q2]; exact h6) q1 q3 (by rw [hsl]; exact k2_hasslot (q4 s0 hs)) rfl rfl hd fun H' e1 e2 e3 => ?_
  rw [hsl] at e1 ⊢
  have hcl : clAt G (adr a sz 0) (.inl (ci, fs.set s0 v)) H' := t_OB.to ⟨_, e1, q2, q3, t_set q4 hap hs v⟩ (fun j hj => by
    unfold updV
    by_cases ej : j = s0
    · subst ej
      rw [if_pos rfl, List.getD_eq_getElem?_getD, List.getElem?_set_self (by omega)]; rfl
    · rw [if_neg ej]
      dsimp only
      rw [List.getD_eq_getElem?_getD, List.getD_eq_getElem?_getD, List.getElem?_set_ne (fun z => ej z.symm)])
  exact k H' _ ls (hW.put (k := 0) e2 e3 hcl) (hS.put e2 e3 (Or.inl rfl)) hl
theorem i_putF (C : CxI G E own cc nL) {Cn : String} {T : u_T} {N ci s0 ix : Nat} {v : Value} {fs : List Value} {r : List CD} (hc : vwCl[ci]? = some (Cn, T, N)) (hN : nsl ci = N) (hin : ∀ w ∈ u_ws Cn T N, w ∈ GW) (hs : s0 < N) (ty0 : Nat → FieldType) (hty : ∀ k, k < N → parseFieldDescriptor (T k).2.2.1 = some (ty0 k)) (hnm2 : ∀ x, x < N → ∀ y, y < N → x ≠ y → (T x).2.1 ≠ (T y).2.1) (hfin : (T s0).2.2.2 = true) (hdecl : (T s0).1 = own) (hlink : Cond.fieldLink own ix (T s0).1 (T s0).2.1 (T s0).2.2.1 ∈ GW) (hn : narrow (ty0 s0) v = v) (hfit : fits (ty0 s0) v = true) (hl0 : fs.length = N) (hd : decode cc pc = .ok (.putfield ix, 3)) (k : WI G E nL Q a sz (pc + 3) lv st (.inl (ci, fs.set s0 v) :: r) ce sl) : WI G E nL Q a sz pc lv (v :: .ref a :: st) (.inl (ci, fs) :: r) ce sl := by
  obtain ⟨p, l, e, R, s, m, args, below, meth, c⟩ := E
  obtain ⟨hx, hb, hml, hown, hts, hlk, hK, hNW, hAO, hnm, hrt⟩ := C
  subst hN
  intro H locs ls hW hS hl
  have hap := w_apart hts hin ty0 hty hnm2 hK hc
  obtain ⟨cell, q1, q2, q3, q4⟩ := hW.2 0 (.inl (ci, fs)) rfl
  obtain ⟨hSl, hfc, kC, hkC, hkind⟩ := hK.1 ci _ hc
  obtain ⟨cf, kf, fi, f, hi, hsl⟩ := hSl s0 hs
  have hlay := hts _ (hin _ (u_in_lay hs))
  unfold u_lay at hlay
  rw [if_pos hfin] at hlay
  have hst := (u_facts hfc hkC (u_lays hts hin hs) hi).1
  have hcf : m.cls = cf := by
    obtain ⟨_, _, c', _, _, _, -, -, hf', -, -, -, hown2, -⟩ := Cond.laysFinal_spec hlay
    have e1 : c' = cf := by have := hi.symm.trans hf'; simp at this; exact this.1.symm
    rw [hdecl] at hown2
    rw [← e1]; exact Option.some.inj (hown.symm.trans hown2)
  have h6 := u_fits hfc hkC hkind (Or.inr hlay) hi (hty s0 hs) hn hfit
  refine W.putFinK hx hb hown (hts _ hlink) hi hst hcf hnm (by rw [q2]; exact h6) q1 q3 (by rw [hsl]; exact k2_hasslot (q4 s0 hs)) rfl rfl hd fun H' e1 e2 e3 => ?_
  rw [hsl] at e1 ⊢
  have hcl : clAt G (adr a sz 0) (.inl (ci, fs.set s0 v)) H' := t_OB.to ⟨_, e1, q2, q3, t_set q4 hap hs v⟩ (fun j hj => by
    unfold updV
    by_cases ej : j = s0
    · subst ej
      rw [if_pos rfl, List.getD_eq_getElem?_getD, List.getElem?_set_self (by omega)]; rfl
    · rw [if_neg ej]
      dsimp only
      rw [List.getD_eq_getElem?_getD, List.getD_eq_getElem?_getD, List.getElem?_set_ne (fun z => ej z.symm)])
  exact k H' _ ls (hW.put (k := 0) e2 e3 hcl) (hS.put e2 e3 (Or.inl rfl)) hl
theorem i_getT (C : CxI G E own cc nL) {Cn : String} {T : u_T} {N ci s0 ix : Nat} {v : Value} {fs : List Value} {r : List CD} (hc : vwCl[ci]? = some (Cn, T, N)) (hN : nsl ci = N) (hin : ∀ w ∈ u_ws Cn T N, w ∈ GW) (hs : s0 < N) (hlink : Cond.fieldLink own ix (T s0).1 (T s0).2.1 (T s0).2.2.1 ∈ GW) (hv : fs.getD s0 .null = v) (hd : decode cc pc = .ok (.getfield ix, 3)) (k : WI G E nL Q a sz (pc + 3) lv (v :: st) (.inl (ci, fs) :: r) ce sl) : WI G E nL Q a sz pc lv (.ref a :: st) (.inl (ci, fs) :: r) ce sl := by
  obtain ⟨p, l, e, R, s, m, args, below, meth, c⟩ := E
  obtain ⟨hx, hb, hml, hown, hts, hlk, hK, hNW, hAO, hnm, hrt⟩ := C
  subst hN
  intro H locs ls hW hS hl
  obtain ⟨cell, q1, q2, q3, q4⟩ := hW.2 0 (.inl (ci, fs)) rfl
  obtain ⟨hSl, hfc, kC, hkC, hkind⟩ := hK.1 ci _ hc
  obtain ⟨cf, kf, fi, f, hi, hsl⟩ := hSl s0 hs
  refine W.getf hx hb hown (hts _ hlink) hi (u_facts hfc hkC (u_lays hts hin hs) hi).1 q1 (by rw [q3]; exact fun h => by cases h) (v := v) ?_ rfl rfl hd (k H locs ls hW hS hl)
  rw [hsl, ← hv]
  exact q4 s0 hs
theorem i_aald (C : CxI G E own cc nL) {Cn : String} {t k0 N : Nat} {f : Nat → Value} {i : Int32} {v : Value} (ht : (tysG G)[t]? = some (gR G t, .object Cn)) (hk : ws[k0]? = some (.inr (t, N, f))) (hi : vp_in i N) (hv : f i.toNatClampNeg = v) (hd : decode cc pc = .ok (.aaload, 1)) (k : WI G E nL Q a sz (pc + 1) lv (v :: st) ws ce sl) : WI G E nL Q a sz pc lv (.int i :: .ref (adr a sz k0) :: st) ws ce sl := by
  obtain ⟨p, l, e, R, s, m, args, below, meth, c⟩ := E
  obtain ⟨hx, hb, hml, hown, hts, hlk, hK, hNW, hAO, hnm, hrt⟩ := C
  intro H locs ls hW hS hl
  exact W.aald (v := v) (ty := .object Cn) hx hb (hW.2 k0 _ hk) ((hK.2 t _ ht).1 N f) rfl (fun q => by cases q) (by rw [arrV_size]; exact hi) (by rw [arrV_read _ _ (vin_lt hi), hv]) rfl rfl hd (k H locs ls hW hS hl)
theorem i_aast (C : CxI G E own cc nL) {Cn : String} {T : u_T} {t k0 k1 N ci N1 : Nat} {f : Nat → Value} {i : Int32} {fs : List Value} (ht : (tysG G)[t]? = some (gR G t, .object Cn)) (hk : ws[k0]? = some (.inr (t, N, f))) (hk1 : ws[k1]? = some (.inl (ci, fs))) (hc : vwCl[ci]? = some (Cn, T, N1)) (hi : vp_in i N) (hd : decode cc pc = .ok (.aastore, 1)) (k : WI G E nL Q a sz (pc + 1) lv st (ws.set k0 (.inr (t, N, updV f i.toNatClampNeg (.ref (adr a sz k1))))) ce sl) : WI G E nL Q a sz pc lv (.ref (adr a sz k1) :: .int i :: .ref (adr a sz k0) :: st) ws ce sl := by
  obtain ⟨p, l, e, R, s, m, args, below, meth, c⟩ := E
  obtain ⟨hx, hb, hml, hown, hts, hlk, hK, hNW, hAO, hnm, hrt⟩ := C
  intro H locs ls hW hS hl
  obtain ⟨cellV, g1, g2, g3, -⟩ := hW.2 k1 _ hk1
  have hcls := (hK.1 ci _ hc).2
  obtain ⟨kA, comp, d1, d2, d3, -⟩ := (hK.2 t _ ht).2
  have hcomp : comp = gC G ci := Option.some.inj (d3.symm.trans hcls.1)
  subst hcomp
  obtain ⟨kC, hkC, -⟩ := hcls.2
  have h0 : ¬ i < 0 := fun q => hi (Or.inl q)
  refine W.aast hx hb (hW.2 k0 _ hk) (fun q h => by cases h) (fun h => by cases h) d1 d2 rfl hkC ⟨h0, by rw [arrV_size]; exact vin_lt hi⟩ g1 (fun q h => by rw [g3] at h; cases h) (by rw [g2]; exact hkC) (by rw [g2]; exact va_assign hcls) rfl rfl hd fun H1 e1 z oq => ?_
  refine k H1 _ ls (hW.put (k := k0) (d := .inr (t, N, updV f i.toNatClampNeg (.ref (adr a sz k1)))) z oq ?_) (hS.put z oq adr_A) hl
  show H1[adr a sz k0]? = some (arrV _ _ _)
  rw [e1, arrV_store]
theorem prei_ok {s : State} {H : Heap} {a' sz' : Nat} {d : List CD} (hK : va_K (gC G, gI G) vwCl (tysG G) s) (hNW : ∀ w ∈ NW, va_Nw w s) (hAO : AO4 s) (hW : HW G a' sz' d H) (av : List Value) : PreS s H (va_Pc av (PreI G a' sz' d)) av := by
  refine ⟨fun a U g mk q => ?_, fun U hU hWm => ?_⟩
  · obtain ⟨q0, q1, q2, q3, q4⟩ := q
    exact ⟨q0, q1, va_K.moved (u := U) (U := U.calling g mk a) (Vm.Alike.refl U.vm) q2, fun w hw => NW_same (s := U) hw rfl (q3 w hw), AO4.moved (u := U) (U := U.calling g mk a) (Vm.Alike.refl U.vm) q4⟩
  · subst hU
    exact ⟨rfl, hW, va_K.moved hWm.alike hK, fun w hw => NW_warm hw hWm (hNW w hw), hAO.moved hWm.alike⟩
theorem i_call (C : CxI G E own cc nL) (HR : RMI E fr mc ms lo) {y : MethodName} {code : ByteArray} {mL np f1 c1 s1 l1 ix : Nat} {As : List Value} (mt : MT y code mL none np) (hyn : y.name = "<init>") (hinst : Cond.instanceMethod y ∈ GW) (hlink : Cond.methodLink own ix y ∈ GW ∨ ∃ host, Cond.methodLinkNest own ix y host ∈ NW)
    (hroom : f1 + 1 ≤ fr ∧ 8 + (mL + 11) + l1 ≤ lo) (h1 : ce + c1 ≤ mc) (h2 : sl + s1 ≤ ms) (hn : As.length = np) (hst : (st.map fun v => v.category).sum ≤ 8) (hd : decode cc pc = .ok (.invokespecial ix, 3)) {w0 nw : List CD} {d : CD} (hw : ws = w0 ++ [d]) (h0 : 0 < w0.length) {st0 : List Value} (hs0 : As.reverse ++ .ref (adr a sz w0.length) :: st = st0)
    (hM : CtI G E.2.1 y code mL f1 c1 s1 l1 (adr a sz w0.length) (sz + w0.length) As [d] nw) (k : WI G E nL Q a sz (pc + 3) lv st (w0 ++ nw) (ce + c1) (sl + s1)) : WI G E nL Q a sz pc lv st0 ws ce sl := by
  obtain ⟨p, l, e, R, s, m, args, below, meth, c⟩ := E
  obtain ⟨hx, hb, hml, hown, hts, hlk, hK, hNW, hAO, hnm, hrt⟩ := C
  cases HR
  subst hw
  subst hs0
  intro H locs ls hW hS hl
  have hp := prei_ok hK hNW hAO (hW.mid h0) (.ref (adr a sz w0.length) :: As)
  have hrun : va_Run p l e { frames := fr, cells := mc, slots := ms, locals := lo } s m args below meth c H locs ce sl c1 s1 (F0 m pc ls (As.reverse ++ .ref (adr a sz w0.length) :: st)) st ((va_Qv (fun u : List CD => u = nw) (fun u t => HW G (adr a sz w0.length) (sz + w0.length) u t.heap) (AA (adr a sz w0.length) (sz + w0.length))) (Value.ref (adr a sz w0.length) :: As).toArray) (AA (adr a sz w0.length) (sz + w0.length)) := by
    rcases hlink with hlink | ⟨host, hlink⟩
    · exact va_runI (Ts := GW) (own := own) ⟨hx, hb, hml, hown, hts⟩ hM ⟨callB_of np hts (gw_in mt.1) rfl rfl rfl (hts _ mt.2.1) (hts _ hlink) mt.2.2 hroom, hyn, hts _ hinst⟩ hp rfl hn hl.1 rfl (lv_room hst) hd ⟨h1, h2⟩
    · exact va_runIN (Ts := GW) (own := own) ⟨hx, hb, hml, hown, hts⟩ hM ⟨va_cnB np hts (gw_in mt.1) rfl rfl rfl (hNW _ hlink) (hts _ mt.2.1) mt.2.2 hroom, hyn, hts _ hinst⟩ hp rfl hn hl.1 rfl (lv_room hst) hd ⟨h1, h2⟩
  have hsz : H.size = sz + w0.length := by
    have := hW.1.2.2
    rw [List.length_append] at this
    have h' : H.size + 1 = sz + (w0.length + 1) := this
    omega
  have hAA : ∀ q, AA (adr a sz w0.length) (sz + w0.length) q → AA a sz q := fun q hq => by
    rcases hq with hq | hq
    · rw [hq]; exact adr_A
    · exact Or.inr (by omega)
  exact va_callv hrun hS (fun q _ h => hAA q h) hAA (fun u t H1 locs1 ht hvm hw2 hB hz hk hS1 => by
    subst ht
    subst hw2
    exact k t.heap locs1 ls (hW.join h0 hk hB) hS1 hl)
theorem i_ret (C : CxI G E own cc nL) {ws1 : List CD} (hw : ws = ws1) (hd : decode cc pc = .ok (.return_, 1)) : WI G E nL (QEI G E a sz ws1 ce sl) a sz pc lv [] ws ce sl := by
  obtain ⟨p, l, e, R, s, m, args, below, meth, c⟩ := E
  obtain ⟨hx, hb, hml, hown, hts, hlk, hK, hNW, hAO, hnm, hrt⟩ := C
  subst hw
  intro H locs ls hW hS hl
  exact W.vret hx hb hrt (fun t ht hWm => ⟨⟨ws, rfl, rfl, by show HW G a sz ws t.heap; rw [ht]; exact hW⟩, hS.F ht⟩) hS.2.2 hd
end JROWS
