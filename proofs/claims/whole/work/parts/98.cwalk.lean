/-! COUNTER: the walk -/
theorem gx656 : Cond.instantiable "TrueLedger$Counter" 13 ∈ GW := List.mem_filter.mpr ⟨List.mem_of_getElem? (i := 656) (by decide +kernel), rfl⟩
theorem gx657 : Cond.methodLink "TrueLedger" 183 yX0_init ∈ GW := List.mem_filter.mpr ⟨List.mem_of_getElem? (i := 657) (by decide +kernel), rfl⟩
theorem gx658 : Cond.instanceMethod yX0_init ∈ GW := List.mem_filter.mpr ⟨List.mem_of_getElem? (i := 658) (by decide +kernel), rfl⟩
theorem gx659 : Cond.code yX0_init cX0_init 2 none ∈ GW := List.mem_filter.mpr ⟨List.mem_of_getElem? (i := 659) (by decide +kernel), rfl⟩
theorem mx_X0_init : MT yX0_init cX0_init 2 none 1 := ⟨gx659, gw94, by decide, by decide, by decide +kernel⟩
section RAW
variable {p : Program} {l : Launch} {e : Env} {R : Room} {s : State} {m : MethodId} {args : Array Value} {below : List Frame} {meth : Method} {c : Code} {H : Heap} {locs : List Loc} {ce sl : Nat} {Q : State → Prop} {G : GG} {own : String} {cc : ByteArray} {nL pc : Nat} {ls : Array Slot} {st : List Value}
theorem raw_new (hx : p.tables.exec = Jvm.exec) (hb : c.code = cc) (hown : s.vm.findClass own = some m.cls) (hts : ∀ w ∈ GW, w.before args s = true) (hK : va_K (gC G, gI G) vwCl (tysG G) s) {Cn : String} {T : u_T} {N ci ix : Nat} {fs : List Value} (hc : vwCl[ci]? = some (Cn, T, N)) (hN : nsl ci = N) (hin : ∀ w ∈ u_ws Cn T N, w ∈ GW) (ty0 : Nat → FieldType) (hty : ∀ k, k < N → parseFieldDescriptor (T k).2.2.1 = some (ty0 k)) (hfs : ∀ j, j < N → defaultValue (ty0 j) = fs.getD j .null) (hcl : Cond.classLink own ix Cn ∈ GW) (hins : Cond.instantiable Cn N ∈ GW) (hini : Cond.initialized Cn ∈ GW) (h1 : ce + 1 ≤ R.cells) (h2 : sl + N ≤ R.slots) (hd : decode cc pc = .ok (.new ix, 3))
    (k : ∀ H1 : Heap, clAt G H.size (.inl (ci, fs)) H1 → H1.size = H.size + 1 → (∀ q, q < H.size → H1[q]? = H[q]?) → W p l e R s m args below meth c H1 locs (ce + 1) (sl + N) Q (F0 m (pc + 3) ls (.ref H.size :: st))) : W p l e R s m args below meth c H locs ce sl Q (F0 m pc ls st) := by
  subst hN
  have hKn := hK.1 ci _ hc
  refine W.newcK hx hb hown (hts _ hcl) (hts _ hins) (hts _ hini) rfl hd h1 h2 hKn.2.1 rfl fun H1 kC hkC e1 z1 o1 => ?_
  have hb2 : clAt G H.size (.inl (ci, fs)) H1 := (u_born ty0 hts hin hKn hkC e1 hty).to hfs
  exact k H1 hb2 z1 o1
theorem raw_init {A0 : Nat → Prop} (hx : p.tables.exec = Jvm.exec) (hb : c.code = cc) (hml : c.maxLocals = nL) (hown : s.vm.findClass own = some m.cls) (hts : ∀ w ∈ GW, w.before args s = true) (hK : va_K (gC G, gI G) vwCl (tysG G) s) (hNW : ∀ w ∈ NW, va_Nw w s) (hAO : AO4 s) (hS : va_S A0 s.heap H locs) {y : MethodName} {code : ByteArray} {mL np f1 c1 s1 l1 ix : Nat} {As : List Value} (mt : MT y code mL none np) (hyn : y.name = "<init>") (hinst : Cond.instanceMethod y ∈ GW) (hlink : Cond.methodLink own ix y ∈ GW)
    (hroom : f1 + 1 ≤ R.frames ∧ 8 + (mL + 11) + l1 ≤ R.locals) (h1 : ce + c1 ≤ R.cells) (h2 : sl + s1 ≤ R.slots) (hn : As.length = np) (hst : (st.map fun v => v.category).sum ≤ 8) (hd : decode cc pc = .ok (.invokespecial ix, 3)) (hls : ls.size = nL) {a sz : Nat} {d : CD} {nw : List CD} (hW : HW G a sz [d] H) (hA : ∀ q, AA a sz q → A0 q) {st0 : List Value} (hs0 : As.reverse ++ .ref a :: st = st0) (hM : CtI G l y code mL f1 c1 s1 l1 a sz As [d] nw)
    (k : ∀ (H1 : Heap) (locs1 : List Loc), HW G a sz nw H1 → H.size ≤ H1.size → (∀ q : Nat, q < H.size → ¬ AA a sz q → H1[q]? = H[q]?) → va_S A0 s.heap H1 locs1 → W p l e R s m args below meth c H1 locs1 (ce + c1) (sl + s1) Q (F0 m (pc + 3) ls st)) : W p l e R s m args below meth c H locs ce sl Q (F0 m pc ls st0) := by
  subst hs0
  have hp := prei_ok hK hNW hAO hW (.ref a :: As)
  have hrun : va_Run p l e R s m args below meth c H locs ce sl c1 s1 (F0 m pc ls (As.reverse ++ .ref a :: st)) st ((va_Qv (fun u : List CD => u = nw) (fun u t => HW G a sz u t.heap) (AA a sz)) (Value.ref a :: As).toArray) (AA a sz) :=
    va_runI (Ts := GW) (own := own) ⟨hx, hb, hml, hown, hts⟩ hM ⟨callB_of np hts (gw_in mt.1) rfl rfl rfl (hts _ mt.2.1) (hts _ hlink) mt.2.2 hroom, hyn, hts _ hinst⟩ hp rfl hn hls rfl (lv_room hst) hd ⟨h1, h2⟩
  exact va_callv hrun hS (fun q _ h => hA q h) hA (fun u t H1 locs1 ht hvm hw2 hB hz hk hS1 => by
    subst ht
    subst hw2
    exact k t.heap locs1 hB hz hk hS1)
end RAW
/-- what counter() comes to: the same cells, or three more -/
def CQ (G : GG) (n : Nat) (M : Mem) (v : Int32) (r : Int32) (w : GG × Nat × Mem) : Prop :=
  if 0 ≤ v ∧ v ≤ 3 then (if M 660 0 0 = 12 then r = -4 ∧ w = (G, n, M) else r = M 660 0 0 ∧ n < 12 ∧ ∃ a, w = (gnx G n a, n + 1, mkc M n v) ∧ GOK (gnx G n a) (n + 1)) else r = -2 ∧ w = (G, n, M)
abbrev QcC (G : GG) (n : Nat) (M : Mem) (v : Int32) : Array Value → State → Outcome → State → Prop := va_Qi (CQ G n M v) (fun w t => Rep w.1 w.2.1 w.2.2 t.heap) (gA G)
abbrev CtC (G : GG) (n : Nat) (l : Launch) (v : Int32) (M : Mem) : Prop :=
  Met l yX9_counter (Cond.code yX9_counter cX9_counter 2 (some .int) :: GW) ({ frames := 2, cells := 3, slots := 29, locals := 40 }) (va_Pc [.ref (gad G 9 0), .int v] (fun U => PreM G n M U ∧ AO4 U)) (QcC G n M v) 3 29 (gA G)
theorem w_widen {G : GG} {n : Nat} {nL : Nat} {p : Program} {l : Launch} {e : Env} {R : Room} {s : State} {m : MethodId} {args : Array Value} {below : List Frame} {meth : Method} {c : Code} {ce sl ce' sl' : Nat} {Q : State → Prop} {pc : Nat} {lv : List (Nat × Value)} {st : List Value} {M : Mem} (h1 : ce ≤ ce') (h2 : sl ≤ sl') (k : WW G n (p, l, e, R, s, m, args, below, meth, c, ce', sl') nL Q pc lv st M) : WW G n (p, l, e, R, s, m, args, below, meth, c, ce, sl) nL Q pc lv st M :=
  fun H locs ls hR hS hl => W.widen h1 h2 (k H locs ls hR hS hl)
theorem c_X9_counter {G : GG} {n : Nat} {l : Launch} (v : Int32) (M : Mem) : CtC G n l v M := by
  refine Met.ofW (cc := cX9_counter) (maxL := 2) (ret := some .int) (by decide) rfl ?_
  intro p e s m args below meth c s₁ B hml hv
  obtain ⟨rfl, ⟨hR, hK, hNW, hKC, hKS, hG, hgb⟩, hAO⟩ := hv
  have hts0 := atoms_spec (ws := Cond.code yX9_counter cX9_counter 2 (some .int) :: GW) B.pre
  have hts : ∀ w ∈ GW, w.before _ s = true := fun w hw => hts0 w (List.mem_cons_of_mem _ hw)
  have hx := B.exec
  have hb := B.bytes
  have hown := findClass_of_methodNamed B.named
  have hlk := B.notSynchronized
  have hrt := B.returns
  have hl := lv_entry [Value.ref (gad G 9 0), Value.int v] (n := 2) (Nat.le_of_ble_eq_true rfl)
  rw [lg_entry_eq]
  have n12 : n ≤ 12 := hR.1.2
  have hnM : M 660 0 0 = nI n := hR.1.1
  suffices K : WW G n (p, l, e, ({ frames := 2, cells := 3, slots := 29, locals := 40 } : Room), s, m, [Value.ref (gad G 9 0), Value.int v].toArray, below, meth, c, 0, 0) 2 (MQ below (QcC G n M v) [Value.ref (gad G 9 0), Value.int v].toArray s 3 29 (gA G)) 0 [(0, .ref (gad G 9 0)), (1, .int v)] [] M by
    exact K s.heap [] _ hR va_S.rf hl
  have C : Cx G n (p, l, e, ({ frames := 2, cells := 3, slots := 29, locals := 40 } : Room), s, m, [Value.ref (gad G 9 0), Value.int v].toArray, below, meth, c, 0, 0) RX9 cX9_counter 2 := ⟨hx, hb, hml, hown, hts, hlk, hK, hNW, hKC, hKS, hG, hgb⟩
  have C3 : Cx G n (p, l, e, ({ frames := 2, cells := 3, slots := 29, locals := 40 } : Room), s, m, [Value.ref (gad G 9 0), Value.int v].toArray, below, meth, c, 3, 29) RX9 cX9_counter 2 := ⟨hx, hb, hml, hown, hts, hlk, hK, hNW, hKC, hKS, hG, hgb⟩
  have HR : RM (p, l, e, ({ frames := 2, cells := 3, slots := 29, locals := 40 } : Room), s, m, [Value.ref (gad G 9 0), Value.int v].toArray, below, meth, c, 0, 0) 2 40 := ⟨rfl, rfl, Nat.zero_le _, Nat.zero_le _⟩
  refine w_aload_n C 0 dX9_counter_0 rfl rfl ?_
  refine w_iload_n C 1 dX9_counter_1 rfl rfl ?_
  have hw : wp_X9_versionAt v M (fun r M1 => r = at4 v ∧ M1 = M) := e_X9_versionAt.mpr ⟨rfl, rfl⟩
  refine back_R (run_V C HR mt_X9_versionAt (ci := 9) rfl (by decide) (Nat.le_of_ble_eq_true rfl) gw374 gw0 gw372 (by decide) rfl (Nat.le_of_ble_eq_true rfl) dX9_counter_2 (As := [.int v]) rfl (c_X9_versionAt v _ _ hw)) (fun M1 hw => ?_) (fun j2 M1 hj2 hw => ?_)
  · obtain ⟨h0, rfl⟩ := hw
    refine w_widen (Nat.zero_le 3) (Nat.zero_le 29) ?_
    refine w_ifnonnullN C3 dX9_counter_5 ?_
    refine w_bipush C3 dX9_counter_8 kc_b_m2 ?_
    have hv : ¬ (0 ≤ v ∧ v ≤ 3) := by
      rcases at4_cases v with ⟨_, h2⟩ | ⟨w, hw, e, h1, _⟩
      · exact h2
      · rw [h1] at h0; cases h0
    intro H locs ls hR hS hl
    exact W.iret hx hb hrt (fun t ht hW => ⟨⟨-2, (G, n, M1), rfl, by unfold CQ; rw [if_neg hv]; exact ⟨rfl, rfl⟩, hR.at ht⟩, hS.F ht⟩) hS.2.2 dX9_counter_10 hlk
  · obtain ⟨h0, rfl⟩ := hw
    have hv : 0 ≤ v ∧ v ≤ 3 := by
      rcases at4_cases v with ⟨h1, _⟩ | ⟨w, hw, e, h1, h2⟩
      · rw [h1] at h0; cases h0
      · exact h2
    refine w_ifnonnull C dX9_counter_5 (tgt := 11) rfl ?_
    refine w_aload_n C 0 dX9_counter_11 rfl rfl ?_
    refine gf_X9_66 C (Nat.le_of_ble_eq_true rfl) dX9_counter_12 ?_
    refine w_bipush C dX9_counter_15 (v := 12) (by decide) ?_
    refine w_icmp_lt C dX9_counter_17 (tgt := 23) rfl (fun hlt => ?_) (fun hge => ?_)
    · have hn : n < 12 := by
        rw [hnM] at hlt
        exact (ni_lt (b := 12) (by omega) (by decide)).mp hlt
      have h12 : ¬ M1 660 0 0 = 12 := fun q => by rw [q] at hlt; exact absurd hlt (by decide)
      refine w_aload_n C 0 dX9_counter_23 rfl rfl ?_
      refine gf_X9_17 C (Nat.le_of_ble_eq_true rfl) dX9_counter_24 ?_
      refine w_aload_n C 0 dX9_counter_27 rfl rfl ?_
      refine gf_X9_66 C (Nat.le_of_ble_eq_true rfl) dX9_counter_28 ?_
      rw [hnM]
      intro H locs ls hR hS hl
      refine raw_new hx hb hown hts hK (ci := 0) (T := TX0) rfl rfl in_X0 tyX0 tyX0_ok df_X0 gw106 gx656 gw94 (Nat.le_of_ble_eq_true rfl) (Nat.le_of_ble_eq_true rfl) dX9_counter_31 (fun H1 b1 z1 o1 => ?_)
      refine lv_dup hx hb dX9_counter_34 rfl ?_
      refine lv_iload_n hx hb dX9_counter_35 rfl (lv_at hl 1 rfl) ?_
      have hS1 : va_S (gA G) s.heap H1 locs := sgrow hS (by omega) o1
      have hW1 : HW G H.size (H.size + 1) [.inl (0, [.int 0, .null, .int 0, .int 0, .int 0, .int 0, .int 0, .int 0, .int 0, .null, .int 0, .int 0, .int 0])] H1 := ⟨⟨by omega, Nat.one_pos, by show H1.size + 1 = H.size + 1 + 1; omega⟩, fun k d hk => by
        cases k with
        | zero => cases hk; exact b1
        | succ k => cases hk⟩
      have hgH : gb G ≤ H.size := Nat.le_trans hgb hS.1
      refine raw_init (A0 := gA G) hx hb hml hown hts hK hNW hAO hS1 mx_X0_init rfl gx658 gx657 (by decide) (Nat.le_of_ble_eq_true rfl) (Nat.le_of_ble_eq_true rfl) rfl (Nat.le_of_ble_eq_true rfl) dX9_counter_36 hl.1 hW1 (fun q hq => by
        show gb G ≤ q
        rcases hq with hq | hq <;> omega) (As := [.int v]) rfl (ci_X0_init G l H.size (H.size + 1) v) (fun H2 locs2 hW2 z2 o2 hS2 => ?_)
      have keep2 : ∀ q : Nat, q < H.size → H2[q]? = H[q]? := fun q hq => (o2 q (by omega) (fun a => by rcases a with a | a <;> omega)).trans (o1 q hq)
      have hl50 := hR.lt (k := 50) (j := 0) (by decide) (Nat.le_of_ble_eq_true rfl)
      have hl9 := hR.lt (k := 9) (j := 0) (by decide) (Nat.le_of_ble_eq_true rfl)
      have a50 : H2[gad G 50 0]? = some (arrV (gR G 5) 12 (fun i => av G n M1 50 0 i)) := (keep2 _ hl50).trans (hR.2.2.2 50 0 (by decide) (by decide) (Nat.le_of_ble_eq_true rfl))
      have k0 := hW2.2 0 _ rfl
      obtain ⟨cellV, g1, g2, g3, -⟩ := k0
      have hcls := (hK.1 0 _ rfl).2
      obtain ⟨kA, comp, d1, d2, d3, -⟩ := (hK.2 5 _ rfl).2
      have hcomp : comp = gC G 0 := Option.some.inj (d3.symm.trans hcls.1)
      subst hcomp
      obtain ⟨kC, hkC, -⟩ := hcls.2
      have hi : vp_in (nI n) 12 := (ni_in (by omega)).mpr hn
      have hcl : (nI n).toNatClampNeg = n := ni_cl (by omega)
      refine W.aast hx hb a50 (fun q h => by cases h) (fun h => by cases h) d1 d2 rfl hkC ⟨fun q => hi (Or.inl q), by rw [arrV_size]; exact vin_lt hi⟩ g1 (fun q h => by rw [g3] at h; cases h) (by rw [g2]; exact hkC) (by rw [g2]; exact va_assign hcls) rfl rfl dX9_counter_39 fun H3 e3 z3 o3 => ?_
      rw [arrV_store, hcl] at e3
      have hne : gad G 9 0 ≠ gad G 50 0 := fun q => by
        have := (hG.1 9 0 50 0 (by decide) (by decide) (Nat.le_of_ble_eq_true rfl) (Nat.le_of_ble_eq_true rfl) q).1
        omega
      have hS3 := hS2.put (k := (nI n).toNatClampNeg) z3 o3 (hG.2 50 0 (by decide) (Nat.le_of_ble_eq_true rfl))
      have ob3 : t_OB (gad G 9 0) (gC G 9) (nsl 9) (gI G 9) H3 (fun s => fv G M1 9 0 s) := (hR.2.2.1 9 0 (by decide) (Nat.le_of_ble_eq_true rfl)).kept ((o3 _ hne).trans (keep2 _ hl9))
      refine lv_aload_n hx hb dX9_counter_40 rfl (lv_at hl 0 rfl) ?_
      refine lv_dup hx hb dX9_counter_41 rfl ?_
      have hap := w_apart (G := G) hts in_X9 tyX9 tyX9_ok nmX9 hK (ci := 9) rfl
      obtain ⟨cell, q1, q2, q3, q4⟩ := ob3
      obtain ⟨hSl, hfc, kC9, hkC9, hkind⟩ := hK.1 9 _ rfl
      obtain ⟨cf, kf, fi, f, hif, hsl⟩ := hSl 10 (by decide)
      have hst := (u_facts hfc hkC9 (u_lays hts in_X9 (k := 10) (by decide)) hif).1
      refine W.getf hx hb hown (hts _ gw335) hif hst q1 (by rw [q3]; exact fun h => by cases h) (v := .int (nI n)) (by
        rw [hsl, ← hnM]
        exact q4 10 (by decide)) rfl rfl dX9_counter_42 ?_
      refine lv_iconst hx hb dX9_counter_45 kc_i_1 ?_
      refine lv_iadd hx hb dX9_counter_46 ?_
      have e1 : nI n + 1 = nI (n + 1) := by rw [nI_1]
      rw [e1]
      have hlay := hts _ (in_X9 _ (u_in_lay (k := 10) (by decide)))
      unfold u_lay at hlay
      rw [if_neg (by decide)] at hlay
      have h6 := u_store hfc hkC9 hkind hlay hif (tyX9_ok 10 (by decide)) (v := .int (nI (n + 1))) rfl rfl
      refine W.putK hx hb (f := f) ⟨hown, hts _ gw335, ⟨_, _, _, hif⟩, hst⟩ (by rw [q2]; exact h6) q1 q3 (by rw [hsl]; exact k2_hasslot (q4 10 (by decide))) rfl rfl dX9_counter_47 fun H4 e4 z4 o4 => ?_
      rw [hsl] at e4 ⊢
      have ob4 : t_OB (gad G 9 0) (gC G 9) 14 (gI G 9) H4 (updV (fun s => fv G M1 9 0 s) 10 (.int (nI (n + 1)))) := ⟨_, e4, q2, q3, t_set q4 hap (by decide) _⟩
      have hS4 := hS3.put (k := gI G 9 10) z4 o4 (hG.2 9 0 (by decide) (Nat.le_of_ble_eq_true rfl))
      have keep4 : ∀ q : Nat, q ≠ gad G 50 0 → q ≠ gad G 9 0 → H4[q]? = H2[q]? := fun q h1 h2 => (o4 q h2).trans (o3 q h1)
      have hG' : GOK (gnx G n H.size) (n + 1) := hG.new hR hgH
      have hR4 : Rep (gnx G n H.size) (n + 1) (mkc M1 n v) H4 := by
        refine Rep.new hn hG hR (fun q hq h1 h2 => (keep4 q h1 h2).trans (keep2 q hq)) ((o4 _ (Ne.symm hne)).trans e3) ob4 ?_ ?_ ?_
        · exact (hW2.2 0 _ rfl).kept (keep4 _ (fun q => by have : H.size = gad G 50 0 := q; omega) (fun q => by have : H.size = gad G 9 0 := q; omega))
        · exact (hW2.2 1 _ rfl).kept (keep4 _ (fun q => by have : H.size + 1 + 0 = gad G 50 0 := q; omega) (fun q => by have : H.size + 1 + 0 = gad G 9 0 := q; omega))
        · exact (hW2.2 2 _ rfl).kept (keep4 _ (fun q => by have : H.size + 1 + 1 = gad G 50 0 := q; omega) (fun q => by have : H.size + 1 + 1 = gad G 9 0 := q; omega))
      have C4 : Cx (gnx G n H.size) (n + 1) (p, l, e, ({ frames := 2, cells := 3, slots := 29, locals := 40 } : Room), s, m, [Value.ref (gad G 9 0), Value.int v].toArray, below, meth, c, 3, 29) RX9 cX9_counter 2 := ⟨hx, hb, hml, hown, hts, hlk, hK, hNW, hKC, hKS, hG', hgb⟩
      have e9 : gad (gnx G n H.size) 9 0 = gad G 9 0 := gnx_o (fun q => by omega)
      suffices K : WW (gnx G n H.size) (n + 1) (p, l, e, ({ frames := 2, cells := 3, slots := 29, locals := 40 } : Room), s, m, [Value.ref (gad G 9 0), Value.int v].toArray, below, meth, c, 3, 29) 2 (MQ below (QcC G n M1 v) [Value.ref (gad G 9 0), Value.int v].toArray s 3 29 (gA G)) 50 [(0, .ref (gad (gnx G n H.size) 9 0)), (1, .int v)] [] (mkc M1 n v) by
        rw [e9] at K
        exact K H4 _ ls hR4 hS4 hl
      refine w_aload_n C4 0 dX9_counter_50 rfl rfl ?_
      refine gf_X9_66 C4 (Nat.le_of_ble_eq_true rfl) dX9_counter_51 ?_
      refine w_iconst C4 dX9_counter_54 kc_i_1 ?_
      refine w_isub C4 dX9_counter_55 ?_
      rw [mkc_c, show nI (n + 1) - 1 = nI n by rw [← e1]; grind]
      intro H5 locs5 ls5 hR5 hS5 hl5
      exact W.iret hx hb hrt (fun t ht hW => ⟨⟨nI n, (gnx G n H.size, n + 1, mkc M1 n v), rfl, by
        unfold CQ
        rw [if_pos hv, if_neg h12]
        exact ⟨hnM.symm, hn, H.size, rfl, hG'⟩, hR5.at ht⟩, va_S.F (A := gA G) hS5 ht⟩) hS5.2.2 dX9_counter_56 hlk
    · refine w_widen (Nat.zero_le 3) (Nat.zero_le 29) ?_
      refine w_bipush C3 dX9_counter_20 kc_b_m4 ?_
      have h12 : M1 660 0 0 = 12 := by
        rw [hnM] at hge ⊢
        have : ¬ n < 12 := fun q => hge ((ni_lt (b := 12) (by omega) (by decide)).mpr q)
        rw [show n = 12 by omega]; rfl
      intro H locs ls hR hS hl
      exact W.iret hx hb hrt (fun t ht hW => ⟨⟨-4, (G, n, M1), rfl, by unfold CQ; rw [if_pos hv, if_pos h12]; exact ⟨rfl, rfl⟩, hR.at ht⟩, hS.F ht⟩) hS.2.2 dX9_counter_22 hlk
