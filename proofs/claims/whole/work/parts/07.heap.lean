/-! THE MEMORY IN THE HEAP -/
theorem nsl_le : ∀ ci : Nat, ci < 11 → nsl ci ≤ 48 := by decide
theorem fv_ne {G : GG} {M : Mem} {ci j s K jj i : Nat} {v : Int32} (h : 200 + 50 * ci + s ≠ K) : fv G (mst M K jj i v) ci j s = fv G M ci j s := by
  unfold fv
  rw [mst_ne h]
theorem fv_nj {G : GG} {M : Mem} {ci j s K jj i : Nat} {v : Int32} (h0 : fk ci s = 0) (h : j ≠ jj) : fv G (mst M K jj i v) ci j s = fv G M ci j s := by
  unfold fv
  rw [h0]
  show Value.int _ = Value.int _
  congr 1
  by_cases hK : 200 + 50 * ci + s = K
  · subst hK; rw [mst_k, if_neg (fun q => h q.1)]
  · rw [mst_ne hK]
theorem av_ne {G : GG} {n : Nat} {M M' : Mem} {k j i : Nat} (h : M' k j i = M k j i) : av G n M' k j i = av G n M k j i := by
  unfold av
  rw [h]
theorem Rep.of {G : GG} {n : Nat} {M M' : Mem} {H H' : Heap} (hG : GOK G n) (hR : Rep G n M H) {k0 j0 : Nat} (hk0 : k0 < 87) (hj0 : j0 < cnt n k0) (oq : ∀ q : Nat, q ≠ gad G k0 j0 → H'[q]? = H[q]?)
    (h1 : M' 660 0 0 = M 660 0 0) (h2 : (M' 401 0 0).toNatClampNeg < 4 ∧ (M' 402 0 0).toNatClampNeg < 4)
    (ho : ∀ ci j s : Nat, ci < 11 → s < nsl ci → ¬ (ci = k0 ∧ j = j0) → fv G M' ci j s = fv G M ci j s)
    (ha : ∀ k j i : Nat, 20 ≤ k → k < 87 → ¬ (k = k0 ∧ j = j0) → av G n M' k j i = av G n M k j i)
    (hn1 : k0 < 11 → t_OB (gad G k0 j0) (gC G k0) (nsl k0) (gI G k0) H' (fun s => fv G M' k0 j0 s))
    (hn2 : 20 ≤ k0 → H'[gad G k0 j0]? = some (arrV (gR G (atc k0)) (alen k0) (fun i => av G n M' k0 j0 i))) : Rep G n M' H' := by
  obtain ⟨r1, r2, r3, r4⟩ := hR
  refine ⟨⟨h1.trans r1.1, r1.2⟩, h2, fun ci j hci hj => ?_, fun k j hk1 hk2 hj => ?_⟩
  · by_cases e : ci = k0 ∧ j = j0
    · obtain ⟨rfl, rfl⟩ := e; exact hn1 hci
    · refine t_OB.to ((r3 ci j hci hj).kept (oq _ fun q => ?_)) (fun s hs => (ho ci j s hci hs e).symm)
      exact e (hG.1 ci j k0 j0 (by omega) hk0 hj hj0 q)
  · by_cases e : k = k0 ∧ j = j0
    · obtain ⟨rfl, rfl⟩ := e; exact hn2 hk1
    · rw [oq _ (fun q => e (hG.1 k j k0 j0 hk2 hk0 hj hj0 q)), r4 k j hk1 hk2 hj]
      congr 2
      funext i
      exact (ha k j i hk1 hk2 e).symm
theorem Rep.putI {G : GG} {n : Nat} {M : Mem} {H H' : Heap} {ci j s : Nat} {v : Int32} (hG : GOK G n) (hR : Rep G n M H) (hci : ci < 11) (hj : j < cnt n ci) (hs : s < nsl ci) (h0 : fk ci s = 0) (hK : 200 + 50 * ci + s ≠ 660 ∧ 200 + 50 * ci + s ≠ 401 ∧ 200 + 50 * ci + s ≠ 402)
    (he : t_OB (gad G ci j) (gC G ci) (nsl ci) (gI G ci) H' (updV (fun s => fv G M ci j s) s (.int v))) (oq : ∀ q : Nat, q ≠ gad G ci j → H'[q]? = H[q]?) : Rep G n (mst M (200 + 50 * ci + s) j 0 v) H' := by
  have hb := nsl_le ci hci
  refine Rep.of hG hR (k0 := ci) (j0 := j) (by omega) hj oq (by rw [mst_ne (Ne.symm hK.1)]) (by rw [mst_ne (Ne.symm hK.2.1), mst_ne (Ne.symm hK.2.2)]; exact hR.2.1) (fun ci' j' s' h1 h2 h3 => ?_) (fun k j' i h1 h2 h3 => av_ne (by rw [mst_ne (by omega)])) (fun _ => t_OB.to he (fun s' hs' => ?_)) (fun h => by omega)
  · have hb' := nsl_le ci' h1
    by_cases e : 200 + 50 * ci' + s' = 200 + 50 * ci + s
    · obtain ⟨rfl, rfl⟩ : ci' = ci ∧ s' = s := by omega
      exact fv_nj h0 (fun q => h3 ⟨rfl, q⟩)
    · exact fv_ne e
  · show updV _ s _ s' = fv G _ ci j s'
    by_cases e : s' = s
    · subst e
      unfold fv
      rw [h0]
      simp [updV, mst_eq]
    · rw [fv_ne (by omega)]
      simp [updV, e]
theorem Rep.putD {G : GG} {n : Nat} {M : Mem} {H H' : Heap} {s v : Nat} (hG : GOK G n) (hR : Rep G n M H) (hs : s = 1 ∨ s = 2) (hv : v < 4)
    (he : t_OB (gad G 4 0) (gC G 4) (nsl 4) (gI G 4) H' (updV (fun s => fv G M 4 0 s) s (.ref (gad G 8 v)))) (oq : ∀ q : Nat, q ≠ gad G 4 0 → H'[q]? = H[q]?) : Rep G n (mst M (400 + s) 0 0 (nI v)) H' := by
  have hc : (nI v).toNatClampNeg = v := nI_clamp (by omega)
  refine Rep.of hG hR (k0 := 4) (j0 := 0) (by omega) (Nat.le_of_ble_eq_true rfl) oq (by rw [mst_ne (by omega)]) ?_ (fun ci' j' s' h1 h2 h3 => ?_) (fun k j' i h1 h2 h3 => av_ne (by rw [mst_ne (by omega)])) (fun _ => t_OB.to he (fun s' hs' => ?_)) (fun h => by omega)
  · rcases hs with rfl | rfl
    · rw [mst_eq, mst_ne (by omega), hc]; exact ⟨hv, hR.2.1.2⟩
    · rw [mst_eq, mst_ne (by omega), hc]; exact ⟨hR.2.1.1, hv⟩
  · have hb' := nsl_le ci' h1
    by_cases e : 200 + 50 * ci' + s' = 400 + s
    · obtain ⟨rfl, rfl⟩ : ci' = 4 ∧ s' = s := by omega
      have hj : j' ≠ 0 := fun q => h3 ⟨rfl, q⟩
      have hf : fk 4 s' = 1 := by rcases hs with rfl | rfl <;> rfl
      unfold fv
      rw [hf]
      show Value.ref _ = Value.ref _
      rw [show 200 + 50 * 4 + s' = 400 + s' by omega, mst_k, if_neg (fun q => hj q.1)]
    · exact fv_ne e
  · show updV _ s _ s' = fv G _ 4 0 s'
    by_cases e : s' = s
    · subst e
      have hf : fk 4 s' = 1 := by rcases hs with rfl | rfl <;> rfl
      unfold fv
      rw [hf]
      show _ = Value.ref _
      rw [show 200 + 50 * 4 + s' = 400 + s' by omega, mst_eq, hc]
      simp [updV]
    · rw [fv_ne (by omega)]
      simp [updV, e]
theorem Rep.arr {G : GG} {n : Nat} {M : Mem} {H : Heap} {k j : Nat} (hR : Rep G n M H) (h1 : 20 ≤ k) (h2 : k < 87) (hj : j < cnt n k) : H[gad G k j]? = some (arrV (gR G (atc k)) (alen k) (fun i => av G n M k j i)) := hR.2.2.2 k j h1 h2 hj
theorem av_int {G : GG} {n : Nat} {M : Mem} {k j i : Nat} (h : ek k = 0) : av G n M k j i = .int (M k j i) := by
  unfold av; rw [h]
theorem Rep.putA {G : GG} {n : Nat} {M M' : Mem} {H H' : Heap} {k j : Nat} (hG : GOK G n) (hR : Rep G n M H) (h1 : 20 ≤ k) (h2 : k < 87) (hj : j < cnt n k) (h0 : ek k = 0) (hk : ∀ k', k' ≠ k → M' k' = M k') (hjj : ∀ j' i, j' ≠ j → M' k j' i = M k j' i)
    (he : H'[gad G k j]? = some (arrV (gR G (atc k)) (alen k) (fun i => .int (M' k j i)))) (oq : ∀ q : Nat, q ≠ gad G k j → H'[q]? = H[q]?) : Rep G n M' H' := by
  refine Rep.of hG hR (k0 := k) (j0 := j) h2 hj oq (by rw [hk _ (by omega)]) (by rw [hk _ (by omega), hk _ (by omega)]; exact hR.2.1) (fun ci' j' s' q1 q2 q3 => ?_) (fun k' j' i q1 q2 q3 => av_ne ?_) (fun h => by omega) (fun _ => ?_)
  · unfold fv; rw [hk _ (by omega)]
  · by_cases e : k' = k
    · subst e; exact hjj j' i (fun q => q3 ⟨rfl, q⟩)
    · rw [hk _ e]
  · rw [he]
    congr 2
    funext i
    exact (av_int h0).symm
section HROWS
variable {G : GG} {n : Nat} {E : EE} {own : String} {cc : ByteArray} {nL : Nat} {Q : State → Prop} {pc : Nat} {lv : List (Nat × Value)} {st : List Value} {M : Mem}
/-- a field is read -/
theorem w_get (C : Cx G n E own cc nL) {Cn : String} {T : u_T} {N ci j s ix : Nat} {v : Value} (hc : vwCl[ci]? = some (Cn, T, N)) (hN : nsl ci = N) (hin : ∀ w ∈ u_ws Cn T N, w ∈ GW) (hci : ci < 11) (hs : s < N) (hlink : Cond.fieldLink own ix (T s).1 (T s).2.1 (T s).2.2.1 ∈ GW) (hj : j < cnt n ci) (hv : fv G M ci j s = v)
    (hd : decode cc pc = .ok (.getfield ix, 3)) (k : WW G n E nL Q (pc + 3) lv (v :: st) M) : WW G n E nL Q pc lv (.ref (gad G ci j) :: st) M := by
  obtain ⟨p, l, e, R, s0, m, args, below, meth, c, ce, sl⟩ := E
  obtain ⟨hx, hb, hml, hown, hts, hlk, hK, hNW, hKC, hKS, hG, hgb⟩ := C
  intro H locs ls hR hS hl
  subst hN
  obtain ⟨cell, q1, q2, q3, q4⟩ := hR.2.2.1 ci j hci hj
  obtain ⟨hSl, hfc, kC, hkC, hkind⟩ := hK.1 ci _ hc
  obtain ⟨cf, kf, fi, f, hi, hsl⟩ := hSl s hs
  refine W.getf hx hb hown (hts _ hlink) hi (u_facts hfc hkC (u_lays hts hin hs) hi).1 q1 (by rw [q3]; exact fun h => by cases h) (v := v) ?_ rfl rfl hd (k H locs ls hR hS hl)
  rw [hsl, ← hv]
  exact q4 s hs
theorem w_getN (C : Cx G n E own cc nL) {Cn host : String} {T : u_T} {N ci j s ix : Nat} {v : Value} (hc : vwCl[ci]? = some (Cn, T, N)) (hN : nsl ci = N) (hin : ∀ w ∈ u_ws Cn T N, w ∈ GW) (hci : ci < 11) (hs : s < N) (hlink : Cond.fieldLinkNest own ix (T s).1 (T s).2.1 (T s).2.2.1 host ∈ NW) (hj : j < cnt n ci) (hv : fv G M ci j s = v)
    (hd : decode cc pc = .ok (.getfield ix, 3)) (k : WW G n E nL Q (pc + 3) lv (v :: st) M) : WW G n E nL Q pc lv (.ref (gad G ci j) :: st) M := by
  obtain ⟨p, l, e, R, s0, m, args, below, meth, c, ce, sl⟩ := E
  obtain ⟨hx, hb, hml, hown, hts, hlk, hK, hNW, hKC, hKS, hG, hgb⟩ := C
  intro H locs ls hR hS hl
  subst hN
  obtain ⟨cell, q1, q2, q3, q4⟩ := hR.2.2.1 ci j hci hj
  obtain ⟨hSl, hfc, kC, hkC, hkind⟩ := hK.1 ci _ hc
  obtain ⟨cf, kf, fi, f, hi, hsl⟩ := hSl s hs
  refine va_Wgetf hx hb hown (va_Nw.use rfl (hNW _ hlink)) hi (u_facts hfc hkC (u_lays hts hin hs) hi).1 q1 (by rw [q3]; exact fun h => by cases h) (v := v) ?_ rfl rfl hd (k H locs ls hR hS hl)
  rw [hsl, ← hv]
  exact q4 s hs
theorem w_apart {ce : State} {args : Array Value} {Cn : String} {T : u_T} {N ci : Nat} (hts : ∀ w ∈ GW, w.before args ce = true) (hin : ∀ w ∈ u_ws Cn T N, w ∈ GW) (ty : Nat → FieldType) (hty : ∀ k, k < N → parseFieldDescriptor (T k).2.2.1 = some (ty k)) (hnm : ∀ a, a < N → ∀ b, b < N → a ≠ b → (T a).2.1 ≠ (T b).2.1) (hK : va_K (gC G, gI G) vwCl (tysG G) ce) (hc : vwCl[ci]? = some (Cn, T, N)) : ∀ x y, x < N → y < N → x ≠ y → gI G ci x ≠ gI G ci y :=
  va_apart (own := "") hts hin ty hty hnm hK hc
/-- a field is written: v is what stands there then -/
theorem w_putX (C : Cx G n E own cc nL) {Cn : String} {T : u_T} {N ci j s ix : Nat} {v : Value} {M' : Mem} (hc : vwCl[ci]? = some (Cn, T, N)) (hN : nsl ci = N) (hin : ∀ w ∈ u_ws Cn T N, w ∈ GW) (hci : ci < 11) (hs : s < N) (ty0 : Nat → FieldType) (hty : ∀ k, k < N → parseFieldDescriptor (T k).2.2.1 = some (ty0 k)) (hnm : ∀ a, a < N → ∀ b, b < N → a ≠ b → (T a).2.1 ≠ (T b).2.1) (hfin : (T s).2.2.2 = false)
    (hlink : Cond.fieldLink own ix (T s).1 (T s).2.1 (T s).2.2.1 ∈ GW) (hj : j < cnt n ci) (hn : narrow (ty0 s) v = v) (hfit : fits (ty0 s) v = true)
    (hM : ∀ H H' : Heap, Rep G n M H → t_OB (gad G ci j) (gC G ci) (nsl ci) (gI G ci) H' (updV (fun s => fv G M ci j s) s v) → (∀ q : Nat, q ≠ gad G ci j → H'[q]? = H[q]?) → Rep G n M' H')
    (hd : decode cc pc = .ok (.putfield ix, 3)) (k : WW G n E nL Q (pc + 3) lv st M') : WW G n E nL Q pc lv (v :: .ref (gad G ci j) :: st) M := by
  obtain ⟨p, l, e, R, s0, m, args, below, meth, c, ce, sl⟩ := E
  obtain ⟨hx, hb, hml, hown, hts, hlk, hK, hNW, hKC, hKS, hG, hgb⟩ := C
  intro H locs ls hR hS hl
  subst hN
  have hap := w_apart hts hin ty0 hty hnm hK hc
  obtain ⟨cell, q1, q2, q3, q4⟩ := hR.2.2.1 ci j hci hj
  obtain ⟨hSl, hfc, kC, hkC, hkind⟩ := hK.1 ci _ hc
  obtain ⟨cf, kf, fi, f, hi, hsl⟩ := hSl s hs
  have hlay := hts _ (hin _ (u_in_lay hs))
  unfold u_lay at hlay
  rw [if_neg (by rw [hfin]; decide)] at hlay
  have hst := (u_facts hfc hkC (u_lays hts hin hs) hi).1
  have h6 := u_store hfc hkC hkind hlay hi (hty s hs) hn hfit
  refine W.putK hx hb (f := f) ⟨hown, hts _ hlink, ⟨_, _, _, hi⟩, hst⟩ (by rw [q2]; exact h6) q1 q3 (by rw [hsl]; exact k2_hasslot (q4 s hs)) rfl rfl hd fun H' e1 e2 e3 => ?_
  rw [hsl] at e1 ⊢
  exact k H' _ ls (hM H H' hR ⟨_, e1, q2, q3, t_set q4 hap hs v⟩ e3) (hS.put e2 e3 (hG.2 ci j (by omega) hj)) hl
theorem w_putXN (C : Cx G n E own cc nL) {Cn host : String} {T : u_T} {N ci j s ix : Nat} {v : Value} {M' : Mem} (hc : vwCl[ci]? = some (Cn, T, N)) (hN : nsl ci = N) (hin : ∀ w ∈ u_ws Cn T N, w ∈ GW) (hci : ci < 11) (hs : s < N) (ty0 : Nat → FieldType) (hty : ∀ k, k < N → parseFieldDescriptor (T k).2.2.1 = some (ty0 k)) (hnm : ∀ a, a < N → ∀ b, b < N → a ≠ b → (T a).2.1 ≠ (T b).2.1) (hfin : (T s).2.2.2 = false)
    (hlink : Cond.fieldLinkNest own ix (T s).1 (T s).2.1 (T s).2.2.1 host ∈ NW) (hj : j < cnt n ci) (hn : narrow (ty0 s) v = v) (hfit : fits (ty0 s) v = true)
    (hM : ∀ H H' : Heap, Rep G n M H → t_OB (gad G ci j) (gC G ci) (nsl ci) (gI G ci) H' (updV (fun s => fv G M ci j s) s v) → (∀ q : Nat, q ≠ gad G ci j → H'[q]? = H[q]?) → Rep G n M' H')
    (hd : decode cc pc = .ok (.putfield ix, 3)) (k : WW G n E nL Q (pc + 3) lv st M') : WW G n E nL Q pc lv (v :: .ref (gad G ci j) :: st) M := by
  obtain ⟨p, l, e, R, s0, m, args, below, meth, c, ce, sl⟩ := E
  obtain ⟨hx, hb, hml, hown, hts, hlk, hK, hNW, hKC, hKS, hG, hgb⟩ := C
  intro H locs ls hR hS hl
  subst hN
  have hap := w_apart hts hin ty0 hty hnm hK hc
  obtain ⟨cell, q1, q2, q3, q4⟩ := hR.2.2.1 ci j hci hj
  obtain ⟨hSl, hfc, kC, hkC, hkind⟩ := hK.1 ci _ hc
  obtain ⟨cf, kf, fi, f, hi, hsl⟩ := hSl s hs
  have hlay := hts _ (hin _ (u_in_lay hs))
  unfold u_lay at hlay
  rw [if_neg (by rw [hfin]; decide)] at hlay
  have hst := (u_facts hfc hkC (u_lays hts hin hs) hi).1
  have h6 := u_store hfc hkC hkind hlay hi (hty s hs) hn hfit
  refine va_WputK hx hb (f := f) hown (va_Nw.use rfl (hNW _ hlink)) hi hst (by rw [q2]; exact h6) q1 q3 (by rw [hsl]; exact k2_hasslot (q4 s hs)) rfl rfl hd fun H' e1 e2 e3 => ?_
  rw [hsl] at e1 ⊢
  exact k H' _ ls (hM H H' hR ⟨_, e1, q2, q3, t_set q4 hap hs v⟩ e3) (hS.put e2 e3 (hG.2 ci j (by omega) hj)) hl
theorem vin_lt {i : Int32} {N : Nat} (h : vp_in i N) : i.toNatClampNeg < N := Nat.not_le.mp fun q => h (Or.inr q)
theorem w_iald (C : Cx G n E own cc nL) {kk j : Nat} {i : Int32} (h1 : 20 ≤ kk) (h2 : kk < 87) (h0 : ek kk = 0) (ht : atc kk = 0) (hj : j < cnt n kk) (hi : vp_in i (alen kk)) (hd : decode cc pc = .ok (.iaload, 1)) (k : WW G n E nL Q (pc + 1) lv (.int (M kk j i.toNatClampNeg) :: st) M) : WW G n E nL Q pc lv (.int i :: .ref (gad G kk j) :: st) M := by
  obtain ⟨p, l, e, R, s0, m, args, below, meth, c, ce, sl⟩ := E
  obtain ⟨hx, hb, hml, hown, hts, hlk, hK, hNW, hKC, hKS, hG, hgb⟩ := C
  intro H locs ls hR hS hl
  have ha := hR.arr h1 h2 hj
  rw [ht] at ha
  exact W.iald (v := .int (M kk j i.toNatClampNeg)) hx hb ha ((hK.2 0 (gR G 0, .int) rfl).1 _ _) (fun q => by cases q) (by rw [arrV_size]; exact hi) (by rw [arrV_read _ _ (vin_lt hi), av_int h0]) rfl rfl hd (k H locs ls hR hS hl)
theorem w_bald (C : Cx G n E own cc nL) {kk j : Nat} {i : Int32} (h1 : 20 ≤ kk) (h2 : kk < 87) (h0 : ek kk = 0) (ht : atc kk = 1) (hj : j < cnt n kk) (hi : vp_in i (alen kk)) (hd : decode cc pc = .ok (.baload, 1)) (k : WW G n E nL Q (pc + 1) lv (.int (M kk j i.toNatClampNeg) :: st) M) : WW G n E nL Q pc lv (.int i :: .ref (gad G kk j) :: st) M := by
  obtain ⟨p, l, e, R, s0, m, args, below, meth, c, ce, sl⟩ := E
  obtain ⟨hx, hb, hml, hown, hts, hlk, hK, hNW, hKC, hKS, hG, hgb⟩ := C
  intro H locs ls hR hS hl
  have ha := hR.arr h1 h2 hj
  rw [ht] at ha
  exact W.bald (v := .int (M kk j i.toNatClampNeg)) hx hb ha ((hK.2 1 (gR G 1, .byte) rfl).1 _ _) (fun q => by cases q) (by rw [arrV_size]; exact hi) (by rw [arrV_read _ _ (vin_lt hi), av_int h0]) rfl rfl hd (k H locs ls hR hS hl)
theorem w_zald (C : Cx G n E own cc nL) {kk j : Nat} {i : Int32} (h1 : 20 ≤ kk) (h2 : kk < 87) (h0 : ek kk = 0) (ht : atc kk = 2) (hj : j < cnt n kk) (hi : vp_in i (alen kk)) (hd : decode cc pc = .ok (.baload, 1)) (k : WW G n E nL Q (pc + 1) lv (.int (M kk j i.toNatClampNeg) :: st) M) : WW G n E nL Q pc lv (.int i :: .ref (gad G kk j) :: st) M := by
  obtain ⟨p, l, e, R, s0, m, args, below, meth, c, ce, sl⟩ := E
  obtain ⟨hx, hb, hml, hown, hts, hlk, hK, hNW, hKC, hKS, hG, hgb⟩ := C
  intro H locs ls hR hS hl
  have ha := hR.arr h1 h2 hj
  rw [ht] at ha
  exact W.zald (v := .int (M kk j i.toNatClampNeg)) hx hb ha ((hK.2 2 (gR G 2, .boolean) rfl).1 _ _) (fun q => by cases q) (by rw [arrV_size]; exact hi) (by rw [arrV_read _ _ (vin_lt hi), av_int h0]) rfl rfl hd (k H locs ls hR hS hl)
theorem w_aald (C : Cx G n E own cc nL) {kk j t : Nat} {i : Int32} {ty : FieldType} {v : Value} (h1 : 20 ≤ kk) (h2 : kk < 87) (ht : atc kk = t) (hty : (tysG G)[t]? = some (gR G t, ty)) (href : ty.isReference = true) (hj : j < cnt n kk) (hi : vp_in i (alen kk)) (hv : av G n M kk j i.toNatClampNeg = v) (hd : decode cc pc = .ok (.aaload, 1)) (k : WW G n E nL Q (pc + 1) lv (v :: st) M) : WW G n E nL Q pc lv (.int i :: .ref (gad G kk j) :: st) M := by
  obtain ⟨p, l, e, R, s0, m, args, below, meth, c, ce, sl⟩ := E
  obtain ⟨hx, hb, hml, hown, hts, hlk, hK, hNW, hKC, hKS, hG, hgb⟩ := C
  intro H locs ls hR hS hl
  have ha := hR.arr h1 h2 hj
  rw [ht] at ha
  exact W.aald (v := v) (ty := ty) hx hb ha ((hK.2 t _ hty).1 _ _) href (fun q => by cases q) (by rw [arrV_size]; exact hi) (by rw [arrV_read _ _ (vin_lt hi), hv]) rfl rfl hd (k H locs ls hR hS hl)
theorem mst_upd {M : Mem} {k j i : Nat} {v : Int32} (G : GG) (n : Nat) (h0 : ek k = 0) : updV (fun i => av G n M k j i) i (.int v) = fun i' => .int (mst M k j i v k j i') := by
  funext i'
  rw [mst_k]
  by_cases e : i' = i
  · simp [updV, e]
  · simp [updV, e, av_int h0]
theorem w_ast0 {G : GG} {n : Nat} {M : Mem} {H H' : Heap} {k j i : Nat} {v : Int32} (hG : GOK G n) (hR : Rep G n M H) (h1 : 20 ≤ k) (h2 : k < 87) (hj : j < cnt n k) (h0 : ek k = 0)
    (he : H'[gad G k j]? = some ((arrV (gR G (atc k)) (alen k) (fun i => av G n M k j i)).setSlot i (.int v))) (oq : ∀ q : Nat, q ≠ gad G k j → H'[q]? = H[q]?) : Rep G n (mst M k j i v) H' := by
  refine Rep.putA hG hR h1 h2 hj h0 (fun k' e => mst_ne e) (fun j' i' e => by rw [mst_k, if_neg (fun q => e q.1)]) ?_ oq
  rw [he, arrV_store, mst_upd G n h0]
theorem w_iast (C : Cx G n E own cc nL) {kk j : Nat} {i v : Int32} (h1 : 20 ≤ kk) (h2 : kk < 87) (h0 : ek kk = 0) (ht : atc kk = 0) (hj : j < cnt n kk) (hi : vp_in i (alen kk)) (hd : decode cc pc = .ok (.iastore, 1)) (k : WW G n E nL Q (pc + 1) lv st (mst M kk j i.toNatClampNeg v)) : WW G n E nL Q pc lv (.int v :: .int i :: .ref (gad G kk j) :: st) M := by
  obtain ⟨p, l, e, R, s0, m, args, below, meth, c, ce, sl⟩ := E
  obtain ⟨hx, hb, hml, hown, hts, hlk, hK, hNW, hKC, hKS, hG, hgb⟩ := C
  intro H locs ls hR hS hl
  have ha := hR.arr h1 h2 hj
  have hr := ha
  rw [ht] at ha
  refine W.iast hx hb ha ((hK.2 0 (gR G 0, .int) rfl).1 _ _) (fun q => by cases q) (by rw [arrV_size]; exact hi) rfl rfl hd fun H' e1 e2 e3 => ?_
  exact k H' _ ls (w_ast0 hG hR h1 h2 hj h0 (by rw [e1, ht]) e3) (hS.put e2 e3 (hG.2 kk j h2 hj)) hl
theorem w_bast (C : Cx G n E own cc nL) {kk j : Nat} {i v : Int32} (h1 : 20 ≤ kk) (h2 : kk < 87) (h0 : ek kk = 0) (ht : atc kk = 1) (hj : j < cnt n kk) (hi : vp_in i (alen kk)) (hd : decode cc pc = .ok (.bastore, 1)) (k : WW G n E nL Q (pc + 1) lv st (mst M kk j i.toNatClampNeg v.toInt8.toInt32)) : WW G n E nL Q pc lv (.int v :: .int i :: .ref (gad G kk j) :: st) M := by
  obtain ⟨p, l, e, R, s0, m, args, below, meth, c, ce, sl⟩ := E
  obtain ⟨hx, hb, hml, hown, hts, hlk, hK, hNW, hKC, hKS, hG, hgb⟩ := C
  intro H locs ls hR hS hl
  have ha := hR.arr h1 h2 hj
  rw [ht] at ha
  refine W.bast hx hb ha ((hK.2 1 (gR G 1, .byte) rfl).1 _ _) (fun q => by cases q) (by rw [arrV_size]; exact hi) rfl rfl hd fun H' e1 e2 e3 => ?_
  exact k H' _ ls (w_ast0 hG hR h1 h2 hj h0 (by rw [e1, ht]; rfl) e3) (hS.put e2 e3 (hG.2 kk j h2 hj)) hl
theorem w_zast (C : Cx G n E own cc nL) {kk j : Nat} {i v : Int32} (h1 : 20 ≤ kk) (h2 : kk < 87) (h0 : ek kk = 0) (ht : atc kk = 2) (hj : j < cnt n kk) (hi : vp_in i (alen kk)) (hn : narrow .boolean (.int v) = .int v) (hd : decode cc pc = .ok (.bastore, 1)) (k : WW G n E nL Q (pc + 1) lv st (mst M kk j i.toNatClampNeg v)) : WW G n E nL Q pc lv (.int v :: .int i :: .ref (gad G kk j) :: st) M := by
  obtain ⟨p, l, e, R, s0, m, args, below, meth, c, ce, sl⟩ := E
  obtain ⟨hx, hb, hml, hown, hts, hlk, hK, hNW, hKC, hKS, hG, hgb⟩ := C
  intro H locs ls hR hS hl
  have ha := hR.arr h1 h2 hj
  rw [ht] at ha
  refine W.zast hx hb ha ((hK.2 2 (gR G 2, .boolean) rfl).1 _ _) (fun q => by cases q) (by rw [arrV_size]; exact hi) rfl rfl hd fun H' e1 e2 e3 => ?_
  exact k H' _ ls (w_ast0 hG hR h1 h2 hj h0 (by rw [e1, ht, hn]) e3) (hS.put e2 e3 (hG.2 kk j h2 hj)) hl
theorem w_alen (C : Cx G n E own cc nL) {kk j t N : Nat} {ty : FieldType} (h1 : 20 ≤ kk) (h2 : kk < 87) (ht : atc kk = t) (hty : (tysG G)[t]? = some (gR G t, ty)) (hj : j < cnt n kk) (hN : alen kk = N) (hd : decode cc pc = .ok (.arraylength, 1)) (k : WW G n E nL Q (pc + 1) lv (.int (nI N) :: st) M) : WW G n E nL Q pc lv (.ref (gad G kk j) :: st) M := by
  obtain ⟨p, l, e, R, s0, m, args, below, meth, c, ce, sl⟩ := E
  obtain ⟨hx, hb, hml, hown, hts, hlk, hK, hNW, hKC, hKS, hG, hgb⟩ := C
  intro H locs ls hR hS hl
  have ha := hR.arr h1 h2 hj
  rw [ht, hN] at ha
  exact W.alen (n := nI N) hx hb ha ((hK.2 t _ hty).1 _ _) (by rw [arrV_size]; rfl) rfl rfl hd (k H locs ls hR hS hl)
end HROWS
