/-! THE LAW: its entry -/
theorem gy96 : Cond.classLink "TrueLedgerLaw" 7 "TrueLedger" ∈ GW := List.mem_filter.mpr ⟨List.mem_of_getElem? (i := 96) (by decide +kernel), rfl⟩
theorem gy97 : Cond.instantiable "TrueLedger" 14 ∈ GW := List.mem_filter.mpr ⟨List.mem_of_getElem? (i := 97) (by decide +kernel), rfl⟩
theorem gy98 : Cond.methodLink "TrueLedgerLaw" 9 yX9_init ∈ GW := List.mem_filter.mpr ⟨List.mem_of_getElem? (i := 98) (by decide +kernel), rfl⟩
theorem gy99 : Cond.instanceMethod yX9_init ∈ GW := List.mem_filter.mpr ⟨List.mem_of_getElem? (i := 99) (by decide +kernel), rfl⟩
theorem gy100 : Cond.code yX9_init cX9_init 2 none ∈ GW := List.mem_filter.mpr ⟨List.mem_of_getElem? (i := 100) (by decide +kernel), rfl⟩
theorem gy1019 : Cond.classLink "TrueLedgerLaw" 10 "TrueLedgerModel" ∈ GW := List.mem_filter.mpr ⟨List.mem_of_getElem? (i := 1019) (by decide +kernel), rfl⟩
theorem gy1020 : Cond.instantiable "TrueLedgerModel" 48 ∈ GW := List.mem_filter.mpr ⟨List.mem_of_getElem? (i := 1020) (by decide +kernel), rfl⟩
theorem gy1021 : Cond.methodLink "TrueLedgerLaw" 12 yX10_init ∈ GW := List.mem_filter.mpr ⟨List.mem_of_getElem? (i := 1021) (by decide +kernel), rfl⟩
theorem gy1022 : Cond.instanceMethod yX10_init ∈ GW := List.mem_filter.mpr ⟨List.mem_of_getElem? (i := 1022) (by decide +kernel), rfl⟩
theorem gy1023 : Cond.code yX10_init cX10_init 1 none ∈ GW := List.mem_filter.mpr ⟨List.mem_of_getElem? (i := 1023) (by decide +kernel), rfl⟩
theorem my_X9_init : MT yX9_init cX9_init 2 none 0 := ⟨gy100, glI9, by decide, by decide, by decide +kernel⟩
theorem my_X10_init : MT yX10_init cX10_init 1 none 0 := ⟨gy1023, glI10, by decide, by decide, by decide +kernel⟩
theorem hw_1 {G : GG} {d : CD} {H H1 : Heap} (b1 : clAt G H.size d H1) (z1 : H1.size = H.size + 1) : HW G H.size (H.size + 1) [d] H1 := ⟨⟨by omega, Nat.one_pos, by show H1.size + 1 = H.size + 1 + 1; omega⟩, fun k d' hk => by
  cases k with
  | zero => cases hk; exact b1
  | succ k => cases hk⟩
theorem whole_start {p : Program} {e : Env} {s : State} {m : MethodId} {below : List Frame} {meth : Method} {c : Code} (l : Launch) {b L : Nat} {xs : Nat → Int32} (hL : L ≤ 3584) (C0 : lw_At p s m meth c b L xs) : W p l e room_1 s m #[Value.ref b] below meth c s.heap [] 0 0 (lw_Z below #[Value.ref b] s) (entryFrame m ([Value.ref b] : List Value).toArray 4) := by
  have C1 := C0
  obtain ⟨hx, hb, hret, hml, hown, htt, hX, hbl, hlk, hgv⟩ := C1
  obtain ⟨dC, dI, dR, hK0, hAO⟩ := st_K htt
  obtain ⟨kK, kV, f, hkc⟩ := st_KC htt hgv
  obtain ⟨hKC, hKS⟩ := hkc (gsI dC dI dR kK kV f s.heap.size) rfl rfl rfl rfl
  have hNW := st_NW htt
  have hts : ∀ w ∈ GW, w.before #[Value.ref b] s = true := fun w hw => htt w (gw_tbl hw)
  have hK : va_K (gC (gsI dC dI dR kK kV f s.heap.size), gI (gsI dC dI dR kK kV f s.heap.size)) vwCl (tysG (gsI dC dI dR kK kV f s.heap.size)) s := hK0
  have hGX : GX s (gsI dC dI dR kK kV f s.heap.size) 0 := ⟨hK, hKC, hKS, gok_0, rfl⟩
  have hl := lv_entry [Value.ref b] (n := 4) (Nat.le_of_ble_eq_true rfl)
  rw [lg_entry_eq]
  have hl : lv_has _ 4 [(0, .ref b)] := hl
  generalize hG : gsI dC dI dR kK kV f s.heap.size = G at hK hKC hKS hGX
  have hAq : ∀ q, gA G q ↔ s.heap.size ≤ q := fun q => by rw [← hG]; exact Iff.rfl
  refine raw_new (G := G) hx hb hown hts hK (ci := 9) (T := TX9) rfl rfl in_X9 tyX9 tyX9_ok df_X9 gy96 gy97 glI9 (Nat.le_of_ble_eq_true rfl) (Nat.le_of_ble_eq_true rfl) dL_law_0 (fun H1 b1 z1 o1 => ?_)
  refine lv_dup hx hb dL_law_3 rfl ?_
  have hS1 : va_S (gA G) s.heap H1 [] := sgrow va_S.rf (by omega) o1
  refine raw_init (A0 := gA G) hx hb hml hown hts hK hNW hAO hS1 my_X9_init rfl gy99 gy98 (by decide) (Nat.le_of_ble_eq_true rfl) (Nat.le_of_ble_eq_true rfl) rfl (Nat.le_of_ble_eq_true rfl) dL_law_4 hl.1 (hw_1 b1 z1) (fun q hq => (hAq q).mpr (by rcases hq with hq | hq <;> omega)) (As := []) rfl (ci_X9_init G l s.heap.size (s.heap.size + 1)) (fun H2 locs2 hW2 z2 o2 hS2 => ?_)
  have e2 : H2.size = s.heap.size + 80 := by
    have := hW2.1.2.2
    have h80 : H2.size + 1 = s.heap.size + 1 + 80 := this
    omega
  refine lv_astore_n hx hb dL_law_7 rfl hl (by decide) (lv' := [(1, .ref s.heap.size), (0, .ref b)]) rfl (fun ls2 hl2 => ?_)
  refine raw_new (G := G) hx hb hown hts hK (ci := 10) (T := TX10) rfl rfl in_X10 tyX10 tyX10_ok df_X10 gy1019 gy1020 glI10 (Nat.le_of_ble_eq_true rfl) (Nat.le_of_ble_eq_true rfl) dL_law_8 (fun H3 b3 z3 o3 => ?_)
  refine lv_dup hx hb dL_law_11 rfl ?_
  have hS3 : va_S (gA G) s.heap H3 locs2 := sgrow hS2 (by omega) o3
  refine raw_init (A0 := gA G) hx hb hml hown hts hK hNW hAO hS3 my_X10_init rfl gy1022 gy1021 (by decide) (Nat.le_of_ble_eq_true rfl) (Nat.le_of_ble_eq_true rfl) rfl (Nat.le_of_ble_eq_true rfl) dL_law_12 hl2.1 (hw_1 b3 z3) (fun q hq => (hAq q).mpr (by rcases hq with hq | hq <;> omega)) (As := []) rfl (ci_X10_init G l H2.size (H2.size + 1)) (fun H4 locs4 hW4 z4 o4 hS4 => ?_)
  refine lv_astore_n hx hb dL_law_15 rfl hl2 (by decide) (lv' := [(2, .ref H2.size), (1, .ref s.heap.size), (0, .ref b)]) rfl (fun ls4 hl4 => ?_)
  refine lv_iconst hx hb dL_law_16 kc_i_0 ?_
  refine lv_istore_n hx hb dL_law_17 rfl hl4 (by decide) (lv' := [(3, .int 0), (2, .ref H2.size), (1, .ref s.heap.size), (0, .ref b)]) rfl (fun ls5 hl5 => ?_)
  have hX4 : HC G s.heap.size (s.heap.size + 1) (wcX s.heap.size (s.heap.size + 1)) H4 := fun k d hk => by
    have hc := hW2.2 k d hk
    have hlt := hc.lt
    refine hc.kept ((o4 _ (by omega) (fun q => ?_)).trans (o3 _ hlt))
    rcases q with q | q <;> omega
  have hM4 : HC G (s.heap.size + 80) (s.heap.size + 80 + 1) (wcM (s.heap.size + 80) (s.heap.size + 80 + 1)) H4 := by
    rw [e2] at hW4
    exact hW4.2
  have hl6 : lv_has ls5 4 (LV G b 0) := by
    rw [e2] at hl5
    have h9 : gad G 9 0 = s.heap.size := by rw [← hG]; rfl
    have h10 : gad G 10 0 = s.heap.size + 80 := by rw [← hG]; rfl
    show lv_has ls5 4 [(0, .ref b), (1, .ref (gad G 9 0)), (2, .ref (gad G 10 0)), (3, .int 0)]
    rw [h9, h10]
    exact lv_sub hl5 [3, 2, 1, 0] rfl
  have hR4 : Rep G 0 mem0 H4 := by
    rw [← hG] at hX4 hM4 ⊢
    exact rep_0 hX4 hM4
  have hloop := law_loop (l := l) (e := e) (below := below) C0 hAO hL 512 0 rfl G 0 mem0 mem0 hGX sok_0 invC_0 invR_0
  exact hloop H4 locs4 ls5 hR4 hS4 hl6
