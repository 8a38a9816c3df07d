/-! THE START: classes, rows, what never changes -/
theorem gw_tbl {w : Cond} (h : w ∈ GW) : w ∈ lw_tbl := (List.mem_filter.mp h).1
theorem st_K {s : State} {args : Array Value} (hts : ∀ w ∈ lw_tbl, w.before args s = true) : ∃ (dC : Nat → ClassId) (dI : Nat → Nat → Nat) (dR : Nat → ClassId), va_K (dC, dI) vwCl [(dR 0, .int), (dR 1, .byte), (dR 2, .boolean), (dR 3, .object "TrueLedger$Version"), (dR 4, .object "TrueLedger$Sheet"), (dR 5, .object "TrueLedger$Counter"), (dR 6, .array .int)] s ∧ AO4 s := by
  have T : ∀ (k : Nat) (w : Cond), lw_tbl[k]? = some w → w.before args s = true := fun k w h => hts w (List.mem_of_getElem? h)
  obtain ⟨c0, i0, h0⟩ := u_known hts (fun w h => gw_tbl (in_X0 w h)) (T 656 (.instantiable RX0 13) (by decide +kernel))
  obtain ⟨c1, i1, h1⟩ := u_known hts (fun w h => gw_tbl (in_X1 w h)) (T 218 (.instantiable RX1 4) (by decide +kernel))
  obtain ⟨c2, i2, h2⟩ := u_known hts (fun w h => gw_tbl (in_X2 w h)) (T 148 (.instantiable RX2 12) (by decide +kernel))
  obtain ⟨c3, i3, h3⟩ := u_known hts (fun w h => gw_tbl (in_X3 w h)) (T 138 (.instantiable RX3 1) (by decide +kernel))
  obtain ⟨c4, i4, h4⟩ := u_known hts (fun w h => gw_tbl (in_X4 w h)) (T 282 (.instantiable RX4 4) (by decide +kernel))
  obtain ⟨c5, i5, h5⟩ := u_known hts (fun w h => gw_tbl (in_X5 w h)) (T 194 (.instantiable RX5 5) (by decide +kernel))
  obtain ⟨c6, i6, h6⟩ := u_known hts (fun w h => gw_tbl (in_X6 w h)) (T 111 (.instantiable RX6 6) (by decide +kernel))
  obtain ⟨c7, i7, h7⟩ := u_known hts (fun w h => gw_tbl (in_X7 w h)) (T 302 (.instantiable RX7 4) (by decide +kernel))
  obtain ⟨c8, i8, h8⟩ := u_known hts (fun w h => gw_tbl (in_X8 w h)) (T 238 (.instantiable RX8 10) (by decide +kernel))
  obtain ⟨c9, i9, h9⟩ := u_known hts (fun w h => gw_tbl (in_X9 w h)) (T 97 (.instantiable RX9 14) (by decide +kernel))
  obtain ⟨c10, i10, h10⟩ := u_known hts (fun w h => gw_tbl (in_X10 w h)) (T 1020 (.instantiable RX10 48) (by decide +kernel))
  obtain ⟨r0, k0, m0, a0, b0, d0⟩ := Cond.arrayClass_spec (T 136 (.arrayClass .int) (by decide +kernel))
  obtain ⟨r1, k1, m1, a1, b1, d1⟩ := Cond.arrayClass_spec (T 192 (.arrayClass .byte) (by decide +kernel))
  obtain ⟨r2, k2, m2, a2, b2, d2⟩ := Cond.arrayClass_spec (T 1170 (.arrayClass .boolean) (by decide +kernel))
  have o3 := T 105 (.arrayOver (.object "TrueLedger$Version")) (by decide +kernel)
  have o4 := T 109 (.arrayOver (.object "TrueLedger$Sheet")) (by decide +kernel)
  have o5 := T 107 (.arrayOver (.object "TrueLedger$Counter")) (by decide +kernel)
  have o6 := T 154 (.arrayOver (.array .int)) (by decide +kernel)
  obtain ⟨m3, r3, k3, a3, -, b3, d3, e3⟩ := Cond.arrayOver_spec o3
  obtain ⟨m4, r4, k4, a4, -, b4, d4, e4⟩ := Cond.arrayOver_spec o4
  obtain ⟨m5, r5, k5, a5, -, b5, d5, e5⟩ := Cond.arrayOver_spec o5
  obtain ⟨m6, r6, k6, a6, -, b6, d6, e6⟩ := arrayOverA_spec o6
  refine ⟨fun c => [c0, c1, c2, c3, c4, c5, c6, c7, c8, c9, c10].getD c 0, fun c => [i0, i1, i2, i3, i4, i5, i6, i7, i8, i9, i10].getD c (fun _ => 0), fun t => [r0, r1, r2, r3, r4, r5, r6].getD t 0, ⟨fun c q hq => ?_, fun k q hq => ?_⟩, ⟨va_AO.of o3, va_AO.of o5, va_AO.of o4, o6⟩⟩
  · have hc : c < 11 := (List.getElem?_eq_some_iff.mp hq).1
    have : c = 0 ∨ c = 1 ∨ c = 2 ∨ c = 3 ∨ c = 4 ∨ c = 5 ∨ c = 6 ∨ c = 7 ∨ c = 8 ∨ c = 9 ∨ c = 10 := by omega
    rcases this with rfl | rfl | rfl | rfl | rfl | rfl | rfl | rfl | rfl | rfl | rfl
    · cases hq; exact h0
    · cases hq; exact h1
    · cases hq; exact h2
    · cases hq; exact h3
    · cases hq; exact h4
    · cases hq; exact h5
    · cases hq; exact h6
    · cases hq; exact h7
    · cases hq; exact h8
    · cases hq; exact h9
    · cases hq; exact h10
  · have hk : k < 7 := (List.getElem?_eq_some_iff.mp hq).1
    have : k = 0 ∨ k = 1 ∨ k = 2 ∨ k = 3 ∨ k = 4 ∨ k = 5 ∨ k = 6 := by omega
    rcases this with rfl | rfl | rfl | rfl | rfl | rfl | rfl
    · cases hq; exact ⟨fun n z => ⟨fun k h => (by cases h), k0, b0, m0, d0⟩, a0⟩
    · cases hq; exact ⟨fun n z => ⟨fun k h => (by cases h), k1, b1, m1, d1⟩, a1⟩
    · cases hq; exact ⟨fun n z => ⟨fun k h => (by cases h), k2, b2, m2, d2⟩, a2⟩
    · cases hq; exact ⟨fun n z => ⟨fun k h => (by cases h), k3, b3, m3, d3⟩, k3, m3, b3, d3, a3, e3⟩
    · cases hq; exact ⟨fun n z => ⟨fun k h => (by cases h), k4, b4, m4, d4⟩, k4, m4, b4, d4, a4, e4⟩
    · cases hq; exact ⟨fun n z => ⟨fun k h => (by cases h), k5, b5, m5, d5⟩, k5, m5, b5, d5, a5, e5⟩
    · cases hq; exact ⟨fun n z => ⟨fun k h => (by cases h), k6, b6, m6, d6⟩, e6⟩
