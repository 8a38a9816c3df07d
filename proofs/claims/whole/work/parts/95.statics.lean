/-! THE START: texts, statics, words of nest mates -/
def tmS (i : Nat) : Term := .string "TrueLedger$Version" ([69, 61, 71].getD i 0)
theorem st_NW {s : State} {args : Array Value} (hts : ∀ w ∈ lw_tbl, w.before args s = true) : ∀ w ∈ NW, va_Nw w s := fun w hw => by
  obtain ⟨h1, h2⟩ := List.mem_filter.mp hw
  have h3 : w.onTables = true := by
    cases w <;> first | (exact absurd h2 Bool.false_ne_true) | rfl
  exact va_Nw.of h3 (hts w h1)
theorem st_KC {s : State} {args : Array Value} (hts : ∀ w ∈ lw_tbl, w.before args s = true) (hgv : (Jvm.Cond.and given_1 narrow_1).before args s = true) : ∃ (kK kV : Nat → Nat) (f : Nat), ∀ G : GG, gK G = kK → gV G = kV → gF G = f → gb G = s.heap.size → KC G s s.heap ∧ KS G s := by
  have hs := flat_of_before _ hgv
  have T : ∀ (k : Nat) (w : Cond), lw_tbl[k]? = some w → w.before args s = true := fun k w h => hts w (List.mem_of_getElem? h)
  have hA : ∀ a : Nat, a < s.heap.size → ¬ (fun q => s.heap.size ≤ q) a := fun a h q => Nat.not_le.mpr h q
  have m1 : ∀ i : Nat, i < 3 → Cond.exactly (tmS i) "java/lang/String" ∈ flatC (Jvm.Cond.and given_1 narrow_1) := by decide +kernel
  have m2 : ∀ i : Nat, i < 3 → Cond.eq (.field (tmS i) "java/lang/String" "coder" "B") (.int 0) ∈ flatC (Jvm.Cond.and given_1 narrow_1) := by decide +kernel
  have m3 : ∀ i : Nat, i < 3 → Cond.arrayOf (.field (tmS i) "java/lang/String" "value" "[B") .byte ∈ flatC (Jvm.Cond.and given_1 narrow_1) := by decide +kernel
  have m4 : ∀ i : Nat, i < 3 → Cond.eq (.length (.field (tmS i) "java/lang/String" "value" "[B")) (.int (Int32.ofNat (slen.getD i 0))) ∈ flatC (Jvm.Cond.and given_1 narrow_1) := by decide +kernel
  have m5 : ∀ i : Nat, i < 3 → ∀ j : Nat, j < slen.getD i 0 → Cond.eq (.elem (.field (tmS i) "java/lang/String" "value" "[B") (.int (Int32.ofNat j))) (.int ((sbyt.getD i []).getD j 0)) ∈ flatC (Jvm.Cond.and given_1 narrow_1) := by decide +kernel
  have m6 : ∀ i : Nat, i < 3 → ∀ j : Nat, j < 3 → i ≠ j → Cond.not (Cond.eq (tmS i) (tmS j)) ∈ flatC (Jvm.Cond.and given_1 narrow_1) ∨ Cond.not (Cond.eq (tmS j) (tmS i)) ∈ flatC (Jvm.Cond.and given_1 narrow_1) := by decide +kernel
  have m7 : ∀ j : Nat, j < 8 → Cond.eq (.elem (.static "TrueLedger$Filler" "FEWEST_FIRST" "[I") (.int (Int32.ofNat j))) (.int (fewL.getD j 0)) ∈ flatC (Jvm.Cond.and given_1 narrow_1) := by decide +kernel
  obtain ⟨kK, kV, hK, hev⟩ := vk_Sof (N := 3) (tm := tmS) (len := slen) (byt := sbyt) (A := fun q => s.heap.size ≤ q) (by decide) (fun i hi => hs _ (m1 i hi)) (fun i hi => hs _ (m2 i hi)) (fun i hi => hs _ (m3 i hi)) (fun i hi => hs _ (m4 i hi)) (fun i hi j hj => hs _ (m5 i hi j hj)) (fun i j hi hj h => (m6 i hi j hj h).elim (fun q => Or.inl (hs _ q)) (fun q => Or.inr (hs _ q))) hA
  have z1 : va_Z "java/lang/String" "COMPACT_STRINGS" "Z" (.int 1) (fun q => s.heap.size ≤ q) s s.heap := va_Zof (T 420 (.laysStatic "java/lang/String" "COMPACT_STRINGS" "Z") (by decide +kernel)) (T 87 (.initialized "java/lang/String") (by decide +kernel)) (va_eqi (hs _ (by decide +kernel))) hA
  obtain ⟨f, hf, hT⟩ := va_Tof (tm := .static "TrueLedger$Filler" "FEWEST_FIRST" "[I") (ty := .int) (N := 8) (f := fun j => .int (fewL.getD j 0)) (A := fun q => s.heap.size ≤ q) (by decide) (hs _ (by decide +kernel)) (va_eqt (z := 8) (hs _ (by decide +kernel))) (fun j hj => va_eqt (hs _ (m7 j hj))) hA
  have z2 : va_Z "TrueLedger$Filler" "FEWEST_FIRST" "[I" (.ref f) (fun q => s.heap.size ≤ q) s s.heap := va_Zof (T 837 (.laysStatic "TrueLedger$Filler" "FEWEST_FIRST" "[I") (by decide +kernel)) (T 79 (.initialized "TrueLedger$Filler") (by decide +kernel)) hf hA
  refine ⟨kK, kV, f, fun G g1 g2 g3 g4 => ?_⟩
  have gAe : gA G = fun q => s.heap.size ≤ q := by unfold gA; rw [g4]
  have r0 : (Term.string "TrueLedger$Version" 69).eval args s none [] s = some (.ref (kK 0)) := hev 0 (by decide)
  have r1 : (Term.string "TrueLedger$Version" 61).eval args s none [] s = some (.ref (kK 1)) := hev 1 (by decide)
  have r2 : (Term.string "TrueLedger$Version" 71).eval args s none [] s = some (.ref (kK 2)) := hev 2 (by decide)
  unfold KC KS
  rw [gAe, g1, g2, g3]
  exact ⟨⟨hK, z1, z2, hT⟩, vk_R.of (T 493 (.stringRef "TrueLedger$Version" 69 "srkdaxtb") (by decide +kernel)) r0, vk_R.of (T 406 (.stringRef "TrueLedger$Version" 61 "lpc") (by decide +kernel)) r1, vk_R.of (T 494 (.stringRef "TrueLedger$Version" 71 "+-=") (by decide +kernel)) r2⟩
