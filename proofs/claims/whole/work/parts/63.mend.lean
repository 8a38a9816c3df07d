/-! MENDED: what is asked -/
def okS (A B : Nat → List Nat) (d x : Nat) : Bool := (lpS (mixA A B (ch d 16 x)) 4).isNone
def mdB (A B : Nat → List Nat) (d : Nat) : Nat → Option Nat
  | 0 => none
  | x + 1 => match mdB A B d x with
    | none => if okS A B d x = true then some x else none
    | some y => if pcn x 16 < pcn y 16 ∧ okS A B d x = true then some x else some y
def mdO (d : Nat) : Option Nat → Int32
  | none => -1
  | some x => nI (ch d 16 x)
def a_mended (S : Mem) (v w : Int32) : Int32 := if (0 ≤ v ∧ v ≤ 3) ∧ (0 ≤ w ∧ w ≤ 3) then (if pcn (dfN (vA S v.toNatClampNeg) (vA S w.toNatClampNeg) 16) 16 ≤ 8 then mdO (dfN (vA S v.toNatClampNeg) (vA S w.toNatClampNeg) 16) (mdB (vA S v.toNatClampNeg) (vA S w.toNatClampNeg) (dfN (vA S v.toNatClampNeg) (vA S w.toNatClampNeg) 16) (al (dfN (vA S v.toNatClampNeg) (vA S w.toNatClampNeg) 16) 16)) else -4) else -2
theorem mdB_i {A B : Nat → List Nat} {d : Nat} : ∀ (X : Nat), (mdB A B d X = none → ∀ y, y < X → ¬ okS A B d y = true) ∧ (∀ x, mdB A B d X = some x → x < X ∧ okS A B d x = true ∧ ∀ y, y < X → okS A B d y = true → pcn x 16 ≤ pcn y 16 ∧ (pcn x 16 = pcn y 16 → x ≤ y))
  | 0 => ⟨fun _ y hy => absurd hy (Nat.not_lt_zero _), fun x h => by (cases h)⟩
  | X + 1 => by
    obtain ⟨i1, i2⟩ := mdB_i (A := A) (B := B) (d := d) X
    rw [mdB]
    cases e : mdB A B d X with
    | none =>
      dsimp only
      have hn := i1 e
      by_cases c : okS A B d X = true
      · rw [if_pos c]
        refine ⟨fun h => by (cases h), fun x h => ?_⟩
        cases h
        refine ⟨by omega, c, fun y hy hok => ?_⟩
        by_cases ey : y = X
        · subst ey; exact ⟨Nat.le_refl _, fun _ => Nat.le_refl _⟩
        · exact absurd hok (hn y (by omega))
      · rw [if_neg c]
        refine ⟨fun _ y hy => ?_, fun x h => by (cases h)⟩
        by_cases ey : y = X
        · subst ey; exact c
        · exact hn y (by omega)
    | some z =>
      dsimp only
      obtain ⟨j1, j2, j3⟩ := i2 z e
      by_cases c : pcn X 16 < pcn z 16 ∧ okS A B d X = true
      · rw [if_pos c]
        refine ⟨fun h => by (cases h), fun x h => ?_⟩
        cases h
        refine ⟨by omega, c.2, fun y hy hok => ?_⟩
        by_cases ey : y = X
        · subst ey; exact ⟨Nat.le_refl _, fun _ => Nat.le_refl _⟩
        · have := j3 y (by omega) hok
          exact ⟨by omega, fun q => by omega⟩
      · rw [if_neg c]
        refine ⟨fun h => by (cases h), fun x h => ?_⟩
        cases h
        refine ⟨by omega, j2, fun y hy hok => ?_⟩
        by_cases ey : y = X
        · subst ey
          have : ¬ pcn y 16 < pcn z 16 := fun q => c ⟨q, hok⟩
          exact ⟨by omega, fun _ => by omega⟩
        · exact j3 y (by omega) hok
theorem mdB_s {A B : Nat → List Nat} {d X x : Nat} (hx : x < X) (hok : okS A B d x = true) (h : ∀ y, y < X → okS A B d y = true → pcn x 16 ≤ pcn y 16 ∧ (pcn x 16 = pcn y 16 → x ≤ y)) : mdB A B d X = some x := by
  obtain ⟨i1, i2⟩ := mdB_i (A := A) (B := B) (d := d) X
  cases e : mdB A B d X with
  | none => exact absurd hok (i1 e x hx)
  | some z =>
    obtain ⟨j1, j2, j3⟩ := i2 z e
    have a := h z j1 j2
    have b := j3 x hx hok
    have : z = x := by
      have e2 : pcn x 16 = pcn z 16 := by omega
      have := a.2 e2
      have := b.2 e2.symm
      omega
    rw [this]
theorem mdB_n {A B : Nat → List Nat} {d X : Nat} (h : ∀ y, y < X → ¬ okS A B d y = true) : mdB A B d X = none := by
  obtain ⟨i1, i2⟩ := mdB_i (A := A) (B := B) (d := d) X
  cases e : mdB A B d X with
  | none => rfl
  | some z =>
    obtain ⟨j1, j2, j3⟩ := i2 z e
    exact absurd j2 (h z j1)
theorem ch_pos {d : Nat} : ∀ {l x : Nat}, 0 < x → x < al d l → 0 < ch d l x
  | 0, x, h0, h => by
    have : al d 0 = 1 := rfl
    omega
  | l + 1, x, h0, h => by
    have hp : 0 < 2 ^ l := Nat.pow_pos (by decide)
    rw [al] at h
    rw [ch]
    by_cases b : d / 2 ^ l % 2 = 1
    · rw [if_pos b] at h ⊢
      by_cases c : x < al d l
      · rw [if_pos c]; exact ch_pos h0 c
      · rw [if_neg c]; omega
    · rw [if_neg b] at h ⊢; exact ch_pos h0 h
theorem dfN_lt {A B : Nat → List Nat} : ∀ {l : Nat}, dfN A B l < 2 ^ l
  | 0 => Nat.one_pos
  | l + 1 => by
    have h := dfN_lt (A := A) (B := B) (l := l)
    have h2 : 2 ^ l < 2 ^ (l + 1) := by rw [Nat.pow_succ]; have : 0 < 2 ^ l := Nat.pow_pos (by decide); omega
    rw [dfN]
    split
    · omega
    · exact Nat.or_lt_two_pow (by omega) h2
theorem lpS_pt {A : Nat → List Nat} : ∀ {m n f : Nat}, lpS A m = some (n, f) → partsF A n f = true
  | 0, n, f, h => by cases h
  | m + 1, n, f, h => by
    rw [lpS] at h
    cases e : lpS A m with
    | some r => rw [e] at h; cases h; exact lpS_pt e
    | none =>
      rw [e] at h
      dsimp only at h
      cases e2 : (List.range (8 ^ m)).find? (partsF A (m + 1)) with
      | none => rw [e2] at h; cases h
      | some g =>
        rw [e2] at h
        cases h
        exact List.find?_some e2
theorem lpS_nn {A : Nat → List Nat} : ∀ {m n f : Nat}, lpS A m = none → n < m → f < 8 ^ n → ¬ partsF A (n + 1) f = true
  | 0, n, f, _, hn, _ => absurd hn (Nat.not_lt_zero _)
  | m + 1, n, f, h, hn, hf => by
    rw [lpS] at h
    cases e : lpS A m with
    | some r => rw [e] at h; cases h
    | none =>
      rw [e] at h
      dsimp only at h
      by_cases en : n = m
      · subst en
        cases e2 : (List.range (8 ^ n)).find? (partsF A (n + 1)) with
        | none => exact List.find?_eq_none.mp e2 f (List.mem_range.mpr hf)
        | some g => rw [e2] at h; cases h
      · exact lpS_nn e (by omega) hf
/-- the LINES by which a row goes -/
def lwN (A : Nat → List Nat) (r : List Nat) : Nat → Nat
  | 0 => 0
  | i + 1 => lwN A r i ||| 2 ^ (2 * r.getD i 0 + (runS A (r.take i)).2.2.2)
theorem tk_s {r : List Nat} {i : Nat} (h : i < r.length) : r.take (i + 1) = r.take i ++ [r.getD i 0] := by
  rw [List.take_succ, List.getD_eq_getElem?_getD]
  rw [List.getElem?_eq_getElem h]; rfl
theorem lwN_le {A : Nat → List Nat} {r : List Nat} {k : Nat} : ∀ {i j : Nat}, i ≤ j → (lwN A r i).testBit k = true → (lwN A r j).testBit k = true
  | i, 0, h, q => by
    have : i = 0 := by omega
    subst this; exact q
  | i, j + 1, h, q => by
    by_cases e : i = j + 1
    · subst e; exact q
    · rw [lwN, Nat.testBit_or, lwN_le (i := i) (j := j) (by omega) q]; rfl
theorem lw_run {A B : Nat → List Nat} {ls ls' : Nat} {r : List Nat} (h : (ls' ^^^ ls) &&& lwN (mixA A B ls) r r.length = 0) : ∀ {i : Nat}, i ≤ r.length → runS (mixA A B ls') (r.take i) = runS (mixA A B ls) (r.take i)
  | 0, _ => rfl
  | i + 1, hi => by
    have ih := lw_run h (i := i) (by omega)
    rw [tk_s (by omega), runS_a, runS_a, ih]
    have hb : (lwN (mixA A B ls) r r.length).testBit (2 * r.getD i 0 + (runS (mixA A B ls) (r.take i)).2.2.2) = true := by
      refine lwN_le (i := i + 1) hi ?_
      rw [lwN, Nat.testBit_or, Nat.testBit_two_pow_self, Bool.or_true]
    have h2 := congrArg (fun z => z.testBit (2 * r.getD i 0 + (runS (mixA A B ls) (r.take i)).2.2.2)) h
    rw [Nat.testBit_and, hb, Nat.testBit_xor, Nat.zero_testBit, Bool.and_true] at h2
    unfold stp mixA
    have h3 : ls'.testBit (2 * r.getD i 0 + (runS (mixA A B ls) (r.take i)).2.2.2) = ls.testBit (2 * r.getD i 0 + (runS (mixA A B ls) (r.take i)).2.2.2) := by
      revert h2
      generalize ls'.testBit _ = p
      generalize ls.testBit _ = q
      revert p q; decide
    unfold mixA at h3
    rw [h3]
theorem lw_ok {A B : Nat → List Nat} {ls ls' m n f : Nat} (hp : lpS (mixA A B ls) m = some (n, f)) (h : (ls' ^^^ ls) &&& lwN (mixA A B ls) (rowF n f) n = 0) : ¬ lpS (mixA A B ls') m = none := by
  intro hn
  obtain ⟨n1, n2, n3⟩ := lpS_n hp
  have hl : (rowF n f).length = n := by rw [rowF_e, List.length_append, pfR_l]; show n - 1 + 1 = n; omega
  have hpt := lpS_pt hp
  have := lpS_nn hn (n := n - 1) (f := f) (by omega) n3
  rw [show n - 1 + 1 = n by omega] at this
  apply this
  have e := lw_run (A := A) (B := B) (ls := ls) (ls' := ls') (r := rowF n f) (by rw [hl]; exact h) (i := n) (by omega)
  rw [List.take_of_length_le (by omega)] at e
  unfold partsF at hpt ⊢
  rw [e]; exact hpt
