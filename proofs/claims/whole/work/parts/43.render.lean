/-! THE TEXT OF A LINE, AND ITS ACTS -/
def sgt (t : Nat → Int32) (a n : Nat) : List Int32 := (List.range n).map (fun k => t (a + k))
theorem sgt_s {t : Nat → Int32} {a n : Nat} : sgt t a (n + 1) = sgt t a n ++ [t (a + n)] := by
  unfold sgt; rw [List.range_succ, List.map_append]; rfl
def rgB (r : Nat) : Int32 := if r = 0 then 108 else if r = 1 then 112 else 99
def sgB (s : Nat) : Int32 := if s = 0 then 43 else if s = 1 then 45 else 61
def vB (w : Nat) : Int32 := if w < 10 then nI (48 + w) else rgB (w - 10)
def rnd (c : Nat) : List Int32 := if 192 ≤ c then [109, nI (48 + c % 2)] else [rgB (c / 16 % 4), sgB (c / 64), vB (c % 16)]
def rk (cs : List Nat) : List Int32 := cs.flatMap (fun c => 44 :: rnd c)
theorem rk_n : rk [] = [] := rfl
theorem rk_c {c : Nat} {cs : List Nat} : rk (c :: cs) = 44 :: (rnd c ++ rk cs) := by
  unfold rk; rw [List.flatMap_cons]; rfl
theorem rk_a {c : Nat} {cs : List Nat} : rk (cs ++ [c]) = rk cs ++ 44 :: rnd c := by
  unfold rk; rw [List.flatMap_append]; simp
theorem rgB_inj : ∀ r, r < 3 → ∀ s, s < 3 → rgB r = rgB s → r = s := by decide +kernel
theorem sgB_inj : ∀ r, r < 3 → ∀ s, s < 3 → sgB r = sgB s → r = s := by decide +kernel
theorem vB_inj : ∀ r, r < 13 → ∀ s, s < 13 → vB r = vB s → r = s := by decide +kernel
theorem rgB_109 : ∀ r, r < 3 → ¬ rgB r = 109 := by decide +kernel
theorem rnd_r {r s w : Nat} (hr : r < 3) (hs : s < 3) (hw : w < 13) : rnd (16 * r + 64 * s + w) = [rgB r, sgB s, vB w] := by
  unfold rnd
  rw [if_neg (by omega), show (16 * r + 64 * s + w) / 16 % 4 = r by omega, show (16 * r + 64 * s + w) / 64 = s by omega, show (16 * r + 64 * s + w) % 16 = w by omega]
theorem rnd_m {m : Nat} (hm : m < 2) : rnd (192 + m) = [109, nI (48 + m)] := by
  unfold rnd
  rw [if_pos (by omega), show (192 + m) % 2 = m by omega]
theorem cdok_e {c : Nat} (h : cdok c) : (∃ r s w, r < 3 ∧ s < 3 ∧ w < 13 ∧ c = 16 * r + 64 * s + w) ∨ ∃ m, m < 2 ∧ c = 192 + m := by
  rcases h with h | h | h
  · exact Or.inl h
  · exact Or.inr ⟨0, by decide, h⟩
  · exact Or.inr ⟨1, by decide, h⟩
theorem rnd_inj {c d : Nat} (hc : cdok c) (hd : cdok d) {x y : List Int32} (h : rnd c ++ x = rnd d ++ y) : c = d ∧ x = y := by
  rcases cdok_e hc with ⟨r, s, w, hr, hs, hw, rfl⟩ | ⟨m, hm, rfl⟩
  · rcases cdok_e hd with ⟨r', s', w', hr', hs', hw', rfl⟩ | ⟨m', hm', rfl⟩
    · rw [rnd_r hr hs hw, rnd_r hr' hs' hw'] at h
      simp only [List.cons_append, List.nil_append, List.cons.injEq] at h
      obtain ⟨h1, h2, h3, h4⟩ := h
      rw [rgB_inj r hr r' hr' h1, sgB_inj s hs s' hs' h2, vB_inj w hw w' hw' h3]
      exact ⟨rfl, h4⟩
    · rw [rnd_r hr hs hw, rnd_m hm'] at h
      simp only [List.cons_append, List.nil_append, List.cons.injEq] at h
      exact absurd h.1 (rgB_109 r hr)
  · rcases cdok_e hd with ⟨r', s', w', hr', hs', hw', rfl⟩ | ⟨m', hm', rfl⟩
    · rw [rnd_r hr' hs' hw', rnd_m hm] at h
      simp only [List.cons_append, List.nil_append, List.cons.injEq] at h
      exact absurd h.1.symm (rgB_109 r' hr')
    · rw [rnd_m hm, rnd_m hm'] at h
      simp only [List.cons_append, List.nil_append, List.cons.injEq] at h
      obtain ⟨_, h2, h3⟩ := h
      have := (ni_eq (by omega) (by omega)).mp h2
      exact ⟨by omega, h3⟩
theorem rk_inj : ∀ {cs ds : List Nat}, (∀ c, c ∈ cs → cdok c) → (∀ c, c ∈ ds → cdok c) → rk cs = rk ds → cs = ds
  | [], [], _, _, _ => rfl
  | [], d :: ds, _, _, h => by rw [rk_c] at h; cases h
  | c :: cs, [], _, _, h => by rw [rk_c] at h; cases h
  | c :: cs, d :: ds, hc, hd, h => by
    rw [rk_c, rk_c] at h
    have h' := (List.cons.injEq _ _ _ _ ▸ h).2
    obtain ⟨e1, e2⟩ := rnd_inj (hc c (List.mem_cons_self ..)) (hd d (List.mem_cons_self ..)) h'
    rw [e1, rk_inj (fun z hz => hc z (List.mem_cons_of_mem _ hz)) (fun z hz => hd z (List.mem_cons_of_mem _ hz)) e2]
theorem by_r {b : Int32} {r : Nat} (h : rgOf b = some r) : b = rgB r := by
  unfold rgOf at h
  split at h
  · rename_i e; cases h; exact e
  · split at h
    · rename_i e; cases h; exact e
    · split at h
      · rename_i e; cases h; exact e
      · cases h
theorem by_s {b : Int32} {r : Nat} (h : sgOf b = some r) : b = sgB r := by
  unfold sgOf at h
  split at h
  · rename_i e; cases h; exact e
  · split at h
    · rename_i e; cases h; exact e
    · split at h
      · rename_i e; cases h; exact e
      · cases h
theorem by_v {b : Int32} (h : (rgOf b).isSome = true ∨ isDg b = true) : b = vB (valOf b) := by
  unfold valOf
  cases e : rgOf b with
  | some r =>
    have := rgOf_lt r e
    show b = vB (10 + r)
    unfold vB
    rw [if_neg (by omega), show 10 + r - 10 = r by omega]
    exact by_r e
  | none =>
    rw [e] at h
    rcases h with h | h
    · cases h
    · obtain ⟨k, hk, rfl⟩ := dg_nat h
      show nI (48 + k) = vB (nI (48 + k) - 48).toNatClampNeg
      rw [bt_d2 k hk, ni_cl (by omega)]
      unfold vB
      rw [if_pos hk]
def cod (p : PSt) (l : Nat) : List Nat := (List.range (pCn p l)).map (fun k => pCd p (pFi p l + k))
def tl (q g : Nat) : List Int32 := match q with
  | 3 => [44]
  | 4 => [44, rgB (g / 16 % 4)]
  | 5 => [44, rgB (g / 16 % 4), sgB (g / 64)]
  | 6 => [44, 109]
  | _ => []
def TA (t : Nat → Int32) (p : PSt) (l : Nat) : Prop := (pCn p l = 0 → pTo p l = pFr p l) ∧ (0 < pCn p l → pFr p l ≤ pTo p l ∧ 44 :: sgt t (pFr p l) (pTo p l - pFr p l) = rk (cod p l))
def TX (t : Nat → Int32) (q i : Nat) (p : PSt) : Prop := (∀ l, (q < 3 ∨ q = 7 ∨ l ≠ pL p) → TA t p l) ∧ (3 ≤ q → pFr p (pL p) ≤ i ∧ 44 :: sgt t (pFr p (pL p)) (i - pFr p (pL p)) = rk (cod p (pL p)) ++ tl q (pG p))
theorem TA.to {t : Nat → Int32} {p p' : PSt} {l : Nat} (h : TA t p l) (h1 : pCn p' l = pCn p l) (h2 : pTo p' l = pTo p l) (h3 : pFr p' l = pFr p l) (h4 : cod p' l = cod p l) : TA t p' l := by
  unfold TA; rw [h1, h2, h3, h4]; exact h
theorem sgt_n {t : Nat → Int32} {a i : Nat} (h : a ≤ i) : sgt t a (i + 1 - a) = sgt t a (i - a) ++ [t i] := by
  rw [show i + 1 - a = (i - a) + 1 by omega, sgt_s, show a + (i - a) = i by omega]
/-- an ACT is done -/
theorem TX_act {t : Nat → Int32} {q i g c : Nat} {l u : Nat} {cd fi cn fr to : Nat → Nat} (hq : q = 5 ∨ q = 6) (hR : rgn q i (l, g, u, cd, fi, cn, fr, to)) (h : TX t q i (l, g, u, cd, fi, cn, fr, to)) (hc : tl q g ++ [t i] = 44 :: rnd c) : TX t 7 (i + 1) (l, g, u + 1, upN cd u c, fi, upN cn l (cn l + 1), fr, upN to l (i + 1)) := by
  have h3q : 3 ≤ q := by rcases hq with rfl | rfl <;> decide
  obtain ⟨hA, hB⟩ := h
  obtain ⟨_, _, _, hf, hg⟩ := hR
  obtain ⟨b1, b2⟩ := hB h3q
  have hg' := hg h3q
  simp only [pL, pFr, pG, pFi, pCn, pU] at b1 b2 hf hg'
  have cl : cod (l, g, u + 1, upN cd u c, fi, upN cn l (cn l + 1), fr, upN to l (i + 1)) l = cod (l, g, u, cd, fi, cn, fr, to) l ++ [c] := by
    simp only [cod, pCn, pCd, pFi, upN_eq]
    rw [List.range_succ, List.map_append]
    congr 1
    · apply List.map_congr_left
      intro k hk
      have := List.mem_range.mp hk
      exact upN_ne (by omega)
    · show [upN cd u c (fi l + cn l)] = [c]
      rw [hg', upN_eq]
  have sg : 44 :: sgt t (fr l) (i + 1 - fr l) = rk (cod (l, g, u, cd, fi, cn, fr, to) l ++ [c]) := by
    rw [sgt_n b1, rk_a, ← hc, ← List.append_assoc, ← b2]; rfl
  refine ⟨fun l' _ => ?_, fun _ => ⟨?_, ?_⟩⟩
  · by_cases e : l' = l
    · subst e
      refine ⟨fun z => ?_, fun _ => ?_⟩
      · simp only [pCn, upN_eq] at z; omega
      · rw [cl]
        simp only [pFr, pTo, upN_eq]
        exact ⟨by omega, sg⟩
    · have := hA l' (Or.inr (Or.inr e))
      refine this.to (upN_ne e) (upN_ne e) rfl ?_
      simp only [cod, pCn, pCd, pFi, upN_ne e]
      apply List.map_congr_left
      intro k hk
      have := List.mem_range.mp hk
      have := hf l'
      exact upN_ne (by omega)
  · simp only [pL, pFr]; omega
  · simp only [pL, pFr]
    rw [cl, sg]
    show _ = _ ++ []
    rw [List.append_nil]
theorem TX_0 {t : Nat → Int32} : TX t 0 0 ps0 := ⟨fun l _ => ⟨fun _ => rfl, fun z => absurd z (Nat.not_lt_zero _)⟩, fun z => absurd z (by decide)⟩
theorem TX_s {t : Nat → Int32} {q q' i : Nat} {p : PSt} (hq : q < 8) (hR : rgn q i p) (h : TX t q i p) (hd : dl q (t i) = some q') : TX t q' (i + 1) (pstep q (t i) i p) := by
  obtain ⟨l, g, u, cd, fi, cn, fr, to⟩ := p
  have hR' := hR
  obtain ⟨⟨h1, h2, h3, h4, h5⟩, _, _, _, _⟩ := hR
  have hTX := h
  obtain ⟨hA, hB⟩ := h
  simp only [pL, pG] at h1 h2 h3 h4 h5
  have q8 : q = 0 ∨ q = 1 ∨ q = 2 ∨ q = 3 ∨ q = 4 ∨ q = 5 ∨ q = 6 ∨ q = 7 := by omega
  rcases q8 with rfl | rfl | rfl | rfl | rfl | rfl | rfl | rfl
  · have : q' = 1 := by
      cases e : evOf (t i) with
      | none => simp [dl, e] at hd
      | some r => simp [dl, e] at hd; exact hd.symm
    subst this
    exact ⟨fun l' _ => (hA l' (by omega)).to rfl rfl rfl rfl, fun z => absurd z (by decide)⟩
  · have : q' = 2 := by
      by_cases eb : isMd (t i) = true
      · simp [dl, eb] at hd; exact hd.symm
      · simp [dl, eb] at hd
    subst this
    exact ⟨fun l' _ => (hA l' (by omega)).to rfl rfl rfl rfl, fun z => absurd z (by decide)⟩
  · have : q' = 3 := by
      by_cases eb : t i = 58
      · simp [dl, eb] at hd; exact hd.symm
      · simp [dl, eb] at hd
    subst this
    refine ⟨fun l' hl' => ?_, fun _ => ⟨?_, ?_⟩⟩
    · have e : l' ≠ l := by
        rcases hl' with z | z | z
        · omega
        · omega
        · exact z
      refine (hA l' (by omega)).to (upN_ne e) rfl (upN_ne e) ?_
      simp only [cod, pstep, pCn, pCd, pFi, upN_ne e]
    · simp only [pstep, pL, pFr, upN_eq]; omega
    · simp only [pstep, pL, pFr, upN_eq, cod, pCn, Nat.sub_self, List.range_zero, List.map_nil, sgt, rk_n, tl, List.nil_append]
  · obtain ⟨b1, b2⟩ := hB (by omega)
    simp only [pL, pFr, pG] at b1 b2
    cases e : rgOf (t i) with
    | some r =>
      have hr := rgOf_lt r e
      simp [dl, e] at hd; subst hd
      have nb : ¬ t i = 109 := fun z => by
        have e9 : rgOf (109 : Int32) = none := by decide
        rw [z, e9] at e; cases e
      simp only [pstep, e, Option.getD_some, nb, if_false]
      refine ⟨fun l' hl' => (hA l' ?_).to rfl rfl rfl rfl, fun _ => ⟨?_, ?_⟩⟩
      · rcases hl' with z | z | z
        · omega
        · omega
        · exact Or.inr (Or.inr z)
      · simp only [pL, pFr]; omega
      · simp only [pL, pFr, pG]
        rw [sgt_n b1, ← List.cons_append, b2, by_r e]
        simp only [tl]
        rw [show 16 * r / 16 % 4 = r by omega, List.append_assoc]
        rfl
    | none =>
      by_cases eb : t i = 109
      · have e9 : rgOf (109 : Int32) = none := by decide
        simp [dl, e9, eb] at hd; subst hd
        simp only [pstep, if_pos eb]
        refine ⟨fun l' hl' => (hA l' ?_).to rfl rfl rfl rfl, fun _ => ⟨?_, ?_⟩⟩
        · rcases hl' with z | z | z
          · omega
          · omega
          · exact Or.inr (Or.inr z)
        · simp only [pL, pFr]; omega
        · simp only [pL, pFr, pG]
          rw [sgt_n b1, ← List.cons_append, b2, eb]
          simp only [tl]
          rw [List.append_assoc]
          rfl
      · simp [dl, e, eb] at hd
  · obtain ⟨b1, b2⟩ := hB (by omega)
    simp only [pL, pFr, pG] at b1 b2
    obtain ⟨r, hr, er⟩ := h3 rfl
    cases e : sgOf (t i) with
    | none => simp [dl, e] at hd
    | some s =>
      have hs := sgOf_lt s e
      simp [dl, e] at hd; subst hd
      simp only [pstep, e, Option.getD_some]
      refine ⟨fun l' hl' => (hA l' ?_).to rfl rfl rfl rfl, fun _ => ⟨?_, ?_⟩⟩
      · rcases hl' with z | z | z
        · omega
        · omega
        · exact Or.inr (Or.inr z)
      · simp only [pL, pFr]; omega
      · simp only [pL, pFr, pG]
        rw [sgt_n b1, ← List.cons_append, b2, by_s e]
        simp only [tl]
        rw [show (g + 64 * s) / 16 % 4 = r by omega, show g / 16 % 4 = r by omega, show (g + 64 * s) / 64 = s by omega, List.append_assoc]
        rfl
  · obtain ⟨r, s, hr, hs, er⟩ := h4 rfl
    by_cases eb : (rgOf (t i)).isSome = true ∨ isDg (t i) = true
    · have eb' : ((rgOf (t i)).isSome || isDg (t i)) = true := by simpa using eb
      simp only [dl, eb', if_true, Option.some.injEq] at hd; subst hd
      have hv := valOf_lt eb
      refine TX_act (Or.inl rfl) hR' hTX ?_
      rw [er, rnd_r hr hs hv]
      simp only [tl]
      rw [show (16 * r + 64 * s) / 16 % 4 = r by omega, show (16 * r + 64 * s) / 64 = s by omega, ← by_v eb]
      rfl
    · have eb' : ¬ ((rgOf (t i)).isSome || isDg (t i)) = true := by simpa using eb
      simp only [dl, eb', if_false] at hd
      cases hd
  · have h5' := h5 rfl
    by_cases eb : isMd (t i) = true
    · simp [dl, eb] at hd; subst hd
      refine TX_act (Or.inr rfl) hR' hTX ?_
      have hv := valOf_md eb
      rw [h5', rnd_m (by omega)]
      simp only [tl]
      rcases hv with ⟨x, y⟩ | ⟨x, y⟩ <;> rw [x, y] <;> rfl
    · simp [dl, eb] at hd
  · obtain ⟨b1, b2⟩ := hB (by omega)
    simp only [pL, pFr, pG] at b1 b2
    by_cases eb : t i = 44
    · have : q' = 3 := by simp [dl, eb] at hd; exact hd.symm
      subst this
      refine ⟨fun l' hl' => (hA l' (by omega)).to rfl rfl rfl rfl, fun _ => ⟨?_, ?_⟩⟩
      · simp only [pstep, pL, pFr]; omega
      · simp only [pstep, pL, pFr, pG]
        rw [sgt_n b1, ← List.cons_append, b2, eb]
        simp only [tl]
        rw [List.append_nil]
    · have : q' = 0 := by
        by_cases ec : t i = 59
        · simp [dl, ec] at hd; exact hd.symm
        · simp [dl, eb, ec] at hd
      subst this
      exact ⟨fun l' _ => (hA l' (by omega)).to rfl rfl rfl rfl, fun z => absurd z (by decide)⟩
theorem TX_all {t : Nat → Int32} : ∀ {i q : Nat}, rs t i = some q → TX t q i (pst t i)
  | 0, q, h => by cases h; exact TX_0
  | i + 1, q, h => by
    cases e : rs t i with
    | none => rw [rs_no e] at h; cases h
    | some p =>
      rw [rs_s e] at h
      rw [pst_s e]
      exact TX_s (rs_lt e) (rgn_all e) (TX_all e) h
theorem TA_prs {t : Nat → Int32} {n : Nat} (l : Nat) : TA t (prs t n) l := by
  unfold prs
  split
  · rename_i hw
    unfold well at hw
    simp only [Bool.or_eq_true, beq_iff_eq] at hw
    rcases hw with hw | hw
    · subst hw; exact TX_0.1 l (by omega)
    · exact (TX_all hw).1 l (by omega)
  · exact TX_0.1 l (by omega)
theorem cod_ok {t : Nat → Int32} {n l : Nat} : ∀ c, c ∈ cod (prs t n) l → cdok c := by
  intro c hc
  unfold cod at hc
  obtain ⟨k, hk, rfl⟩ := List.mem_map.mp hc
  have hk' := List.mem_range.mp hk
  revert hk'
  unfold prs
  split
  · rename_i hw
    intro hk'
    unfold well at hw
    simp only [Bool.or_eq_true, beq_iff_eq] at hw
    rcases hw with hw | hw
    · subst hw; exact absurd hk' (Nat.not_lt_zero _)
    · obtain ⟨_, _, r3, r4, _⟩ := rgn_all hw
      have := r4 l
      exact r3 _ (by omega)
  · intro hk'; exact absurd hk' (Nat.not_lt_zero _)
/-- two LINES: the same text, the same ACTS -/
theorem like_iff {t t' : Nat → Int32} {n n' l l' : Nat} : sgt t (pFr (prs t n) l) (pTo (prs t n) l - pFr (prs t n) l) = sgt t' (pFr (prs t' n') l') (pTo (prs t' n') l' - pFr (prs t' n') l') ↔ lact t n l = lact t' n' l' := by
  have a1 := TA_prs (t := t) (n := n) l
  have a2 := TA_prs (t := t') (n := n') l'
  show _ ↔ cod (prs t n) l = cod (prs t' n') l'
  have z0 : ∀ {p : PSt} {l : Nat}, pCn p l = 0 → cod p l = [] := fun h => by unfold cod; rw [h]; rfl
  have z1 : ∀ {p : PSt} {l : Nat}, 0 < pCn p l → ¬ cod p l = [] := fun h e => by
    have := congrArg List.length e
    unfold cod at this
    rw [List.length_map, List.length_range] at this
    simp at this; omega
  have z2 : ∀ {cs : List Nat}, ¬ cs = [] → ¬ rk cs = [44] := fun h e => by
    rename_i cs
    cases cs with
    | nil => exact h rfl
    | cons c cs =>
      rw [rk_c] at e
      have e' := (List.cons.injEq _ _ _ _ ▸ e).2
      have := congrArg List.length e'
      rw [List.length_append, List.length_nil] at this
      have hl : 2 ≤ (rnd c).length := by unfold rnd; split <;> simp
      omega
  rcases Nat.eq_zero_or_pos (pCn (prs t n) l) with c1 | c1
  · rw [z0 c1, a1.1 c1, Nat.sub_self]
    rcases Nat.eq_zero_or_pos (pCn (prs t' n') l') with c2 | c2
    · rw [z0 c2, a2.1 c2, Nat.sub_self]
      exact ⟨fun _ => rfl, fun _ => rfl⟩
    · obtain ⟨x, y⟩ := a2.2 c2
      refine ⟨fun h => ?_, fun h => absurd h.symm (z1 c2)⟩
      rw [← h] at y
      exact absurd y.symm (z2 (z1 c2))
  · obtain ⟨x, y⟩ := a1.2 c1
    rcases Nat.eq_zero_or_pos (pCn (prs t' n') l') with c2 | c2
    · rw [z0 c2, a2.1 c2, Nat.sub_self]
      refine ⟨fun h => ?_, fun h => absurd h (z1 c1)⟩
      rw [h] at y
      exact absurd y.symm (z2 (z1 c1))
    · obtain ⟨x2, y2⟩ := a2.2 c2
      refine ⟨fun h => ?_, fun h => ?_⟩
      · rw [h] at y
        exact rk_inj cod_ok cod_ok (y.symm.trans y2)
      · rw [h] at y
        have := y.trans y2.symm
        exact (List.cons.injEq _ _ _ _ ▸ this).2
