/-! THE CLASS READS THE LINES -/
theorem rs_le {t : Nat → Int32} {n : Nat} (h : ¬ rs t n = none) : ∀ {i : Nat}, i ≤ n → ¬ rs t i = none := by
  induction n with
  | zero => intro i hi; rw [Nat.le_zero.mp hi]; exact h
  | succ n ih =>
    intro i hi
    by_cases e : i = n + 1
    · rw [e]; exact h
    · exact ih (fun q => h (rs_no q)) (by omega)
def LM (M : Mem) (v q : Nat) (p : PSt) : Prop := (∀ l, l < 16 → M 46 v l = nI (pCn p l) ∧ M 47 v l = nI (pFr p l) ∧ M 48 v l = nI (pTo p l) ∧ (0 < pCn p l → M 45 v l = nI (pFi p l))) ∧ (∀ k, k < pU p → M 44 v k = nI (pCd p k)) ∧ (3 ≤ q → M 45 v (pL p) = nI (pFi p (pL p)))
def rdk : List Nat := [44, 45, 46, 47, 48, 607, 609]
def rdF (v : Nat) (M M' : Mem) : Prop := (∀ k, k ∉ rdk → M' k = M k) ∧ (∀ k v', v' ≠ v → M' k v' = M k v')
theorem rdF.rf {v : Nat} {M : Mem} : rdF v M M := ⟨fun _ _ => rfl, fun _ _ _ => rfl⟩
theorem rdF.tr {v : Nat} {M M1 M2 : Mem} (h : rdF v M M1) (h2 : rdF v M1 M2) : rdF v M M2 := ⟨fun k q => (h2.1 k q).trans (h.1 k q), fun k w q => (h2.2 k w q).trans (h.2 k w q)⟩
theorem rdF.st {v k i : Nat} {M : Mem} {x : Int32} (hk : k ∈ rdk) : rdF v M (mst M k v i x) := by
  refine ⟨fun q hq => mst_ne (fun e => hq (e ▸ hk)), fun q w hw => ?_⟩
  by_cases e : q = k
  · subst e; funext j; rw [mst_k, if_neg (fun z => hw z.1)]
  · rw [mst_ne e]
theorem rdF.fl {v k a n : Nat} {M : Mem} {x : Int32} (hk : k ∈ rdk) : rdF v M (mfl M k v a n x) := by
  refine ⟨fun q hq => mfl_ne (fun e => hq (e ▸ hk)), fun q w hw => ?_⟩
  by_cases e : q = k
  · subst e; funext j; rw [mfl_k, if_neg (fun z => hw z.1)]
  · rw [mfl_ne e]
def rdL (v : Nat) (M M' : Mem) : Prop := rdF v M M' ∧ M' 607 = M 607 ∧ M' 609 = M 609
theorem rdL.rf {v : Nat} {M : Mem} : rdL v M M := ⟨rdF.rf, rfl, rfl⟩
theorem rdL.tr {v : Nat} {M M1 M2 : Mem} (h : rdL v M M1) (h2 : rdL v M1 M2) : rdL v M M2 := ⟨h.1.tr h2.1, h2.2.1.trans h.2.1, h2.2.2.trans h.2.2⟩
theorem rdL.st {v k i : Nat} {M : Mem} {x : Int32} (hk : k ∈ rdk ∧ k ≠ 607 ∧ k ≠ 609) : rdL v M (mst M k v i x) := ⟨rdF.st hk.1, mst_ne hk.2.1.symm, mst_ne hk.2.2.symm⟩
theorem sw8 {q : Nat} (hq : q < 8) {P0 P1 P2 P3 P4 P5 P6 P7 : Prop} (h0 : q = 0 → P0) (h1 : q = 1 → P1) (h2 : q = 2 → P2) (h3 : q = 3 → P3) (h4 : q = 4 → P4) (h5 : q = 5 → P5) (h6 : q = 6 → P6) (h7 : q = 7 → P7) : (nI q = 0 → P0) ∧ (nI q = 1 → P1) ∧ (nI q = 2 → P2) ∧ (nI q = 3 → P3) ∧ (nI q = 4 → P4) ∧ (nI q = 5 → P5) ∧ (nI q = 6 → P6) ∧ (¬ nI q = 0 → ¬ nI q = 1 → ¬ nI q = 2 → ¬ nI q = 3 → ¬ nI q = 4 → ¬ nI q = 5 → ¬ nI q = 6 → P7) := by
  have nq : ∀ c, c < 8 → nI q = nI c → q = c := fun c hc e => (ni_eq (by omega) (by omega)).mp e
  refine ⟨fun e => h0 (nq 0 (by decide) e), fun e => h1 (nq 1 (by decide) e), fun e => h2 (nq 2 (by decide) e), fun e => h3 (nq 3 (by decide) e), fun e => h4 (nq 4 (by decide) e), fun e => h5 (nq 5 (by decide) e), fun e => h6 (nq 6 (by decide) e), fun e0 e1 e2 e3 e4 e5 e6 => h7 ?_⟩
  have x0 : q ≠ 0 := fun h => e0 (by rw [h]; rfl)
  have x1 : q ≠ 1 := fun h => e1 (by rw [h]; rfl)
  have x2 : q ≠ 2 := fun h => e2 (by rw [h]; rfl)
  have x3 : q ≠ 3 := fun h => e3 (by rw [h]; rfl)
  have x4 : q ≠ 4 := fun h => e4 (by rw [h]; rfl)
  have x5 : q ≠ 5 := fun h => e5 (by rw [h]; rfl)
  have x6 : q ≠ 6 := fun h => e6 (by rw [h]; rfl)
  omega
theorem bt_e : ∀ e, e < 8 → (nI e &&& 7) <<< ((1 : Int32) &&& 31) = nI (2 * e) := by decide +kernel
theorem bt_m0 : ∀ l, l < 16 → nI l ||| ((48 : Int32) &&& 1) = nI l := by decide +kernel
theorem bt_m1 : ∀ l, l < 16 → l % 2 = 0 → nI l ||| ((49 : Int32) &&& 1) = nI (l + 1) := by decide +kernel
theorem bt_r : ∀ r, r < 3 → (nI r &&& 3) <<< ((4 : Int32) &&& 31) = nI (16 * r) := by decide +kernel
theorem bt_s : ∀ r, r < 3 → ∀ s, s < 3 → nI (16 * r) ||| (nI s <<< ((6 : Int32) &&& 31)) = nI (16 * r + 64 * s) := by decide +kernel
theorem bt_v : ∀ r, r < 3 → ∀ s, s < 3 → ∀ w, w < 13 → nI (16 * r + 64 * s) ||| nI w = nI (16 * r + 64 * s + w) := by decide +kernel
theorem bt_w : ∀ w, w < 2 → nI 192 ||| nI w = nI (192 + w) := by decide +kernel
theorem bt_d : ∀ k, k < 10 → (nI (48 + k) - 48) &&& 15 = nI k := by decide +kernel
theorem bt_d2 : ∀ k, k < 10 → nI (48 + k) - 48 = nI k := by decide +kernel
theorem dg_nat {b : Int32} (h : isDg b = true) : ∃ k, k < 10 ∧ b = nI (48 + k) := by
  have h' := of_decide_eq_true h
  obtain ⟨j, hj, rfl⟩ := ni_ofle (x := b) (n := 57) (by decide) (by grind) h'.2
  have := (ni_le (a := 48) (by decide) (by omega)).mp h'.1
  exact ⟨j - 48, by omega, by congr 1; omega⟩
theorem md_dg {b : Int32} (h : isMd b = true) : isDg b = true := by
  rcases of_decide_eq_true h with rfl | rfl <;> decide
theorem p_X8_valueOf {M : Mem} {k : Nat} (hk : k < 256) (h : (rgOf (nI k)).isSome = true ∨ isDg (nI k) = true) {Q : Int32 → Mem → Prop} (hQ : Q (nI (valOf (nI k))) M) : wp_X8_valueOf (nI k) M Q := by
  unfold wp_X8_valueOf
  refine p_ixR hk ?_
  rw [oI_R]
  unfold valOf at hQ
  refine ⟨fun e => ?_, fun e => ?_⟩
  · rw [e] at h hQ
    have h' : isDg (nI k) = true := by
      rcases h with h | h
      · cases h
      · exact h
    obtain ⟨j, hj, ej⟩ := dg_nat h'
    rw [ej] at hQ ⊢
    dsimp only at hQ
    rw [bt_d2 j hj, ni_cl (by omega)] at hQ
    rw [bt_d j hj]; exact hQ
  · cases e2 : rgOf (nI k) with
    | none => exact absurd e2 e
    | some r =>
      rw [e2] at hQ
      dsimp only at hQ
      show Q (10 + nI r) M
      rw [ni_lit 10, nI_add]; exact hQ
theorem p_X8_readLines {S M : Mem} (hS : SOK S) {v : Nat} (hv : v < 4) (e606 : M 606 = S 606) (e43 : M 43 = S 43) (hw : ¬ rs (S 43 v) (vln S v) = none) (h0 : LM M v 0 ps0) {Q : Mem → Prop} (hQ : ∀ M1 q, rs (S 43 v) (vln S v) = some q → LM M1 v q (pst (S 43 v) (vln S v)) → rdL v M M1 → Q M1) : wp_X8_readLines v M Q := by
  obtain ⟨l1, l2⟩ := hS.len hv
  unfold wp_X8_readLines
  refine pk_loop (fun f i (z : Nat × Mem) => w_X8_readLines_12 Q f v (nI z.1) (nI (pL (pst (S 43 v) i))) (nI (pG (pst (S 43 v) i))) (nI (pU (pst (S 43 v) i))) (nI i) z.2) (fun i z => rs (S 43 v) i = some z.1 ∧ LM z.2 v z.1 (pst (S 43 v) i) ∧ rdL v M z.2) (vln S v) 0 (0, M) (Nat.zero_le _) ⟨rfl, h0, rdL.rf⟩ ?_ ?_
  · rintro f ⟨q, M'⟩ ⟨hq, hL, hF⟩
    dsimp only at hq hL hF ⊢
    unfold w_X8_readLines_12
    rw [hF.1.1 606 (by decide), e606, l2]
    exact ⟨fun _ => hQ M' q hq hL hF, fun h => absurd ((ni_le (by omega) (by omega)).mpr (Nat.le_refl _)) h⟩
  · rintro f i ⟨q, M'⟩ hi ⟨hq, hL, hF⟩ ih
    dsimp only at hq hL hF ⊢
    have hq8 := rs_lt hq
    obtain ⟨k, hk, ek⟩ := hS.by8 hv i
    have hn := rs_le hw (show i + 1 ≤ vln S v by omega)
    rw [rs_s hq] at hn
    obtain ⟨q', hq'⟩ : ∃ q', dl q (S 43 v i) = some q' := by
      cases e : dl q (S 43 v i) with
      | none => exact absurd e hn
      | some q' => exact ⟨q', rfl⟩
    have hR := rgn_all hq
    have hp : pst (S 43 v) (i + 1) = pstep q (S 43 v i) i (pst (S 43 v) i) := by rw [pst, hq]; rfl
    have hq2 : rs (S 43 v) (i + 1) = some q' := by rw [rs_s hq]; exact hq'
    unfold w_X8_readLines_12
    rw [hF.1.1 606 (by decide), e606, l2, hF.1.1 43 (by decide), e43, ni_cl (by omega)]
    refine ⟨fun h => absurd ((ni_le (by omega) (by omega)).mp h) (by omega), fun _ => ⟨(ni_in (by omega)).mpr (by omega), ?_⟩⟩
    rintro _ rfl
    have fin : ∀ M2, LM M2 v q' (pst (S 43 v) (i + 1)) → rdL v M' M2 → w_X8_readLines_213 Q (fun j0 x1 x2 x3 x4 x5 M => w_X8_readLines_12 Q f j0 x1 x2 x3 x4 x5 M) v (nI q) (nI (pL (pst (S 43 v) (i + 1)))) (nI (pG (pst (S 43 v) (i + 1)))) (nI (pU (pst (S 43 v) (i + 1)))) (nI i) (S 43 v i) M2 := by
      intro M2 hL2 hF2
      unfold w_X8_readLines_213
      rw [ek]
      refine p_X8_stepBehind hq8 hk ?_
      rw [← ek, hq', nI_1]
      exact ih (q', M2) ⟨hq2, hL2, hF.tr hF2⟩
    rw [hp] at fin
    rw [ek] at fin hq' ⊢
    generalize pst (S 43 v) i = p at hL hR fin ⊢
    obtain ⟨l, g, u, cd, fi, cn, fr, to⟩ := p
    obtain ⟨⟨g1, g2, g3, g4, g5⟩, ⟨b0, b3, b4, b5, b6, b7, b1, b2⟩, hc, hf, hg⟩ := hR
    obtain ⟨m1, m2, m3⟩ := hL
    simp only [pL, pG, pU, pCd, pFi, pCn, pFr, pTo] at g1 g2 g3 g4 g5 b0 b1 b2 b3 b4 b5 b6 b7 hc hf hg m1 m2 m3 fin ⊢
    have inl : vp_in (nI l) 16 := (ni_in (by omega)).mpr g1
    refine sw8 hq8 ?_ ?_ ?_ ?_ ?_ ?_ ?_ ?_
    · rintro rfl
      refine p_ixE hk ?_
      cases e : evOf (nI k) with
      | none => simp [dl, e] at hq'
      | some r =>
        simp [dl, e] at hq'; subst hq'
        rintro _ rfl
        have hr := evOf_lt r e
        have := fin M' ⟨m1, m2, fun h => absurd h (by decide)⟩ rdL.rf
        simp only [pstep, e, Option.getD_some] at this
        show w_X8_readLines_213 Q _ v 0 ((nI r &&& 7) <<< ((1 : Int32) &&& 31)) (nI g) (nI u) (nI i) (nI k) M'
        rw [bt_e r hr]; exact this
    · rintro rfl
      by_cases eb : isMd (nI k) = true
      · simp [dl, eb] at hq'; subst hq'
        rintro _ rfl
        have := fin M' ⟨m1, m2, fun h => absurd h (by decide)⟩ rdL.rf
        simp only [pstep] at this
        rcases of_decide_eq_true eb with e | e
        · rw [e] at this ⊢; rw [bt_m0 l g1]; rw [if_neg (by decide)] at this; exact this
        · rw [e] at this ⊢; rw [bt_m1 l g1 (g2 rfl)]; rw [if_pos rfl] at this; exact this
      · simp [dl, eb] at hq'
    · rintro rfl
      by_cases eb : nI k = 58
      · simp [dl, eb] at hq'; subst hq'
        rw [ni_cl (show l < 2147483648 by omega)]
        refine ⟨inl, ?_⟩
        rintro _ rfl
        refine ⟨inl, ?_⟩
        rintro _ rfl
        refine ⟨inl, ?_⟩
        rintro _ rfl
        simp only [pstep] at fin
        rw [nI_1]
        refine fin _ ⟨fun l' hl' => ?_, fun k' hk' => ?_, fun _ => ?_⟩ (((rdL.st (by decide)).tr (rdL.st (by decide))).tr (rdL.st (by decide)))
        · obtain ⟨z1, z2, z3, z4⟩ := m1 l' hl'
          by_cases e : l' = l
          · subst e
            simp only [pCn, pFr, pTo, pFi, upN_eq, mst_ne, mst_k, ne_eq, Nat.reduceEqDiff, not_false_eq_true, and_self, if_true]
            exact ⟨rfl, trivial, z3, fun h => absurd h (by decide)⟩
          · simp only [pCn, pFr, pTo, pFi, upN_ne e, mst_ne, mst_k, ne_eq, Nat.reduceEqDiff, not_false_eq_true, e, and_false, if_false]
            exact ⟨z1, z2, z3, z4⟩
        · rw [mst_ne (by decide), mst_ne (by decide), mst_ne (by decide)]; exact m2 k' hk'
        · simp only [pL, pFi, upN_eq]
          rw [mst_ne (by decide), mst_eq]
      · simp [dl, eb] at hq'
    · rintro rfl
      cases e : rgOf (nI k) with
      | some r =>
        simp [dl, e] at hq'; subst hq'
        have nb : ¬ nI k = 109 := fun z => by
          have e9 : rgOf (109 : Int32) = none := by decide
          rw [z, e9] at e; cases e
        refine ⟨fun h => absurd h nb, fun _ => ?_⟩
        refine p_ixR hk ?_
        rw [e]
        have hr := rgOf_lt r e
        have := fin M' ⟨m1, m2, fun _ => m3 (by decide)⟩ rdL.rf
        simp only [pstep, e, Option.getD_some, nb, if_false] at this
        unfold w_X8_readLines_152
        show w_X8_readLines_213 Q _ v 3 (nI l) ((nI r &&& 3) <<< ((4 : Int32) &&& 31)) (nI u) (nI i) (nI k) M'
        rw [bt_r r hr]; exact this
      | none =>
        by_cases eb : nI k = 109
        · have e9 : rgOf (109 : Int32) = none := by decide
          simp [dl, e9, eb] at hq'; subst hq'
          refine ⟨fun _ => ?_, fun h => absurd eb h⟩
          have := fin M' ⟨m1, m2, fun _ => m3 (by decide)⟩ rdL.rf
          simp only [pstep] at this
          rw [if_pos eb] at this
          exact this
        · simp [dl, e, eb] at hq'
    · rintro rfl
      obtain ⟨r, hr, er⟩ := g3 rfl
      refine p_ixS hk ?_
      cases e : sgOf (nI k) with
      | none => simp [dl, e] at hq'
      | some s =>
        simp [dl, e] at hq'; subst hq'
        rintro _ rfl
        have hs := sgOf_lt s e
        have := fin M' ⟨m1, m2, fun _ => m3 (by decide)⟩ rdL.rf
        simp only [pstep, e, Option.getD_some, er] at this
        rw [er]
        show w_X8_readLines_213 Q _ v 4 (nI l) (nI (16 * r) ||| (nI s <<< ((6 : Int32) &&& 31))) (nI u) (nI i) (nI k) M'
        rw [bt_s r hr s hs]; exact this
    all_goals skip
    · rintro rfl
      obtain ⟨r, s, hr, hs, er⟩ := g4 rfl
      by_cases eb : (rgOf (nI k)).isSome = true ∨ isDg (nI k) = true
      · have eb' : ((rgOf (nI k)).isSome || isDg (nI k)) = true := by simpa using eb
        simp only [dl, eb', if_true, Option.some.injEq] at hq'; subst hq'
        have hvv := valOf_lt eb
        unfold w_X8_readLines_173
        refine p_X8_valueOf hk eb ?_
        rw [er, bt_v r hr s hs _ hvv, ni_cl (show l < 2147483648 by omega), ni_cl (show u < 2147483648 by omega)]
        simp only [pstep, er] at fin
        refine ⟨(ni_in (by omega)).mpr (by omega), ?_⟩
        rintro _ rfl
        refine ⟨inl, inl, ?_⟩
        rintro _ rfl
        refine ⟨inl, ?_⟩
        rintro _ rfl
        rw [mst_ne (show 46 ≠ 44 by decide), (m1 l g1).1, nI_1, nI_1, nI_1]
        refine fin _ ⟨fun l' hl' => ?_, fun k' hk' => ?_, fun _ => ?_⟩ (((rdL.st (by decide)).tr (rdL.st (by decide))).tr (rdL.st (by decide)))
        · obtain ⟨z1, z2, z3, z4⟩ := m1 l' hl'
          by_cases e : l' = l
          · subst e
            simp only [pCn, pFr, pTo, pFi, upN_eq, mst_ne, mst_k, ne_eq, Nat.reduceEqDiff, not_false_eq_true, and_self, if_true]
            exact ⟨trivial, z2, trivial, fun _ => m3 (by decide)⟩
          · simp only [pCn, pFr, pTo, pFi, upN_ne e, mst_ne, mst_k, ne_eq, Nat.reduceEqDiff, not_false_eq_true, e, and_false, if_false]
            exact ⟨z1, z2, z3, z4⟩
        · rw [mst_ne (by decide), mst_ne (by decide), mst_k]
          simp only [pU, pCd] at hk' ⊢
          by_cases e : k' = u
          · subst e; rw [if_pos ⟨trivial, rfl⟩, upN_eq]
          · rw [if_neg (fun z => e z.2), upN_ne e]; exact m2 k' (by omega)
        · simp only [pL, pFi]
          rw [mst_ne (by decide), mst_ne (by decide), mst_ne (by decide)]; exact m3 (by decide)
      · have eb' : ¬ ((rgOf (nI k)).isSome || isDg (nI k)) = true := by simpa using eb
        simp only [dl, eb', if_false] at hq'
        cases hq'
    · rintro rfl
      have er := g5 rfl
      by_cases eb : isMd (nI k) = true
      · simp [dl, eb] at hq'; subst hq'
        have hvv : valOf (nI k) < 2 := by have := valOf_md eb; omega
        unfold w_X8_readLines_173
        refine p_X8_valueOf hk (Or.inr (md_dg eb)) ?_
        rw [er, bt_w _ hvv, ni_cl (show l < 2147483648 by omega), ni_cl (show u < 2147483648 by omega)]
        simp only [pstep, er] at fin
        refine ⟨(ni_in (by omega)).mpr (by omega), ?_⟩
        rintro _ rfl
        refine ⟨inl, inl, ?_⟩
        rintro _ rfl
        refine ⟨inl, ?_⟩
        rintro _ rfl
        rw [mst_ne (show 46 ≠ 44 by decide), (m1 l g1).1, nI_1, nI_1, nI_1]
        refine fin _ ⟨fun l' hl' => ?_, fun k' hk' => ?_, fun _ => ?_⟩ (((rdL.st (by decide)).tr (rdL.st (by decide))).tr (rdL.st (by decide)))
        · obtain ⟨z1, z2, z3, z4⟩ := m1 l' hl'
          by_cases e : l' = l
          · subst e
            simp only [pCn, pFr, pTo, pFi, upN_eq, mst_ne, mst_k, ne_eq, Nat.reduceEqDiff, not_false_eq_true, and_self, if_true]
            exact ⟨trivial, z2, trivial, fun _ => m3 (by decide)⟩
          · simp only [pCn, pFr, pTo, pFi, upN_ne e, mst_ne, mst_k, ne_eq, Nat.reduceEqDiff, not_false_eq_true, e, and_false, if_false]
            exact ⟨z1, z2, z3, z4⟩
        · rw [mst_ne (by decide), mst_ne (by decide), mst_k]
          simp only [pU, pCd] at hk' ⊢
          by_cases e : k' = u
          · subst e; rw [if_pos ⟨trivial, rfl⟩, upN_eq]
          · rw [if_neg (fun z => e z.2), upN_ne e]; exact m2 k' (by omega)
        · simp only [pL, pFi]
          rw [mst_ne (by decide), mst_ne (by decide), mst_ne (by decide)]; exact m3 (by decide)
      · simp [dl, eb] at hq'
    · rintro rfl
      simp only [pstep] at fin
      exact fin M' ⟨m1, m2, fun _ => m3 (by decide)⟩ rdL.rf
theorem InvC.rd {t : Nat} {S M M' : Mem} {v : Nat} (h : InvC t S M) (hF : rdF v M M') (h1 : M' 609 v 0 = 1) (hV : VCok (S 43 v) (vln S v) M' v) : InvC t S M' := by
  obtain ⟨a1, a2, a3, a4⟩ := h
  refine ⟨fun k q => (hF.1 k (by revert q; revert k; decide)).trans (a1 k q), fun w hw => ⟨?_, ?_⟩, fun c hc => (a3 c hc).congr ⟨rfl, rfl⟩ ⟨rfl, rfl, rfl, rfl, rfl⟩ (fun k q => ?_) (hF.1 608 (by decide)), a4.congr ⟨rfl, rfl⟩ (fun k q => hF.1 k ?_)⟩
  · by_cases e : w = v
    · subst e; exact ⟨Or.inr ⟨h1, hV⟩, by rw [hF.1 608 (by decide)]; exact (a2 w hw).1.2⟩
    · exact (a2 w hw).1.congr rfl rfl (fun k q => hF.2 k w e)
  · rw [hF.1 608 (by decide)]; exact (a2 w hw).2
  · rw [hF.1 k (by revert q; revert k; decide)]
  · revert q; revert k; decide
theorem rdF.fr {v : Nat} {M M' : Mem} (h : rdF v M M') : FrC M M' := by
  have nn : ∀ k, k ∈ rdk → k < 53 ∨ (85 < k ∧ k < 700) := by decide
  exact fun k q => h.1 k (fun z => nrefk (nn k z) q)
/-- the class reads a VERSION -/
theorem p_X8_read {t : Nat} {S M : Mem} (hS : SOK S) (hI : InvC t S M) {v : Nat} (hv : v < 4) {Q : Mem → Prop} (hQ : ∀ M1, InvC t S M1 → M1 609 v 0 = 1 → VCok (S 43 v) (vln S v) M1 v → rdF v M M1 → Q M1) : wp_X8_read v M Q := by
  unfold wp_X8_read
  obtain ⟨hV, hk⟩ := (hI.2.1 v hv).1
  refine ⟨fun h => ?_, fun h => ?_⟩
  · rintro _ rfl
    refine p_fill (by decide) (p_fill (by decide) (p_fill (by decide) ?_))
    have a46 : alen 46 = 16 := by decide
    have a47 : alen 47 = 16 := by decide
    have a48 : alen 48 = 16 := by decide
    rw [a46, a47, a48]
    have hF0 : rdF v M (mfl (mfl (mfl (mst M 609 v 0 1) 46 v 0 16 0) 47 v 0 16 0) 48 v 0 16 0) := (((rdF.st (by decide)).tr (rdF.fl (by decide))).tr (rdF.fl (by decide))).tr (rdF.fl (by decide))
    have e9 : mfl (mfl (mfl (mst M 609 v 0 1) 46 v 0 16 0) 47 v 0 16 0) 48 v 0 16 0 609 v 0 = 1 := by rw [mfl_ne (by decide), mfl_ne (by decide), mfl_ne (by decide), mst_eq]
    have h0 : LM (mfl (mfl (mfl (mst M 609 v 0 1) 46 v 0 16 0) 47 v 0 16 0) 48 v 0 16 0) v 0 ps0 := by
      refine ⟨fun l hl => ⟨?_, ?_, ?_, fun z => absurd z (Nat.not_lt_zero _)⟩, fun k z => absurd z (Nat.not_lt_zero _), fun z => absurd z (by decide)⟩
      · rw [mfl_ne (by decide), mfl_ne (by decide), mfl_k, if_pos ⟨rfl, by omega⟩]; rfl
      · rw [mfl_ne (by decide), mfl_k, if_pos ⟨rfl, by omega⟩]; rfl
      · rw [mfl_k, if_pos ⟨rfl, by omega⟩]; rfl
    generalize mfl (mfl (mfl (mst M 609 v 0 1) 46 v 0 16 0) 47 v 0 16 0) 48 v 0 16 0 = M0 at hF0 e9 h0 ⊢
    refine p_X8_findFault hS hv (by rw [hF0.1 606 (by decide), hI.1.k 606]) (by rw [hF0.1 43 (by decide), hI.1.k 43]) ?_
    rintro _ rfl
    have hF1 : rdF v M (mst M0 607 v 0 (flt (S 43 v) (vln S v))) := hF0.tr (rdF.st (by decide))
    rw [mst_eq]
    rcases flt_or (t := S 43 v) (n := vln S v) (hS.len hv).1 with ⟨ef, hw, q, hq⟩ | ⟨hw, k, hk, ef⟩
    · refine ⟨fun _ => ?_, fun z => absurd ef z⟩
      refine p_X8_readLines hS hv (by rw [hF1.1 606 (by decide), hI.1.k 606]) (by rw [hF1.1 43 (by decide), hI.1.k 43]) (by rw [hq]; exact fun z => by cases z) ?_ ?_
      · obtain ⟨x1, x2, x3⟩ := h0
        refine ⟨fun l hl => ?_, fun k z => absurd z (Nat.not_lt_zero _), fun z => absurd z (by decide)⟩
        rw [mst_ne (by decide), mst_ne (by decide), mst_ne (by decide), mst_ne (by decide)]; exact x1 l hl
      · intro M1 q' hq' hL hF
        have hF2 := hF1.tr hF.1
        have h9 : M1 609 v 0 = 1 := by rw [hF.2.2, mst_ne (by decide)]; exact e9
        have hV : VCok (S 43 v) (vln S v) M1 v := by
          unfold VCok prs
          rw [hw]
          exact ⟨by rw [hF.2.1, mst_eq], hL.1, hL.2.1⟩
        exact hQ _ (hI.rd hF2 h9 hV) h9 hV hF2
    · refine ⟨fun z => absurd (ef.symm.trans z) (ni_nem1 (by omega)), fun _ => ?_⟩
      have hV : VCok (S 43 v) (vln S v) (mst M0 607 v 0 (flt (S 43 v) (vln S v))) v := by
        refine ⟨by rw [mst_eq], ?_⟩
        unfold prs
        rw [hw]
        obtain ⟨x1, x2, x3⟩ := h0
        refine ⟨fun l hl => ?_, fun k z => absurd z (Nat.not_lt_zero _)⟩
        rw [mst_ne (by decide), mst_ne (by decide), mst_ne (by decide), mst_ne (by decide)]; exact x1 l hl
      have h9 : mst M0 607 v 0 (flt (S 43 v) (vln S v)) 609 v 0 = 1 := by rw [mst_ne (by decide)]; exact e9
      exact hQ _ (hI.rd hF1 h9 hV) h9 hV hF1
  · rcases hV with hV | ⟨h1, hV⟩
    · exact absurd hV h
    · exact hQ M hI h1 hV rdF.rf
