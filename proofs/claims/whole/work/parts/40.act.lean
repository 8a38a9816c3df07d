/-! THE REFERENCE READS AN ACT -/
def actS (M : Mem) (v u : Nat) (x1 x2 x3 : Int32) : Mem := mst (mst (mst (mst M 59 0 (60 * v + u) x1) 60 0 (60 * v + u) x2) 61 0 (60 * v + u) x3) 712 0 0 (nI (u + 1))
def vby (b : Int32) : Int32 := if 48 ≤ b ∧ b ≤ 57 then b - 48 else 10 + oI (rgOf b)
theorem p_act243 {M : Mem} {v u : Nat} (hv : v < 4) (hu : u ≤ 40) (h2 : M 712 0 0 = nI u) {y0 y1 x1 x2 x3 : Int32} (hy : y1 + y0 = nI (60 * v + u)) {Q : Mem → Prop} (hQ : Q (actS M v u x1 x2 x3)) : w_X10_act_243 Q x1 x2 x3 y0 y1 M := by
  unfold w_X10_act_243
  rintro _ rfl
  have hin : vp_in (nI (60 * v + u)) 240 := (ni_in (by omega)).mpr (by omega)
  rw [hy, ni_cl (by omega)]
  refine ⟨hin, ?_⟩
  rintro _ rfl
  refine ⟨hin, ?_⟩
  rintro _ rfl
  refine ⟨hin, ?_⟩
  rintro _ rfl _ rfl
  rw [mst_ne (show 712 ≠ 61 by decide), mst_ne (show 712 ≠ 60 by decide), mst_ne (show 712 ≠ 59 by decide), h2, nI_1]
  exact hQ
theorem p_act218 {M : Mem} {v u : Nat} (hv : v < 4) (hu : u ≤ 40) (h1 : M 709 0 0 = nI v) (h2 : M 712 0 0 = nI u) {x1 x2 x3 : Int32} {Q : Mem → Prop} (hQ : Q (actS M v u x1 x2 x3)) : w_X10_act_218 Q x1 x2 x3 M := by
  unfold w_X10_act_218
  refine ⟨fun h => ?_, fun h => ?_⟩
  · rw [h2] at h
    exact absurd ((ni_le (a := 59) (by omega) (by omega)).mp h) (by omega)
  · refine p_act243 hv hu h2 ?_ hQ
    rw [h1, h2, ni_lit 60, pk_mul, nI_add]
theorem p_act179 {M : Mem} {v u a : Nat} (hv : v < 4) (hu : u ≤ 40) (h0 : M 710 0 0 = nI a) (h1 : M 709 0 0 = nI v) (h2 : M 712 0 0 = nI u) {x1 x2 b : Int32} {Q : Mem → Prop} (hQ : Q (actS (mst M 710 0 0 (nI (a + 1))) v u x1 x2 (vby b))) : w_X10_act_179 Q x1 x2 b M := by
  have g1 : mst M 710 0 0 (nI (a + 1)) 709 0 0 = nI v := by rw [mst_ne (by decide)]; exact h1
  have g2 : mst M 710 0 0 (nI (a + 1)) 712 0 0 = nI u := by rw [mst_ne (by decide)]; exact h2
  unfold w_X10_act_179 w_X10_act_207
  simp only [forall_eq]
  rw [e_X10_in, h0, nI_1]
  simp only [bi_z, Classical.not_not]
  unfold vby at hQ
  refine ⟨fun h => ?_, fun h => ?_⟩
  · rw [if_neg h] at hQ
    refine e_registerOf ?_
    rw [h0, nI_1]
    exact p_act218 hv hu g1 g2 hQ
  · rw [if_pos h] at hQ; exact p_act218 hv hu g1 g2 hQ
def raF (v u : Nat) (M M' : Mem) : Prop := (∀ k, k ∉ [59, 60, 61, 710, 711, 712] → M' k = M k) ∧ (∀ k, k ∈ [59, 60, 61] → ∀ j, j ≠ 60 * v + u → M' k 0 j = M k 0 j)
theorem raF.rf {v u : Nat} {M : Mem} : raF v u M M := ⟨fun _ _ => rfl, fun _ _ _ _ => rfl⟩
theorem raF.tr {v u : Nat} {M M1 M2 : Mem} (h : raF v u M M1) (h2 : raF v u M1 M2) : raF v u M M2 := ⟨fun k q => (h2.1 k q).trans (h.1 k q), fun k w j q => (h2.2 k w j q).trans (h.2 k w j q)⟩
theorem raF.st {v u k : Nat} {M : Mem} {x : Int32} (hk : k ∈ [710, 711, 712]) : raF v u M (mst M k 0 0 x) := by
  refine ⟨fun q hq => mst_ne (fun e => hq ?_), fun q hq j hj => ?_⟩
  · subst e; clear hq; revert hk; revert q; decide
  · rw [mst_ne]
    intro e; subst e
    revert hk hq; revert q; decide
theorem raF.sa {v u k : Nat} {M : Mem} {x : Int32} (hk : k ∈ [59, 60, 61]) : raF v u M (mst M k 0 (60 * v + u) x) := by
  refine ⟨fun q hq => mst_ne (fun e => hq ?_), fun q hq j hj => ?_⟩
  · subst e; clear hq; revert hk; revert q; decide
  · by_cases e : q = k
    · subst e; rw [mst_k, if_neg (fun z => hj z.2)]
    · rw [mst_ne e]
theorem raF.ac {v u : Nat} {M : Mem} {x1 x2 x3 : Int32} : raF v u M (actS M v u x1 x2 x3) := (((raF.sa (by decide)).tr (raF.sa (by decide))).tr (raF.sa (by decide))).tr (raF.st (by decide))
theorem actS_at {M : Mem} {v u : Nat} {x1 x2 x3 : Int32} : actS M v u x1 x2 x3 59 0 (60 * v + u) = x1 ∧ actS M v u x1 x2 x3 60 0 (60 * v + u) = x2 ∧ actS M v u x1 x2 x3 61 0 (60 * v + u) = x3 ∧ actS M v u x1 x2 x3 712 0 0 = nI (u + 1) ∧ actS M v u x1 x2 x3 710 = M 710 ∧ actS M v u x1 x2 x3 711 = M 711 := by
  unfold actS
  refine ⟨?_, ?_, ?_, ?_, ?_, ?_⟩ <;> simp [mst_ne, mst_k]
/-- what an ACT adds -/
def PAq (p p' : PSt) (c : Nat) : Prop := pL p' = pL p ∧ pU p' = pU p + 1 ∧ pCd p' = upN (pCd p) (pU p) c ∧ pFi p' = pFi p ∧ pCn p' = upN (pCn p) (pL p) (pCn p (pL p) + 1)
theorem tb_lt {t : Nat → Int32} {n i : Nat} (h : ¬ tb t n i = -1) : i < n ∧ tb t n i = t i := by
  unfold tb at h ⊢
  by_cases e : i < n
  · exact ⟨e, if_pos e⟩
  · rw [if_neg e] at h; exact absurd rfl h
theorem pst_s {t : Nat → Int32} {i q : Nat} (h : rs t i = some q) : pst t (i + 1) = pstep q (t i) i (pst t i) := by rw [pst, h]; rfl
theorem onC_rs : ∀ r, r < 3 → ∀ s, s < 3 → ∀ w, w < 13 → onC (16 * r + 64 * s + w) = nI r ∧ byC (16 * r + 64 * s + w) = nI w ∧ sgC (16 * r + 64 * s + w) = (if s = 0 then 1 else if s = 1 then 2 else 0) := by decide +kernel
theorem vby_v {b : Int32} (h : (rgOf b).isSome = true ∨ isDg b = true) : vby b = nI (valOf b) := by
  unfold vby valOf
  by_cases g : 48 ≤ b ∧ b ≤ 57
  · rw [if_pos g]
    obtain ⟨k, hk, rfl⟩ := dg_nat (decide_eq_true g)
    have e : rgOf (nI (48 + k)) = none := by
      have : ∀ k, k < 10 → rgOf (nI (48 + k)) = none := by decide +kernel
      exact this k hk
    rw [e]
    dsimp only
    rw [bt_d2 k hk, ni_cl (by omega)]
  · rw [if_neg g]
    rcases h with h | h
    · cases e : rgOf b with
      | none => rw [e] at h; cases h
      | some r => dsimp only [oI]; rw [ni_lit 10, nI_add]
    · exact absurd (of_decide_eq_true h) g
theorem p_act {t : Nat → Int32} {n v i : Nat} {M : Mem} (hB : RB t n v M) (hv : v < 4) (hn : n ≤ 120) (hn0 : 0 < n) (hi : i ≤ n) (ha : M 710 0 0 = nI i) (hf : M 711 0 0 = -1) (hq : rs t i = some 3) (hu : M 712 0 0 = nI (pU (pst t i))) {Q : Mem → Prop}
    (ok : ∀ M1 j c, i < j → j ≤ n → rs t j = some 7 → PAq (pst t i) (pst t j) c → M1 710 0 0 = nI j → M1 711 0 0 = -1 → M1 712 0 0 = nI (pU (pst t i) + 1) → M1 59 0 (60 * v + pU (pst t i)) = onC c → M1 60 0 (60 * v + pU (pst t i)) = sgC c → M1 61 0 (60 * v + pU (pst t i)) = byC c → raF v (pU (pst t i)) M M1 → Q M1)
    (bad : ∀ M1 k, k ≤ 120 → flt t n = nI k → M1 711 0 0 = nI k → raF v (pU (pst t i)) M M1 → Q M1) : wp_X10_act M Q := by
  have hR := rgn_all hq
  have hu40 : pU (pst t i) ≤ 40 := by have := hR.2.1.1; omega
  unfold wp_X10_act
  refine p_byteNow hB hv hn (by omega) ha (e_registerOf (p_byteNow hB hv hn (by omega) ha ?_))
  generalize hp : pst t i = p at hR hu40 hu ok bad
  obtain ⟨l, g, u, cd, fi, cn, fr, to⟩ := p
  simp only [pU] at hu40 hu ok bad
  refine ⟨fun e => ?_, fun e => ⟨fun e2 => ?_, fun e2 => ?_⟩⟩
  · obtain ⟨i1, ti⟩ := tb_lt (t := t) (n := n) (i := i) (by rw [e]; decide)
    rw [ti] at e
    have q6 : rs t (i + 1) = some 6 := by rw [rs_s hq, e]; decide
    have p6 := pst_s hq
    rw [hp, e] at p6
    rintro _ rfl
    rw [ha, nI_1]
    refine p_mode (i := i + 1) (hB.keep (mst_ne (by decide)) (mst_ne (by decide)) (mst_ne (by decide))) hv hn (by omega) mst_eq (by rw [mst_ne (by decide)]; exact hf) (fun hm => ?_) (fun hm => ?_)
    · obtain ⟨i2, ti2⟩ := tb_lt (t := t) (n := n) (i := i + 1) (fun z => by rw [z] at hm; revert hm; decide)
      rw [ti2] at hm ⊢
      have q7 : rs t (i + 1 + 1) = some 7 := by rw [rs_s q6]; simp [dl, hm]
      have p7 := pst_s q6
      rw [p6] at p7
      refine p_act218 hv hu40 (by rw [mst_ne (by decide), mst_ne (by decide)]; exact hB.1) (by rw [mst_ne (by decide), mst_ne (by decide)]; exact hu) ?_
      obtain ⟨a1, a2, a3, a4, a5, a6⟩ := @actS_at (mst (mst M 710 0 0 (nI (i + 1))) 710 0 0 (nI (i + 1 + 1))) v u 3 0 (t (i + 1) - 48)
      have hvm := valOf_md hm
      refine ok _ (i + 2) (192 + valOf (t (i + 1))) (by omega) (by omega) q7 ?_ (by rw [a5, mst_eq]) (by rw [a6, mst_ne (by decide), mst_ne (by decide)]; exact hf) a4 ?_ ?_ ?_ (((raF.st (by decide)).tr (raF.st (by decide))).tr raF.ac)
      · rw [show i + 2 = i + 1 + 1 from rfl, p7]
        simp only [pstep, PAq, pL, pU, pCd, pFi, pCn, if_true]
        exact ⟨trivial, trivial, trivial, trivial, trivial⟩
      · rw [a1]; unfold onC; rw [if_pos (by omega)]
      · rw [a2]; unfold sgC; rw [if_pos (by omega)]
      · rw [a3]; unfold byC; rw [if_pos (by omega)]
        rcases hvm with ⟨x, y⟩ | ⟨x, y⟩ <;> rw [x, y] <;> decide
    · have hd : dl 6 (tb t n (i + 1)) = none := by simp [dl, hm]
      obtain ⟨f1, f2⟩ := flt_bad q6 (by omega) hd
      refine p_act218 hv hu40 (by rw [mst_ne (by decide), mst_ne (by decide), mst_ne (by decide)]; exact hB.1) (by rw [mst_ne (by decide), mst_ne (by decide), mst_ne (by decide)]; exact hu) ?_
      obtain ⟨a1, a2, a3, a4, a5, a6⟩ := @actS_at (mst (mst (mst M 710 0 0 (nI (i + 1))) 711 0 0 (nI (i + 1))) 710 0 0 (nI (i + 1 + 1))) v u 3 0 (tb t n (i + 1) - 48)
      exact bad _ (i + 1) (by omega) f1 (by rw [a6, mst_ne (by decide), mst_eq]) ((((raF.st (by decide)).tr (raF.st (by decide))).tr (raF.st (by decide))).tr raF.ac)
  · have e3 : rgOf (tb t n i) = none := (oI_m (fun r h => by have := rgOf_lt r h; omega)).mp e2
    have hd : dl 3 (tb t n i) = none := by simp [dl, e3, e]
    obtain ⟨f1, f2⟩ := flt_bad hq (by omega) hd
    rintro _ rfl
    refine p_act218 hv hu40 (by rw [mst_ne (by decide)]; exact hB.1) (by rw [mst_ne (by decide)]; exact hu) ?_
    obtain ⟨a1, a2, a3, a4, a5, a6⟩ := @actS_at (mst M 711 0 0 (M 710 0 0)) v u (oI (rgOf (tb t n i))) 0 0
    exact bad _ i (by omega) f1 (by rw [a6, mst_eq, ha]) ((raF.st (by decide)).tr raF.ac)
  · cases e3 : rgOf (tb t n i) with
    | none => rw [e3] at e2; exact absurd rfl e2
    | some r =>
      have hr := rgOf_lt r e3
      obtain ⟨i1, ti⟩ := tb_lt (t := t) (n := n) (i := i) (fun z => by
        have : rgOf (-1) = none := by decide
        rw [z, this] at e3; cases e3)
      rw [ti] at e3 e
      have q4 : rs t (i + 1) = some 4 := by rw [rs_s hq]; simp [dl, e3]
      have p4 := pst_s hq
      rw [hp] at p4
      simp only [pstep, if_neg e, e3, Option.getD_some] at p4
      rintro _ rfl
      rw [ha, nI_1]
      have hB1 : RB t n v (mst M 710 0 0 (nI (i + 1))) := hB.keep (mst_ne (by decide)) (mst_ne (by decide)) (mst_ne (by decide))
      refine p_byteNow (i := i + 1) hB1 hv hn (by omega) mst_eq ?_
      have h709 : ∀ M', raF v u M M' → M' 709 0 0 = nI v := fun M' h => by rw [h.1 709 (by decide)]; exact hB.1
      -- the sign is good
      have good : ∀ s, sgOf (tb t n (i + 1)) = some s → ∀ y, y = (if s = 0 then (1 : Int32) else if s = 1 then 2 else 0) → w_X10_act_126 Q (nI r) y (mst M 710 0 0 (nI (i + 1))) := by
        intro s hs y hy
        have hs3 := sgOf_lt s hs
        obtain ⟨i2, ti2⟩ := tb_lt (t := t) (n := n) (i := i + 1) (fun z => by
          have : sgOf (-1) = none := by decide
          rw [z, this] at hs; cases hs)
        rw [ti2] at hs
        have q5 : rs t (i + 1 + 1) = some 5 := by rw [rs_s q4]; simp [dl, hs]
        have p5 := pst_s q4
        rw [p4] at p5
        simp only [pstep, hs, Option.getD_some] at p5
        unfold w_X10_act_126
        rintro _ rfl
        rw [mst_eq, nI_1]
        have e12 : mst (mst M 710 0 0 (nI (i + 1))) 710 0 0 (nI (i + 1 + 1)) 712 0 0 = nI u := by rw [mst_ne (by decide), mst_ne (by decide)]; exact hu
        refine p_byteNow (i := i + 2) (hB1.keep (mst_ne (by decide)) (mst_ne (by decide)) (mst_ne (by decide))) hv hn (by omega) mst_eq ?_
        have okk : ((rgOf (tb t n (i + 2))).isSome = true ∨ isDg (tb t n (i + 2)) = true) → w_X10_act_179 Q (nI r) y (tb t n (i + 2)) (mst (mst M 710 0 0 (nI (i + 1))) 710 0 0 (nI (i + 1 + 1))) := by
          intro hval
          obtain ⟨i3, ti3⟩ := tb_lt (t := t) (n := n) (i := i + 2) (fun z => by
            rw [z] at hval; revert hval; decide)
          refine p_act179 (a := i + 2) hv hu40 mst_eq (by rw [mst_ne (by decide), mst_ne (by decide)]; exact hB.1) e12 ?_
          rw [vby_v hval]
          have q7 : rs t (i + 2 + 1) = some 7 := by
            rw [rs_s q5, ← ti3]
            have eb' : ((rgOf (tb t n (i + 2))).isSome || isDg (tb t n (i + 2))) = true := by simpa using hval
            simp only [dl, eb', if_true]
          have p7 := pst_s q5
          rw [p5] at p7
          obtain ⟨a1, a2, a3, a4, a5, a6⟩ := @actS_at (mst (mst (mst M 710 0 0 (nI (i + 1))) 710 0 0 (nI (i + 1 + 1))) 710 0 0 (nI (i + 2 + 1))) v u (nI r) y (nI (valOf (tb t n (i + 2))))
          obtain ⟨o1, o2, o3⟩ := onC_rs r hr s hs3 (valOf (tb t n (i + 2))) (valOf_lt hval)
          refine ok _ (i + 3) (16 * r + 64 * s + valOf (tb t n (i + 2))) (by omega) (by omega) q7 ?_ (by rw [a5, mst_eq]) (by rw [a6, mst_ne (by decide), mst_ne (by decide), mst_ne (by decide)]; exact hf) a4 (by rw [a1, o1]) (by rw [a2, o3]; exact hy) (by rw [a3, o2]) ((((raF.st (by decide)).tr (raF.st (by decide))).tr (raF.st (by decide))).tr raF.ac)
          rw [show i + 3 = i + 1 + 1 + 1 from rfl, p7, ti3]
          simp only [pstep, PAq, pL, pU, pCd, pFi, pCn]
          exact ⟨trivial, trivial, trivial, trivial, trivial⟩
        refine ⟨fun _ => ?_, fun z => absurd (by rw [mst_ne (by decide), mst_ne (by decide)]; exact hf) z⟩
        rw [e_X10_in]
        simp only [bi_z, Classical.not_not]
        refine ⟨fun hd => e_registerOf ⟨fun z => ?_, fun z => okk (Or.inl (some_of (fun w => z (by rw [w]; rfl))))⟩, fun hd => okk (Or.inr (decide_eq_true hd))⟩
        have e4 : rgOf (tb t n (i + 2)) = none := (oI_m (fun r h => by have := rgOf_lt r h; omega)).mp z
        have hdl : dl 5 (tb t n (i + 2)) = none := by
          have : isDg (tb t n (i + 2)) = false := decide_eq_false hd
          simp [dl, e4, this]
        obtain ⟨f1, f2⟩ := flt_bad q5 (by omega) hdl
        rintro _ rfl
        refine p_act179 (a := i + 2) hv hu40 (by rw [mst_ne (by decide), mst_eq]) (by rw [mst_ne (by decide), mst_ne (by decide), mst_ne (by decide)]; exact hB.1) (by rw [mst_ne (by decide)]; exact e12) ?_
        obtain ⟨a1, a2, a3, a4, a5, a6⟩ := @actS_at (mst (mst (mst (mst M 710 0 0 (nI (i + 1))) 710 0 0 (nI (i + 1 + 1))) 711 0 0 (mst (mst M 710 0 0 (nI (i + 1))) 710 0 0 (nI (i + 1 + 1)) 710 0 0)) 710 0 0 (nI (i + 2 + 1))) v u (nI r) y (vby (tb t n (i + 2)))
        exact bad _ (i + 2) (by omega) f1 (by rw [a6, mst_ne (by decide), mst_eq, mst_eq]) (((((raF.st (by decide)).tr (raF.st (by decide))).tr (raF.st (by decide))).tr (raF.st (by decide))).tr raF.ac)
      -- the sign is not
      have wrong : sgOf (tb t n (i + 1)) = none → ∀ y, w_X10_act_126 Q (nI r) y (mst (mst M 710 0 0 (nI (i + 1))) 711 0 0 (nI (i + 1))) := by
        intro hs y
        have hdl : dl 4 (tb t n (i + 1)) = none := by simp [dl, hs]
        obtain ⟨f1, f2⟩ := flt_bad q4 (by omega) hdl
        unfold w_X10_act_126
        rintro _ rfl
        rw [mst_ne (show 710 ≠ 711 by decide), mst_eq, nI_1]
        refine p_byteNow (i := i + 2) (hB1.keep (by rw [mst_ne (by decide), mst_ne (by decide)]) (by rw [mst_ne (by decide), mst_ne (by decide)]) (by rw [mst_ne (by decide), mst_ne (by decide)])) hv hn (by omega) mst_eq ?_
        refine ⟨fun z => absurd (by rw [mst_ne (by decide), mst_eq] at z; exact z) (ni_nem1 (show i + 1 < 2147483648 by omega)), fun _ => ?_⟩
        refine p_act179 (a := i + 2) hv hu40 mst_eq (by rw [mst_ne (by decide), mst_ne (by decide), mst_ne (by decide)]; exact hB.1) (by rw [mst_ne (by decide), mst_ne (by decide), mst_ne (by decide)]; exact hu) ?_
        obtain ⟨a1, a2, a3, a4, a5, a6⟩ := @actS_at (mst (mst (mst (mst M 710 0 0 (nI (i + 1))) 711 0 0 (nI (i + 1))) 710 0 0 (nI (i + 1 + 1))) 710 0 0 (nI (i + 2 + 1))) v u (nI r) y (vby (tb t n (i + 2)))
        exact bad _ (i + 1) (by omega) f1 (by rw [a6, mst_ne (by decide), mst_ne (by decide), mst_eq]) (((((raF.st (by decide)).tr (raF.st (by decide))).tr (raF.st (by decide))).tr (raF.st (by decide))).tr raF.ac)
      have s43 : sgOf 43 = some 0 := by decide
      have s45 : sgOf 45 = some 1 := by decide
      have s61 : sgOf 61 = some 2 := by decide
      show (tb t n (i + 1) = 43 → w_X10_act_96 Q (nI r) (tb t n (i + 1)) 1 _) ∧ (¬ tb t n (i + 1) = 43 → (tb t n (i + 1) = 45 → w_X10_act_96 Q (nI r) (tb t n (i + 1)) 2 _) ∧ (¬ tb t n (i + 1) = 45 → w_X10_act_96 Q (nI r) (tb t n (i + 1)) 0 _))
      unfold w_X10_act_96
      refine ⟨fun z => ?_, fun z => ⟨fun z2 => ?_, fun z2 => ?_⟩⟩
      · exact ⟨fun _ => good 0 (by rw [z]; exact s43) 1 rfl, fun w => absurd z w⟩
      · exact ⟨fun w => absurd w z, fun _ => ⟨fun _ => good 1 (by rw [z2]; exact s45) 2 rfl, fun w => absurd z2 w⟩⟩
      · refine ⟨fun w => absurd w z, fun _ => ⟨fun w => absurd w z2, fun _ => ⟨fun z3 => good 2 (by rw [z3]; exact s61) 0 rfl, fun z3 => ?_⟩⟩⟩
        rintro _ rfl
        rw [mst_eq]
        exact wrong (by unfold sgOf; rw [if_neg z, if_neg z2, if_neg z3]) 0
