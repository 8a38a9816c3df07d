/-! THE CLASS FILLS: it runs the row -/
theorem iI_lt {x y : Int} (hx : -1000000 ≤ x ∧ x ≤ 1000000) (hy : -1000000 ≤ y ∧ y ≤ 1000000) : iI x < iI y ↔ x < y := by
  rw [ti_lt, iI_t (by omega) (by omega), iI_t (by omega) (by omega)]
theorem stI_inj {s s' : STt} (hs : stOk s) (hs' : stOk s') (h : stI s = stI s') : s = s' := by
  have h1 := stN_lt hs
  have h2 := stN_lt hs'
  exact stN_inj hs hs' ((ni_eq (by omega) (by omega)).mp h)
theorem stI_bmp {s : STt} (hs : stOk s) {z : Int} : (stI s + iI (clI (rgI s 2 + z))) - iI (rgI s 2) = stI (bmp s z) := by
  have h1 := stN_lt hs
  have h2 := stN_lt (bmp_ok (z := z) hs)
  have h3 := hs.1 2 (by decide)
  have h4 := clI_r (rgI s 2 + z)
  have e1 : (stI s).toInt = stN s := nI_toInt (by omega)
  have e2 : (stI (bmp s z)).toInt = stN (bmp s z) := nI_toInt (by omega)
  have e3 : (iI (clI (rgI s 2 + z))).toInt = clI (rgI s 2 + z) := iI_t (by omega) (by omega)
  have e4 : (iI (rgI s 2)).toInt = rgI s 2 := iI_t (by omega) (by omega)
  have e5 : (stI s + iI (clI (rgI s 2 + z))).toInt = stN s + clI (rgI s 2 + z) := by
    rw [ti_add (by rw [e1, e3]; omega) (by rw [e1, e3]; omega), e1, e3]
  rw [ti_eq, ti_sub (by rw [e5, e4]; omega) (by rw [e5, e4]; omega), e5, e4, e2]
  have e6 : stN (bmp s z) = s.2.2.2 * 16777216 + (rgI s 0 + 99).toNat * 65536 + (rgI s 1 + 99).toNat * 256 + (clI (rgI s 2 + z) + 99).toNat := rfl
  have e7 : stN s = s.2.2.2 * 16777216 + (rgI s 0 + 99).toNat * 65536 + (rgI s 1 + 99).toNat * 256 + (rgI s 2 + 99).toNat := rfl
  omega
theorem p_X2_runPlain {S M : Mem} (hS : SOK S) {c : Nat} {r : Nat → Nat} (hc : c < nc S) (hMx : MxC S M (cvr S c) (cvr S c) 0) (hI : FI S M c) (hr : ∀ p, p < cln S c → r p < 8 ∧ M 24 0 p = nI (r p)) {Q : Mem → Prop} (hQ : ∀ M1, (∀ k, k ∉ [26, 33, 310] → M1 k = M k) → FI S M1 c → (∀ i, i ≤ cln S c → M1 26 0 i = stI (runS (vA S (cvr S c)) (rl (ro M) i))) → Q M1) : wp_X2_runPlain M Q := by
  obtain ⟨l1, l2⟩ := hS.cl hc
  obtain ⟨⟨a1, a2⟩, a3, a4, ⟨u, b1, b2, b3⟩, hw⟩ := hI
  unfold wp_X2_runPlain
  rintro _ rfl
  rw [b2]
  refine pk_loop (fun g i (m : Mem) => w_X2_runPlain_5 Q g (nI i) m) (fun i m => (∀ k, k ∉ [26, 33] → m k = M k) ∧ ∀ j, j ≤ i → m 26 0 j = stI (runS (vA S (cvr S c)) (rl (ro M) j))) (cln S c) u M b1 ⟨fun _ _ => rfl, b3⟩ ?_ ?_
  · rintro g m ⟨h1, h2⟩
    unfold w_X2_runPlain_5
    rw [h1 308 (by decide), a1]
    refine ⟨fun _ => ?_, fun q => absurd ((ni_le (by omega) (by omega)).mpr (Nat.le_refl _)) q⟩
    rintro _ rfl
    have fr : ∀ k, k ∉ [26, 33, 310] → mst m 310 0 0 (nI (cln S c)) k = M k := fun k q => by
      rw [mst_ne (fun e => q (by rw [e]; decide)), h1 k (fun e => q (by clear q; revert e; revert k; decide))]
    have er : ro (mst m 310 0 0 (nI (cln S c))) = ro M := by unfold ro; rw [fr 24 (by decide)]
    refine hQ _ fr ⟨⟨by rw [fr 308 (by decide)]; exact a1, by rw [fr 309 (by decide)]; exact a2⟩, by rw [fr 25 (by decide)]; exact a3, by rw [fr 24 (by decide)]; exact a4, ⟨cln S c, Nat.le_refl _, mst_eq, fun i hi => ?_⟩, ?_⟩ (fun i hi => by rw [mst_ne (by decide)]; exact h2 i hi)
    · rw [mst_ne (by decide), er]; exact h2 i hi
    · unfold PSI at hw ⊢
      rw [er, fr 311 (by decide), fr 28 (by decide), fr 86 (by decide)]
      exact hw
  · rintro g i m hi ⟨h1, h2⟩ ih
    obtain ⟨hr1, hr2⟩ := hr i hi
    unfold w_X2_runPlain_5
    rw [h1 308 (by decide), a1, ni_cl (by omega), h2 i (Nat.le_refl _), h1 24 (by decide), hr2]
    refine ⟨fun q => absurd ((ni_le (by omega) (by omega)).mp q) (by omega), fun _ => ⟨(ni_in (by omega)).mpr (by omega), (ni_in (by omega)).mpr (by omega), ?_⟩⟩
    refine p_X4_after hS (hMx.keep (fun k q => h1 k (by revert q; revert k; decide))) runV_ok hr1 (fun m2 hF => ?_)
    rw [nI_1]
    refine ⟨(ni_in (by omega)).mpr (by omega), ?_⟩
    rintro _ rfl
    rw [ni_cl (by omega)]
    have hro : ro M i = r i := by unfold ro; rw [hr2, ni_cl (by omega)]
    refine ih _ ⟨fun k q => ?_, fun j hj => ?_⟩
    · rw [mst_ne (fun e => q (by rw [e]; decide)), hF k (fun e => q (by rw [e]; decide)), h1 k q]
    · rw [mst_k]
      by_cases e : j = i + 1
      · rw [if_pos ⟨rfl, e⟩, e, rl_s, runS_a, hro, mixA_s]
      · rw [if_neg (fun q => e q.2), hF 26 (by decide)]; exact h2 j (by omega)
/-- other rows stay -/
def oth (i : Nat) (M M1 : Mem) : Prop := (∀ k, k ∉ [28, 86, 33] → M1 k = M k) ∧ ∀ j, j ≠ i → M1 28 0 j = M 28 0 j ∧ M1 86 j = M 86 j
theorem oth.rf {i : Nat} {M : Mem} : oth i M M := ⟨fun _ _ => rfl, fun _ _ => ⟨rfl, rfl⟩⟩
theorem oth.tr {i : Nat} {M M1 M2 : Mem} (h : oth i M M1) (h2 : oth i M1 M2) : oth i M M2 := ⟨fun k q => (h2.1 k q).trans (h.1 k q), fun j q => ⟨(h2.2 j q).1.trans (h.2 j q).1, (h2.2 j q).2.trans (h.2 j q).2⟩⟩
theorem oth.af {i : Nat} {M M1 : Mem} (h : ∀ k, k ≠ 33 → M1 k = M k) : oth i M M1 := ⟨fun k q => h k (fun e => q (by rw [e]; decide)), fun j _ => ⟨by rw [h 28 (by decide)], by rw [h 86 (by decide)]⟩⟩
theorem PSI.cg {A : Nat → List Nat} {M M1 : Mem} {i cnt : Nat} {P P' : STt → Prop} (h : PSI A M i cnt P) (h1 : M1 28 0 i = M 28 0 i) (h2 : M1 86 i = M 86 i) (hP : ∀ s, P s ↔ P' s) : PSI A M1 i cnt P' := by
  obtain ⟨a, b, d⟩ := h
  refine ⟨h1.trans a, fun k hk => ?_, fun s hs => ?_⟩
  · obtain ⟨s, x1, x2, x3⟩ := b k hk
    exact ⟨s, x1, by rw [h2]; exact x2, (hP s).mp x3⟩
  · rw [h2]; exact d s ((hP s).mpr hs)
theorem p_X2_addPosted {A : Nat → List Nat} {M : Mem} {i cnt : Nat} {s : STt} {P : STt → Prop} (hi : i < 13) (hs : stOk s) (hP : PSI A M i cnt P) (hc : cnt < 78) {Q : Mem → Prop} (hQ : ∀ M1 cnt', cnt' ≤ cnt + 1 → oth i M M1 → PSI A M1 i cnt' (fun x => P x ∨ x = s) → Q M1) : wp_X2_addPosted (nI i) (stI s) M Q := by
  obtain ⟨p1, p2, p3⟩ := hP
  have in13 : vp_in (nI i) 13 := (ni_in (by omega)).mpr hi
  unfold wp_X2_addPosted
  refine ⟨in13, ?_⟩
  rintro _ rfl
  rw [ni_cl (by omega), p1]
  refine pk_loop (fun g k (m : Mem) => w_X2_addPosted_10 Q g (nI i) (stI s) (nI cnt) (nI k) m) (fun k m => m = M ∧ ∀ j, j < k → ¬ M 86 i j = stI s) cnt 0 M (Nat.zero_le _) ⟨rfl, fun j hj => absurd hj (Nat.not_lt_zero _)⟩ ?_ ?_
  · rintro g m ⟨rfl, h2⟩
    unfold w_X2_addPosted_10
    refine ⟨fun _ => ⟨fun q => absurd ((ni_le (a := 78) (by omega) (by omega)).mp q) (by omega), fun _ => ⟨in13, (ni_in (by omega)).mpr hc, ?_⟩⟩, fun q => absurd ((ni_le (by omega) (by omega)).mpr (Nat.le_refl _)) q⟩
    rintro _ rfl
    refine ⟨in13, in13, ?_⟩
    rintro _ rfl
    rw [ni_cl (by omega), ni_cl (by omega), mst_ne (show 28 ≠ 86 by decide), p1, nI_1]
    have e86 : ∀ j k, mst (mst m 86 i cnt (stI s)) 28 0 i (nI (cnt + 1)) 86 j k = if j = i ∧ k = cnt then stI s else m 86 j k := fun j k => by
      rw [mst_ne (by decide), mst_k]
    refine hQ _ (cnt + 1) (Nat.le_refl _) ⟨fun k q => ?_, fun j hj => ⟨?_, ?_⟩⟩ ⟨mst_eq, fun k hk => ?_, fun x hx => ?_⟩
    · rw [mst_ne (fun e => q (by rw [e]; decide)), mst_ne (fun e => q (by rw [e]; decide))]
    · rw [mst_k, if_neg (fun q => hj q.2), mst_ne (by decide)]
    · funext k; rw [e86, if_neg (fun q => hj q.1)]
    · rw [e86]
      by_cases e : k = cnt
      · exact ⟨s, hs, if_pos ⟨rfl, e⟩, Or.inr rfl⟩
      · obtain ⟨x, y1, y2, y3⟩ := p2 k (by omega)
        exact ⟨x, y1, by rw [if_neg (fun q => e q.2)]; exact y2, Or.inl y3⟩
    · rcases hx with hx | hx
      · obtain ⟨k, hk, e⟩ := p3 x hx
        exact ⟨k, by omega, by rw [e86, if_neg (fun q => by omega)]; exact e⟩
      · exact ⟨cnt, by omega, by rw [e86, if_pos ⟨rfl, rfl⟩, hx]⟩
  · rintro g k m hk ⟨rfl, h2⟩ ih
    unfold w_X2_addPosted_10
    rw [ni_cl (show i < 2147483648 by omega), ni_cl (show k < 2147483648 by omega), nI_1]
    refine ⟨fun q => absurd ((ni_le (by omega) (by omega)).mp q) (by omega), fun _ => ⟨in13, (ni_in (by omega)).mpr (by omega), fun q => ?_, fun q => ih m ⟨rfl, fun j hj => ?_⟩⟩⟩
    · obtain ⟨x, y1, y2, y3⟩ := p2 k hk
      have : x = s := stI_inj y1 hs (y2.symm.trans q)
      subst this
      refine hQ m cnt (by omega) oth.rf ⟨p1, fun j hj => ?_, fun y hy => ?_⟩
      · obtain ⟨x', z1, z2, z3⟩ := p2 j hj
        exact ⟨x', z1, z2, Or.inl z3⟩
      · rcases hy with hy | hy
        · exact p3 y hy
        · rw [hy]; exact p3 x y3
    · by_cases e : j = k
      · rw [e]; exact q
      · exact h2 j (by omega)
theorem p_X2_postFromAfar {A : Nat → List Nat} {M : Mem} {i cnt : Nat} {s : STt} {P : STt → Prop} (hi : i < 13) (hs : stOk s) (h26 : M 26 0 i = stI s) (hP : PSI A M i cnt P) (hc : cnt + 6 ≤ 78) {Q : Mem → Prop} (hQ : ∀ M1 cnt', cnt' ≤ cnt + 6 → oth i M M1 → PSI A M1 i cnt' (fun x => P x ∨ ∃ z, zok z ∧ x = bmp s z) → Q M1) : wp_X2_postFromAfar (nI i) M Q := by
  have in13 : vp_in (nI i) 13 := (ni_in (by omega)).mpr hi
  have hb := hs.1 2 (by decide)
  unfold wp_X2_postFromAfar wp_X9_ledgerOf
  refine ⟨in13, ?_⟩
  rw [ni_cl (by omega), h26, st_c hs]
  suffices hh : ∃ f, w_X2_postFromAfar_12 Q f (nI i) (iI (rgI s 2)) (nI (0 + 1)) M from hh
  refine pk_loop (fun g n (m : Mem) => w_X2_postFromAfar_12 Q g (nI i) (iI (rgI s 2)) (nI (n + 1)) m) (fun n m => oth i M m ∧ ∃ cnt', cnt' ≤ cnt + 2 * n ∧ PSI A m i cnt' (fun x => P x ∨ ∃ z, zok z ∧ -(n : Int) ≤ z ∧ z ≤ n ∧ x = bmp s z)) 3 0 M (Nat.zero_le _) ⟨oth.rf, cnt, by omega, hP.cg rfl rfl (fun x => ⟨Or.inl, fun h => h.elim id (fun ⟨z, z1, z2, z3, _⟩ => absurd (by omega : z = 0) z1.2)⟩)⟩ ?_ ?_
  · rintro g m ⟨h1, cnt', h2, h3⟩
    unfold w_X2_postFromAfar_12
    refine ⟨fun _ => hQ m cnt' (by omega) h1 (h3.cg rfl rfl (fun x => ⟨fun h => ?_, fun h => ?_⟩)), fun q => absurd ((ni_lt (a := 3) (by omega) (by omega)).mpr (by omega)) q⟩
    · rcases h with h | ⟨z, z1, _, _, e⟩
      · exact Or.inl h
      · exact Or.inr ⟨z, z1, e⟩
    · rcases h with h | ⟨z, z1, e⟩
      · exact Or.inl h
      · have := z1.1
        exact Or.inr ⟨z, z1, by omega, by omega, e⟩
  · rintro g n m hn ⟨h1, cnt', h2, h3⟩ ih
    have e26 : ∀ m', oth i M m' → m' 26 0 i = stI s := fun m' hm => by rw [hm.1 26 (by decide)]; exact h26
    have ele : (if iI (rgI s 2) - nI (n + 1) < -99 then (-99 : Int32) else iI (rgI s 2) - nI (n + 1)) = iI (clI (rgI s 2 + -((n : Int) + 1))) := by
      rw [iI_n (by omega), iI_sub (by omega) (by omega), i_m99]
      unfold clI
      by_cases q : rgI s 2 - ((n + 1 : Nat) : Int) < -99
      · rw [if_pos ((iI_lt (by omega) (by omega)).mpr q), if_neg (by omega), if_pos (by omega)]
      · rw [if_neg (fun z => q ((iI_lt (by omega) (by omega)).mp z)), if_neg (by omega), if_neg (by omega)]; congr 1
    have emo : (if (99 : Int32) < iI (rgI s 2) + nI (n + 1) then (99 : Int32) else iI (rgI s 2) + nI (n + 1)) = iI (clI (rgI s 2 + ((n : Int) + 1))) := by
      rw [iI_n (by omega), iI_add (by omega) (by omega), i_99]
      unfold clI
      by_cases q : (99 : Int) < rgI s 2 + ((n + 1 : Nat) : Int)
      · rw [if_pos ((iI_lt (by omega) (by omega)).mpr q), if_pos (by omega)]
      · rw [if_neg (fun z => q ((iI_lt (by omega) (by omega)).mp z)), if_neg (by omega), if_neg (by omega)]; congr 1
    unfold w_X2_postFromAfar_12
    refine ⟨fun q => absurd ((ni_lt (a := 3) (by omega) (by omega)).mp q) (by omega), fun _ => ?_⟩
    rw [e_J9_max, e_J9_min, ele, emo, ni_cl (by omega)]
    refine ⟨in13, ?_⟩
    rw [e26 m h1, stI_bmp hs]
    refine p_X2_addPosted hi (bmp_ok hs) h3 (by omega) (fun m2 c2 k1 k2 k3 => ⟨in13, ?_⟩)
    rw [e26 m2 (h1.tr k2), stI_bmp hs]
    refine p_X2_addPosted hi (bmp_ok hs) k3 (by omega) (fun m3 c3 j1 j2 j3 => ?_)
    rw [nI_1]
    refine ih m3 ⟨(h1.tr k2).tr j2, c3, by omega, j3.cg rfl rfl (fun x => ⟨fun h => ?_, fun h => ?_⟩)⟩
    · rcases h with ((h | ⟨z, z1, z2, z3, e⟩) | e) | e
      · exact Or.inl h
      · exact Or.inr ⟨z, z1, by omega, by omega, e⟩
      · exact Or.inr ⟨_, ⟨by omega, by omega⟩, by omega, by omega, e⟩
      · exact Or.inr ⟨_, ⟨by omega, by omega⟩, by omega, by omega, e⟩
    · rcases h with h | ⟨z, z1, z2, z3, e⟩
      · exact Or.inl (Or.inl (Or.inl h))
      · by_cases q1 : z = -((n : Int) + 1)
        · rw [q1] at e; exact Or.inl (Or.inr e)
        · by_cases q2 : z = (n : Int) + 1
          · rw [q2] at e; exact Or.inr e
          · exact Or.inl (Or.inl (Or.inr ⟨z, z1, by omega, by omega, e⟩))
