/-! FILLS: the reference -/
theorem mixA_s {A : Nat → List Nat} {ls : Nat} : mixA A A ls = A := by
  funext l; unfold mixA; split <;> rfl
theorem fillR_l {ev : Nat → Int32} {n f : Nat} : (fillR ev n f).length = n := by unfold fillR; rw [List.length_map, List.length_range]
theorem fillR_g {ev : Nat → Int32} {n f i : Nat} (h : i < n) : (fillR ev n f).getD i 0 = if ev i = -1 then f / 8 ^ (lostN ev i) % 8 else (ev i).toNatClampNeg := by
  unfold fillR
  rw [List.getD_eq_getElem?_getD, List.getElem?_map, List.getElem?_range h]; rfl
theorem lostN_m {ev : Nat → Int32} : ∀ {i j : Nat}, i ≤ j → lostN ev i ≤ lostN ev j
  | i, 0, h => by
    have : i = 0 := by omega
    rw [this]; exact Nat.le_refl _
  | i, j + 1, h => by
    by_cases e : i = j + 1
    · rw [e]; exact Nat.le_refl _
    · have := lostN_m (ev := ev) (i := i) (j := j) (by omega)
      rw [lostN]; omega
/-- an EVENT of a LOG, where it is not LOST -/
theorem SOK.evc {S : Mem} (h : SOK S) {c : Nat} (hc : c < nc S) {i : Nat} (hn : ¬ S 20 c i = -1) : ∃ e, e < 8 ∧ S 20 c i = nI e := by
  have hr := (h.c hc).2.2.1 i
  have h0 : rng (S 20 c i) 0 7 := by
    refine ⟨?_, hr.2⟩
    have h1 := hr.1
    have : ¬ (S 20 c i).toInt = -1 := fun q => hn (by rw [ti_eq, q]; rfl)
    omega
  obtain ⟨k, hk, e⟩ := rng_nat (n := 7) (by decide) h0
  exact ⟨k, by omega, e⟩
theorem SOK.fe {S : Mem} (h : SOK S) {c : Nat} (hc : c < nc S) {f : Nat} (i : Nat) : (fillR (S 20 c) (cln S c) f).getD i 0 < 8 := by
  by_cases hi : i < cln S c
  · rw [fillR_g hi]
    split
    · omega
    · next hn =>
      obtain ⟨e, he, q⟩ := h.evc hc hn
      rw [q, ni_cl (by omega)]; exact he
  · rw [List.getD_eq_getElem?_getD, List.getElem?_eq_none (by rw [fillR_l]; omega)]; decide
theorem ni_div {k m : Nat} (hk : k < 2147483648) (h0 : 0 < m) (hm : m < 2147483648) : nI k / nI m = nI (k / m) := by
  have hle : k / m ≤ k := Nat.div_le_self _ _
  rw [ti_eq, Int32.toInt_div, nI_toInt hk, nI_toInt hm, nI_toInt (by omega), Int.tdiv_eq_ediv_of_nonneg (by omega)]
  rw [show ((k : Int) / (m : Int)) = ((k / m : Nat) : Int) from (Int.natCast_ediv k m).symm]
  generalize k / m = q at hle ⊢
  exact Int.bmod_eq_of_le (by omega) (by omega)
theorem d8 {k : Nat} (hk : k < 2147483648) : nI k / 8 = nI (k / 8) := ni_div (m := 8) hk (by decide) (by decide)
theorem m8 {k : Nat} (hk : k < 2147483648) : nI k - nI k / 8 * 8 = nI (k % 8) := by
  rw [d8 hk]
  have e : nI (k / 8) * 8 = nI (k / 8 * 8) := pk_mul ..
  rw [e, ni_sub (by omega)]
  congr 1; omega
def cbk : List Nat := rvk ++ [716, 717, 718, 62, 714, 715, 72]
theorem p_X10_filledBy {S M : Mem} (hS : SOK S) (hI : InvR S M) {c f : Nat} (hc : c < nc S) (hf : f < 2147483648) {Q : Mem → Prop} (hQ : ∀ M1, (∀ k, k ≠ 72 → M1 k = M k) → (∀ i, i < cln S c → M1 72 0 i = nI ((fillR (S 20 c) (cln S c) f).getD i 0)) → Q M1) : wp_X10_filledBy (nI c) (nI f) M Q := by
  obtain ⟨r1, r2, r3, r4⟩ := hI.c hc
  obtain ⟨l1, l2⟩ := hS.cl hc
  have n1 := hS.ncs.1
  have hdv : ∀ i, f / 8 ^ i ≤ f := fun i => Nat.div_le_self _ _
  suffices hh : ∃ g, w_X10_filledBy_5 Q g (nI c) (nI (f / 8 ^ lostN (S 20 c) 0)) (nI 0) M by
    have e0 : f / 8 ^ lostN (S 20 c) 0 = f := by rw [lostN, Nat.pow_zero, Nat.div_one]
    rw [e0] at hh; exact hh
  refine pk_loop (fun g i (z : Mem) => w_X10_filledBy_5 Q g (nI c) (nI (f / 8 ^ lostN (S 20 c) i)) (nI i) z) (fun i z => (∀ k, k ≠ 72 → z k = M k) ∧ ∀ j, j < i → z 72 0 j = nI ((fillR (S 20 c) (cln S c) f).getD j 0)) (cln S c) 0 M (Nat.zero_le _) ⟨fun _ _ => rfl, fun j hj => absurd hj (Nat.not_lt_zero _)⟩ ?_ ?_
  · rintro g z ⟨h1, h2⟩
    unfold w_X10_filledBy_5
    rw [cn_cl hS hc, h1 65 (by decide), r2, l2]
    exact ⟨cn_in hS hc, fun _ => hQ z h1 h2, fun h => absurd ((ni_le (by omega) (by omega)).mpr (Nat.le_refl _)) h⟩
  · rintro g i z hi ⟨h1, h2⟩ ih
    have hx : (12 * nI c + nI i) = nI (12 * c + i) := by rw [ni_lit 12, pk_mul, nI_add]
    have hdi := hdv (lostN (S 20 c) i)
    unfold w_X10_filledBy_5
    rw [cn_cl hS hc, h1 65 (by decide), r2, l2, hx, ni_cl (by omega), h1 66 (by decide), r3 i hi]
    have in144 : vp_in (nI (12 * c + i)) 144 := (ni_in (by omega)).mpr (by omega)
    have in12 : vp_in (nI i) 12 := (ni_in (by omega)).mpr (by omega)
    have e8 : ¬ (8 : Int32) = 0 := by decide
    have go : ∀ v, v = nI ((fillR (S 20 c) (cln S c) f).getD i 0) → w_X10_filledBy_5 Q g (nI c) (nI (f / 8 ^ lostN (S 20 c) (i + 1))) (nI (i + 1)) (mst z 72 0 i v) := by
      rintro _ rfl
      refine ih _ ⟨fun k q => (mst_ne q).trans (h1 k q), fun j hj => ?_⟩
      rw [mst_k]
      by_cases e : j = i
      · rw [if_pos ⟨rfl, e⟩, e]
      · rw [if_neg (fun q => e q.2)]; exact h2 j (by omega)
    refine ⟨cn_in hS hc, fun h => absurd ((ni_le (by omega) (by omega)).mp h) (by omega), fun _ => ⟨in144, fun h => ?_, fun h => ?_⟩⟩
    · have := go (nI (f / 8 ^ lostN (S 20 c) i % 8)) (by rw [fillR_g hi, if_pos h])
      rw [lostN, if_pos h, Nat.pow_succ, ← Nat.div_div_eq_div_mul] at this
      unfold w_X10_filledBy_37 w_X10_filledBy_69 w_X10_filledBy_83
      refine ⟨fun q => absurd q (by decide), fun _ => ⟨e8, in12, ?_⟩⟩
      rintro _ rfl
      refine ⟨fun q => absurd q (by decide), fun _ => ⟨e8, ?_⟩⟩
      rw [m8 (by omega), d8 (by omega), nI_1, ni_cl (by omega)]
      exact this
    · obtain ⟨e, he, q⟩ := hS.evc hc h
      have := go (S 20 c i) (by rw [fillR_g hi, if_neg h, q, ni_cl (by omega)])
      rw [lostN, if_neg h, Nat.add_zero] at this
      unfold w_X10_filledBy_37 w_X10_filledBy_69 w_X10_filledBy_83
      refine ⟨fun _ => ⟨by rw [hx]; exact in144, in12, ?_⟩, fun z => absurd rfl z⟩
      rintro _ rfl
      refine ⟨fun _ => ?_, fun z => absurd rfl z⟩
      rw [hx, ni_cl (show 12 * c + i < 2147483648 by omega), h1 66 (by decide), r3 i hi, nI_1, ni_cl (by omega)]
      exact this
/-! a row goes, perhaps with a row posted from afar -/
def bmp (s : STt) (z : Int) : STt := (s.1, s.2.1, clI (s.2.2.1 + z), s.2.2.2)
def gst (A : Nat → List Nat) (r : List Nat) (p : Nat) (z : Int) : Nat → STt
  | 0 => s0
  | i + 1 => stp A (if i = p then bmp (gst A r p z i) z else gst A r p z i) (r.getD i 0)
theorem gst_lo {A : Nat → List Nat} {r : List Nat} {p : Nat} {z : Int} : ∀ {i : Nat}, i ≤ p → i ≤ r.length → gst A r p z i = runS A (r.take i)
  | 0, _, _ => rfl
  | i + 1, hp, hl => by rw [gst, if_neg (by omega), gst_lo (by omega) (by omega), tk_s (by omega), runS_a]
theorem gst_hi {A : Nat → List Nat} {r : List Nat} {p : Nat} {z : Int} : ∀ {i : Nat}, p < i → i ≤ r.length → gst A r p z i = ((r.take i).drop p).foldl (stp A) (bmp (runS A (r.take p)) z)
  | 0, hp, _ => absurd hp (Nat.not_lt_zero _)
  | i + 1, hp, hl => by
    have hd : (r.take (i + 1)).drop p = (r.take i).drop p ++ [r.getD i 0] := by
      rw [tk_s (by omega), List.drop_append_of_le_length (by rw [List.length_take]; omega)]
    rw [gst, hd, List.foldl_append]
    by_cases e : i = p
    · subst e
      rw [if_pos rfl, gst_lo (Nat.le_refl _) (by omega), List.drop_of_length_le (by rw [List.length_take]; omega)]; rfl
    · rw [if_neg e, gst_hi (by omega) (by omega)]; rfl
def gfi (A : Nat → List Nat) (r : List Nat) (p : Nat) (z : Int) : STt := if r.length = p then bmp (gst A r p z r.length) z else gst A r p z r.length
theorem gfi_n {A : Nat → List Nat} {r : List Nat} {p : Nat} {z : Int} (h : r.length < p) : gfi A r p z = runS A r := by
  unfold gfi
  rw [if_neg (by omega), gst_lo (by omega) (Nat.le_refl _), List.take_length]
theorem gfi_p {A : Nat → List Nat} {r : List Nat} {p : Nat} {z : Int} (h : p ≤ r.length) : gfi A r p z = postS A r p z := by
  unfold gfi
  by_cases e : r.length = p
  · rw [if_pos e, gst_lo (by omega) (Nat.le_refl _), List.take_length]
    unfold postS
    rw [List.take_of_length_le (by omega), List.drop_of_length_le (by omega)]; rfl
  · rw [if_neg e, gst_hi (by omega) (Nat.le_refl _), List.take_length]; rfl
theorem bmp_ok {s : STt} {z : Int} (h : stOk s) : stOk (bmp s z) := by
  refine ⟨fun k hk => ?_, h.2⟩
  have : k = 0 ∨ k = 1 ∨ k = 2 := by omega
  rcases this with rfl | rfl | rfl
  · exact h.1 0 (by decide)
  · exact h.1 1 (by decide)
  · exact clI_r _
theorem stOk_v {S : Mem} {v e : Nat} {s : STt} (hs : stOk s) : stOk (stp (vA S v) s e) := by
  have := stOk_s (S := S) (v := v) (o := v) (ls := 0) (e := e) hs
  rw [mixA_s] at this; exact this
theorem gst_ok {S : Mem} {v : Nat} {r : List Nat} {p : Nat} {z : Int} : ∀ {i : Nat}, stOk (gst (vA S v) r p z i)
  | 0 => stOk_0
  | i + 1 => by
    rw [gst]
    refine stOk_v ?_
    split
    · exact bmp_ok gst_ok
    · exact gst_ok
theorem p_X10_goesAll {S M : Mem} (hS : SOK S) (hI : InvR S M) {c p : Nat} {r : List Nat} {pl : Int32} {z : Int} (hc : c < nc S) (hl : r.length = cln S c) (hr : ∀ i, r.getD i 0 < 8) (h72 : ∀ i, i < cln S c → M 72 0 i = nI (r.getD i 0)) (hp : ∀ k, k ≤ cln S c → (nI k = pl ↔ k = p)) (hz : -3 ≤ z ∧ z ≤ 3) {Q : Mem → Prop} (hQ : ∀ M1, InvR S M1 → StR M1 (gfi (vA S (cvr S c)) r p z) (drw r) → (∀ k, k ∉ rvk ++ [716, 717, 718, 62, 714, 715] → M1 k = M k) → Q M1) : wp_X10_goesAll (nI c) pl (iI z) M Q := by
  obtain ⟨r1, r2, r3, r4⟩ := hI.c hc
  obtain ⟨l1, l2⟩ := hS.cl hc
  obtain ⟨v1, v2⟩ := hS.cv hc
  unfold wp_X10_goesAll
  refine ⟨cn_in hS hc, cn_in hS hc, ?_⟩
  rw [cn_cl hS hc, r1, v2]
  refine p_X10_mixes (ls := 0) hS hI v1 v1 (by decide) (fun M1 hI1 hMx hF1 => p_X10_begins (fun M2 hR2 hF2 => ?_))
  have nn : ∀ k, k ∉ rvk ++ [716, 717, 718, 62, 714, 715] → k ∉ rvk ++ [716, 717, 718] ∧ k ∉ gsk := fun k q => ⟨fun z => q (by clear q; revert z; revert k; unfold rvk; decide), fun z => q (by clear q; revert z; revert k; unfold rvk gsk; decide)⟩
  have hMx2 : MxR S M2 (cvr S c) (cvr S c) 0 := hMx.keep (fun k q => hF2 k (by revert q; revert k; unfold gsk; decide))
  have e65 : M2 65 0 c = nI (cln S c) := by rw [hF2 65 (by decide), hF1 65 (by decide), r2, l2]
  have e72 : ∀ i, i < cln S c → M2 72 0 i = nI (r.getD i 0) := fun i hi => by rw [hF2 72 (by decide), hF1 72 (by decide)]; exact h72 i hi
  have hI2 : InvR S M2 := hI1.keep (fun k q => hF2 k (by revert q; revert k; unfold gsk irk; decide))
  have hdr : ∀ i, -12 ≤ drw (r.take i) ∧ drw (r.take i) ≤ 12 := fun i => by
    have h := drw_l (r.take i)
    have : (r.take i).length ≤ 12 := by rw [List.length_take]; omega
    omega
  refine pk_loop (fun g k (m : Mem) => w_X10_goesAll_24 Q g (nI c) pl (iI z) (nI k) m) (fun k m => (∀ q, q ∉ gsk → m q = M2 q) ∧ StR m (if k = cln S c + 1 then gfi (vA S (cvr S c)) r p z else gst (vA S (cvr S c)) r p z k) (drw (r.take k))) (cln S c + 1) 0 M2 (Nat.zero_le _) ⟨fun _ _ => rfl, by rw [if_neg (by omega)]; exact hR2⟩ ?_ ?_
  · rintro g m ⟨h1, h2⟩
    unfold w_X10_goesAll_24
    rw [cn_cl hS hc, h1 65 (by decide), e65]
    rw [if_pos rfl, List.take_of_length_le (by omega)] at h2
    refine ⟨cn_in hS hc, fun _ => hQ m (hI2.keep (fun k q => h1 k (by revert q; revert k; unfold gsk irk; decide))) h2 (fun k q => ?_), fun h => absurd ((ni_lt (by omega) (by omega)).mpr (by omega)) h⟩
    rw [h1 k (nn k q).2, hF2 k (nn k q).2, hF1 k (nn k q).1]
  · rintro g k m hk ⟨h1, h2⟩ ih
    rw [if_neg (by omega)] at h2
    have hok : stOk (gst (vA S (cvr S c)) r p z k) := gst_ok
    have aft : ∀ s m1, stOk s → s = (if k = p then bmp (gst (vA S (cvr S c)) r p z k) z else gst (vA S (cvr S c)) r p z k) → (∀ q, q ∉ gsk → m1 q = M2 q) → StR m1 s (drw (r.take k)) → w_X10_goesAll_54 Q (fun x1 x2 x3 x4 M => w_X10_goesAll_24 Q g x1 x2 x3 x4 M) (nI c) pl (iI z) (nI k) m1 := by
      intro s m1 hs es g1 g2
      unfold w_X10_goesAll_54 w_X10_goesAll_76
      rw [cn_cl hS hc, g1 65 (by decide), e65, nI_1]
      refine ⟨cn_in hS hc, fun q => ?_, fun q => ⟨(ni_in (by omega)).mpr ?_, ?_⟩⟩
      · have hkn : k = cln S c := by
          have := (ni_le (by omega) (by omega)).mp q
          omega
        refine ih m1 ⟨g1, ?_⟩
        rw [if_pos (by omega)]
        rw [List.take_of_length_le (by omega)] at g2 ⊢
        unfold gfi
        rw [hl, ← hkn]
        rw [es] at g2
        by_cases e : k = p
        · rw [if_pos e] at g2 ⊢; exact g2
        · rw [if_neg e] at g2 ⊢; exact g2
      · have : ¬ cln S c ≤ k := fun z => q ((ni_le (by omega) (by omega)).mpr z)
        omega
      · have hkn : k < cln S c := by
          have : ¬ cln S c ≤ k := fun z => q ((ni_le (by omega) (by omega)).mpr z)
          omega
        have h12 := hdr k
        rw [ni_cl (by omega), g1 72 (by decide), e72 k hkn]
        refine p_X10_goes hS (hMx2.keep (fun q hq => g1 q (by revert hq; revert q; unfold gsk; decide))) hs (hr k) g2 (by omega) (fun m2 f1 f2 => ih m2 ⟨fun q hq => (f2 q hq).trans (g1 q hq), ?_⟩)
        rw [if_neg (by omega), gst, ← es, tk_s (by omega), drw_a]
        rw [mixA_s] at f1; exact f1
    unfold w_X10_goesAll_24
    rw [cn_cl hS hc, h1 65 (by decide), e65]
    refine ⟨cn_in hS hc, fun h => absurd ((ni_lt (by omega) (by omega)).mp h) (by omega), fun _ => ⟨fun q => ⟨(ni_in (a := 2) (by decide)).mpr (by decide), ?_⟩, fun q => ?_⟩⟩
    · have hkp : k = p := (hp k (by omega)).mp q
      have c2 : (2 : Int32).toNatClampNeg = 2 := rfl
      have b2 := hok.1 2 (by decide)
      rw [c2, h2.1 2 (by decide), iI_add (by omega) (by omega)]
      refine p_sets (r := 2) (by decide) (by omega) (aft _ _ (bmp_ok hok) (by rw [if_pos hkp]) (fun q hq => (mst_ne (fun e => hq (by rw [e]; decide))).trans (h1 q hq)) ?_)
      refine ⟨?_, by rw [mst_ne (by decide)]; exact h2.2.1, by rw [mst_ne (by decide)]; exact h2.2.2⟩
      exact h2.1.st (r := 2) (by decide)
    · exact aft _ m hok (by rw [if_neg (fun e => q ((hp k (by omega)).mpr e))]) h1 h2
