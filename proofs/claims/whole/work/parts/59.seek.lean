/-! THE CLASS SEEKS: all of it -/
theorem bsl_m : ∀ {L L' : Nat}, L ≤ L' → bsl L ≤ bsl L'
  | L, 0, h => by
    have : L = 0 := by omega
    subst this; exact Nat.le_refl _
  | L, L' + 1, h => by
    by_cases e : L = L' + 1
    · subst e; exact Nat.le_refl _
    · have := bsl_m (L := L) (L' := L') (by omega)
      have e2 : bsl (L' + 1) = 8 * bsl L' + 1 := rfl
      omega
theorem lp_at {A : Nat → List Nat} {L f m : Nat} (hL : L < m) (hf : f < 8 ^ L) (h : tP A (bsl L + f)) (hC : ∀ z, z < bsl L + f → ¬ tP A z) : lpS A m = some (L + 1, f) := by
  refine lpS_yes hL hf ((tP_x hf).mp h) (fun L' hL' g hg q => ?_) (fun g hg q => ?_)
  · have e1 : bsl (L' + 1) = bsl L' + 8 ^ L' := bsl_p
    have e2 : bsl (L' + 1) ≤ bsl L := bsl_m (by omega)
    exact hC _ (by omega) ((tP_x hg).mpr q)
  · exact hC _ (by omega) ((tP_x (by omega)).mpr q)
theorem lp_none {A : Nat → List Nat} {m : Nat} (hC : ∀ z, z < bsl m → ¬ tP A z) : lpS A m = none := by
  refine lpS_no (fun L hL f hf q => ?_)
  have e1 : bsl (L + 1) = bsl L + 8 ^ L := bsl_p
  have e2 : bsl (L + 1) ≤ bsl m := bsl_m (by omega)
  exact hC _ (by omega) ((tP_x hf).mpr q)
def fnO (A : Nat → List Nat) (m : Nat) (r : Int32) (M1 : Mem) : Prop := match lpS A m with
  | none => r = -1
  | some (n, f) => r = nI n ∧ ∀ i, i < n → M1 41 0 i = nI ((rowF n f).getD i 0)
def LvI (S : Mem) (v o ls lim : Nat) (M : Mem) (L : Nat) (M1 : Mem) (K : Nat) (nx : Nat → Nat) (lb : Nat) : Prop := (∀ k, k ∉ fnk → M1 k = M k) ∧ NdI (mixA (vA S v) (vA S o) ls) M1 K nx (bsl (L + 1)) ∧ Cov (mixA (vA S v) (vA S o) ls) lim K nx (bsl (L + 1)) ∧ lb ≤ K ∧ (∀ i, i < lb → nx i < bsl L) ∧ (∀ i, lb ≤ i → i < K → bsl L ≤ nx i)
def NuI (S : Mem) (v o ls lim : Nat) (M : Mem) (K : Nat) (nx : Nat → Nat) (L ν : Nat) (M1 : Mem) (K1 : Nat) (nx1 : Nat → Nat) : Prop := ∃ y, GoI S v o ls lim M K nx (bsl (L + 1)) (8 * y + 1) M1 K1 nx1 ∧ bsl L ≤ y ∧ y ≤ bsl (L + 1) ∧ (∀ i, i < ν → nx i < y) ∧ (∀ i, ν ≤ i → i < K → y ≤ nx i)
theorem p_find74 {S M0 M : Mem} (hS : SOK S) {v o ls : Nat} (hMx : MxC S M0 v o ls) {L K lb m : Nat} {nx : Nat → Nat} (hm : 2 ≤ m ∧ m ≤ 5) (hL : L < m - 1) (hV : LvI S v o ls (bsl (m - 1)) M0 L M K nx lb) {Q : Int32 → Mem → Prop} {K58 : Int32 → Int32 → Int32 → Mem → Prop} (hQ : ∀ r M1, (∀ k, k ∉ fnk → M1 k = M0 k) → fnO (mixA (vA S v) (vA S o) ls) m r M1 → Q r M1) (hK : ∀ M1 K1 nx1, LvI S v o ls (bsl (m - 1)) M0 (L + 1) M1 K1 nx1 K → K58 (nI m) (nI K) (nI (L + 2) + 1) M1) : ∃ f, w_X6_find_74 Q K58 f (nI m) (nI (L + 2)) (nI K) (nI lb) M := by
  obtain ⟨hF, hN, hC, hlb, hlo, hhi⟩ := hV
  have hK5 := hN.1.2.1
  have bs1 : bsl (L + 1) = 8 * bsl L + 1 := rfl
  have bs2 : bsl (L + 1 + 1) = 8 * bsl (L + 1) + 1 := rfl
  have bs3 : bsl (L + 1) ≤ bsl (m - 1) := bsl_m (by omega)
  have bs4 : bsl (m - 1) ≤ 585 := by
    have := bsl_m (L := m - 1) (L' := 4) (by omega)
    rw [bsl_v.2.2.2.1] at this; exact this
  refine pk_loop (fun f ν (z : Mem × Nat × (Nat → Nat)) => w_X6_find_74 Q K58 f (nI m) (nI (L + 2)) (nI K) (nI ν) z.1) (fun ν z => NuI S v o ls (bsl (m - 1)) M K nx L ν z.1 z.2.1 z.2.2) K lb (M, K, nx) hlb ⟨bsl L, ⟨fun _ _ => rfl, Nat.le_refl _, fun _ _ => rfl, fun i h1 h2 => absurd h1 (by dsimp only at h2; omega), hN, hC⟩, Nat.le_refl _, by omega, hlo, hhi⟩ ?_ ?_
  · rintro f ⟨M1, K1, nx1⟩ ⟨y, ⟨gF, gK, gn, gb, gN, gC⟩, y1, y2, y3, y4⟩
    dsimp only at gF gK gn gb gN gC ⊢
    unfold w_X6_find_74
    refine ⟨fun _ => hK M1 K1 nx1 ⟨fun k q => (gF k q).trans (hF k q), gN.congr (by omega) (fun _ _ => rfl), gC.gap (y1 := bsl (L + 1)) y2 bs3 (by omega) (fun i hi => ?_), gK, fun i hi => ?_, gb⟩, fun z => absurd ((ni_le (by omega) (by omega)).mpr (Nat.le_refl _)) z⟩
    · by_cases c : i < K
      · rw [gn i c]; exact Or.inl (y3 i c)
      · exact Or.inr (gb i (by omega) hi)
    · rw [gn i hi]; exact (hN.2.2.2.1 i hi).2.2.1
  · rintro f ν ⟨M1, K1, nx1⟩ hν ⟨y, ⟨gF, gK, gn, gb, gN, gC⟩, y1, y2, y3, y4⟩ ih
    dsimp only at gF gK gn gb gN gC ⊢
    have hνK := hN.2.2.2.1 ν hν
    have hyν := y4 ν (Nat.le_refl _) hν
    have hbν : bsl L ≤ nx ν := by omega
    have hn1 : nx1 ν = nx ν := gn ν hν
    have gC' : Cov (mixA (vA S v) (vA S o) ls) (bsl (m - 1)) K1 nx1 (8 * nx1 ν + 1) := by
      rw [hn1]
      refine gC.gap hyν (by omega) (by omega) (fun i hi => ?_)
      by_cases c : i < K
      · rw [gn i c]
        by_cases c2 : i < ν
        · exact Or.inl (y3 i c2)
        · by_cases c3 : i = ν
          · subst c3; exact Or.inr (Nat.le_refl _)
          · exact Or.inr (Nat.le_of_lt (hN.2.2.2.2.1 ν i (by omega) c))
      · have := gb i (by omega) hi
        exact Or.inr (by omega)
    have gN' : NdI (mixA (vA S v) (vA S o) ls) M1 K1 nx1 (8 * nx1 ν + 1) := gN.congr (by omega) (fun _ _ => rfl)
    have hMx1 : MxC S M1 v o ls := hMx.fn (fun k q => (gF k q).trans (hF k q))
    have cmp : ∀ c M2 K2 nx2, GoI S v o ls (bsl (m - 1)) M1 K1 nx1 (8 * nx1 ν + 1) c M2 K2 nx2 → GoI S v o ls (bsl (m - 1)) M K nx (bsl (L + 1)) c M2 K2 nx2 := by
      rintro c M2 K2 nx2 ⟨f1, f2, f3, f4, f5, f6⟩
      refine ⟨fun k q => (f1 k q).trans (gF k q), by omega, fun i hi => (f3 i (by omega)).trans (gn i hi), fun i h1 h2 => ?_, f5, f6⟩
      by_cases c3 : i < K1
      · rw [f3 i c3]; exact gb i h1 c3
      · have := f4 i (by omega) h2
        omega
    have main : ∀ kp, (kp = 0 ∧ bsl (m - 1) ≤ 8 * nx1 ν + 1 ∨ kp = 1 ∧ 8 * nx1 ν + 8 < 585) → w_X6_find_96 Q K58 (fun x2 x5 x6 x7 M => w_X6_find_74 Q K58 f x2 x5 x6 x7 M) (nI m) (nI (L + 2)) (nI K) (nI ν) (nI kp) (nI ν) M1 := by
      intro kp hkp
      unfold w_X6_find_96
      refine p_X6_goOnFrom hS hMx1 hkp (by omega) gN' gC' (fun M2 K2 nx2 hG => ?_) (fun M2 K2 nx2 e he hG hp => ?_)
      · refine ⟨fun _ => ?_, fun z => absurd rfl z⟩
        rw [nI_1]
        rw [hn1] at hG
        refine ih (M2, K2, nx2) ⟨nx ν + 1, cmp _ M2 K2 nx2 (by rw [hn1]; exact hG), by omega, by omega, fun i hi => ?_, fun i h1 h2 => ?_⟩
        · by_cases c : i = ν
          · subst c; omega
          · have := y3 i (by omega); omega
        · have := hN.2.2.2.2.1 ν i (by omega) h2; omega
      · have hG' := cmp _ M2 K2 nx2 hG
        obtain ⟨f1, f2, f3, f4, f5, f6⟩ := hG
        refine ⟨fun z => absurd z (ni_nem1 (by omega)), fun _ => ?_⟩
        have hn2 : nx2 ν = nx1 ν := f3 ν (by omega)
        have hlen : (rwx (nx2 ν)).length = L := by rw [hn2, hn1]; exact rwx_l hbν hνK.2.2.1
        refine p_X6_tellRow f5 (by omega) he hlen (by omega) (fun M3 q1 q2 => hQ (nI (L + 2)) M3 (fun k q => (q1 k (fun z => q (by rw [z]; decide))).trans ((hG'.1 k q).trans (hF k q))) ?_)
        rw [hn2, hn1] at q2
        rw [hn1] at hp f6
        have bp : bsl (L + 1 + 1) = bsl (L + 1) + 8 ^ (L + 1) := bsl_p
        have hcl := hνK.2.2.1
        obtain ⟨g, hg⟩ : ∃ g, 8 * nx ν + e + 1 = bsl (L + 1) + g := ⟨8 * nx ν + e + 1 - bsl (L + 1), by omega⟩
        have hgl : g < 8 ^ (L + 1) := by omega
        rw [hg] at hp f6 q2
        have := lp_at (m := m) (by omega) hgl hp (fun z hz => (f6 z hz).1)
        unfold fnO
        rw [this]
        refine ⟨rfl, fun i hi => ?_⟩
        rw [q2 i (by omega), rwx_b hgl, rowF_rx]
    unfold w_X6_find_74
    refine ⟨fun z => absurd ((ni_le (by omega) (by omega)).mp z) (by omega), fun _ => ⟨fun z => main 0 (Or.inl ⟨rfl, ?_⟩), fun z => main 1 (Or.inr ⟨rfl, ?_⟩)⟩⟩
    · have h3 := (ni_le (by omega) (by omega)).mp z
      have : m - 1 = L + 1 := by omega
      rw [this]
      omega
    · have h3 : ¬ m ≤ L + 2 := fun q => z ((ni_le (by omega) (by omega)).mpr q)
      have := bsl_m (L := L + 1 + 1) (L' := 4) (by omega)
      rw [bsl_v.2.2.2.1] at this
      have := hνK.2.2.1
      omega
theorem cntZ_0 {f : Nat → Int32} : ∀ {n : Nat}, (∀ i, i < n → f i = 0) → cntZ f n = 0
  | 0, _ => rfl
  | n + 1, h => by unfold cntZ; rw [cntZ_0 (fun i hi => h i (by omega)), if_pos (h n (by omega))]
theorem p_find58 {S M0 : Mem} (hS : SOK S) {v o ls : Nat} (hMx : MxC S M0 v o ls) {M : Mem} {m : Nat} (hm : 2 ≤ m ∧ m ≤ 5) (hV : LvI S v o ls (bsl (m - 1)) M0 0 M 1 (fun _ => 0) 0) {Q : Int32 → Mem → Prop} (hQ : ∀ r M1, (∀ k, k ∉ fnk → M1 k = M0 k) → fnO (mixA (vA S v) (vA S o) ls) m r M1 → Q r M1) : ∃ f, w_X6_find_58 Q f (nI m) 0 2 M := by
  suffices h : ∃ f, w_X6_find_58 Q f (nI m) (nI 0) (nI (0 + 2)) M from h
  refine pk_loop (fun f L (z : Mem × Nat × (Nat → Nat) × Nat) => w_X6_find_58 Q f (nI m) (nI z.2.2.2) (nI (L + 2)) z.1) (fun L z => LvI S v o ls (bsl (m - 1)) M0 L z.1 z.2.1 z.2.2.1 z.2.2.2) (m - 1) 0 (M, 1, (fun _ => 0), 0) (by omega) hV ?_ ?_
  · rintro f ⟨M1, K, nx, lb⟩ ⟨hF, hN, hC, _⟩
    dsimp only at hF hN hC ⊢
    unfold w_X6_find_58
    refine ⟨fun _ => hQ (-1) M1 hF ?_, fun z => absurd ((ni_lt (by omega) (by omega)).mpr (by omega)) z⟩
    unfold fnO
    rw [show m - 1 + 1 = m by omega] at hC
    rw [lp_none (m := m) (fun z hz => (hC z hz).1)]
  · rintro f L ⟨M1, K, nx, lb⟩ hL hV1 ih
    dsimp only at hV1 ⊢
    unfold w_X6_find_58
    refine ⟨fun z => absurd ((ni_lt (by omega) (by omega)).mp z) (by omega), fun _ => ?_⟩
    rintro _ rfl
    rw [hV1.2.1.1.1]
    refine p_find74 hS hMx hm hL hV1 hQ (fun M2 K2 nx2 hV2 => ?_)
    rw [nI_1]
    exact ih (M2, K2, nx2, K) hV2
theorem p_X6_find {S M : Mem} (hS : SOK S) {v o ls m : Nat} (hm : 2 ≤ m ∧ m ≤ 5) (hMx : MxC S M v o ls) {Q : Int32 → Mem → Prop} (hQ : ∀ r M1, (∀ k, k ∉ fnk → M1 k = M k) → fnO (mixA (vA S v) (vA S o) ls) m r M1 → Q r M1) : wp_X6_find (nI m) M Q := by
  have x1 : (6513507 : Int32) = stI s0 := by decide +kernel
  have x2 : (0 : Int32) = iI 0 := by decide
  have t0 : tS (mixA (vA S v) (vA S o) ls) 0 = s0 := rfl
  have d0 : tD 0 = 0 := rfl
  unfold wp_X6_find
  refine p_fill (by decide) ?_
  rintro _ rfl
  unfold wp_X6_keyOf
  have ek : (((0 : Int32) + 8) <<< ((25 : Int32) &&& 31)) ||| 6513507 = kyI (tS (mixA (vA S v) (vA S o) ls) 0) (tD 0) := by
    rw [t0, d0, ← ky_mk stOk_0 (by decide), x1, x2]
  rw [ek]
  have a40 : alen 40 = 1024 := by decide
  generalize hM2 : mst (mfl M 40 0 0 (alen 40) 0) 505 0 0 0 = M2
  have z40 : ∀ q, q < 1024 → M2 40 0 q = 0 := fun q hq => by
    rw [← hM2, mst_ne (by decide), a40, mfl_k, if_pos ⟨rfl, by omega, by omega⟩]
  have hF2 : ∀ k, k ∉ fnk → M2 k = M k := fun k q => by
    rw [← hM2, mst_ne (fun z => q (by rw [z]; decide)), mfl_ne (fun z => q (by rw [z]; decide))]
  have hT : HT M2 0 := ⟨by rw [← hM2, mst_eq]; rfl, by decide, cntZ_0 z40, fun q hq => Or.inl (z40 q hq), fun i hi => absurd hi (Nat.not_lt_zero _)⟩
  refine p_X6_slotOf hT _ (fun q i _ hi => absurd hi (Nat.not_lt_zero _)) (fun e he h0 hj _ => ?_)
  refine p_X6_keep (K := 0) hT.1 (by decide) (Nat.mod_lt _ (by decide)) ?_
  have hT3 := hT.keep (key := kyI (tS (mixA (vA S v) (vA S o) ls) 0) (tD 0)) (par := 0) (ev := 0) (by decide) he h0 hj
  generalize hM3 : kpM M2 0 ((hsh (kyI (tS (mixA (vA S v) (vA S o) ls) 0) (tD 0)) + e) % 1024) (kyI (tS (mixA (vA S v) (vA S o) ls) 0) (tD 0)) 0 0 = M3 at hT3 ⊢
  have hF3 : ∀ k, k ∉ fnk → M3 k = M k := fun k q => by
    rw [← hM3, kpM_ne (fun z => q (by clear q; revert z; revert k; decide))]; exact hF2 k q
  have m37 : M3 37 0 0 = kyI (tS (mixA (vA S v) (vA S o) ls) 0) (tD 0) := by rw [← hM3, kpM_37, if_pos rfl]
  have hMx3 := hMx.fn hF3
  have pp : ∀ {R : Int32 → Mem → Prop}, wp_X6_partsByBalance (stI (tS (mixA (vA S v) (vA S o) ls) 0)) (iI (tD 0)) M3 R → wp_X6_partsByBalance 6513507 0 M3 R := fun h => by rw [t0, d0, ← x1, ← x2] at h; exact h
  refine pp (p_X6_partsByBalance hS hMx3 tS_ok (by decide) (fun M4 hF4 hp => ?_) (fun M4 hF4 hp => ?_))
  · refine ⟨fun _ => p_find58 hS hMx hm ⟨fun k q => (hF4 k (fun z => q (by rw [z]; decide))).trans (hF3 k q), ?_, ?_, by decide, fun i hi => absurd hi (Nat.not_lt_zero _), fun i _ _ => Nat.zero_le _⟩ hQ, fun z => absurd rfl z⟩
    · refine ⟨hT3.congr (fun k q => hF4 k (by revert q; revert k; decide)), by decide, rfl, fun i hi => ?_, fun i j h1 h2 => absurd h1 (by omega), fun i h1 h2 => absurd h1 (by omega)⟩
      have : i = 0 := by omega
      subst this
      exact ⟨Nat.le_refl _, by decide, by decide, by rw [hF4 37 (by decide)]; exact m37⟩
    · intro z hz
      have hz' : z < 1 := hz
      have : z = 0 := by omega
      subst this
      exact ⟨hp, fun _ => ⟨0, by decide, Nat.le_refl _, rfl, rfl⟩⟩
  · refine ⟨fun z => absurd z (by decide), fun _ => ⟨(ni_in (a := 0) (by decide)).mpr (by decide), ?_⟩⟩
    rintro _ rfl
    refine hQ 1 _ (fun k q => ?_) ?_
    · rw [mst_ne (fun z => q (by rw [z]; decide)), hF4 k (fun z => q (by rw [z]; decide))]; exact hF3 k q
    · have := lp_at (A := mixA (vA S v) (vA S o) ls) (L := 0) (f := 0) (m := m) (by omega) (by decide) hp (fun z hz => absurd hz (Nat.not_lt_zero _))
      unfold fnO
      rw [this]
      refine ⟨rfl, fun i hi => ?_⟩
      have : i = 0 := by omega
      subst this
      exact mst_eq
