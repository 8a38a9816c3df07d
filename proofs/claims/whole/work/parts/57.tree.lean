/-! ROWS IN ONE NUMBER: the child of x by EVENT e is 8 x + e + 1 -/
def rwF : Nat → Nat → List Nat
  | 0, _ => []
  | k + 1, x => if x = 0 then [] else rwF k ((x - 1) / 8) ++ [(x - 1) % 8]
theorem rwF_e : ∀ {k x j : Nat}, x ≤ k → x ≤ j → rwF k x = rwF j x
  | 0, x, j, h, hj => by
    have : x = 0 := by omega
    subst this
    cases j with
    | zero => rfl
    | succ j => rw [rwF, rwF, if_pos rfl]
  | k + 1, x, j, h, hj => by
    cases j with
    | zero =>
      have : x = 0 := by omega
      subst this; rw [rwF, rwF, if_pos rfl]
    | succ j =>
      rw [rwF, rwF]
      by_cases e : x = 0
      · rw [if_pos e, if_pos e]
      · rw [if_neg e, if_neg e, rwF_e (k := k) (j := j) (by omega) (by omega)]
def rwx (x : Nat) : List Nat := rwF x x
theorem rwx_0 : rwx 0 = [] := rfl
theorem rwx_c {x e : Nat} (he : e < 8) : rwx (8 * x + e + 1) = rwx x ++ [e] := by
  unfold rwx
  rw [rwF, if_neg (by omega), show (8 * x + e + 1 - 1) / 8 = x by omega, show (8 * x + e + 1 - 1) % 8 = e by omega, rwF_e (k := 8 * x + e) (j := x) (by omega) (by omega)]
def bsl : Nat → Nat
  | 0 => 0
  | L + 1 => 8 * bsl L + 1
theorem bsl_p : ∀ {L : Nat}, bsl (L + 1) = bsl L + 8 ^ L
  | 0 => rfl
  | L + 1 => by
    have h := bsl_p (L := L)
    have e1 : bsl (L + 1 + 1) = 8 * bsl (L + 1) + 1 := rfl
    have e2 : bsl (L + 1) = 8 * bsl L + 1 := rfl
    rw [Nat.pow_succ]
    omega
theorem rwx_b : ∀ {L f : Nat}, f < 8 ^ L → rwx (bsl L + f) = rx L f
  | 0, f, h => by
    have : f = 0 := by simpa using h
    subst this; rfl
  | L + 1, f, h => by
    rw [Nat.pow_succ] at h
    have : bsl (L + 1) + f = 8 * (bsl L + f / 8) + f % 8 + 1 := by rw [bsl]; omega
    rw [this, rwx_c (by omega), rwx_b (by omega), rx]
theorem rwx_l : ∀ {L x : Nat}, bsl L ≤ x → x < bsl (L + 1) → (rwx x).length = L := by
  intro L x h1 h2
  rw [bsl_p] at h2
  have : x = bsl L + (x - bsl L) := by omega
  rw [this, rwx_b (by omega), rx_l]
theorem bsl_v : bsl 1 = 1 ∧ bsl 2 = 9 ∧ bsl 3 = 73 ∧ bsl 4 = 585 ∧ bsl 5 = 4681 := by decide
def tS (A : Nat → List Nat) (x : Nat) : STt := runS A (rwx x)
def tD (x : Nat) : Int := drw (rwx x)
def tP (A : Nat → List Nat) (x : Nat) : Prop := ptB A (tS A x) (tD x)
theorem tS_c {A : Nat → List Nat} {x e : Nat} (he : e < 8) : tS A (8 * x + e + 1) = stp A (tS A x) e := by
  unfold tS; rw [rwx_c he, runS_a]
theorem tD_c {x e : Nat} (he : e < 8) : tD (8 * x + e + 1) = tD x + coin e := by
  unfold tD; rw [rwx_c he, drw_a]
theorem tP_x {A : Nat → List Nat} {L f : Nat} (h : f < 8 ^ L) : tP A (bsl L + f) ↔ pX A L f := by
  unfold tP pX tS tD kS kD; rw [rwx_b h]
theorem tD_r {x : Nat} (h : x < 4681) : -4 ≤ tD x ∧ tD x ≤ 4 := by
  obtain ⟨b1, b2, b3, b4, b5⟩ := bsl_v
  have b0 : bsl 0 = 0 := rfl
  have hl : (rwx x).length ≤ 4 := by
    by_cases h1 : x < 1
    · rw [rwx_l (L := 0) (by omega) (show x < 1 by omega)]; omega
    · by_cases h2 : x < 9
      · rw [rwx_l (L := 1) (by omega) (show x < 9 by omega)]; omega
      · by_cases h3 : x < 73
        · rw [rwx_l (L := 2) (by omega) (show x < 73 by omega)]; omega
        · by_cases h4 : x < 585
          · rw [rwx_l (L := 3) (by omega) (show x < 585 by omega)]; omega
          · rw [rwx_l (L := 4) (by omega) (show x < 4681 by omega)]; omega
  have := drw_l (rwx x)
  unfold tD; omega
def Cov (A : Nat → List Nat) (lim K : Nat) (nx : Nat → Nat) (c : Nat) : Prop := ∀ z, z < c → ¬ tP A z ∧ (z < lim → ∃ i, i < K ∧ nx i ≤ z ∧ tS A (nx i) = tS A z ∧ tD (nx i) = tD z)
theorem Cov.gap {A : Nat → List Nat} {lim K : Nat} {nx : Nat → Nat} {y0 y1 : Nat} (h : Cov A lim K nx (8 * y0 + 1)) (h01 : y0 ≤ y1) (h1 : y1 ≤ lim) (hc : y1 ≤ 8 * y0 + 1) (hn : ∀ i, i < K → nx i < y0 ∨ y1 ≤ nx i) : Cov A lim K nx (8 * y1 + 1) := by
  intro z hz
  by_cases h0 : z < 8 * y0 + 1
  · exact h z h0
  · obtain ⟨p, e, he, ez⟩ : ∃ p e, e < 8 ∧ z = 8 * p + e + 1 := ⟨(z - 1) / 8, (z - 1) % 8, by omega, by omega⟩
    obtain ⟨_, hcv⟩ := h p (by omega)
    obtain ⟨i, hi, hle, hs, hd⟩ := hcv (by omega)
    have hlt : nx i < y0 := by
      rcases hn i hi with q | q
      · exact q
      · omega
    have cs : tS A (8 * nx i + e + 1) = tS A z := by rw [ez, tS_c he, tS_c he, hs]
    have cd : tD (8 * nx i + e + 1) = tD z := by rw [ez, tD_c he, tD_c he, hd]
    obtain ⟨hnp, hcv2⟩ := h (8 * nx i + e + 1) (by omega)
    refine ⟨fun q => hnp (by unfold tP at q ⊢; rw [cs, cd]; exact q), fun hz5 => ?_⟩
    obtain ⟨j, hj, hle2, hs2, hd2⟩ := hcv2 (by omega)
    exact ⟨j, hj, by omega, hs2.trans cs, hd2.trans cd⟩
theorem HT.congr {M M' : Mem} {K : Nat} (h : HT M K) (hk : ∀ k, k ∈ [505, 40, 37] → M' k = M k) : HT M' K := by
  have e1 := hk 505 (by decide)
  have e2 := hk 40 (by decide)
  have e3 := hk 37 (by decide)
  simp only [HT, e1, e2, e3] at h ⊢
  exact h
def NdI (A : Nat → List Nat) (M : Mem) (K : Nat) (nx : Nat → Nat) (c : Nat) : Prop := HT M K ∧ 0 < K ∧ nx 0 = 0 ∧ (∀ i, i < K → i ≤ nx i ∧ nx i < 585 ∧ nx i < c ∧ M 37 0 i = kyI (tS A (nx i)) (tD (nx i))) ∧ (∀ i j, i < j → j < K → nx i < nx j) ∧ (∀ i, 0 < i → i < K → ∃ p e, p < i ∧ e < 8 ∧ M 38 0 i = nI p ∧ M 39 0 i = nI e ∧ nx i = 8 * nx p + e + 1)
theorem NdI.congr {A : Nat → List Nat} {M M' : Mem} {K : Nat} {nx : Nat → Nat} {c c' : Nat} (h : NdI A M K nx c) (hc : c ≤ c') (hk : ∀ k, k ∈ [505, 40, 37, 38, 39] → M' k = M k) : NdI A M' K nx c' := by
  have e3 := hk 37 (by decide)
  have e4 := hk 38 (by decide)
  have e5 := hk 39 (by decide)
  obtain ⟨h1, h2, h3, h4, h5, h6⟩ := h
  refine ⟨h1.congr (fun k q => hk k (by revert q; revert k; decide)), h2, h3, fun i hi => ?_, h5, fun i h0 hi => ?_⟩
  · obtain ⟨a, b, c1, d⟩ := h4 i hi
    exact ⟨a, b, by omega, by rw [e3]; exact d⟩
  · rw [e4, e5]; exact h6 i h0 hi
theorem NdI.keep {A : Nat → List Nat} {M : Mem} {K : Nat} {nx : Nat → Nat} {c e ν ev : Nat} (h : NdI A M K nx c) (hc : c < 585) (hν : ν < K) (hev : ev < 8) (ec : c = 8 * nx ν + ev + 1) (he : e < 1024) (h0 : M 40 0 ((hsh (kyI (tS A c) (tD c)) + e) % 1024) = 0) (hj : ∀ j, j < e → ¬ M 40 0 ((hsh (kyI (tS A c) (tD c)) + j) % 1024) = 0) : K < 585 ∧ NdI A (kpM M K ((hsh (kyI (tS A c) (tD c)) + e) % 1024) (kyI (tS A c) (tD c)) (nI ν) (nI ev)) (K + 1) (upN nx K c) (c + 1) := by
  obtain ⟨h1, h2, h3, h4, h5, h6⟩ := h
  have hK : K < 585 := by
    have := h4 (K - 1) (by omega)
    omega
  have up : ∀ i, i < K → upN nx K c i = nx i := fun i hi => if_neg (by omega)
  have upK : upN nx K c K = c := if_pos rfl
  refine ⟨hK, h1.keep hK he h0 hj, by omega, by rw [up 0 h2]; exact h3, fun i hi => ?_, fun i j hij hjK => ?_, fun i hi0 hi => ?_⟩
  · rw [kpM_37]
    by_cases ei : i = K
    · subst ei
      rw [upK, if_pos rfl]
      have := h4 (i - 1) (by omega)
      exact ⟨by omega, hc, by omega, rfl⟩
    · rw [if_neg ei, up i (by omega)]
      obtain ⟨a, b, c1, d⟩ := h4 i (by omega)
      exact ⟨a, b, by omega, d⟩
  · by_cases ej : j = K
    · subst ej
      rw [upK, up i hij]
      exact (h4 i hij).2.2.1
    · rw [up i (by omega), up j (by omega)]; exact h5 i j hij (by omega)
  · rw [kpM_38, kpM_39]
    by_cases ei : i = K
    · subst ei
      rw [upK, if_pos rfl, if_pos rfl]
      exact ⟨ν, ev, hν, hev, rfl, rfl, by rw [up ν hν]; exact ec⟩
    · rw [if_neg ei, if_neg ei, up i (by omega)]
      obtain ⟨p, g, hp, hg, a, b, d⟩ := h6 i hi0 (by omega)
      exact ⟨p, g, hp, hg, a, b, by rw [up p (by omega)]; exact d⟩
