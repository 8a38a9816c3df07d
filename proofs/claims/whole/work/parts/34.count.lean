/-! COUNT -/
def sm (f : Nat → Int32) : Nat → Int32
  | 0 => 0
  | n + 1 => sm f n + f n
def bts (x : Int32) : Int32 := sm (fun j => (x >>> (nI j &&& 31)) &&& 1) 16
def bc1 (x : Int32) : Int32 := x - (((x.toUInt32 >>> ((1 : Int32).toUInt32 &&& Int32.toUInt32 31)).toInt32) &&& 1431655765)
def bc2 (x : Int32) : Int32 := (x &&& 858993459) + (((x.toUInt32 >>> ((2 : Int32).toUInt32 &&& Int32.toUInt32 31)).toInt32) &&& 858993459)
def bc3 (x : Int32) : Int32 := (x + ((x.toUInt32 >>> ((4 : Int32).toUInt32 &&& Int32.toUInt32 31)).toInt32)) &&& 252645135
def bc4 (x : Int32) : Int32 := x + ((x.toUInt32 >>> ((8 : Int32).toUInt32 &&& Int32.toUInt32 31)).toInt32)
def bc5 (x : Int32) : Int32 := x + ((x.toUInt32 >>> ((16 : Int32).toUInt32 &&& Int32.toUInt32 31)).toInt32)
theorem bc_all : ∀ k, k < 256 → bc5 (bc4 (bc3 (bc2 (bc1 (nI k))))) &&& 63 = bts (nI k) := by decide +kernel
theorem atC_some {S M : Mem} (hS : SOK S) (hE : EsC S M) {k : Nat} (hk : k < nc S) : atC (nI k) M = some k := by
  obtain ⟨n1, n2⟩ := hS.ncs
  rcases atC_cases hS hE (nI k) with ⟨_, h2⟩ | ⟨c, hc, e, h1, _⟩
  · refine absurd ?_ h2
    unfold okC
    rw [n2, ni_1, ni_sub (by omega)]
    exact ⟨ni_ge0 (by omega), (ni_le (by omega) (by omega)).mpr (by omega)⟩
  · rw [h1, (ni_eq (by omega) (by omega)).mp e]
def a_count (S : Mem) (w : Int32) : Int32 := if w = 0 then S 606 0 0 + S 606 1 0 + S 606 2 0 + S 606 3 0 else if w = 1 then S 660 0 0 else if w = 2 then sm (fun c => S 202 c 0) (nc S) else if w = 3 then sm (fun c => if S 205 c 0 ≤ S 204 c 0 then 0 else 1) (nc S) else if w = 4 then S 453 0 0 else if w = 5 then S 252 0 0 else if w = 6 then bts (S 253 0 0) else if w = 7 then S 454 0 0 else if w = 8 then S 661 0 0 else -2
theorem p_X9_countBytes {S M : Mem} (hE : EsC S M) {Q : Int32 → Mem → Prop} (hQ : Q (S 606 0 0 + S 606 1 0 + S 606 2 0 + S 606 3 0) M) : wp_X9_countBytes M Q := by
  unfold wp_X9_countBytes
  refine pk_loop (fun n i (s : Int32 × Mem) => w_X9_countBytes_4 Q n s.1 (nI i) s.2) (fun i s => s.1 = sm (fun c => S 606 c 0) i ∧ s.2 = M) 4 0 (0, M) (Nat.zero_le _) ⟨rfl, rfl⟩ ?_ ?_
  · rintro n ⟨a, M'⟩ ⟨rfl, rfl⟩
    refine ⟨fun _ => ?_, fun h => absurd ((ni_le (a := 4) (b := 4) (by omega) (by omega)).mpr (Nat.le_refl _)) h⟩
    simp only [sm] at hQ ⊢
    rw [Int32.zero_add]; exact hQ
  · rintro n i ⟨a, M'⟩ hi ⟨rfl, rfl⟩ ih
    refine ⟨fun h => absurd ((ni_le (a := 4) (by omega) (by omega)).mp h) (by omega), fun _ => ?_⟩
    rw [e_X9_versionAt, at4_some hi rfl]
    refine ⟨fun e => by (cases e), fun j e => ?_⟩
    cases e
    rintro _ rfl
    rw [nI_1, hE.k 606]
    exact ih (_, M') ⟨rfl, rfl⟩
theorem p_X9_countLogged {S M : Mem} (hS : SOK S) (hE : EsC S M) {Q : Int32 → Mem → Prop} (hQ : Q (sm (fun c => S 202 c 0) (nc S)) M) : wp_X9_countLogged M Q := by
  obtain ⟨n1, n2⟩ := hS.ncs
  unfold wp_X9_countLogged
  refine pk_loop (fun n i (s : Int32 × Mem) => w_X9_countLogged_4 Q n s.1 (nI i) s.2) (fun i s => s.1 = sm (fun c => S 202 c 0) i ∧ s.2 = M) (nc S) 0 (0, M) (Nat.zero_le _) ⟨rfl, rfl⟩ ?_ ?_
  · rintro n ⟨a, M'⟩ ⟨rfl, rfl⟩
    unfold w_X9_countLogged_4
    rw [hE.k 660, n2]
    exact ⟨fun _ => hQ, fun h => absurd ((ni_le (by omega) (by omega)).mpr (Nat.le_refl _)) h⟩
  · rintro n i ⟨a, M'⟩ hi ⟨rfl, rfl⟩ ih
    unfold w_X9_countLogged_4
    rw [hE.k 660, n2]
    refine ⟨fun h => absurd ((ni_le (by omega) (by omega)).mp h) (by omega), fun _ => ?_⟩
    rw [e_X9_counterAt, atC_some hS hE hi]
    refine ⟨fun e => by (cases e), fun j e => ?_⟩
    cases e
    rintro _ rfl
    rw [nI_1, hE.k 202]
    exact ih (_, M') ⟨rfl, rfl⟩
theorem p_X9_countShort {S M : Mem} (hS : SOK S) (hE : EsC S M) {Q : Int32 → Mem → Prop} (hQ : Q (sm (fun c => if S 205 c 0 ≤ S 204 c 0 then 0 else 1) (nc S)) M) : wp_X9_countShort M Q := by
  obtain ⟨n1, n2⟩ := hS.ncs
  unfold wp_X9_countShort
  refine pk_loop (fun n i (s : Int32 × Mem) => w_X9_countShort_4 Q n s.1 (nI i) s.2) (fun i s => s.1 = sm (fun c => if S 205 c 0 ≤ S 204 c 0 then 0 else 1) i ∧ s.2 = M) (nc S) 0 (0, M) (Nat.zero_le _) ⟨rfl, rfl⟩ ?_ ?_
  · rintro n ⟨a, M'⟩ ⟨rfl, rfl⟩
    unfold w_X9_countShort_4
    rw [hE.k 660, n2]
    exact ⟨fun _ => hQ, fun h => absurd ((ni_le (by omega) (by omega)).mpr (Nat.le_refl _)) h⟩
  · rintro n i ⟨a, M'⟩ hi ⟨rfl, rfl⟩ ih
    unfold w_X9_countShort_4
    rw [hE.k 660, n2]
    refine ⟨fun h => absurd ((ni_le (by omega) (by omega)).mp h) (by omega), fun _ => ?_⟩
    rw [e_X9_counterAt, atC_some hS hE hi]
    refine ⟨fun e => by (cases e), fun j e => ?_⟩
    cases e
    unfold wp_X0_isShort
    rw [hE.k 205, hE.k 204]
    have nx := ih (sm (fun c => if S 205 c 0 ≤ S 204 c 0 then 0 else 1) (i + 1), M') ⟨rfl, rfl⟩
    simp only [sm] at nx
    refine ⟨fun h => ⟨fun _ => ?_, fun h => absurd rfl h⟩, fun h => ⟨fun h => absurd h (by decide), fun _ => ?_⟩⟩
    · rintro _ rfl; rw [nI_1]; rw [if_pos h] at nx; exact nx
    · rintro _ rfl; rw [nI_1]; rw [if_neg h] at nx; exact nx
theorem p_bitCount {S M : Mem} (hS : SOK S) {Q : Int32 → Mem → Prop} (hQ : Q (bts (S 253 0 0)) M) : wp_J6_bitCount_0f7a4 (S 253 0 0) M Q := by
  obtain ⟨k, hk, e⟩ := rng_nat (n := 255) (by decide) (hS.j).2.1
  rw [e] at hQ ⊢
  unfold wp_J6_bitCount_0f7a4
  simp only [forall_eq]
  rw [← bc_all k (by omega)] at hQ
  exact hQ
theorem C_count {t : Nat} {S M : Mem} (hS : SOK S) (hI : InvC t S M) (w : Int32) {Q : Int32 → Mem → Prop} (hQ : Q (a_count S w) M) : wp_X9_count w M Q := by
  unfold wp_X9_count
  unfold a_count at hQ
  rw [hI.1.k 660, hI.1.k 453, hI.1.k 252, hI.1.k 253, hI.1.k 454, hI.1.k 661]
  refine ⟨fun e => p_X9_countBytes hI.1 ?_, fun e => ?_, fun e => p_X9_countLogged hS hI.1 ?_, fun e => p_X9_countShort hS hI.1 ?_, fun e => ?_, fun e => ?_, fun e => p_bitCount hS ?_, fun e => ?_, fun e => ?_, fun e0 e1 e2 e3 e4 e5 e6 e7 e8 => ?_⟩
  all_goals first | (subst e; simpa using hQ) | (simp only [e0, e1, e2, e3, e4, e5, e6, e7, e8, if_false] at hQ; exact hQ)
theorem p_X10_ones {M : Mem} (x : Int32) {Q : Int32 → Mem → Prop} (hQ : Q (bts x) M) : wp_X10_ones x M Q := by
  unfold wp_X10_ones
  refine pk_loop (fun n i (s : Int32 × Mem) => w_X10_ones_4 Q n x s.1 (nI i) s.2) (fun i s => s.1 = sm (fun j => (x >>> (nI j &&& 31)) &&& 1) i ∧ s.2 = M) 16 0 (0, M) (Nat.zero_le _) ⟨rfl, rfl⟩ ?_ ?_
  · rintro n ⟨a, M'⟩ ⟨rfl, rfl⟩
    exact ⟨fun _ => hQ, fun h => absurd ((ni_le (a := 16) (b := 16) (by omega) (by omega)).mpr (Nat.le_refl _)) h⟩
  · rintro n i ⟨a, M'⟩ hi ⟨rfl, rfl⟩ ih
    refine ⟨fun h => absurd ((ni_le (a := 16) (by omega) (by omega)).mp h) (by omega), fun _ => ?_⟩
    rintro _ rfl
    rw [nI_1]
    exact ih (_, M') ⟨rfl, rfl⟩
theorem R_count {S M : Mem} (hS : SOK S) (hI : InvR S M) (w : Int32) {Q : Int32 → Mem → Prop} (hQ : Q (a_count S w) M) : wp_X10_count w M Q := by
  obtain ⟨n1, n2⟩ := hS.ncs
  unfold wp_X10_count
  unfold a_count at hQ
  have c1 : (1 : Int32).toNatClampNeg = 1 := rfl
  have c0 : (0 : Int32).toNatClampNeg = 0 := rfl
  have c2 : (2 : Int32).toNatClampNeg = 2 := rfl
  have c3 : (3 : Int32).toNatClampNeg = 3 := rfl
  rw [hI.n, hI.p.1, hI.j.1, hI.j.2.1, hI.p.2.1, hI.f, c0, c1, c2, c3, (hI.v (v := 0) (by decide)).1, (hI.v (v := 1) (by decide)).1, (hI.v (v := 2) (by decide)).1, (hI.v (v := 3) (by decide)).1]
  refine ⟨fun e => ⟨(ni_in (a := 0) (by decide)).mpr (by decide), (ni_in (a := 1) (by decide)).mpr (by decide), (ni_in (a := 2) (by decide)).mpr (by decide), (ni_in (a := 3) (by decide)).mpr (by decide), ?_⟩, fun e => ?_, fun e => ?_, fun e => ?_, fun e => ?_, fun e => ?_, fun e => p_X10_ones _ ?_, fun e => ?_, fun e => ?_, fun e0 e1 e2 e3 e4 e5 e6 e7 e8 => ?_⟩
  all_goals first | (subst e; simpa using hQ) | (simp only [e0, e1, e2, e3, e4, e5, e6, e7, e8, if_false] at hQ; exact hQ) | skip
  · subst e
    have hQ : Q (sm (fun c => S 202 c 0) (nc S)) M := by simpa using hQ
    refine pk_loop (fun n i (s : Int32 × Mem) => w_X10_count_87 Q n s.1 (nI i) s.2) (fun i s => s.1 = sm (fun c => S 202 c 0) i ∧ s.2 = M) (nc S) 0 (0, M) (Nat.zero_le _) ⟨rfl, rfl⟩ ?_ ?_
    · rintro n ⟨a, M'⟩ ⟨rfl, rfl⟩
      unfold w_X10_count_87
      rw [hI.n, n2]
      exact ⟨fun _ => hQ, fun h => absurd ((ni_le (by omega) (by omega)).mpr (Nat.le_refl _)) h⟩
    · rintro n i ⟨a, M'⟩ hi ⟨rfl, rfl⟩ ih
      unfold w_X10_count_87
      rw [hI.n, n2]
      refine ⟨fun h => absurd ((ni_le (by omega) (by omega)).mp h) (by omega), fun _ => ⟨cn_in hS hi, ?_⟩⟩
      rintro _ rfl
      rw [nI_1, cn_cl hS hi, (hI.c hi).2.1]
      exact ih (_, M') ⟨rfl, rfl⟩
  · subst e
    have hQ : Q (sm (fun c => if S 205 c 0 ≤ S 204 c 0 then 0 else 1) (nc S)) M := by simpa using hQ
    refine pk_loop (fun n i (s : Int32 × Mem) => w_X10_count_114 Q n s.1 (nI i) s.2) (fun i s => s.1 = sm (fun c => if S 205 c 0 ≤ S 204 c 0 then 0 else 1) i ∧ s.2 = M) (nc S) 0 (0, M) (Nat.zero_le _) ⟨rfl, rfl⟩ ?_ ?_
    · rintro n ⟨a, M'⟩ ⟨rfl, rfl⟩
      unfold w_X10_count_114
      rw [hI.n, n2]
      exact ⟨fun _ => hQ, fun h => absurd ((ni_le (by omega) (by omega)).mpr (Nat.le_refl _)) h⟩
    · rintro n i ⟨a, M'⟩ hi ⟨rfl, rfl⟩ ih
      unfold w_X10_count_114
      rw [hI.n, n2]
      refine ⟨fun h => absurd ((ni_le (by omega) (by omega)).mp h) (by omega), fun _ => p_X10_isShort hS hI hi ?_⟩
      have nx := ih (sm (fun c => if S 205 c 0 ≤ S 204 c 0 then 0 else 1) (i + 1), M') ⟨rfl, rfl⟩
      simp only [sm] at nx
      by_cases h : S 205 i 0 ≤ S 204 i 0
      · rw [if_pos h] at nx ⊢
        refine ⟨fun _ => ?_, fun h => absurd rfl h⟩
        rintro _ rfl; rw [nI_1]; exact nx
      · rw [if_neg h] at nx ⊢
        refine ⟨fun h => absurd h (by decide), fun _ => ?_⟩
        rintro _ rfl; rw [nI_1]; exact nx
