/-! THE CLASS SEEKS: where a key stands -/
def hsI (key : Int32) : Int32 := ((key * (-1640531535)).toUInt32 >>> ((22 : Int32).toUInt32 &&& Int32.toUInt32 31)).toInt32
def hsh (key : Int32) : Nat := (key * (-1640531535)).toUInt32.toNat / 4194304
theorem hsh_lt (key : Int32) : hsh key < 1024 := by
  unfold hsh
  have := (key * (-1640531535)).toUInt32.toNat_lt
  omega
theorem hsI_e (key : Int32) : hsI key = nI (hsh key) := by
  unfold hsI hsh
  have e22 : ((22 : Int32).toUInt32 &&& Int32.toUInt32 31) = 22 := by decide
  rw [e22]
  generalize (key * (-1640531535)).toUInt32 = u
  have h1 : (u >>> 22).toNat = u.toNat / 4194304 := by
    rw [UInt32.toNat_shiftRight]
    simp [Nat.shiftRight_eq_div_pow]
  rw [← h1]
  generalize u >>> 22 = x
  unfold nI
  apply Int32.toBitVec_inj.mp
  show x.toBitVec = BitVec.ofNat 32 x.toBitVec.toNat
  simp
def cntZ (f : Nat → Int32) : Nat → Nat
  | 0 => 0
  | n + 1 => cntZ f n + (if f n = 0 then 0 else 1)
theorem cntZ_all {f : Nat → Int32} : ∀ {n : Nat}, (∀ i, i < n → ¬ f i = 0) → cntZ f n = n
  | 0, _ => rfl
  | n + 1, h => by unfold cntZ; rw [cntZ_all (fun i hi => h i (by omega)), if_neg (h n (by omega))]
theorem cntZ_congr {f g : Nat → Int32} : ∀ {n : Nat}, (∀ i, i < n → f i = g i) → cntZ f n = cntZ g n
  | 0, _ => rfl
  | n + 1, h => by unfold cntZ; rw [cntZ_congr (fun i hi => h i (by omega)), h n (by omega)]
theorem cntZ_up {f g : Nat → Int32} {q : Nat} (h0 : f q = 0) (h1 : ¬ g q = 0) (h : ∀ i, i ≠ q → g i = f i) : ∀ {n : Nat}, q < n → cntZ g n = cntZ f n + 1
  | 0, hq => absurd hq (Nat.not_lt_zero _)
  | n + 1, hq => by
    unfold cntZ
    by_cases e : q = n
    · subst e
      rw [if_pos h0, if_neg h1, cntZ_congr (fun i hi => h i (by omega))]
    · rw [cntZ_up h0 h1 h (by omega), h n (fun z => e z.symm)]; omega
def HT (M : Mem) (K : Nat) : Prop := M 505 0 0 = nI K ∧ K ≤ 585 ∧ cntZ (M 40 0) 1024 = K ∧ (∀ q, q < 1024 → M 40 0 q = 0 ∨ ∃ i, i < K ∧ M 40 0 q = nI (i + 1)) ∧ (∀ i, i < K → ∃ e, e < 1024 ∧ M 40 0 ((hsh (M 37 0 i) + e) % 1024) = nI (i + 1) ∧ ∀ j, j < e → ¬ M 40 0 ((hsh (M 37 0 i) + j) % 1024) = 0)
theorem an_1023 (k : Nat) : nI k &&& 1023 = nI (k % 1024) := by
  have := fa_and k 1023
  rw [show k &&& 1023 = k % 1024 from Nat.and_two_pow_sub_one_eq_mod k 10] at this
  exact this
theorem p_X6_slotOf {M : Mem} {K : Nat} (hT : HT M K) (key : Int32) {Q : Int32 → Mem → Prop} (found : ∀ q i, q < 1024 → i < K → M 40 0 q = nI (i + 1) → M 37 0 i = key → Q (nI q) M) (free : ∀ e, e < 1024 → M 40 0 ((hsh key + e) % 1024) = 0 → (∀ j, j < e → ¬ M 40 0 ((hsh key + j) % 1024) = 0) → (∀ i, i < K → ¬ M 37 0 i = key) → Q (nI ((hsh key + e) % 1024)) M) : wp_X6_slotOf key M Q := by
  obtain ⟨t1, t2, t3, t4, t5⟩ := hT
  have hh := hsh_lt key
  unfold wp_X6_slotOf
  rintro _ rfl
  have e0 : ((key * (-1640531535)).toUInt32 >>> ((22 : Int32).toUInt32 &&& Int32.toUInt32 31)).toInt32 = nI ((hsh key + 0) % 1024) := by
    have := hsI_e key
    unfold hsI at this
    rw [this]; congr 1; omega
  rw [e0]
  refine pk_loop (fun f e (z : Unit) => w_X6_slotOf_10 Q f key (nI ((hsh key + e) % 1024)) (nI e) M) (fun e _ => ∀ j, j < e → ¬ M 40 0 ((hsh key + j) % 1024) = 0 ∧ ∀ i, i < K → M 40 0 ((hsh key + j) % 1024) = nI (i + 1) → ¬ M 37 0 i = key) 1024 0 () (Nat.zero_le _) (fun j z => absurd z (Nat.not_lt_zero _)) ?_ ?_
  · intro f _ h
    exfalso
    have : cntZ (M 40 0) 1024 = 1024 := cntZ_all (fun q hq => by
      have := (h ((q + 1024 - hsh key) % 1024) (by omega)).1
      rw [show (hsh key + (q + 1024 - hsh key) % 1024) % 1024 = q by omega] at this
      exact this)
    omega
  · intro f e _ he h ih
    have hq : (hsh key + e) % 1024 < 1024 := Nat.mod_lt _ (by decide)
    unfold w_X6_slotOf_10
    rw [ni_cl (by omega)]
    have inq : vp_in (nI ((hsh key + e) % 1024)) 1024 := (ni_in (by omega)).mpr hq
    refine ⟨fun z => absurd ((ni_le (a := 1024) (by omega) (by omega)).mp z) (by omega), fun _ => ⟨inq, fun z => ?_, fun z => ?_⟩⟩
    · refine free e he z (fun j hj => (h j hj).1) (fun i hi eq => ?_)
      obtain ⟨e', he', p1, p2⟩ := t5 i hi
      rw [eq] at p1 p2
      rcases Nat.lt_trichotomy e' e with c | c | c
      · exact (h e' c).2 i hi p1 eq
      · subst c
        rw [z] at p1
        exact absurd ((ni_eq (a := 0) (by omega) (by omega)).mp p1) (by omega)
      · exact p2 e c z
    · rcases t4 _ hq with c | ⟨i, hi, c⟩
      · exact absurd c z
      · rw [c, nI_pred, ni_cl (by omega)]
        refine ⟨inq, (ni_in (by omega)).mpr (by omega), fun eq => found _ i hq hi c eq, fun eq => ?_⟩
        rintro _ rfl
        rw [nI_1, nI_1, an_1023, show ((hsh key + e) % 1024 + 1) % 1024 = (hsh key + (e + 1)) % 1024 by omega]
        refine ih () (fun j hj => ?_)
        by_cases ej : j = e
        · subst ej
          refine ⟨z, fun i' hi' c' => ?_⟩
          rw [c] at c'
          have := (ni_eq (by omega) (by omega)).mp c'
          have : i' = i := by omega
          subst this; exact eq
        · exact h j (by omega)
