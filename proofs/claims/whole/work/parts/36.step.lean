/-! THE LETTERS, AND WHAT IS DUE BEHIND A BYTE -/
def ixg (j : Nat) (a : Int32) : Nat → Nat → Int32
  | 0, _ => -1
  | f + 1, i => if sbat j (nI i) = a then nI i else ixg j a f (i + 1)
theorem p_ixg {Q : Int32 → Mem → Prop} {M : Mem} {j L : Nat} {a : Int32} (hL : slen.getD j 0 = L) (h8 : L ≤ 8) : ∀ (f i : Nat), i + f = L → Q (ixg j a f i) M → w_J1_indexOfChar_4cfef_7 Q (f + 1) j (nI L) a (nI i) M
  | 0, i, h, hQ => ⟨fun _ => hQ, fun g => absurd ((ni_le (by omega) (by omega)).mpr (by omega)) g⟩
  | f + 1, i, h, hQ => by
    refine ⟨fun g => absurd ((ni_le (by omega) (by omega)).mp g) (by omega), fun _ => ⟨(ni_in (by omega)).mpr (by omega), fun e => ?_, fun e => ?_⟩⟩
    · unfold ixg at hQ; rw [if_pos e] at hQ; exact hQ
    · unfold ixg at hQ; rw [if_neg e] at hQ; rw [nI_1]; exact p_ixg hL h8 f (i + 1) (by omega) hQ
def oI (o : Option Nat) : Int32 := match o with
  | some r => nI r
  | none => -1
theorem oI_lt {o : Option Nat} (h : ∀ r, o = some r → r < 2147483648) : oI o < 0 ↔ o = none := by
  cases o with
  | none => exact ⟨fun _ => rfl, fun _ => by decide⟩
  | some r => exact ⟨fun q => absurd q (ni_nneg (h r rfl)), fun q => by cases q⟩
theorem oI_m {o : Option Nat} (h : ∀ r, o = some r → r < 2147483648) : oI o = -1 ↔ o = none := by
  cases o with
  | none => exact ⟨fun _ => rfl, fun _ => rfl⟩
  | some r => exact ⟨fun q => absurd q (ni_nem1 (h r rfl)), fun q => by cases q⟩
theorem ix_0 : ∀ k, k < 256 → ixg 0 (nI k).toInt8.toInt32 8 0 = oI (evOf (nI k)) := by decide +kernel
theorem ix_1 : ∀ k, k < 256 → ixg 1 (nI k).toInt8.toInt32 3 0 = oI (rgOf (nI k)) := by decide +kernel
theorem ix_2 : ∀ k, k < 256 → ixg 2 (nI k).toInt8.toInt32 3 0 = oI (sgOf (nI k)) := by decide +kernel
theorem ix_c : ∀ k, k < 256 → ((nI k).toUInt32 % 65536).toInt32 = nI k := by decide +kernel
theorem p_indexOf {Q : Int32 → Mem → Prop} {M : Mem} {j L k : Nat} (hL : slen.getD j 0 = L) (h8 : 0 < L ∧ L ≤ 8) (hk : k < 256) (hQ : Q (ixg j (nI k).toInt8.toInt32 L 0) M) : wp_J0_indexOf_0f7a4 j ((nI k).toUInt32 % 65536).toInt32 M Q := by
  rw [ix_c k hk]
  unfold wp_J0_indexOf_0f7a4 wp_J0_indexOf_7cf53 wp_J0_isLatin1_aae02 wp_J0_length_8abf5 wp_J0_coder_7d493 wp_J1_indexOf_4cfef wp_J1_canEncode_9a6ad
  have o : ¬ (1 : Int32) = 0 := by decide
  have sh : nI L >>> (0 &&& 31 : Int32) = nI L := by
    have := sh_r (k := L) (j := 0) (by omega) (by omega)
    rw [Nat.pow_zero, Nat.div_one] at this; exact this
  rw [hL]
  refine ⟨fun q => absurd q o, fun _ => ⟨fun _ => ⟨fun q => absurd q o, fun _ => ⟨fun q => absurd q o, fun _ => ⟨fun q => absurd q (ni_nneg (by omega)), fun _ => ⟨fun q => absurd ((ni_lt (a := 255) (by omega) (by omega)).mp q) (by omega), fun _ => ⟨fun q => absurd q o, fun _ => ?_⟩⟩⟩⟩⟩, fun q => absurd rfl q⟩⟩
  rw [e_J9_max, if_neg (by decide), e_J9_min, sh, if_neg (fun q => absurd ((ni_lt (by omega) (by omega)).mp q) (by omega))]
  refine ⟨fun _ => ?_, fun q => absurd ((ni_lt (a := 0) (by omega) (by omega)).mpr h8.1) q⟩
  unfold wp_J1_indexOfChar_4cfef
  rintro _ rfl
  exact ⟨L + 1, p_ixg hL h8.2 L 0 (by omega) hQ⟩
theorem evOf_lt {b : Int32} : ∀ r, evOf b = some r → r < 8 := by
  intro r h
  unfold evOf at h
  repeat' split at h
  all_goals first | (cases h; decide) | cases h
theorem rgOf_lt {b : Int32} : ∀ r, rgOf b = some r → r < 3 := by
  intro r h
  unfold rgOf at h
  repeat' split at h
  all_goals first | (cases h; decide) | cases h
theorem sgOf_lt {b : Int32} : ∀ r, sgOf b = some r → r < 3 := by
  intro r h
  unfold sgOf at h
  repeat' split at h
  all_goals first | (cases h; decide) | cases h
theorem p_ixE {Q : Int32 → Mem → Prop} {M : Mem} {k : Nat} (hk : k < 256) (hQ : Q (oI (evOf (nI k))) M) : wp_J0_indexOf_0f7a4 0 ((nI k).toUInt32 % 65536).toInt32 M Q :=
  p_indexOf (L := 8) rfl (by decide) hk (by rw [ix_0 k hk]; exact hQ)
theorem p_ixR {Q : Int32 → Mem → Prop} {M : Mem} {k : Nat} (hk : k < 256) (hQ : Q (oI (rgOf (nI k))) M) : wp_J0_indexOf_0f7a4 1 ((nI k).toUInt32 % 65536).toInt32 M Q :=
  p_indexOf (L := 3) rfl (by decide) hk (by rw [ix_1 k hk]; exact hQ)
theorem p_ixS {Q : Int32 → Mem → Prop} {M : Mem} {k : Nat} (hk : k < 256) (hQ : Q (oI (sgOf (nI k))) M) : wp_J0_indexOf_0f7a4 2 ((nI k).toUInt32 % 65536).toInt32 M Q :=
  p_indexOf (L := 3) rfl (by decide) hk (by rw [ix_2 k hk]; exact hQ)
theorem oI_E {b : Int32} : oI (evOf b) < 0 ↔ evOf b = none := oI_lt (fun r h => by have := evOf_lt r h; omega)
theorem oI_R {b : Int32} : oI (rgOf b) < 0 ↔ rgOf b = none := oI_lt (fun r h => by have := rgOf_lt r h; omega)
theorem oI_S {b : Int32} : oI (sgOf b) < 0 ↔ sgOf b = none := oI_lt (fun r h => by have := sgOf_lt r h; omega)
theorem some_of {o : Option Nat} (h : ¬ o = none) : o.isSome = true := by
  cases o with
  | none => exact absurd rfl h
  | some r => rfl
theorem p_sB33 {Q : Int32 → Mem → Prop} {M : Mem} {q k : Nat} {y z : Int32} (hq : q < 8) (hk : k < 256) (hy : y = bi (nI k = 48 ∨ nI k = 49)) (hz : z = bi ((rgOf (nI k)).isSome = true)) (hQ : Q (oI (dl q (nI k))) M) : w_X8_stepBehind_33 Q (nI q) (nI k) y z M := by
  subst hy hz
  unfold w_X8_stepBehind_33 w_X8_stepBehind_167
  simp only [bi_z, Classical.not_not]
  have nq : ∀ c, c < 8 → nI q = nI c → q = c := fun c hc e => (ni_eq (by omega) (by omega)).mp e
  refine ⟨fun e => ?_, fun e => ?_, fun e => ?_, fun e => ?_, fun e => ?_, fun e => ?_, fun e => ?_, fun e0 e1 e2 e3 e4 e5 e6 => ?_⟩
  · obtain rfl := nq 0 (by decide) e
    refine p_ixE hk ?_
    rw [oI_E]
    unfold dl at hQ
    refine ⟨fun h => ?_, fun h => ?_⟩
    · simp only [h, Option.isSome_none, Bool.false_eq_true, if_false] at hQ; exact hQ
    · simp only [some_of h, if_true] at hQ; exact hQ
  · obtain rfl := nq 1 (by decide) e
    unfold dl isMd at hQ
    refine ⟨fun h => ?_, fun h => ?_⟩
    · rw [decide_eq_false h] at hQ; exact hQ
    · rw [decide_eq_true h] at hQ; exact hQ
  · obtain rfl := nq 2 (by decide) e
    unfold dl at hQ
    refine ⟨fun h => ?_, fun h => ?_⟩
    · simp only [h, if_true] at hQ; exact hQ
    · simp only [h, if_false] at hQ; exact hQ
  · obtain rfl := nq 3 (by decide) e
    unfold dl at hQ
    refine ⟨fun g => ⟨fun h => ?_, fun h => ?_⟩, fun g => ?_⟩
    · simp only [g, h, if_true, if_false] at hQ; exact hQ
    · simp only [g, h, if_false] at hQ; exact hQ
    · simp only [g, if_true] at hQ; exact hQ
  · obtain rfl := nq 4 (by decide) e
    refine p_ixS hk ?_
    rw [oI_S]
    unfold dl at hQ
    refine ⟨fun h => ?_, fun h => ?_⟩
    · simp only [h, Option.isSome_none, Bool.false_eq_true, if_false] at hQ; exact hQ
    · simp only [some_of h, if_true] at hQ; exact hQ
  · obtain rfl := nq 5 (by decide) e
    unfold dl isDg at hQ
    refine ⟨fun g => ⟨fun h => ?_, fun h => ⟨fun i => ?_, fun i => ?_⟩⟩, fun g => ?_⟩
    · rw [decide_eq_false (by grind)] at hQ; simp only [Bool.or_false, g, if_false] at hQ; exact hQ
    · rw [decide_eq_false (by grind)] at hQ; simp only [Bool.or_false, g, if_false] at hQ; exact hQ
    · rw [decide_eq_true (by grind)] at hQ; simp only [Bool.or_true, if_true] at hQ; exact hQ
    · simp only [g, Bool.true_or, if_true] at hQ; exact hQ
  · obtain rfl := nq 6 (by decide) e
    unfold dl isMd at hQ
    refine ⟨fun h => ?_, fun h => ?_⟩
    · rw [decide_eq_false h] at hQ; exact hQ
    · rw [decide_eq_true h] at hQ; exact hQ
  · have : q = 7 := by
      have x0 : q ≠ 0 := fun h => e0 (by rw [h]; rfl)
      have x1 : q ≠ 1 := fun h => e1 (by rw [h]; rfl)
      have x2 : q ≠ 2 := fun h => e2 (by rw [h]; rfl)
      have x3 : q ≠ 3 := fun h => e3 (by rw [h]; rfl)
      have x4 : q ≠ 4 := fun h => e4 (by rw [h]; rfl)
      have x5 : q ≠ 5 := fun h => e5 (by rw [h]; rfl)
      have x6 : q ≠ 6 := fun h => e6 (by rw [h]; rfl)
      omega
    subst this
    unfold dl at hQ
    refine ⟨fun h => ?_, fun h => ⟨fun g => ?_, fun g => ?_⟩⟩
    · simp only [h, if_true] at hQ; exact hQ
    · simp only [h, g, if_true, if_false] at hQ; exact hQ
    · simp only [h, g, if_false] at hQ; exact hQ
theorem p_X8_stepBehind {Q : Int32 → Mem → Prop} {M : Mem} {q k : Nat} (hq : q < 8) (hk : k < 256) (hQ : Q (oI (dl q (nI k))) M) : wp_X8_stepBehind (nI q) (nI k) M Q := by
  have mid : ∀ y, y = bi (nI k = 48 ∨ nI k = 49) → w_X8_stepBehind_17 Q (nI q) (nI k) y M := by
    intro y hy
    refine p_ixR hk ?_
    rw [oI_R]
    refine ⟨fun h => p_sB33 hq hk hy ?_ hQ, fun h => p_sB33 hq hk hy ?_ hQ⟩
    · rw [h]; rfl
    · rw [some_of h]; rfl
  unfold wp_X8_stepBehind w_X8_stepBehind_12
  refine ⟨fun h => mid _ (bi_t (Or.inl h)).symm, fun h => ⟨fun g => mid _ (bi_t (Or.inr g)).symm, fun g => mid _ (bi_f (fun q => q.elim h g)).symm⟩⟩
