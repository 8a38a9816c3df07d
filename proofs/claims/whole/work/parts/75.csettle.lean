/-! THE CLASS FILLS: which pages settle it -/
def rrv : Nat → Nat → Nat
  | 0, _ => 0
  | 1, rd => rd % 2
  | 2, rd => rd / 2 % 2 + rd % 2 * 2
  | _, rd => rd / 4 % 2 + rd / 2 % 2 * 2 + rd % 2 * 4
def mkq (K rd : Nat) : Nat → Nat
  | 0 => 0
  | i + 1 => mkq K rd i + rd / 2 ^ i % 2 * 7 * 2 ^ (3 * (K - 1 - i))
theorem mkq_t : ∀ K, K < 4 → ∀ rd, rd < 8 → ∀ i, i < 3 → i < K → mkq K rd i ||| rd / 2 ^ i % 2 * 7 * 2 ^ (3 * (K - 1 - i)) = mkq K rd (i + 1) := by decide +kernel
theorem mkq_e : ∀ K, K < 4 → ∀ rd, rd < 8 → rd < 2 ^ K → mkq K rd K = mk8 (rrv K rd) ∧ rrv K rd < 8 := by decide +kernel
theorem q2_2 {a b : Nat} (ha : a < 2) (hb : b < 2) : (a + b * 2) % 2 = a ∧ (a + b * 2) / 2 % 2 = b ∧ (a + b * 2) / 4 % 2 = 0 := by
  have e : (a + b * 2) / 4 = 0 := by omega
  rw [e]; exact ⟨by omega, by omega, rfl⟩
theorem q2_3 {a b c : Nat} (ha : a < 2) (hb : b < 2) (hc : c < 2) : (a + b * 2 + c * 4) % 2 = a ∧ (a + b * 2 + c * 4) / 2 % 2 = b ∧ (a + b * 2 + c * 4) / 4 % 2 = c := by
  have e : (a + b * 2 + c * 4) / 4 = c := by omega
  have e2 : (a + b * 2 + c * 4) / 2 = b + 2 * c := by omega
  rw [e, e2]; exact ⟨by omega, by omega, by omega⟩
theorem ff_and {p q : Nat → Bool} : ∀ {l : List Nat}, (l.filter p).find? q = l.find? (fun a => p a && q a)
  | [] => rfl
  | a :: l => by
    rw [List.filter_cons, List.find?_cons]
    cases e : p a with
    | true =>
      rw [if_pos rfl, List.find?_cons, ff_and, Bool.true_and]
    | false => rw [if_neg (by decide), ff_and, Bool.false_and]
theorem cell_iff {K rd f g : Nat} (hK : K ≤ 3) (hr : rd < 2 ^ K) (hf : f < 8 ^ K) (hg : g < 8 ^ K) : f &&& mk8 (rrv K rd) = g &&& mk8 (rrv K rd) ↔ rv K f &&& mk8 rd = rv K g &&& mk8 rd := by
  have h8 : 2 ^ K ≤ 8 := Nat.pow_le_pow_right (n := 2) (i := K) (j := 3) (by decide) hK
  have h512 := p8_512 hK
  have hrr := (mkq_e K (by omega) rd (by omega) hr).2
  have v1 := rv_lt (f := f) hK
  have v2 := rv_lt (f := g) hK
  rw [mk8_e _ hrr f (by omega), mk8_e _ hrr g (by omega), mk8_e rd (by omega) _ (by omega), mk8_e rd (by omega) _ (by omega)]
  have hk : K = 0 ∨ K = 1 ∨ K = 2 ∨ K = 3 := by omega
  rcases hk with rfl | rfl | rfl | rfl
  · have a1 : f < 1 := hf
    have a2 : g < 1 := hg
    have : f = g := by omega
    subst this
    exact ⟨fun _ => rfl, fun _ => rfl⟩
  · have a1 : f < 8 := hf
    have a2 : g < 8 := hg
    have a3 : rd < 2 := hr
    show rd % 2 % 2 * (f % 8) + rd % 2 / 2 % 2 * (f / 8 % 8 * 8) + rd % 2 / 4 % 2 * (f / 64 % 8 * 64) = rd % 2 % 2 * (g % 8) + rd % 2 / 2 % 2 * (g / 8 % 8 * 8) + rd % 2 / 4 % 2 * (g / 64 % 8 * 64) ↔ rd % 2 * (f % 8 % 8) + rd / 2 % 2 * (f % 8 / 8 % 8 * 8) + rd / 4 % 2 * (f % 8 / 64 % 8 * 64) = rd % 2 * (g % 8 % 8) + rd / 2 % 2 * (g % 8 / 8 % 8 * 8) + rd / 4 % 2 * (g % 8 / 64 % 8 * 64)
    have b0 : rd % 2 % 2 = rd % 2 := by omega
    have b1 : rd % 2 / 2 % 2 = 0 := by omega
    have b2 : rd % 2 / 4 % 2 = 0 := by omega
    have b3 : rd / 2 % 2 = 0 := by omega
    have b4 : rd / 4 % 2 = 0 := by omega
    have b5 : f % 8 % 8 = f % 8 := by omega
    have b6 : g % 8 % 8 = g % 8 := by omega
    rw [b0, b1, b2, b3, b4, b5, b6]
    simp only [Nat.zero_mul]
  · have a1 : f < 64 := hf
    have a2 : g < 64 := hg
    have a3 : rd < 4 := hr
    show (rd / 2 % 2 + rd % 2 * 2) % 2 * (f % 8) + (rd / 2 % 2 + rd % 2 * 2) / 2 % 2 * (f / 8 % 8 * 8) + (rd / 2 % 2 + rd % 2 * 2) / 4 % 2 * (f / 64 % 8 * 64) = (rd / 2 % 2 + rd % 2 * 2) % 2 * (g % 8) + (rd / 2 % 2 + rd % 2 * 2) / 2 % 2 * (g / 8 % 8 * 8) + (rd / 2 % 2 + rd % 2 * 2) / 4 % 2 * (g / 64 % 8 * 64) ↔ rd % 2 * ((f / 8 % 8 + f % 8 * 8) % 8) + rd / 2 % 2 * ((f / 8 % 8 + f % 8 * 8) / 8 % 8 * 8) + rd / 4 % 2 * ((f / 8 % 8 + f % 8 * 8) / 64 % 8 * 64) = rd % 2 * ((g / 8 % 8 + g % 8 * 8) % 8) + rd / 2 % 2 * ((g / 8 % 8 + g % 8 * 8) / 8 % 8 * 8) + rd / 4 % 2 * ((g / 8 % 8 + g % 8 * 8) / 64 % 8 * 64)
    have f1 := q8_2 (a := f % 8) (b := f / 8 % 8) (by omega) (by omega)
    have g1 := q8_2 (a := g % 8) (b := g / 8 % 8) (by omega) (by omega)
    rw [f1.1, f1.2, g1.1, g1.2]
    have hf0 : f % 8 < 8 := by omega
    have hf1 : f / 8 % 8 < 8 := by omega
    have hg0 : g % 8 < 8 := by omega
    have hg1 : g / 8 % 8 < 8 := by omega
    generalize f % 8 = x0 at hf0 ⊢
    generalize f / 8 % 8 = x1 at hf1 ⊢
    generalize g % 8 = y0 at hg0 ⊢
    generalize g / 8 % 8 = y1 at hg1 ⊢
    obtain ⟨b0, b1, b2⟩ := q2_2 (a := rd / 2 % 2) (b := rd % 2) (by omega) (by omega)
    have b4 : rd / 4 % 2 = 0 := by omega
    rw [b0, b1, b2, b4]
    simp only [Nat.zero_mul]
    have c0 : rd % 2 = 0 ∨ rd % 2 = 1 := by omega
    have c1 : rd / 2 % 2 = 0 ∨ rd / 2 % 2 = 1 := by omega
    rcases c0 with c0 | c0 <;> rcases c1 with c1 | c1 <;> rw [c0, c1] <;> omega
  · have a1 : f < 512 := hf
    have a2 : g < 512 := hg
    have a3 : rd < 8 := hr
    show (rd / 4 % 2 + rd / 2 % 2 * 2 + rd % 2 * 4) % 2 * (f % 8) + (rd / 4 % 2 + rd / 2 % 2 * 2 + rd % 2 * 4) / 2 % 2 * (f / 8 % 8 * 8) + (rd / 4 % 2 + rd / 2 % 2 * 2 + rd % 2 * 4) / 4 % 2 * (f / 64 % 8 * 64) = (rd / 4 % 2 + rd / 2 % 2 * 2 + rd % 2 * 4) % 2 * (g % 8) + (rd / 4 % 2 + rd / 2 % 2 * 2 + rd % 2 * 4) / 2 % 2 * (g / 8 % 8 * 8) + (rd / 4 % 2 + rd / 2 % 2 * 2 + rd % 2 * 4) / 4 % 2 * (g / 64 % 8 * 64) ↔ rd % 2 * ((f / 64 % 8 + f / 8 % 8 * 8 + f % 8 * 64) % 8) + rd / 2 % 2 * ((f / 64 % 8 + f / 8 % 8 * 8 + f % 8 * 64) / 8 % 8 * 8) + rd / 4 % 2 * ((f / 64 % 8 + f / 8 % 8 * 8 + f % 8 * 64) / 64 % 8 * 64) = rd % 2 * ((g / 64 % 8 + g / 8 % 8 * 8 + g % 8 * 64) % 8) + rd / 2 % 2 * ((g / 64 % 8 + g / 8 % 8 * 8 + g % 8 * 64) / 8 % 8 * 8) + rd / 4 % 2 * ((g / 64 % 8 + g / 8 % 8 * 8 + g % 8 * 64) / 64 % 8 * 64)
    have f1 := q8_3 (a := f % 8) (b := f / 8 % 8) (c := f / 64 % 8) (by omega) (by omega) (by omega)
    have g1 := q8_3 (a := g % 8) (b := g / 8 % 8) (c := g / 64 % 8) (by omega) (by omega) (by omega)
    rw [f1.1, f1.2.1, f1.2.2, g1.1, g1.2.1, g1.2.2]
    have hf0 : f % 8 < 8 := by omega
    have hf1 : f / 8 % 8 < 8 := by omega
    have hf2 : f / 64 % 8 < 8 := by omega
    have hg0 : g % 8 < 8 := by omega
    have hg1 : g / 8 % 8 < 8 := by omega
    have hg2 : g / 64 % 8 < 8 := by omega
    clear f1 g1 v1 v2 hrr
    generalize f % 8 = x0 at hf0 ⊢
    generalize f / 8 % 8 = x1 at hf1 ⊢
    generalize f / 64 % 8 = x2 at hf2 ⊢
    generalize g % 8 = y0 at hg0 ⊢
    generalize g / 8 % 8 = y1 at hg1 ⊢
    generalize g / 64 % 8 = y2 at hg2 ⊢
    obtain ⟨b0, b1, b2⟩ := q2_3 (a := rd / 4 % 2) (b := rd / 2 % 2) (c := rd % 2) (by omega) (by omega) (by omega)
    rw [b0, b1, b2]
    have c0 : rd % 2 = 0 ∨ rd % 2 = 1 := by omega
    have c1 : rd / 2 % 2 = 0 ∨ rd / 2 % 2 = 1 := by omega
    have c2 : rd / 4 % 2 = 0 ∨ rd / 4 % 2 = 1 := by omega
    rcases c0 with c0 | c0 <;> rcases c1 with c1 | c1 <;> rcases c2 with c2 | c2 <;> rw [c0, c1, c2] <;> omega
theorem settl_rv {S : Mem} {c rd : Nat} (hl : clost S c ≤ 3) (hr : rd < 2 ^ clost S c) : settl S c rd = true ↔ ∀ f g, f < 8 ^ clost S c → g < 8 ^ clost S c → f &&& mk8 (rrv (clost S c) rd) = g &&& mk8 (rrv (clost S c) rd) → causeF S c (rv (clost S c) f) ≠ 0 → causeF S c (rv (clost S c) g) ≠ 0 → causeF S c (rv (clost S c) f) = causeF S c (rv (clost S c) g) := by
  have h8 : 2 ^ clost S c ≤ 8 := Nat.pow_le_pow_right (n := 2) (i := clost S c) (j := 3) (by decide) hl
  rw [settl_iff (by omega) hl]
  constructor
  · intro h f g hf hg hk h1 h2
    exact h _ _ (rv_lt hl) (rv_lt hl) ((cell_iff hl hr hf hg).mp hk) h1 h2
  · intro h f g hf hg hk h1 h2
    have e1 := rv_v hl hf
    have e2 := rv_v hl hg
    have := h (rv (clost S c) f) (rv (clost S c) g) (rv_lt hl) (rv_lt hl) ((cell_iff hl hr (rv_lt hl) (rv_lt hl)).mpr (by rw [e1, e2]; exact hk))
    rw [e1, e2] at this
    exact this h1 h2
theorem by_8 : ∀ k, k < 128 → ((nI k).toInt8.toInt32) = nI k := by decide +kernel
theorem p_X2_settles {S M : Mem} {c rd : Nat} (hl : clost S c ≤ 3) (hr : rd < 2 ^ clost S c) (h309 : M 309 0 0 = nI (clost S c)) (h30 : ∀ f, f < 8 ^ clost S c → M 30 0 f = nI (causeF S c (rv (clost S c) f))) {Q : Int32 → Mem → Prop} (hQ : ∀ M1, (∀ k, k ≠ 31 → M1 k = M k) → Q (bi (settl S c rd = true)) M1) : wp_X2_settles (nI rd) (nI (8 ^ clost S c)) M Q := by
  have h512 := p8_512 hl
  have h8 : 2 ^ clost S c ≤ 8 := Nat.pow_le_pow_right (n := 2) (i := clost S c) (j := 3) (by decide) hl
  obtain ⟨mq, mrr⟩ := mkq_e (clost S c) (by omega) rd (by omega) hr
  have mkl := (mkp_3 _ mrr).2
  have hC : ∀ f, causeF S c (rv (clost S c) f) < 100 := fun f => by have := causeF_7 (S := S) (c := c) (f := rv (clost S c) f); omega
  unfold wp_X2_settles
  suffices hh : ∃ g, w_X2_settles_5 Q g (nI rd) (nI (8 ^ clost S c)) (nI (mkq (clost S c) rd 0)) (nI 0) M from hh
  refine pk_loop (fun g k (m : Mem) => w_X2_settles_5 Q g (nI rd) (nI (8 ^ clost S c)) (nI (mkq (clost S c) rd k)) (nI k) m) (fun k m => m = M) (clost S c) 0 M (Nat.zero_le _) rfl ?_ ?_
  · rintro g m rfl
    unfold w_X2_settles_5
    rw [h309]
    refine ⟨fun _ => ?_, fun z => absurd ((ni_le (by omega) (by omega)).mpr (Nat.le_refl _)) z⟩
    rw [mq]
    refine p_fillB (by decide) ?_
    have a31 : alen 31 = 512 := by decide
    rw [a31]
    have e08 : (0 : Int32).toInt8.toInt32 = 0 := by decide
    rw [e08]
    generalize hM1 : mfl m 31 0 0 512 0 = m1
    have z31 : ∀ x, x < 512 → m1 31 0 x = 0 := fun x hx => by rw [← hM1, mfl_k, if_pos ⟨rfl, by omega, by omega⟩]
    have fr1 : ∀ k, k ≠ 31 → m1 k = m k := fun k q => by rw [← hM1, mfl_ne q]
    have hs0 : SeenI (seF m1 31 (8 ^ clost S c)) (fun f => causeF S c (rv (clost S c) f)) (fun f => f &&& mk8 (rrv (clost S c) rd)) 0 := fun x => Or.inl ⟨by
      unfold seF
      split
      · next hx => exact z31 x (by omega)
      · rfl, fun g hg => absurd hg (Nat.not_lt_zero _)⟩
    refine pk_loop (fun g f (z : Mem) => w_X2_settles_50 Q g (nI (8 ^ clost S c)) (nI (mk8 (rrv (clost S c) rd))) (nI f) z) (fun f z => (∀ k, k ≠ 31 → z k = m k) ∧ SeenI (seF z 31 (8 ^ clost S c)) (fun f => causeF S c (rv (clost S c) f)) (fun f => f &&& mk8 (rrv (clost S c) rd)) f) (8 ^ clost S c) 0 m1 (Nat.zero_le _) ⟨fr1, hs0⟩ ?_ ?_
    · rintro g3 y ⟨q1, q2⟩
      unfold w_X2_settles_50
      refine ⟨fun _ => ?_, fun q => absurd ((ni_le (by omega) (by omega)).mpr (Nat.le_refl _)) q⟩
      have := hQ y q1
      rw [bi_t ((settl_rv hl hr).mpr q2.all)] at this
      exact this
    · rintro g3 f y hf ⟨q1, q2⟩ ih
      have hk : f &&& mk8 (rrv (clost S c) rd) ≤ f := Nat.and_le_left
      have in1 : vp_in (nI f) 512 := (ni_in (by omega)).mpr (by omega)
      have in2 : vp_in (nI (f &&& mk8 (rrv (clost S c) rd))) 512 := (ni_in (by omega)).mpr (by omega)
      have e30 : y 30 0 f = nI (causeF S c (rv (clost S c) f)) := by rw [q1 30 (by decide)]; exact h30 f hf
      have hCf := hC f
      have ese : seF y 31 (8 ^ clost S c) (f &&& mk8 (rrv (clost S c) rd)) = y 31 0 (f &&& mk8 (rrv (clost S c) rd)) := if_pos (by omega)
      have g95 : (causeF S c (rv (clost S c) f) ≠ 0 → (y 31 0 (f &&& mk8 (rrv (clost S c) rd)) = 0 ∨ y 31 0 (f &&& mk8 (rrv (clost S c) rd)) = nI (causeF S c (rv (clost S c) f)))) → w_X2_settles_95 Q (fun x2 x3 x4 M => w_X2_settles_50 Q g3 x2 x3 x4 M) (nI (8 ^ clost S c)) (nI (mk8 (rrv (clost S c) rd))) (nI f) (nI (causeF S c (rv (clost S c) f))) y := by
        intro hs
        unfold w_X2_settles_95 w_X2_settles_111
        rw [fa_and, ni_cl (show f &&& mk8 (rrv (clost S c) rd) < 2147483648 by omega), by_8 _ (by have := causeF_7 (S := S) (c := c) (f := rv (clost S c) f); omega), nI_1]
        refine ⟨fun z => ?_, fun z => ⟨in2, ?_⟩⟩
        · have z' := (ni_eq (b := 0) (by omega) (by omega)).mp z
          exact ih y ⟨q1, q2.no z'⟩
        · have z' : causeF S c (rv (clost S c) f) ≠ 0 := fun e => z (by rw [e]; rfl)
          rintro _ rfl
          refine ih _ ⟨fun k q => (mst_ne q).trans (q1 k q), ?_⟩
          rw [seF_st (by omega)]
          exact q2.yes hC z' (by rw [ese]; exact hs z')
      unfold w_X2_settles_50
      rw [fa_and, ni_cl (show f < 2147483648 by omega), ni_cl (show f &&& mk8 (rrv (clost S c) rd) < 2147483648 by omega), e30]
      refine ⟨fun q => absurd ((ni_le (by omega) (by omega)).mp q) (by omega), fun _ => ⟨in1, ?_⟩⟩
      rintro _ rfl
      refine ⟨in2, ?_⟩
      rintro _ rfl
      refine ⟨fun z => g95 (fun q => absurd ((ni_eq (b := 0) (by omega) (by omega)).mp z) q), fun z => ⟨fun z2 => g95 (fun _ => Or.inl z2), fun z2 => ⟨fun z3 => g95 (fun _ => Or.inr z3.symm), fun z3 => ?_⟩⟩⟩
      have z' : causeF S c (rv (clost S c) f) ≠ 0 := fun e => z (by rw [e]; rfl)
      obtain ⟨g, hg, ek, hg0, hgn⟩ := q2.bad (by rw [ese]; exact z2) (by rw [ese]; exact fun q => z3 q.symm)
      have := hQ y q1
      rw [bi_f] at this
      · exact this
      · intro hst
        exact hgn ((settl_rv hl hr).mp hst g f (by omega) hf ek hg0 z')
  · rintro g k m hk rfl ih
    have t1 := mkq_t (clost S c) (by omega) rd (by omega) k (by omega) hk
    have e3 : (3 : Int32) * ((nI (clost S c) - 1) - nI k) = nI (3 * (clost S c - 1 - k)) := by
      have a1 : nI (clost S c) - 1 = nI (clost S c - 1) := ni_sub (b := 1) (by omega)
      rw [a1, ni_sub (by omega)]
      exact pk_mul ..
    have e7 : nI (rd / 2 ^ k % 2) * 7 = nI (rd / 2 ^ k % 2 * 7) := pk_mul ..
    have hp : 2 ^ (3 * (clost S c - 1 - k)) ≤ 2 ^ 6 := Nat.pow_le_pow_right (by decide) (by omega)
    have hm : rd / 2 ^ k % 2 * 7 * 2 ^ (3 * (clost S c - 1 - k)) ≤ 7 * 2 ^ 6 := Nat.mul_le_mul (by omega) hp
    unfold w_X2_settles_5 wp_X2_shiftOf
    dsimp only
    rw [h309, e3, sh_m (by omega) (by omega), e7, sh_l (by omega) (by omega), fa_or, t1, nI_1]
    refine ⟨fun q => absurd ((ni_le (by omega) (by omega)).mp q) (by omega), fun _ => ?_⟩
    rintro _ rfl
    exact ih m rfl
theorem fnd_at {P : Nat → Bool} : ∀ {l : List Nat} {i : Nat}, i < l.length → P (l.getD i 0) = true → (∀ j, j < i → P (l.getD j 0) = false) → l.find? P = some (l.getD i 0)
  | [], i, h, _, _ => absurd h (Nat.not_lt_zero _)
  | a :: l, 0, _, h, _ => by
    have h' : P a = true := h
    rw [List.find?_cons, h']; rfl
  | a :: l, i + 1, hi, h, hj => by
    have h0 : P a = false := hj 0 (by omega)
    rw [List.find?_cons, h0]
    have hi' : i < l.length := by
      have : (a :: l).length = l.length + 1 := rfl
      omega
    have h' : P (l.getD i 0) = true := h
    exact fnd_at hi' h' (fun j hjj => hj (j + 1) (by omega))
theorem fnd_no {P : Nat → Bool} : ∀ {l : List Nat}, (∀ j, j < l.length → P (l.getD j 0) = false) → l.find? P = none
  | [], _ => rfl
  | a :: l, h => by
    have h0 : P a = false := h 0 (Nat.zero_lt_succ _)
    rw [List.find?_cons, h0]
    exact fnd_no (fun j hj => h (j + 1) (Nat.succ_lt_succ hj))
theorem p_X2_fewestPages {S M : Mem} {c : Nat} (hl : clost S c ≤ 3) (h309 : M 309 0 0 = nI (clost S c)) (h30 : ∀ f, f < 8 ^ clost S c → M 30 0 f = nI (causeF S c (rv (clost S c) f))) {Q : Int32 → Mem → Prop} (hQ : ∀ M1, (∀ k, k ≠ 31 → M1 k = M k) → Q (nI (pagCa S c)) M1) : wp_X2_fewestPages (nI (8 ^ clost S c)) M Q := by
  have h8 : 2 ^ clost S c ≤ 8 := Nat.pow_le_pow_right (n := 2) (i := clost S c) (j := 3) (by decide) hl
  have hfl : ∀ i, i < 8 → fewL.getD i 0 = nI ([0, 1, 2, 4, 3, 5, 6, 7].getD i 0) ∧ [0, 1, 2, 4, 3, 5, 6, 7].getD i 0 < 8 := by decide
  have epg : pagCa S c = ([0, 1, 2, 4, 3, 5, 6, 7].find? (fun r => decide (r < 2 ^ clost S c) && settl S c r)).getD 0 := by
    unfold pagCa
    rw [ff_and]
  unfold wp_X2_fewestPages
  refine pk_loop (fun g i (m : Mem) => w_X2_fewestPages_2 Q g (nI (8 ^ clost S c)) (nI i) m) (fun i m => (∀ k, k ≠ 31 → m k = M k) ∧ ∀ j, j < i → (decide ([0, 1, 2, 4, 3, 5, 6, 7].getD j 0 < 2 ^ clost S c) && settl S c ([0, 1, 2, 4, 3, 5, 6, 7].getD j 0)) = false) 8 0 M (Nat.zero_le _) ⟨fun _ _ => rfl, fun j hj => absurd hj (Nat.not_lt_zero _)⟩ ?_ ?_
  · rintro g m ⟨h1, h2⟩
    unfold w_X2_fewestPages_2
    refine ⟨fun _ => ?_, fun q => absurd ((ni_le (a := 8) (by omega) (by omega)).mpr (Nat.le_refl _)) q⟩
    have := hQ m h1
    rw [epg, fnd_no (P := fun r => decide (r < 2 ^ clost S c) && settl S c r) (l := [0, 1, 2, 4, 3, 5, 6, 7]) h2] at this
    exact this
  · rintro g i m hi ⟨h1, h2⟩ ih
    obtain ⟨e1, e2⟩ := hfl i hi
    have ini : vp_in (nI i) 8 := (ni_in (by omega)).mpr hi
    have nx : ∀ m2, (∀ k, k ≠ 31 → m2 k = m k) → (decide ([0, 1, 2, 4, 3, 5, 6, 7].getD i 0 < 2 ^ clost S c) && settl S c ([0, 1, 2, 4, 3, 5, 6, 7].getD i 0)) = false → w_X2_fewestPages_2 Q g (nI (8 ^ clost S c)) (nI (i + 1)) m2 := fun m2 q1 q2 => ih m2 ⟨fun k q => (q1 k q).trans (h1 k q), fun j hj => by
      by_cases e : j = i
      · subst e; exact q2
      · exact h2 j (by omega)⟩
    unfold w_X2_fewestPages_2 w_X2_fewestPages_43
    rw [ni_cl (by omega), e1, h1 309 (by decide), h309, sh_1 (by omega), nI_1]
    refine ⟨fun q => absurd ((ni_le (a := 8) (by omega) (by omega)).mp q) (by omega), fun _ => ⟨ini, fun q => ?_, fun q => ⟨ini, ?_⟩⟩⟩
    · have := (ni_le (by omega) (by omega)).mp q
      refine nx m (fun _ _ => rfl) ?_
      rw [decide_eq_false (by omega)]; rfl
    · have hlt : [0, 1, 2, 4, 3, 5, 6, 7].getD i 0 < 2 ^ clost S c := by
        have : ¬ 2 ^ clost S c ≤ [0, 1, 2, 4, 3, 5, 6, 7].getD i 0 := fun z => q ((ni_le (by omega) (by omega)).mpr z)
        omega
      refine p_X2_settles hl hlt (by rw [h1 309 (by decide)]; exact h309) (fun f hf => by rw [h1 30 (by decide)]; exact h30 f hf) (fun m2 q1 => ?_)
      rw [bi_z, Classical.not_not]
      refine ⟨fun q2 => nx m2 q1 ?_, fun q2 => ⟨ini, ?_⟩⟩
      · have : settl S c ([0, 1, 2, 4, 3, 5, 6, 7].getD i 0) = false := by simpa using q2
        rw [this, Bool.and_false]
      · have := hQ m2 (fun k q => (q1 k q).trans (h1 k q))
        have hP : (decide ([0, 1, 2, 4, 3, 5, 6, 7].getD i 0 < 2 ^ clost S c) && settl S c ([0, 1, 2, 4, 3, 5, 6, 7].getD i 0)) = true := by rw [decide_eq_true hlt, q2]; rfl
        rw [epg, fnd_at (P := fun r => decide (r < 2 ^ clost S c) && settl S c r) (show i < [0, 1, 2, 4, 3, 5, 6, 7].length from hi) hP h2] at this
        exact this
