/-! MENDED: the class -/
theorem fa_xor (a b : Nat) : nI a ^^^ nI b = nI (a ^^^ b) := by
  apply Int32.toBitVec_inj.1
  show BitVec.ofNat 32 a ^^^ BitVec.ofNat 32 b = BitVec.ofNat 32 (a ^^^ b)
  apply BitVec.eq_of_getLsbD_eq
  intro i hi
  simp [hi]
theorem p_tc31 {M : Mem} {d l : Nat} {Q : Int32 → Mem → Prop} {K11 : Int32 → Int32 → Int32 → Mem → Prop} (hl : l < 16) (hb : d / 2 ^ l % 2 = 1) (h2 : al d (l + 1) ≤ 256) (h32 : ∀ x, x < al d l → M 32 0 x = nI (ch d l x)) (hK : ∀ M1, (∀ k, k ≠ 32 → M1 k = M k) → (∀ x, x < al d (l + 1) → M1 32 0 x = nI (ch d (l + 1) x)) → K11 (nI d) (nI (al d (l + 1))) (nI l + 1) M1) : ∃ f, w_X3_tellChoices_31 Q K11 f (nI d) (nI (al d l)) (nI l) 0 M := by
  have hal : al d (l + 1) = 2 * al d l := by rw [al, if_pos hb]
  have a32 : alen 32 = 256 := by decide
  have hp : 2 ^ l ≤ 2 ^ 15 := Nat.pow_le_pow_right (by decide) (by omega)
  rw [hal] at h2 hK
  refine pk_loop (fun f x (z : Mem) => w_X3_tellChoices_31 Q K11 f (nI d) (nI (al d l)) (nI l) (nI x) z) (fun x z => (∀ k, k ≠ 32 → z k = M k) ∧ (∀ y, y < al d l + x → z 32 0 y = nI (ch d (l + 1) y))) (al d l) 0 M (Nat.zero_le _) ⟨fun _ _ => rfl, fun y hy => ?_⟩ ?_ ?_
  · rw [h32 y (by omega), ch, if_pos hb, if_pos (by omega)]
  · rintro f z ⟨h1, h3⟩
    unfold w_X3_tellChoices_31
    refine ⟨fun _ => ?_, fun q => absurd ((ni_le (by omega) (by omega)).mpr (Nat.le_refl _)) q⟩
    unfold w_X3_tellChoices_75 w_X3_tellChoices_87
    rw [e_J9_min, a32]
    have e2 : (2 : Int32) * nI (al d l) = nI (2 * al d l) := by rw [show 2 * al d l = al d l + al d l by omega, ← nI_add]; grind
    rw [e2]
    have e3 : (if nI 256 < nI (2 * al d l) then nI 256 else nI (2 * al d l)) = nI (2 * al d l) := if_neg (fun q => absurd ((ni_lt (by omega) (by omega)).mp q) (by omega))
    rw [e3]
    exact hK z h1 (fun x hx => h3 x (by omega))
  · rintro f x z hx ⟨h1, h3⟩ ih
    unfold w_X3_tellChoices_31
    rw [nI_add, a32]
    refine ⟨fun q => absurd ((ni_le (by omega) (by omega)).mp q) (by omega), fun _ => ⟨fun q => absurd ((ni_le (by omega) (by omega)).mp q) (by omega), fun _ => ⟨(ni_in (by omega)).mpr (by omega), (ni_in (by omega)).mpr (by omega), ?_⟩⟩⟩
    rintro _ rfl
    rw [ni_cl (by omega), ni_cl (by omega), h3 x (by omega), sh_1 (by omega), fa_or, nI_1]
    have hc : ch d (l + 1) x = ch d l x := by rw [ch, if_pos hb, if_pos hx]
    have hlt := ch_lt (d := d) (l := l) (x := x)
    have hor : ch d (l + 1) x ||| 2 ^ l = ch d (l + 1) (al d l + x) := by
      rw [hc, Nat.or_comm]
      have := Nat.two_pow_add_eq_or_of_lt hlt 1
      rw [Nat.mul_one] at this
      rw [← this, ch, if_pos hb, if_neg (by omega), show al d l + x - al d l = x by omega]; omega
    refine ih _ ⟨fun k q => (mst_ne q).trans (h1 k q), fun y hy => ?_⟩
    rw [mst_k]
    by_cases e : y = al d l + x
    · rw [if_pos ⟨rfl, e⟩, hor, e]
    · rw [if_neg (fun q => e q.2)]; exact h3 y (by omega)
theorem p_X3_tellChoices {M : Mem} {d : Nat} (hd : d < 65536) (h8 : pcn d 16 ≤ 8) {Q : Int32 → Mem → Prop} (hQ : ∀ M1, (∀ k, k ≠ 32 → M1 k = M k) → (∀ x, x < al d 16 → M1 32 0 x = nI (ch d 16 x)) → Q (nI (al d 16)) M1) : wp_X3_tellChoices (nI d) M Q := by
  have h256 : al d 16 ≤ 256 := by
    rw [al_p]
    have := Nat.pow_le_pow_right (n := 2) (by decide) h8
    exact this
  unfold wp_X3_tellChoices
  refine ⟨(ni_in (a := 0) (by decide)).mpr (by decide), ?_⟩
  rintro _ rfl
  refine pk_loop (fun f l (z : Mem) => w_X3_tellChoices_11 Q f (nI d) (nI (al d l)) (nI l) z) (fun l z => (∀ k, k ≠ 32 → z k = M k) ∧ (∀ y, y < al d l → z 32 0 y = nI (ch d l y))) 16 0 _ (Nat.zero_le _) ⟨fun k q => mst_ne q, fun y hy => ?_⟩ ?_ ?_
  · have : y = 0 := by
      have : al d 0 = 1 := rfl
      omega
    subst this
    exact mst_eq
  · rintro f z ⟨h1, h3⟩
    unfold w_X3_tellChoices_11
    exact ⟨fun _ => hQ z h1 h3, fun q => absurd ((ni_le (a := 16) (by omega) (by omega)).mpr (Nat.le_refl _)) q⟩
  · rintro f l z hl ⟨h1, h3⟩ ih
    have hm := al_m (d := d) (l := l + 1) (m := 16) (by omega)
    unfold w_X3_tellChoices_11
    rw [sh_m (by omega) hl]
    refine ⟨fun q => absurd ((ni_le (a := 16) (by omega) (by omega)).mp q) (by omega), fun _ => ⟨fun q => ?_, fun q => ?_⟩⟩
    · have b0 := (ni_eq (b := 0) (by omega) (by omega)).mp q
      have hal : al d (l + 1) = al d l := by rw [al, if_neg (by omega)]
      have hch : ∀ x, ch d (l + 1) x = ch d l x := fun x => by rw [ch, if_neg (by omega)]
      have := ih z ⟨h1, fun y hy => by rw [hch]; exact h3 y (by omega)⟩
      rw [hal] at this
      unfold w_X3_tellChoices_87
      rw [nI_1]
      exact this
    · have b1 : d / 2 ^ l % 2 = 1 := by
        have : ¬ d / 2 ^ l % 2 = 0 := fun e => q (by rw [e]; rfl)
        omega
      refine p_tc31 hl b1 (by omega) h3 (fun M1 g1 g2 => ?_)
      rw [nI_1]
      exact ih M1 ⟨fun k q => (g1 k q).trans (h1 k q), g2⟩
/-- a row is told of a way: what is left of the choices -/
def ChI (A B : Nat → List Nat) (d : Nat) (M : Mem) : Prop := ∀ x, x < al d 16 → M 32 0 x = nI (ch d 16 x) ∨ (M 32 0 x = -1 ∧ ¬ okS A B d x = true)
theorem p_X3_ruleOut {A B : Nat → List Nat} {M : Mem} {d ls W : Nat} (h256 : al d 16 ≤ 256) (hC : ChI A B d M) (hW : ∀ ls', (ls' ^^^ ls) &&& W = 0 → ¬ lpS (mixA A B ls') 4 = none) (hls : ls < 65536) (hWl : W < 65536) {Q : Mem → Prop} (hQ : ∀ M1, (∀ k, k ≠ 32 → M1 k = M k) → ChI A B d M1 → Q M1) : wp_X3_ruleOut (nI ls) (nI W) (nI (al d 16)) M Q := by
  unfold wp_X3_ruleOut
  refine pk_loop (fun f x (z : Mem) => w_X3_ruleOut_3 Q f (nI ls) (nI W) (nI (al d 16)) (nI x) z) (fun x z => (∀ k, k ≠ 32 → z k = M k) ∧ ChI A B d z) (al d 16) 0 M (Nat.zero_le _) ⟨fun _ _ => rfl, hC⟩ ?_ ?_
  · rintro f z ⟨h1, h3⟩
    unfold w_X3_ruleOut_3
    exact ⟨fun _ => hQ z h1 h3, fun q => absurd ((ni_le (by omega) (by omega)).mpr (Nat.le_refl _)) q⟩
  · rintro f x z hx ⟨h1, h3⟩ ih
    have inx : vp_in (nI x) 256 := (ni_in (by omega)).mpr (by omega)
    unfold w_X3_ruleOut_3 w_X3_ruleOut_42
    rw [nI_1, ni_cl (by omega)]
    refine ⟨fun q => absurd ((ni_le (by omega) (by omega)).mp q) (by omega), fun _ => ⟨inx, fun _ => ih z ⟨h1, h3⟩, fun q => ⟨inx, fun q2 => ⟨inx, ?_⟩, fun _ => ih z ⟨h1, h3⟩⟩⟩⟩
    rintro _ rfl
    have hch := ch_lt (d := d) (l := 16) (x := x)
    have h4 : z 32 0 x = nI (ch d 16 x) := by
      rcases h3 x hx with c | c
      · exact c
      · exact absurd c.1 q
    rw [h4, fa_xor, fa_and] at q2
    have hx16 : ch d 16 x ^^^ ls < 2 ^ 16 := Nat.xor_lt_two_pow (by omega) (by omega)
    have hlt : (ch d 16 x ^^^ ls) &&& W < 2 ^ 16 := Nat.lt_of_le_of_lt Nat.and_le_left hx16
    have q3 := (ni_eq (b := 0) (by omega) (by omega)).mp q2
    refine ih _ ⟨fun k g => (mst_ne g).trans (h1 k g), fun y hy => ?_⟩
    rw [mst_k]
    by_cases e : y = x
    · subst e
      rw [if_pos ⟨rfl, rfl⟩]
      refine Or.inr ⟨rfl, fun g => hW _ q3 ?_⟩
      unfold okS at g
      exact Option.isNone_iff_eq_none.mp g
    · rw [if_neg (fun g => e g.2)]; exact h3 y hy
theorem lwN_lt {S : Mem} {v o ls : Nat} {r : List Nat} (hr : ∀ i, r.getD i 0 < 8) : ∀ {i : Nat}, lwN (mixA (vA S v) (vA S o) ls) r i < 2 ^ 16
  | 0 => by show 0 < 2 ^ 16; decide
  | i + 1 => by
    rw [lwN]
    have hs : stOk (runS (mixA (vA S v) (vA S o) ls) (r.take i)) := runS_ok _ stOk_0
    have := hs.2
    have := hr i
    refine Nat.or_lt_two_pow (lwN_lt hr) (Nat.pow_lt_pow_right (by decide) (by omega))
theorem p_X6_linesOfRow {S M : Mem} (hS : SOK S) {v o ls n : Nat} (hMx : MxC S M v o ls) {r : List Nat} (hr : ∀ i, r.getD i 0 < 8) (hl : r.length = n) (hn : n ≤ 5) (h41 : ∀ i, i < n → M 41 0 i = nI (r.getD i 0)) {Q : Int32 → Mem → Prop} (hQ : ∀ M1, (∀ k, k ≠ 33 → M1 k = M k) → Q (nI (lwN (mixA (vA S v) (vA S o) ls) r n)) M1) : wp_X6_linesOfRow (nI n) M Q := by
  have x1 : (6513507 : Int32) = stI (runS (mixA (vA S v) (vA S o) ls) (r.take 0)) := by
    show (6513507 : Int32) = stI s0
    decide +kernel
  unfold wp_X6_linesOfRow
  rw [x1]
  refine pk_loop (fun f i (z : Mem) => w_X6_linesOfRow_9 Q f (nI n) (stI (runS (mixA (vA S v) (vA S o) ls) (r.take i))) (nI (lwN (mixA (vA S v) (vA S o) ls) r i)) (nI i) z) (fun i z => ∀ k, k ≠ 33 → z k = M k) n 0 M (Nat.zero_le _) (fun _ _ => rfl) ?_ ?_
  · rintro f z h1
    unfold w_X6_linesOfRow_9
    exact ⟨fun _ => hQ z h1, fun q => absurd ((ni_le (by omega) (by omega)).mpr (Nat.le_refl _)) q⟩
  · rintro f i z hi h1 ih
    have hs : stOk (runS (mixA (vA S v) (vA S o) ls) (r.take i)) := runS_ok _ stOk_0
    have hm := hs.2
    have he := hr i
    have ini : vp_in (nI i) 5 := (ni_in (by omega)).mpr (by omega)
    unfold w_X6_linesOfRow_9 wp_X4_lineOf
    rw [ni_cl (by omega)]
    refine ⟨fun q => absurd ((ni_le (by omega) (by omega)).mp q) (by omega), fun _ => ⟨fun q => absurd ((ni_le (a := 5) (by omega) (by omega)).mp q) (by omega), fun _ => ⟨ini, ?_⟩⟩⟩
    rintro _ rfl
    rw [h1 41 (by decide), h41 i hi, st_m hs, st_line _ he _ hm, sh_1 (by omega), fa_or, nI_1]
    refine ⟨ini, p_X4_after hS (hMx.keep (fun k q => h1 k (fun z => absurd (z ▸ q) (by decide)))) hs he (fun M1 hF => ?_)⟩
    have := ih M1 (fun k q => (hF k q).trans (h1 k q))
    rw [tk_s (by omega), runS_a, lwN] at this
    exact this
