/-! FILLS, CAUSES: the reference; what is asked -/
theorem SOK.lo {S : Mem} (h : SOK S) {c : Nat} (hc : c < nc S) : clost S c ≤ 3 := (h.c hc).2.2.2.1
theorem p8_512 {n : Nat} (h : n ≤ 3) : 8 ^ n ≤ 512 := Nat.pow_le_pow_right (n := 8) (i := n) (j := 3) (by decide) h
theorem p_X10_fillMany {S M : Mem} (hS : SOK S) (hI : InvR S M) {c : Nat} (hc : c < nc S) {Q : Int32 → Mem → Prop} (hQ : Q (nI (8 ^ clost S c)) M) : wp_X10_fillMany (nI c) M Q := by
  have hl := hS.lo hc
  unfold wp_X10_fillMany
  refine p_X10_lostMany hS hI hc ?_
  have e3 : (3 : Int32) * nI (clost S c) = nI (3 * clost S c) := pk_mul ..
  rw [e3, sh_1 (by omega), Nat.pow_mul]; exact hQ
theorem rsum_s {g : Nat → Nat} {n : Nat} : ((List.range (n + 1)).map g).sum = ((List.range n).map g).sum + g n := by
  rw [List.range_succ, List.map_append, List.sum_append]; simp
theorem rsum_le {g : Nat → Nat} {b : Nat} (h : ∀ i, g i ≤ b) : ∀ {n : Nat}, ((List.range n).map g).sum ≤ n * b
  | 0 => by simp
  | n + 1 => by
    rw [rsum_s, Nat.succ_mul]
    have := rsum_le h (n := n)
    have := h n
    omega
theorem ror_s {g : Nat → Nat} {n : Nat} : (List.range (n + 1)).foldl (fun a f => a ||| g f) 0 = (List.range n).foldl (fun a f => a ||| g f) 0 ||| g n := by
  rw [List.range_succ, List.foldl_append]; rfl
def a_fills (S : Mem) (c w : Int32) : Int32 := if (0 ≤ c ∧ c ≤ S 660 0 0 - 1) ∧ (0 ≤ w ∧ w ≤ 3) then nI (talCa S c.toNatClampNeg w.toNatClampNeg) else -2
def a_causes (S : Mem) (c : Int32) : Int32 := if (0 ≤ c ∧ c ≤ S 660 0 0 - 1) then nI (allCa S c.toNatClampNeg) else -2
def a_settling (S : Mem) (c w : Int32) : Int32 := if (0 ≤ c ∧ c ≤ S 660 0 0 - 1) ∧ (0 ≤ w ∧ w ≤ 1) then (if allCa S c.toNatClampNeg = 0 then -3 else if w = 0 then nI (pagCa S c.toNatClampNeg) else nI (pcn (pagCa S c.toNatClampNeg) 16) * S 206 c.toNatClampNeg 0) else -2
theorem cb_fr {M M1 : Mem} (h : ∀ k, k ∉ cbk → M1 k = M k) : FrR M M1 := fun k q => h k (fun z => q (yrefk (by clear q; revert z; revert k; unfold cbk rvk; decide)))
theorem R_fills {S M : Mem} (hS : SOK S) (hI : InvR S M) (c w : Int32) {Q : Int32 → Mem → Prop} (hQ : ∀ M1, InvR S M1 → FrR M M1 → Q (a_fills S c w) M1) : wp_X10_fills c w M Q := by
  unfold wp_X10_fills
  simp only [e_X10_isCounter, e_X10_in, bi_z, Classical.not_not, hI.n]
  unfold a_fills at hQ
  refine ⟨fun h => ?_, fun h => ⟨fun h2 => ?_, fun h2 => ?_⟩⟩
  · rw [if_neg (fun z => h z.1)] at hQ; exact hQ M hI FrR.rf
  · rw [if_neg (fun z => h2 z.2)] at hQ; exact hQ M hI FrR.rf
  · rw [if_pos ⟨h, h2⟩] at hQ
    obtain ⟨k, hk, rfl⟩ := okC_nat hS h
    obtain ⟨x, hx, rfl⟩ := ni_ofle (n := 3) (by decide) h2.1 h2.2
    rw [cn_cl hS hk, ni_cl (show x < 2147483648 by omega)] at hQ
    have hl := hS.lo hk
    have h512 := p8_512 hl
    refine p_X10_fillMany hS hI hk ?_
    by_cases x0 : x = 0
    · subst x0
      refine ⟨1, ?_⟩
      have := hQ M hI FrR.rf
      unfold talCa at this
      rw [if_pos rfl] at this
      unfold w_X10_fills_32 w_X10_fills_66
      exact ⟨fun _ => ⟨fun _ => this, fun z => absurd rfl z⟩, fun _ => ⟨fun _ => ⟨fun _ => this, fun z => absurd rfl z⟩, fun z => absurd (by decide) z⟩⟩
    · unfold talCa at hQ
      rw [if_neg x0] at hQ
      have gle : ∀ f, causeF S k f / 2 ^ (x - 1) % 2 ≤ 1 := fun f => by omega
      suffices hh : ∃ g, w_X10_fills_32 Q g (nI k) (nI x) (nI (8 ^ clost S k)) (nI ((List.range 0).map (fun f => causeF S k f / 2 ^ (x - 1) % 2)).sum) (nI 0) M from hh
      refine pk_loop (fun g i (m : Mem) => w_X10_fills_32 Q g (nI k) (nI x) (nI (8 ^ clost S k)) (nI ((List.range i).map (fun f => causeF S k f / 2 ^ (x - 1) % 2)).sum) (nI i) m) (fun i m => InvR S m ∧ FrR M m) (8 ^ clost S k) 0 M (Nat.zero_le _) ⟨hI, FrR.rf⟩ ?_ ?_
      · rintro g m ⟨h1, h3⟩
        unfold w_X10_fills_32 w_X10_fills_66
        refine ⟨fun _ => ⟨fun z => absurd ((ni_eq (b := 0) (by omega) (by omega)).mp z) x0, fun _ => hQ m h1 h3⟩, fun z => absurd ((ni_le (by omega) (by omega)).mpr (Nat.le_refl _)) z⟩
      · rintro g i m hi ⟨h1, h3⟩ ih
        have h7 := causeF_7 (S := S) (c := k) (f := i)
        unfold w_X10_fills_32
        refine ⟨fun z => absurd ((ni_le (by omega) (by omega)).mp z) (by omega), fun _ => ⟨fun z => absurd ((ni_le (b := 0) (by omega) (by omega)).mp z) (by omega), fun _ => p_X10_causesBy hS h1 hk (by omega) (fun m2 f1 f2 => ?_)⟩⟩
        rintro _ rfl
        have e1 : nI x - 1 = nI (x - 1) := ni_sub (b := 1) (by omega)
        rw [e1, sh_m (by omega) (by omega), nI_add, nI_1, ← rsum_s (g := fun f => causeF S k f / 2 ^ (x - 1) % 2)]
        exact ih m2 ⟨f1, h3.tr (cb_fr f2)⟩
theorem R_causes {S M : Mem} (hS : SOK S) (hI : InvR S M) (c : Int32) {Q : Int32 → Mem → Prop} (hQ : ∀ M1, InvR S M1 → FrR M M1 → Q (a_causes S c) M1) : wp_X10_causes c M Q := by
  unfold wp_X10_causes
  simp only [e_X10_isCounter, bi_z, Classical.not_not, hI.n]
  unfold a_causes at hQ
  refine ⟨fun h => ?_, fun h => ?_⟩
  · rw [if_neg h] at hQ; exact hQ M hI FrR.rf
  · rw [if_pos h] at hQ
    obtain ⟨k, hk, rfl⟩ := okC_nat hS h
    rw [cn_cl hS hk] at hQ
    have hl := hS.lo hk
    have h512 := p8_512 hl
    unfold allCa at hQ
    suffices hh : ∃ g, w_X10_causes_15 Q g (nI k) (nI ((List.range 0).foldl (fun a f => a ||| causeF S k f) 0)) (nI 0) M from hh
    refine pk_loop (fun g i (m : Mem) => w_X10_causes_15 Q g (nI k) (nI ((List.range i).foldl (fun a f => a ||| causeF S k f) 0)) (nI i) m) (fun i m => InvR S m ∧ FrR M m) (8 ^ clost S k) 0 M (Nat.zero_le _) ⟨hI, FrR.rf⟩ ?_ ?_
    · rintro g m ⟨h1, h3⟩
      unfold w_X10_causes_15
      exact p_X10_fillMany hS h1 hk ⟨fun _ => hQ m h1 h3, fun z => absurd ((ni_le (by omega) (by omega)).mpr (Nat.le_refl _)) z⟩
    · rintro g i m hi ⟨h1, h3⟩ ih
      unfold w_X10_causes_15
      refine p_X10_fillMany hS h1 hk ⟨fun z => absurd ((ni_le (by omega) (by omega)).mp z) (by omega), fun _ => p_X10_causesBy hS h1 hk (by omega) (fun m2 f1 f2 => ?_)⟩
      rintro _ rfl
      rw [fa_or, nI_1, ← ror_s (g := fun f => causeF S k f)]
      exact ih m2 ⟨f1, h3.tr (cb_fr f2)⟩
/-! SETTLING -/
/-- what has been seen in each cell -/
def SeenI (se : Nat → Int32) (C ka : Nat → Nat) (i : Nat) : Prop := ∀ x, (se x = 0 ∧ ∀ g, g < i → ka g = x → C g = 0) ∨ (∃ g, g < i ∧ ka g = x ∧ C g ≠ 0 ∧ se x = nI (C g) ∧ ∀ h, h < i → ka h = x → C h = 0 ∨ C h = C g)
theorem SeenI.no {se : Nat → Int32} {C ka : Nat → Nat} {i : Nat} (h : SeenI se C ka i) (h0 : C i = 0) : SeenI se C ka (i + 1) := by
  intro x
  rcases h x with ⟨a, b⟩ | ⟨g, a, b, c, d, e⟩
  · refine Or.inl ⟨a, fun g hg hx => ?_⟩
    by_cases e : g = i
    · rw [e]; exact h0
    · exact b g (by omega) hx
  · refine Or.inr ⟨g, by omega, b, c, d, fun h hh hx => ?_⟩
    by_cases eh : h = i
    · rw [eh]; exact Or.inl h0
    · exact e h (by omega) hx
theorem SeenI.yes {se : Nat → Int32} {C ka : Nat → Nat} {i : Nat} (h : SeenI se C ka i) (hC : ∀ f, C f < 100) (h0 : C i ≠ 0) (h1 : se (ka i) = 0 ∨ se (ka i) = nI (C i)) : SeenI (fun x => if x = ka i then nI (C i) else se x) C ka (i + 1) := by
  intro x
  by_cases ex : x = ka i
  · refine Or.inr ⟨i, by omega, ex.symm, h0, if_pos ex, fun g hg hx => ?_⟩
    by_cases eg : g = i
    · rw [eg]; exact Or.inr rfl
    · rcases h x with ⟨a, b⟩ | ⟨g2, a, b, c, d, e⟩
      · exact Or.inl (b g (by omega) hx)
      · have hg2 : C g2 = C i := by
          rw [ex] at d
          have b1 := hC g2
          have b2 := hC i
          rcases h1 with z | z
          · rw [d] at z
            exact absurd ((ni_eq (b := 0) (by omega) (by omega)).mp z) c
          · rw [d] at z
            exact (ni_eq (by omega) (by omega)).mp z
        rw [← hg2]; exact e g (by omega) hx
  · rcases h x with ⟨a, b⟩ | ⟨g, a, b, c, d, e⟩
    · refine Or.inl ⟨(if_neg ex).trans a, fun g hg hx => ?_⟩
      have eg : g ≠ i := fun z => ex (by rw [← z]; exact hx.symm)
      exact b g (by omega) hx
    · refine Or.inr ⟨g, by omega, b, c, (if_neg ex).trans d, fun g2 hg hx => ?_⟩
      have eg : g2 ≠ i := fun z => ex (by rw [← z]; exact hx.symm)
      exact e g2 (by omega) hx
theorem SeenI.bad {se : Nat → Int32} {C ka : Nat → Nat} {i : Nat} (h : SeenI se C ka i) (h1 : ¬ se (ka i) = 0) (h2 : ¬ se (ka i) = nI (C i)) : ∃ g, g < i ∧ ka g = ka i ∧ C g ≠ 0 ∧ C g ≠ C i := by
  rcases h (ka i) with ⟨a, b⟩ | ⟨g, a, b, c, d, e⟩
  · exact absurd a h1
  · exact ⟨g, a, b, c, fun z => h2 (by rw [d, z])⟩
theorem SeenI.all {se : Nat → Int32} {C ka : Nat → Nat} {n : Nat} (h : SeenI se C ka n) : ∀ f g, f < n → g < n → ka f = ka g → C f ≠ 0 → C g ≠ 0 → C f = C g := by
  intro f g hf hg hk h1 h2
  rcases h (ka g) with ⟨a, b⟩ | ⟨g2, a, b, c, d, e⟩
  · exact absurd (b g hg rfl) h2
  · have q1 := (e f hf hk).resolve_left h1
    have q2 := (e g hg rfl).resolve_left h2
    rw [q1, q2]
def mk8 (rd : Nat) : Nat := rd % 2 * 7 + rd / 2 % 2 * 56 + rd / 4 % 2 * 448
theorem mk8_e : ∀ rd, rd < 8 → ∀ f, f < 512 → f &&& mk8 rd = rd % 2 * (f % 8) + rd / 2 % 2 * (f / 8 % 8 * 8) + rd / 4 % 2 * (f / 64 % 8 * 64) := by decide +kernel
theorem agree_iff {rd f g : Nat} (hr : rd < 8) (hf : f < 512) (hg : g < 512) : agree rd f g = true ↔ f &&& mk8 rd = g &&& mk8 rd := by
  rw [mk8_e rd hr f hf, mk8_e rd hr g hg]
  have t0 : rd.testBit 0 = decide (rd % 2 = 1) := by rw [Nat.testBit_zero]
  have t1 : rd.testBit 1 = decide (rd / 2 % 2 = 1) := by rw [Nat.testBit_succ, Nat.testBit_zero]
  have t2 : rd.testBit 2 = decide (rd / 4 % 2 = 1) := by rw [Nat.testBit_succ, Nat.testBit_succ, Nat.testBit_zero, Nat.div_div_eq_div_mul]
  have : agree rd f g = ((!rd.testBit 0 || f / 8 ^ 0 % 8 == g / 8 ^ 0 % 8) && ((!rd.testBit 1 || f / 8 ^ 1 % 8 == g / 8 ^ 1 % 8) && ((!rd.testBit 2 || f / 8 ^ 2 % 8 == g / 8 ^ 2 % 8) && true))) := rfl
  rw [this, t0, t1, t2]
  simp only [Bool.and_true, Bool.and_eq_true, Bool.or_eq_true, Bool.not_eq_true', decide_eq_false_iff_not, beq_iff_eq, Nat.pow_zero, Nat.div_one, Nat.pow_one]
  rw [show (8 : Nat) ^ 2 = 64 from rfl]
  have c0 : rd % 2 = 0 ∨ rd % 2 = 1 := by omega
  have c1 : rd / 2 % 2 = 0 ∨ rd / 2 % 2 = 1 := by omega
  have c2 : rd / 4 % 2 = 0 ∨ rd / 4 % 2 = 1 := by omega
  rcases c0 with c0 | c0 <;> rcases c1 with c1 | c1 <;> rcases c2 with c2 | c2 <;> rw [c0, c1, c2] <;> omega
theorem settl_iff {S : Mem} {c rd : Nat} (hr : rd < 8) (hl : clost S c ≤ 3) : settl S c rd = true ↔ ∀ f g, f < 8 ^ clost S c → g < 8 ^ clost S c → f &&& mk8 rd = g &&& mk8 rd → causeF S c f ≠ 0 → causeF S c g ≠ 0 → causeF S c f = causeF S c g := by
  have h512 := p8_512 hl
  unfold settl
  rw [List.all_eq_true]
  constructor
  · intro h f g hf hg hk h1 h2
    have h3 := h f (List.mem_range.mpr hf)
    rw [List.all_eq_true] at h3
    have h4 := h3 g (List.mem_range.mpr hg)
    rw [(agree_iff hr (by omega) (by omega)).mpr hk] at h4
    simp only [Bool.true_and, Bool.or_eq_true, Bool.not_eq_true', Bool.and_eq_false_imp, bne_iff_ne, beq_iff_eq] at h4
    rcases h4 with h4 | h4
    · have := h4 h1
      simp [h2] at this
    · exact h4
  · intro h f hf
    rw [List.all_eq_true]
    intro g hg
    have hf' := List.mem_range.mp hf
    have hg' := List.mem_range.mp hg
    by_cases a : agree rd f g = true
    · by_cases h1 : causeF S c f = 0
      · simp [h1]
      · by_cases h2 : causeF S c g = 0
        · simp [h2]
        · have := h f g hf' hg' ((agree_iff hr (by omega) (by omega)).mp a) h1 h2
          simp [this]
    · simp [a]
