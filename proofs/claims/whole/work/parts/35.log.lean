/-! LOG -/
def mfn (M : Mem) (k j n : Nat) (f : Nat → Int32) : Mem := fun k' => if k' = k then (fun j' i' => if j' = j ∧ i' < n then f i' else M k j' i') else M k'
theorem mfn_ne {M : Mem} {k j n : Nat} {f : Nat → Int32} {k' : Nat} (h : k' ≠ k) : mfn M k j n f k' = M k' := if_neg h
theorem mfn_k {M : Mem} {k j n : Nat} {f : Nat → Int32} {j' i' : Nat} : mfn M k j n f k j' i' = if j' = j ∧ i' < n then f i' else M k j' i' := by simp [mfn]
theorem mfn_0 {M : Mem} {k j : Nat} {f : Nat → Int32} : mfn M k j 0 f = M := by
  funext k'
  by_cases e : k' = k
  · subst e; funext j' i'; rw [mfn_k, if_neg (by omega)]
  · rw [mfn_ne e]
theorem mfn_s {M : Mem} {k j n : Nat} {f : Nat → Int32} : mst (mfn M k j n f) k j n (f n) = mfn M k j (n + 1) f := by
  funext k'
  by_cases e : k' = k
  · subst e
    funext j' i'
    rw [mst_k, mfn_k, mfn_k]
    by_cases h1 : j' = j ∧ i' = n
    · rw [if_pos h1, if_pos ⟨h1.1, by omega⟩, h1.2]
    · rw [if_neg h1]
      by_cases h2 : j' = j ∧ i' < n
      · rw [if_pos h2, if_pos ⟨h2.1, by omega⟩]
      · rw [if_neg h2, if_neg (by omega)]
  · rw [mst_ne e, mfn_ne e, mfn_ne e]
theorem mst_sw {M : Mem} {k j i k2 j2 i2 : Nat} {a b v : Int32} (h : k ≠ k2) : mst (mst (mst M k j i a) k2 j2 i2 v) k j i b = mst (mst M k2 j2 i2 v) k j i b := by
  funext k'
  by_cases e : k' = k
  · subst e
    funext j' i'
    rw [mst_k, mst_k, mst_ne h, mst_ne h, mst_k]
    split
    · rfl
    · rfl
  · rw [mst_ne e, mst_ne e]
    by_cases e2 : k' = k2
    · subst e2; funext j' i'; rw [mst_k, mst_k, mst_ne e]
    · rw [mst_ne e2, mst_ne e2, mst_ne e]
theorem EsC.fn {S M : Mem} (h : EsC S M) {k j n : Nat} {f : Nat → Int32} : EsC (mfn S k j n f) (mfn M k j n f) := fun q hq => by
  by_cases e : q = k
  · subst e; funext j' i'; rw [mfn_k, mfn_k, h q hq]
  · rw [mfn_ne e, mfn_ne e]; exact h q hq
theorem FrC.fn {M : Mem} {k j n : Nat} {f : Nat → Int32} (h : ¬ refk k) : FrC M (mfn M k j n f) := fun k' q => mfn_ne (fun e => h (e ▸ q))
theorem lostN_congr {f g : Nat → Int32} : ∀ {n : Nat}, (∀ i, i < n → f i = g i) → lostN f n = lostN g n
  | 0, _ => rfl
  | n + 1, h => by
    unfold lostN
    rw [lostN_congr (fun i hi => h i (by omega)), h n (by omega)]
def lgE (x : Int32) : Int32 := if 0 ≤ x ∧ x ≤ 7 then x else -1
theorem lgE_m {x : Int32} : lgE x = -1 ↔ ¬ (0 ≤ x ∧ x ≤ 7) := by
  unfold lgE
  by_cases h : 0 ≤ x ∧ x ≤ 7
  · rw [if_pos h]
    refine ⟨fun e => ?_, fun q => absurd h q⟩
    rw [e] at h; exact absurd h (by decide)
  · rw [if_neg h]; simp [h]
theorem lgE_r (x : Int32) : rng (lgE x) (-1) 7 := by
  unfold lgE
  by_cases h : 0 ≤ x ∧ x ≤ 7
  · rw [if_pos h]
    have h0 := ti_le.mp h.1
    have h2 := ti_le.mp h.2
    have e0 : (0 : Int32).toInt = 0 := by decide
    have e7 : (7 : Int32).toInt = 7 := by decide
    exact ⟨by omega, by omega⟩
  · rw [if_neg h]; exact ⟨by decide, by decide⟩
def lgF (S : Mem) (s : Nat) : Nat → Int32 := fun i => lgE (S 42 s i)
def a_log (S : Mem) (c s n : Int32) : Int32 := if (0 ≤ c ∧ c ≤ S 660 0 0 - 1) ∧ (0 ≤ s ∧ s ≤ 3) ∧ (0 ≤ n ∧ n ≤ 12) then (if S 551 s.toNatClampNeg 0 = 0 then (if n ≤ S 553 s.toNatClampNeg 0 then (if lostN (lgF S s.toNatClampNeg) n.toNatClampNeg ≤ 3 then S 202 c.toNatClampNeg 0 else -3) else -12) else -11) else -2
def n_log (S : Mem) (c s n : Int32) : Mem := if (0 ≤ c ∧ c ≤ S 660 0 0 - 1) ∧ (0 ≤ s ∧ s ≤ 3) ∧ (0 ≤ n ∧ n ≤ 12) then (if S 551 s.toNatClampNeg 0 = 0 then (if n ≤ S 553 s.toNatClampNeg 0 then (if lostN (lgF S s.toNatClampNeg) n.toNatClampNeg ≤ 3 then mfn (mst S 202 c.toNatClampNeg 0 n) 20 c.toNatClampNeg n.toNatClampNeg (lgF S s.toNatClampNeg) else S) else mst S 661 0 0 2) else mst S 661 0 0 1) else S
theorem p_X7_holdsEvent {M : Mem} {s i L : Nat} (hL : M 553 s 0 = nI L) (h4 : L ≤ 40) (hi : i < L) {Q : Int32 → Mem → Prop} (hQ : Q (bi (0 ≤ M 42 s i ∧ M 42 s i ≤ 7)) M) : wp_X7_holdsEvent s (nI i) M Q := by
  unfold wp_X7_holdsEvent
  have hin : vp_in (nI i) 40 := (ni_in (by omega)).mpr (by omega)
  rw [hL, ni_cl (by omega)]
  refine ⟨fun h => absurd h (ni_nneg (by omega)), fun _ => ⟨fun h => absurd ((ni_le (by omega) (by omega)).mp h) (by omega), fun _ => ⟨hin, fun h => ?_, fun h => ⟨hin, fun g => ?_, fun g => ?_⟩⟩⟩⟩
  · rw [bi_f (by grind)] at hQ; exact hQ
  · rw [bi_f (by grind)] at hQ; exact hQ
  · rw [bi_t (by grind)] at hQ; exact hQ
theorem p_X7_countEvents {M : Mem} {s n L : Nat} (hL : M 553 s 0 = nI L) (h4 : L ≤ 40) (hn : n ≤ L) {Q : Int32 → Mem → Prop} (hQ : Q (nI (n - lostN (lgF M s) n)) M) : wp_X7_countEvents s (nI n) M Q := by
  unfold wp_X7_countEvents
  refine pk_loop (fun f i (z : Int32 × Mem) => w_X7_countEvents_4 Q f s (nI n) z.1 (nI i) z.2) (fun i z => z.1 = nI (i - lostN (lgF M s) i) ∧ z.2 = M) n 0 (0, M) (Nat.zero_le _) ⟨rfl, rfl⟩ ?_ ?_
  · rintro f ⟨a, M'⟩ ⟨e1, e2⟩
    dsimp only at e1 e2 ⊢
    subst e2 e1
    exact ⟨fun _ => hQ, fun h => absurd ((ni_le (by omega) (by omega)).mpr (Nat.le_refl _)) h⟩
  · rintro f i ⟨a, M'⟩ hi ⟨e1, e2⟩ ih
    dsimp only at e1 e2 ⊢
    subst e2 e1
    refine ⟨fun h => absurd ((ni_le (by omega) (by omega)).mp h) (by omega), fun _ => p_X7_holdsEvent hL h4 (by omega) ?_⟩
    have hl := lostN_le (lgF M' s) i
    have nx := ih (nI (i + 1 - lostN (lgF M' s) (i + 1)), M') ⟨rfl, rfl⟩
    simp only [bi_z, Classical.not_not]
    refine ⟨fun h => ?_, fun h => ?_⟩
    · rintro _ rfl
      rw [nI_1, ni_0, nI_add]
      simp only [lostN, lgF, lgE_m.mpr h, if_true] at nx
      rw [show i - lostN (lgF M' s) i + 0 = i + 1 - (lostN (fun i => lgE (M' 42 s i)) i + 1) by unfold lgF; omega]
      exact nx
    · rintro _ rfl
      rw [nI_1, nI_1]
      have h' : ¬ lgE (M' 42 s i) = -1 := fun e => (lgE_m.mp e) h
      simp only [lostN, lgF, h', if_false] at nx
      rw [show i - lostN (lgF M' s) i + 1 = i + 1 - (lostN (fun i => lgE (M' 42 s i)) i + 0) by unfold lgF at hl ⊢; omega]
      exact nx
theorem C_log {t : Nat} {S M : Mem} (hS : SOK S) (hI : InvC t S M) (c s n : Int32) {Q : Int32 → Mem → Prop} (hQ : ∀ M1, InvC (t + 1) (n_log S c s n) M1 → FrC M M1 → Q (a_log S c s n) M1) : wp_X9_log c s n M Q := by
  unfold wp_X9_log w_X9_log_54 w_X9_log_68
  simp only [e_X9_counterAt, e_X9_sheetAt, e_X9_finding]
  unfold a_log n_log at hQ
  rcases atC_cases hS hI.1 c with ⟨h1, h2⟩ | ⟨k, hk, rfl, h1, h2⟩
  · rw [h1]; unfold okC at h2; simp only [h2, false_and, if_false] at hQ
    exact ⟨fun _ => ⟨fun _ => hQ M hI.more FrC.rf, fun _ _ => hQ M hI.more FrC.rf⟩, fun j e => by cases e⟩
  · rw [h1]; unfold okC at h2; simp only [h2, and_self, true_and, cn_cl hS hk] at hQ
    refine ⟨fun e => by (cases e), fun j e => ?_⟩
    cases e
    rcases at4_cases s with ⟨g1, g2⟩ | ⟨l, hl, rfl, g1, g2⟩
    · rw [g1]; simp only [g2, false_and, if_false] at hQ
      exact ⟨fun _ => hQ M hI.more FrC.rf, fun j e => by cases e⟩
    · rw [g1]
      refine ⟨fun e => by (cases e), fun j e => ?_⟩
      cases e
      rw [ni_cl (show l < 2147483648 by omega)] at hQ
      simp only [g2, and_self, true_and] at hQ
      obtain ⟨s1, s2⟩ := hS.sl hl
      rw [hI.1.k 551, hI.1.k 553]
      refine ⟨fun a => ?_, fun a => ⟨fun b => ⟨fun d => ⟨fun e => ?_, fun e => ?_⟩, fun d => ?_⟩, fun b => ?_⟩⟩
      · have : ¬ 0 ≤ n := by grind
        simp only [this, false_and, if_false] at hQ; exact hQ M hI.more FrC.rf
      · have a' : 0 ≤ n := by grind
        simp only [a', b, d, e, and_self, if_true] at hQ
        obtain ⟨m, hm, rfl⟩ := ni_ofle (n := 12) (by decide) a' b
        rw [s2] at e
        have hmL := (ni_le (by omega) (by omega)).mp e
        rw [ni_cl (show m < 2147483648 by omega)] at hQ
        have hF : lgF M l = lgF S l := by unfold lgF; rw [hI.1.k 42]
        refine p_X7_countEvents (L := sln S l) (by rw [hI.1.k 553]; exact s2) s1 hmL ?_
        rw [hF, ni_sub (by omega)]
        have hll := lostN_le (lgF S l) m
        rw [show m - (m - lostN (lgF S l) m) = lostN (lgF S l) m by omega]
        have h3 : (nI (lostN (lgF S l) m) ≤ 3) ↔ lostN (lgF S l) m ≤ 3 := ni_le (b := 3) (by omega) (by omega)
        rw [h3]
        refine ⟨fun z => ?_, fun z => ?_⟩
        · simp only [z, if_true] at hQ
          unfold wp_X0_takeLog
          rintro _ rfl
          have h12 : ¬ (12 : Int32) < nI m := fun q => absurd ((ni_lt (a := 12) (by omega) (by omega)).mp q) (by omega)
          rw [e_J9_min, if_neg h12]
          rintro _ rfl _ rfl
          rw [hI.1.k 202]
          refine pk_loop (fun f i (z : Mem) => w_X0_takeLog_23 Q f k l (S 202 k 0) (nI i) z) (fun i z => z = mst (mfn (mst M 202 k 0 (nI m)) 20 k i (lgF S l)) 203 k 0 (nI (lostN (lgF S l) i))) m 0 _ (Nat.zero_le _) (by rw [mfn_0]; rfl) ?_ ?_
          · rintro f z rfl
            unfold w_X0_takeLog_23
            refine ⟨fun _ => ?_, fun h => absurd ?_ h⟩
            · rintro _ rfl
              refine hQ _ (hI.ctr (c := k) ((((hI.1.st).fn).skip (k := 203) (by decide)).skip (k := 212) (by decide)) ⟨by simp [mst_ne, mfn_ne], by simp [mst_ne, mfn_ne]⟩ (by simp [nc, mst_ne, mfn_ne]) (fun c' _ hc' => ?_) (by simp [mst_ne, mfn_ne]) (fun q hq c' hc' => ?_) ⟨?_, by simp [mst_k]⟩) ((((FrC.st (nrefk (by decide))).tr (FrC.fn (nrefk (by decide)))).tr (FrC.st (nrefk (by decide)))).tr (FrC.st (nrefk (by decide))))
              · refine ⟨by simp [mst_ne, mfn_ne], ?_, ?_, by simp [mst_ne, mfn_ne], by simp [mst_ne, mfn_ne]⟩ <;> (funext i; simp [mst_ne, mst_k, mfn_ne, mfn_k, hc'])
              · funext i
                simp only [List.mem_cons, List.not_mem_nil, or_false] at hq
                rcases hq with rfl | rfl | rfl | rfl | rfl <;> simp [mst_ne, mst_k, mfn_ne, hc']
              · have : clost (mfn (mst S 202 k 0 (nI m)) 20 k m (lgF S l)) k = lostN (lgF S l) m := by
                  unfold clost cln
                  rw [mfn_ne (show 202 ≠ 20 by decide), mst_eq, ni_cl (by omega)]
                  exact lostN_congr (fun i hi => by rw [mfn_k, if_pos ⟨rfl, hi⟩])
                rw [this, mst_ne (by decide), mst_eq]
            · rw [mst_ne (by decide), mfn_ne (by decide), mst_eq]
              exact (ni_le (by omega) (by omega)).mpr (Nat.le_refl _)
          · rintro f i z hi rfl ih
            unfold w_X0_takeLog_23
            have hli := lostN_le (lgF S l) i
            have z1 : mst (mfn (mst M 202 k 0 (nI m)) 20 k i (lgF S l)) 203 k 0 (nI (lostN (lgF S l) i)) 553 l 0 = nI (sln S l) := by rw [mst_ne (by decide), mfn_ne (by decide), mst_ne (by decide), hI.1.k 553]; exact s2
            have z2 : mst (mfn (mst M 202 k 0 (nI m)) 20 k i (lgF S l)) 203 k 0 (nI (lostN (lgF S l) i)) 42 = S 42 := by rw [mst_ne (by decide), mfn_ne (by decide), mst_ne (by decide), hI.1.k 42]
            have z3 : mst (mfn (mst M 202 k 0 (nI m)) 20 k i (lgF S l)) 203 k 0 (nI (lostN (lgF S l) i)) 202 k 0 = nI m := by rw [mst_ne (by decide), mfn_ne (by decide), mst_eq]
            have z4 : ∀ v, mst (mst (mfn (mst M 202 k 0 (nI m)) 20 k i (lgF S l)) 203 k 0 (nI (lostN (lgF S l) i))) 20 k i v 203 k 0 = nI (lostN (lgF S l) i) := fun v => by rw [mst_ne (by decide), mst_eq]
            have nx : ∀ a, a = nI (lostN (lgF S l) (i + 1)) → w_X0_takeLog_23 Q f k l (S 202 k 0) (nI (i + 1)) (mst (mst (mst (mfn (mst M 202 k 0 (nI m)) 20 k i (lgF S l)) 203 k 0 (nI (lostN (lgF S l) i))) 20 k i (lgF S l i)) 203 k 0 a) := by
              rintro _ rfl
              refine ih _ ?_
              rw [mst_sw (by decide), mfn_s]
            rw [z3]
            refine ⟨fun h => absurd ((ni_le (by omega) (by omega)).mp h) (by omega), fun _ => p_X7_holdsEvent z1 s1 (by omega) ?_⟩
            rw [z2]
            simp only [bi_z, Classical.not_not]
            have hin : vp_in (nI i) 12 := (ni_in (by omega)).mpr (by omega)
            refine ⟨fun h => ⟨hin, ?_⟩, fun h => ⟨(ni_in (by omega)).mpr (by omega), hin, ?_⟩⟩
            · rintro _ rfl
              rw [bi_f h, ni_cl (by omega), z4]
              refine ⟨fun _ => ?_, fun q => absurd rfl q⟩
              rintro _ rfl
              rw [nI_1, nI_1]
              have e1 : lgF S l i = -1 := lgE_m.mpr h
              have := nx _ (by unfold lostN; rw [if_pos e1])
              rw [e1] at this
              exact this
            · rintro _ rfl
              rw [bi_t h, ni_cl (by omega), z4]
              refine ⟨fun q => absurd q (by decide), fun _ => ?_⟩
              rintro _ rfl
              rw [nI_1, ni_0, nI_add]
              have e1 : ¬ lgF S l i = -1 := fun q => (lgE_m.mp q) h
              have e2 : lgF S l i = S 42 l i := if_pos h
              have := nx _ (by unfold lostN; rw [if_neg e1])
              rw [e2] at this
              exact this
        · simp only [z, if_false] at hQ; exact hQ M hI.more FrC.rf
      · have a' : 0 ≤ n := by grind
        simp only [a', b, d, e, and_self, if_true, if_false] at hQ
        refine ⟨fun _ => hQ _ (hI.fnd 2) frC1, fun q => absurd d q⟩
      · have a' : 0 ≤ n := by grind
        simp only [a', b, d, and_self, if_true, if_false] at hQ
        refine ⟨fun q => absurd q d, fun _ => hQ _ (hI.fnd 1) frC1⟩
      · simp only [b, and_false, if_false] at hQ; exact hQ M hI.more FrC.rf
theorem R_log {S M : Mem} (hS : SOK S) (hI : InvR S M) (c s n : Int32) {Q : Int32 → Mem → Prop} (hQ : ∀ M1, InvR (n_log S c s n) M1 → FrR M M1 → Q (a_log S c s n) M1) : wp_X10_log c s n M Q := by
  unfold wp_X10_log
  simp only [e_X10_isCounter, e_X10_isSheet, e_X10_in, e_X10_meets, bi_z, Classical.not_not]
  unfold a_log n_log at hQ
  rw [hI.n]
  refine ⟨fun h => ?_, fun h => ⟨fun g => ?_, fun g => ⟨fun p => ?_, fun p => ?_⟩⟩⟩
  · simp only [h, false_and, if_false] at hQ; exact hQ M hI FrR.rf
  · simp only [g, and_false, false_and, if_false] at hQ; exact hQ M hI FrR.rf
  · simp only [p, and_false, if_false] at hQ; exact hQ M hI FrR.rf
  · simp only [h, g, p, and_self, if_true] at hQ
    obtain ⟨k, hk, rfl⟩ := okC_nat hS h
    obtain ⟨l, hl, rfl⟩ := ni_ofle (n := 3) (by decide) g.1 g.2
    obtain ⟨m, hm, rfl⟩ := ni_ofle (n := 12) (by decide) p.1 p.2
    have hl4 : l < 4 := by omega
    have inl : vp_in (nI l) 4 := (ni_in (by omega)).mpr hl4
    rw [ni_cl (show l < 2147483648 by omega)] at hQ ⊢
    rw [ni_cl (show m < 2147483648 by omega), cn_cl hS hk] at hQ
    obtain ⟨t1, t2, t3, t4⟩ := hI.h hl4
    obtain ⟨s1, s2⟩ := hS.sl hl4
    have n1 := hS.ncs.1
    have e2 : M 81 0 l = 0 ↔ ¬ S 551 l 0 = 0 := by rcases there hS hI hl4 with ⟨e1, e2⟩ | ⟨e1, e2⟩ <;> rw [e1, e2] <;> decide
    rw [e2, t3]
    refine ⟨inl, fun a => ?_, fun a => ⟨inl, fun b => ?_, fun b => ?_⟩⟩
    · simp only [a, if_false] at hQ; exact hQ _ (hI.fnd 1) frR1
    · simp only [Classical.not_not.mp a, b, if_true] at hQ
      rw [s2] at b
      have hmL := (ni_le (by omega) (by omega)).mp b
      refine pk_loop (fun f i (z : Int32 × Mem) => w_X10_log_65 Q f (nI k) (nI l) (nI m) z.1 (nI i) z.2) (fun i z => z.1 = nI (lostN (lgF S l) i) ∧ z.2 = M) m 0 (0, M) (Nat.zero_le _) ⟨rfl, rfl⟩ ?_ ?_
      · rintro f ⟨x, M'⟩ ⟨e1, e2⟩
        dsimp only at e1 e2 ⊢
        subst e2 e1
        have hll := lostN_le (lgF S l) m
        refine ⟨fun _ => ?_, fun h => absurd ((ni_le (by omega) (by omega)).mpr (Nat.le_refl _)) h⟩
        have h3 : (nI (lostN (lgF S l) m) ≤ 3) ↔ lostN (lgF S l) m ≤ 3 := ni_le (b := 3) (by omega) (by omega)
        rw [h3]
        refine ⟨fun z => ⟨cn_in hS hk, ?_⟩, fun z => ?_⟩
        · simp only [z, if_true] at hQ
          rintro _ rfl
          rw [cn_cl hS hk, (hI.c hk).2.1]
          refine pk_loop (fun f i (z : Mem) => w_X10_log_125 Q f (nI k) (nI l) (nI m) (S 202 k 0) (nI i) z) (fun i z => (∀ q, q ≠ 66 → z q = M' q) ∧ ∀ j, z 66 0 j = if 12 * k ≤ j ∧ j < 12 * k + i then lgF S l (j - 12 * k) else M' 66 0 j) m 0 _ (Nat.zero_le _) ⟨fun _ _ => rfl, fun j => by rw [if_neg (by omega)]⟩ ?_ ?_
          · rintro f z ⟨q1, q2⟩
            unfold w_X10_log_125
            refine ⟨fun _ => ⟨cn_in hS hk, ?_⟩, fun h => absurd ((ni_le (by omega) (by omega)).mpr (Nat.le_refl _)) h⟩
            rintro _ rfl
            rw [cn_cl hS hk]
            have q1' : ∀ q, q ≠ 66 → q ≠ 65 → mst z 65 0 k (nI m) q = M' q := fun q h1 h2 => by rw [mst_ne h2]; exact q1 q h1
            refine hQ _ (hI.upd 2 (Or.inr ⟨⟨by simp [mst_ne, mfn_ne], by simp [mst_ne, mfn_ne]⟩, fun q hq => q1' q (by revert hq; revert q; decide) (by revert hq; revert q; decide)⟩) ⟨by simp [mst_ne, mfn_ne], q1' 720 (by decide) (by decide)⟩ (Or.inl rfl) (Or.inr ⟨by simp [mst_ne, mfn_ne], fun q hq => q1' q (by revert hq; revert q; decide) (by revert hq; revert q; decide)⟩) (Or.inr ⟨by simp [mst_ne, mfn_ne], fun q hq => q1' q (by revert hq; revert q; decide) (by revert hq; revert q; decide)⟩) (Or.inr ⟨by simp [mst_ne, mfn_ne], fun q hq => q1' q (by revert hq; revert q; decide) (by revert hq; revert q; decide)⟩) (by rw [q1' 747 (by decide) (by decide)]; simp [mst_ne, mfn_ne, hI.f]) (fun e => by cases e) (fun _ c' hc' => ?_) (fun e => by cases e) (fun e => by cases e) (fun e => by cases e)) (fun q hq => q1' q (fun e => hq (by subst e; exact yrefk (by decide))) (fun e => hq (by subst e; exact yrefk (by decide))))
            obtain ⟨r1, r2, r3, r4, r5, r6, r7, r8⟩ := hI.c hc'
            unfold RCo
            rw [q1' 64 (by decide) (by decide), q1' 67 (by decide) (by decide), q1' 68 (by decide) (by decide), q1' 69 (by decide) (by decide), q1' 70 (by decide) (by decide), q1' 71 (by decide) (by decide), r1, r4, r5, r6, r7, r8]
            have cc : cln (mfn (mst S 202 k 0 (nI m)) 20 k m (lgF S l)) c' = if c' = k then m else cln S c' := by
              unfold cln
              rw [mfn_ne (by decide), mst_k]
              by_cases e : c' = k
              · rw [if_pos ⟨e, rfl⟩, if_pos e, ni_cl (by omega)]
              · rw [if_neg (fun q => e q.1), if_neg e]
            refine ⟨by simp [mst_ne, mfn_ne], ?_, fun i hi => ?_, by simp [mst_ne, mfn_ne], by simp [mst_ne, mfn_ne], by simp [mst_ne, mfn_ne], by simp [mst_ne, mfn_ne], by simp [mst_ne, mfn_ne]⟩
            · rw [mst_k, mfn_ne (by decide), mst_k]
              by_cases e : c' = k
              · rw [if_pos ⟨rfl, e⟩, if_pos ⟨e, rfl⟩]
              · rw [if_neg (fun q => e q.2), if_neg (fun q => e q.1), q1 65 (by decide)]; exact r2
            · have hc12 := (hS.cl hc').1
              rw [cc] at hi
              rw [mst_ne (by decide), q2, mfn_k]
              by_cases e : c' = k
              · subst e
                rw [if_pos rfl] at hi
                rw [if_pos (by omega), if_pos ⟨rfl, hi⟩, show 12 * c' + i - 12 * c' = i by omega]
              · rw [if_neg e] at hi
                rw [if_neg (by omega), if_neg (fun q => e q.1), mst_ne (by decide)]; exact r3 i hi
          · rintro f i z hi ⟨q1, q2⟩ ih
            unfold w_X10_log_125
            have hx : 40 * nI l + nI i = nI (40 * l + i) := by rw [ni_lit 40, pk_mul, nI_add]
            have hy : 12 * nI k + nI i = nI (12 * k + i) := by rw [ni_lit 12, pk_mul, nI_add]
            refine ⟨fun h => absurd ((ni_le (by omega) (by omega)).mp h) (by omega), fun _ => ?_⟩
            rw [hx, ni_cl (by omega), q1 84 (by decide), t4 i (by omega)]
            refine ⟨(ni_in (by omega)).mpr (by omega), ?_⟩
            rintro _ rfl
            rw [e_X10_isEvent]
            simp only [bi_z, Classical.not_not]
            have hin : vp_in (nI (12 * k + i)) 144 := (ni_in (by omega)).mpr (by omega)
            have nx : w_X10_log_125 Q f (nI k) (nI l) (nI m) (S 202 k 0) (nI (i + 1)) (mst z 66 0 (12 * k + i) (lgF S l i)) := by
              refine ih _ ⟨fun q hq => by rw [mst_ne hq]; exact q1 q hq, fun j => ?_⟩
              rw [mst_k, q2]
              by_cases e : j = 12 * k + i
              · rw [if_pos ⟨rfl, e⟩, if_pos (by omega), show j - 12 * k = i by omega]
              · rw [if_neg (fun q => e q.2)]
                by_cases e2 : 12 * k ≤ j ∧ j < 12 * k + i
                · rw [if_pos e2, if_pos (by omega)]
                · rw [if_neg e2, if_neg (by omega)]
            refine ⟨fun h => ?_, fun h => ?_⟩
            · unfold w_X10_log_170
              rw [hy, ni_cl (by omega), nI_1]
              refine ⟨hin, ?_⟩
              rintro _ rfl
              rw [show lgF S l i = -1 from lgE_m.mpr h] at nx; exact nx
            · unfold w_X10_log_170
              rw [hy, ni_cl (by omega), nI_1]
              refine ⟨hin, ?_⟩
              rintro _ rfl
              rw [show lgF S l i = S 42 l i from if_pos h] at nx; exact nx
        · simp only [z, if_false] at hQ; exact hQ M' hI FrR.rf
      · rintro f i ⟨x, M'⟩ hi ⟨e1, e2⟩ ih
        dsimp only at e1 e2 ⊢
        subst e2 e1
        have hx : 40 * nI l + nI i = nI (40 * l + i) := by rw [ni_lit 40, pk_mul, nI_add]
        refine ⟨fun h => absurd ((ni_le (by omega) (by omega)).mp h) (by omega), fun _ => ?_⟩
        rw [hx, ni_cl (by omega), t4 i (by omega), e_X10_isEvent]
        simp only [bi_z, Classical.not_not]
        have nx := ih (nI (lostN (lgF S l) (i + 1)), M') ⟨rfl, rfl⟩
        refine ⟨(ni_in (by omega)).mpr (by omega), fun h => ?_, fun h => ?_⟩
        · rintro _ rfl
          rw [nI_1, nI_1]
          have e1 : lgF S l i = -1 := lgE_m.mpr h
          simp only [lostN, e1, if_true] at nx; exact nx
        · rintro _ rfl
          rw [nI_1, ni_0, nI_add]
          have e1 : ¬ lgF S l i = -1 := fun q => (lgE_m.mp q) h
          simp only [lostN, e1, if_false] at nx; exact nx
    · simp only [Classical.not_not.mp a, b, if_true, if_false] at hQ; exact hQ _ (hI.fnd 2) frR1
theorem S_log {S : Mem} (h : SOK S) (c s n : Int32) : SOK (n_log S c s n) := by
  unfold n_log
  by_cases q : (0 ≤ c ∧ c ≤ S 660 0 0 - 1) ∧ (0 ≤ s ∧ s ≤ 3) ∧ (0 ≤ n ∧ n ≤ 12)
  · rw [if_pos q]
    by_cases g : S 551 s.toNatClampNeg 0 = 0
    · rw [if_pos g]
      by_cases x : n ≤ S 553 s.toNatClampNeg 0
      · rw [if_pos x]
        by_cases y : lostN (lgF S s.toNatClampNeg) n.toNatClampNeg ≤ 3
        · rw [if_pos y]
          obtain ⟨m, hm, rfl⟩ := ni_ofle (n := 12) (by decide) q.2.2.1 q.2.2.2
          rw [ni_cl (show m < 2147483648 by omega)] at y ⊢
          refine h.upd 2 (Or.inr ⟨by simp [mst_ne, mfn_ne], by simp [mst_ne, mfn_ne]⟩) (by simp [mst_ne, mfn_ne]) (Or.inl rfl) (Or.inr (by simp [mst_ne, mfn_ne])) (Or.inr (by simp [mst_ne, mfn_ne])) (Or.inr (by simp [mst_ne, mfn_ne])) (fun e => by cases e) (fun _ c' hc' => ?_) (fun e => by cases e) (fun e => by cases e) (fun e => by cases e)
          obtain ⟨p1, p2, p3, p4, p5, p6, p7⟩ := h.c hc'
          unfold pC
          have ne : ∀ q, q ≠ 20 → q ≠ 202 → mfn (mst S 202 c.toNatClampNeg 0 (nI m)) 20 c.toNatClampNeg m (lgF S s.toNatClampNeg) q = S q := fun q h1 h2 => by rw [mfn_ne h1, mst_ne h2]
          rw [ne 200 (by decide) (by decide), ne 204 (by decide) (by decide), ne 205 (by decide) (by decide), ne 206 (by decide) (by decide), ne 207 (by decide) (by decide), ne 208 (by decide) (by decide)]
          by_cases e : c' = c.toNatClampNeg
          · subst e
            refine ⟨p1, ⟨m, hm, by rw [mfn_ne (by decide), mst_eq]⟩, fun i => ?_, ?_, p5, p6, p7⟩
            · rw [mfn_k]
              split
              · exact lgE_r _
              · rw [mst_ne (by decide)]; exact p3 i
            · unfold clost cln
              rw [mfn_ne (show 202 ≠ 20 by decide), mst_eq, ni_cl (by omega)]
              rw [lostN_congr (g := lgF S s.toNatClampNeg) (fun i hi => by rw [mfn_k, if_pos ⟨rfl, hi⟩])]
              exact y
          · have e202 : mfn (mst S 202 c.toNatClampNeg 0 (nI m)) 20 c.toNatClampNeg m (lgF S s.toNatClampNeg) 202 c' 0 = S 202 c' 0 := by rw [mfn_ne (by decide), mst_k, if_neg (fun q => e q.1)]
            have e20 : mfn (mst S 202 c.toNatClampNeg 0 (nI m)) 20 c.toNatClampNeg m (lgF S s.toNatClampNeg) 20 c' = S 20 c' := by funext i; rw [mfn_k, if_neg (fun q => e q.1), mst_ne (by decide)]
            unfold clost cln
            rw [e202, e20]
            exact ⟨p1, p2, p3, p4, p5, p6, p7⟩
        · rw [if_neg y]; exact h
      · rw [if_neg x]; exact h.fnd _
    · rw [if_neg g]; exact h.fnd _
  · rw [if_neg q]; exact h
