/-! A MIX IS SET -/
theorem p_X4_set {t : Nat} {S M : Mem} (hS : SOK S) (hI : InvC t S M) {v o ls : Nat} (hv : v < 4) (ho : o < 4) (hls : ls < 65536) {Q : Mem → Prop} (hQ : ∀ M1, InvC t S M1 → MxC S M1 v o ls → (∀ k, k ∉ rdk ++ [401, 402, 403] → M1 k = M k) → Q M1) : wp_X4_set v o (nI ls) M Q := by
  unfold wp_X4_set
  refine p_X8_read hS hI hv (fun M1 hI1 h1 _ hF1 => p_X8_read hS hI1 ho (fun M2 hI2 h2 hO hF2 => ?_))
  have h1' : M2 609 v 0 = 1 := by
    by_cases e : v = o
    · rw [e]; exact h2
    · rw [hF2.2 609 v e]; exact h1
  have hV := hI2.ok hv h1'
  rintro _ rfl _ rfl _ rfl
  have fr : ∀ k, k ∉ [401, 402, 403] → mst (mst (mst M2 401 0 0 (nI v)) 402 0 0 (nI o)) 403 0 0 (nI ls) k = M2 k := fun k hk => by
    simp only [List.mem_cons, List.not_mem_nil, or_false, not_or] at hk
    rw [mst_ne hk.2.2, mst_ne hk.2.1, mst_ne hk.1]
  refine hQ _ (hI2.keep (fun k q => fr k (fun z => ?_))) ⟨⟨hv, ho, hls⟩, ⟨by rw [mst_ne (by decide), mst_ne (by decide), mst_eq], by rw [mst_ne (by decide), mst_eq], by rw [mst_eq]⟩, ?_, ?_⟩ (fun k hk => ?_)
  · revert z; revert q; revert k; unfold ick esk; decide
  · simp only [VCok, fr 607 (by decide), fr 46 (by decide), fr 47 (by decide), fr 48 (by decide), fr 45 (by decide), fr 44 (by decide)]; exact hV
  · simp only [VCok, fr 607 (by decide), fr 46 (by decide), fr 47 (by decide), fr 48 (by decide), fr 45 (by decide), fr 44 (by decide)]; exact hO
  · have a : k ∉ rdk := fun z => hk (List.mem_append_left _ z)
    have b : k ∉ [401, 402, 403] := fun z => hk (List.mem_append_right _ z)
    exact (fr k b).trans ((hF2.1 k a).trans (hF1.1 k a))
abbrev okM (v o ls : Int32) : Prop := (0 ≤ v ∧ v ≤ 3) ∧ (0 ≤ o ∧ o ≤ 3) ∧ (0 ≤ ls ∧ ls ≤ 65535)
theorem p_X9_setMix {t : Nat} {S M : Mem} (hS : SOK S) (hI : InvC t S M) {v o ls : Int32} {Q : Int32 → Mem → Prop} (h0 : ¬ okM v o ls → Q 0 M) (hQ : ∀ v' o' ls' M1, v = nI v' → o = nI o' → ls = nI ls' → okM v o ls → InvC t S M1 → MxC S M1 v' o' ls' → (∀ k, k ∉ rdk ++ [401, 402, 403] → M1 k = M k) → Q 1 M1) : wp_X9_setMix v o ls M Q := by
  unfold wp_X9_setMix
  simp only [e_X9_versionAt]
  rcases at4_cases v with ⟨h1, h2⟩ | ⟨k, hk, rfl, h1, h2⟩
  · rw [h1]
    have := h0 (fun z => h2 z.1)
    exact ⟨fun _ => ⟨fun _ => this, fun _ _ => this⟩, fun j e => by cases e⟩
  · rw [h1]
    refine ⟨fun e => by (cases e), fun j e => ?_⟩
    cases e
    rcases at4_cases o with ⟨g1, g2⟩ | ⟨l, hl, rfl, g1, g2⟩
    · rw [g1]
      have := h0 (fun z => g2 z.2.1)
      exact ⟨fun _ => this, fun j e => by cases e⟩
    · rw [g1]
      refine ⟨fun e => by (cases e), fun j e => ?_⟩
      cases e
      refine ⟨fun a => h0 (fun z => by have := z.2.2.1; grind), fun a => ⟨fun b => ?_, fun b => h0 (fun z => b z.2.2.2)⟩⟩
      have a' : 0 ≤ ls := by grind
      obtain ⟨m, hm, rfl⟩ := ni_ofle (n := 65535) (by decide) a' b
      exact p_X4_set hS hI hk hl (by omega) (fun M1 hI1 hM hF => hQ k l m M1 rfl rfl rfl ⟨h2, g2, a', b⟩ hI1 hM hF)
theorem p_X10_mixes {S M : Mem} (hS : SOK S) (hI : InvR S M) {v o ls : Nat} (hv : v < 4) (ho : o < 4) (hls : ls < 65536) {Q : Mem → Prop} (hQ : ∀ M1, InvR S M1 → MxR S M1 v o ls → (∀ k, k ∉ rvk ++ [716, 717, 718] → M1 k = M k) → Q M1) : wp_X10_mixes (nI v) (nI o) (nI ls) M Q := by
  unfold wp_X10_mixes
  rintro _ rfl _ rfl _ rfl
  have fr : ∀ k, k ∉ [716, 717, 718] → mst (mst (mst M 716 0 0 (nI v)) 717 0 0 (nI o)) 718 0 0 (nI ls) k = M k := fun k hk => by
    simp only [List.mem_cons, List.not_mem_nil, or_false, not_or] at hk
    rw [mst_ne hk.2.2, mst_ne hk.2.1, mst_ne hk.1]
  have hI0 : InvR S (mst (mst (mst M 716 0 0 (nI v)) 717 0 0 (nI o)) 718 0 0 (nI ls)) := hI.keep (fun k q => fr k (by revert q; revert k; decide))
  refine p_X10_reads hS hI0 hv (fun M1 hI1 h1 _ hF1 => p_X10_reads hS hI1 ho (fun M2 hI2 h2 hO hF2 => ?_))
  have h1' : M2 55 0 v = 1 := by
    by_cases e : v = o
    · rw [e]; exact h2
    · rw [((hF2.2 v hv e).1).1]; exact h1
  have e : ∀ k, k ∉ rvk → M2 k = mst (mst (mst M 716 0 0 (nI v)) 717 0 0 (nI o)) 718 0 0 (nI ls) k := fun k hk => (hF2.1 k hk).trans (hF1.1 k hk)
  refine hQ M2 hI2 ⟨⟨hv, ho, hls⟩, ⟨by rw [e 716 (by decide), mst_ne (by decide), mst_ne (by decide), mst_eq], by rw [e 717 (by decide), mst_ne (by decide), mst_eq], by rw [e 718 (by decide), mst_eq]⟩, hI2.ok hv h1', hI2.ok ho h2⟩ (fun k hk => ?_)
  exact (e k (fun z => hk (List.mem_append_left _ z))).trans (fr k (fun z => hk (List.mem_append_right _ z)))
theorem p_X10_begins {M : Mem} {Q : Mem → Prop} (hQ : ∀ M1, StR M1 s0 0 → (∀ k, k ∉ gsk → M1 k = M k) → Q M1) : wp_X10_begins M Q := by
  unfold wp_X10_begins
  refine pk_loop (fun f i (z : Mem) => w_X10_begins_2 Q f (nI i) z) (fun i z => (∀ k, k < i → z 62 0 k = 0) ∧ ∀ k, k ≠ 62 → z k = M k) 3 0 M (by decide) ⟨fun k z => absurd z (Nat.not_lt_zero _), fun _ _ => rfl⟩ ?_ ?_
  · rintro f z ⟨h1, h2⟩
    refine ⟨fun _ => ?_, fun q => absurd ((ni_le (a := 3) (b := 3) (by omega) (by omega)).mpr (Nat.le_refl _)) q⟩
    rintro _ rfl _ rfl
    refine hQ _ ⟨fun k hk => ?_, by rw [mst_ne (by decide), mst_eq]; rfl, by rw [mst_eq]; rfl⟩ (fun k hk => ?_)
    · rw [mst_ne (by decide), mst_ne (by decide), h1 k hk]
      have : k = 0 ∨ k = 1 ∨ k = 2 := by omega
      rcases this with rfl | rfl | rfl <;> rfl
    · rw [mst_ne (fun e => hk (by subst e; decide)), mst_ne (fun e => hk (by subst e; decide))]
      exact h2 k (fun e => hk (by subst e; decide))
  · rintro f i z hi ⟨h1, h2⟩ ih
    refine ⟨fun q => absurd ((ni_le (a := 3) (by omega) (by omega)).mp q) (by omega), fun _ => ⟨(ni_in (by omega)).mpr hi, ?_⟩⟩
    rintro _ rfl
    rw [ni_cl (by omega), nI_1]
    refine ih _ ⟨fun k hk => ?_, fun k hk => by rw [mst_ne hk]; exact h2 k hk⟩
    rw [mst_k]
    by_cases e : k = i
    · rw [if_pos ⟨rfl, e⟩]
    · rw [if_neg (fun q => e q.2)]; exact h1 k (by omega)
/-! RUN -/
theorem lost0 {f : Nat → Int32} : ∀ {n : Nat}, lostN f n = 0 ↔ ∀ i, i < n → ¬ f i = -1
  | 0 => ⟨fun _ i z => absurd z (Nat.not_lt_zero _), fun _ => rfl⟩
  | n + 1 => by
    unfold lostN
    constructor
    · intro h i hi
      by_cases e : f n = -1
      · rw [if_pos e] at h; omega
      · by_cases ei : i = n
        · rw [ei]; exact e
        · rw [if_neg e] at h; exact lost0.mp h i (by omega)
    · intro h
      rw [if_neg (h n (by omega)), lost0.mpr (fun i hi => h i (by omega))]
def rwE (S : Mem) (s n : Nat) : List Nat := (List.range n).map (fun i => (S 42 s i).toNatClampNeg)
theorem rwE_s {S : Mem} {s n : Nat} : rwE S s (n + 1) = rwE S s n ++ [(S 42 s n).toNatClampNeg] := by unfold rwE; rw [List.range_succ, List.map_append]; rfl
theorem runS_a {A : Nat → List Nat} {r : List Nat} {e : Nat} : runS A (r ++ [e]) = stp A (runS A r) e := by unfold runS; rw [List.foldl_append]; rfl
theorem drw_a {r : List Nat} {e : Nat} : drw (r ++ [e]) = drw r + coin e := by unfold drw; rw [List.map_append, List.sum_append]; simp
theorem drw_l : ∀ (r : List Nat), -(r.length : Int) ≤ drw r ∧ drw r ≤ r.length
  | [] => by simp [drw]
  | e :: r => by
    have h := drw_l r
    have hc := coin_r e
    have : drw (e :: r) = coin e + drw r := by unfold drw; rw [List.map_cons, List.sum_cons]
    rw [this, List.length_cons]; omega
theorem runS_ok {S : Mem} {v o ls : Nat} : ∀ (r : List Nat) {s : STt}, stOk s → stOk (r.foldl (stp (mixA (vA S v) (vA S o) ls)) s)
  | [], _, h => h
  | e :: r, _, h => runS_ok r (stOk_s h)
theorem rwE_l {S : Mem} {s n : Nat} : (rwE S s n).length = n := by unfold rwE; rw [List.length_map, List.length_range]
def oRun (st : STt) (d : Int) (b : Prop) [Decidable b] (w : Int32) : Int32 := if w = 0 then iI (rgI st 0) else if w = 1 then iI (rgI st 1) else if w = 2 then iI (rgI st 2) else if w = 3 then nI st.2.2.2 else if w = 4 then iI d else if b ∧ ¬ rgI st 2 = d then 1 else 0
abbrev okR (v o ls s n w : Int32) : Prop := okM v o ls ∧ (0 ≤ s ∧ s ≤ 3) ∧ (0 ≤ n ∧ n ≤ 40) ∧ (0 ≤ w ∧ w ≤ 5)
def a_run (S : Mem) (v o ls s n w : Int32) : Int32 := if okR v o ls s n w ∧ S 551 s.toNatClampNeg 0 = 0 ∧ n ≤ S 553 s.toNatClampNeg 0 ∧ lostN (lgF S s.toNatClampNeg) n.toNatClampNeg = 0 then oRun (runS (mixA (vA S v.toNatClampNeg) (vA S o.toNatClampNeg) ls.toNatClampNeg) (rwE S s.toNatClampNeg n.toNatClampNeg)) (drw (rwE S s.toNatClampNeg n.toNatClampNeg)) (0 < n.toNatClampNeg ∧ S 42 s.toNatClampNeg (n.toNatClampNeg - 1) = 7) w else -1000
def n_run (S : Mem) (v o ls s n w : Int32) : Mem := if okR v o ls s n w then (if S 551 s.toNatClampNeg 0 = 0 then (if n ≤ S 553 s.toNatClampNeg 0 then S else mst S 661 0 0 2) else mst S 661 0 0 1) else S
theorem S_run {S : Mem} (h : SOK S) (v o ls s n w : Int32) : SOK (n_run S v o ls s n w) := by
  unfold n_run
  split
  · split
    · split
      · exact h
      · exact h.fnd _
    · exact h.fnd _
  · exact h
