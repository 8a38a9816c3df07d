/-! PARTING, EVENT: the class -/
def ick2 : List Nat := esk ++ [609, 608, 607, 46, 47, 48, 45, 44, 203, 212, 21, 210, 211]
theorem InvC.soc {t : Nat} {S M M' : Mem} (h : InvC t S M) (hk : ∀ k, k ∈ ick2 → M' k = M k) (hs : SOC S M') : InvC t S M' := by
  obtain ⟨h1, h2, h3, h4⟩ := h
  refine ⟨fun k q => (hk k (List.mem_append_left _ q)).trans (h1 k q), fun v hv => ⟨(h2 v hv).1.congr rfl rfl (fun k q => ?_), ?_⟩, fun c hc => (h3 c hc).congr ⟨rfl, rfl⟩ ⟨rfl, rfl, rfl, rfl, rfl⟩ (fun k q => ?_) (hk 608 (by decide)), hs⟩
  · rw [hk k (by revert q; revert k; decide)]
  · rw [hk 608 (by decide)]; exact (h2 v hv).2
  · rw [hk k (by revert q; revert k; decide)]
theorem mx_n {v o ls : Nat} (hv : v < 4) (ho : o < 4) (hl : ls < 65536) : ((nI ls <<< ((4 : Int32) &&& 31)) ||| (nI o <<< ((2 : Int32) &&& 31))) ||| nI v = nI (ls * 16 + o * 4 + v) := by
  rw [ni_lit 4, ni_lit 2, sh_l (by decide) (by omega), sh_l (by decide) (by omega), fa_or, fa_or]
  congr 1
  rw [show ls * 2 ^ 4 = 2 ^ 4 * ls by omega, ← Nat.two_pow_add_eq_or_of_lt (show o * 2 ^ 2 < 2 ^ 4 by omega), show 2 ^ 4 * ls + o * 2 ^ 2 = 2 ^ 2 * (4 * ls + o) by omega, ← Nat.two_pow_add_eq_or_of_lt (show v < 2 ^ 2 by omega)]
def skk : List Nat := fnk ++ [662, 663]
theorem p_X9_seekParting {t : Nat} {S M : Mem} (hS : SOK S) (hI : InvC t S M) {v o ls : Nat} (hMx : MxC S M v o ls) {Q : Int32 → Mem → Prop} (hQ : ∀ r M1, InvC t S M1 → (∀ k, k ∉ skk → M1 k = M k) → fnO (mixA (vA S v) (vA S o) ls) 5 r M1 → Q r M1) : wp_X9_seekParting (nI v) (nI o) (nI ls) M Q := by
  obtain ⟨hv, ho, hl⟩ := hMx.1
  unfold wp_X9_seekParting
  intro a1 ha
  rw [mx_n hv ho hl] at ha
  subst ha
  refine ⟨fun z => ?_, fun z => ?_⟩
  · refine hQ _ M hI (fun _ _ => rfl) ?_
    rcases hI.2.2.2 with h | ⟨v2, o2, ls2, hv2, ho2, hl2, h, hm⟩
    · rw [h] at z
      exact absurd z (ni_nem1 (by omega))
    · rw [h] at z
      have := (ni_eq (by omega) (by omega)).mp z
      obtain ⟨r1, r2, r3⟩ : v2 = v ∧ o2 = o ∧ ls2 = ls := by omega
      subst r1 r2 r3
      exact hm
  · refine p_X6_find (m := 5) hS (by decide) hMx (fun r M1 hF hO => ?_)
    rintro _ rfl _ rfl
    rw [mst_ne (show 663 ≠ 662 by decide), mst_eq]
    have h41 : mst (mst M1 663 0 0 r) 662 0 0 (nI (ls * 16 + o * 4 + v)) 41 = M1 41 := by rw [mst_ne (by decide), mst_ne (by decide)]
    have hF' : ∀ k, k ∉ skk → mst (mst M1 663 0 0 r) 662 0 0 (nI (ls * 16 + o * 4 + v)) k = M k := fun k q => by
      rw [mst_ne (fun z => q (by rw [z]; decide)), mst_ne (fun z => q (by rw [z]; decide))]
      exact hF k (fun z => q (List.mem_append_left _ z))
    have hO' : fnO (mixA (vA S v) (vA S o) ls) 5 r (mst (mst M1 663 0 0 r) 662 0 0 (nI (ls * 16 + o * 4 + v))) := by
      unfold fnO at hO ⊢
      rw [h41]; exact hO
    refine hQ r _ (hI.soc (fun k q => hF' k (by revert q; revert k; decide)) (Or.inr ⟨v, o, ls, hv, ho, hl, mst_eq, ?_⟩)) hF' hO'
    rw [h41, mst_ne (show 663 ≠ 662 by decide), mst_eq]
    exact hO
theorem C_parting {t : Nat} {S M : Mem} (hS : SOK S) (hI : InvC t S M) (v o ls : Int32) {Q : Int32 → Mem → Prop} (hQ : ∀ M1, InvC (t + 1) S M1 → FrC M M1 → Q (a_parting S v o ls) M1) : wp_X9_parting v o ls M Q := by
  unfold wp_X9_parting
  unfold a_parting at hQ
  refine p_X9_setMix hS hI (fun h => ?_) (fun v' o' l' M1 e1 e2 e3 h hI1 hMx hF1 => ?_)
  · rw [if_neg h] at hQ
    exact ⟨fun _ => hQ M hI.more FrC.rf, fun z => absurd rfl z⟩
  · rw [if_pos h] at hQ
    subst e1 e2 e3
    obtain ⟨hv, ho, hl⟩ := hMx.1
    rw [ni_cl (show v' < 2147483648 by omega), ni_cl (show o' < 2147483648 by omega), ni_cl (show l' < 2147483648 by omega)] at hQ
    refine ⟨fun z => absurd z (by decide), fun _ => ?_⟩
    refine p_X9_seekParting hS hI1 hMx (fun r M2 hI2 hF2 hO => ?_)
    have fr : FrC M M2 := fun k q => (hF2 k (fun z => (nrefk (by clear q; revert z; revert k; decide)) q)).trans (hF1 k (fun z => (nrefk (by clear q; revert z; revert k; decide)) q))
    have := hQ M2 hI2.more fr
    unfold fnO at hO
    unfold lpI at this
    cases e : lpS (mixA (vA S v') (vA S o') l') 5 with
    | none => rw [e] at this hO; dsimp only at this hO; rw [hO]; exact this
    | some p =>
      obtain ⟨n, f⟩ := p
      rw [e] at this hO; dsimp only at this hO; rw [hO.1]; exact this
theorem C_event {t : Nat} {S M : Mem} (hS : SOK S) (hI : InvC t S M) (v o ls i : Int32) {Q : Int32 → Mem → Prop} (hQ : ∀ M1, InvC (t + 1) S M1 → FrC M M1 → Q (a_event S v o ls i) M1) : wp_X9_event v o ls i M Q := by
  unfold wp_X9_event
  unfold a_event at hQ
  refine ⟨fun hi => ?_, fun hi => ?_⟩
  · rw [if_neg (fun z => absurd z.2 (by grind))] at hQ
    exact hQ M hI.more FrC.rf
  · have hi0 : 0 ≤ i := by grind
    refine p_X9_setMix hS hI (fun h => ?_) (fun v' o' l' M1 e1 e2 e3 h hI1 hMx hF1 => ?_)
    · rw [if_neg (fun z => h z.1)] at hQ
      exact ⟨fun _ => hQ M hI.more FrC.rf, fun z => absurd rfl z⟩
    · rw [if_pos ⟨h, hi0⟩] at hQ
      subst e1 e2 e3
      obtain ⟨hv, ho, hl⟩ := hMx.1
      rw [ni_cl (show v' < 2147483648 by omega), ni_cl (show o' < 2147483648 by omega), ni_cl (show l' < 2147483648 by omega)] at hQ
      refine ⟨fun z => absurd z (by decide), fun _ => ?_⟩
      refine p_X9_seekParting hS hI1 hMx (fun r M2 hI2 hF2 hO => ?_)
      have fr : FrC M M2 := fun k q => (hF2 k (fun z => (nrefk (by clear q; revert z; revert k; decide)) q)).trans (hF1 k (fun z => (nrefk (by clear q; revert z; revert k; decide)) q))
      have := hQ M2 hI2.more fr
      unfold fnO at hO
      unfold evI at this
      cases e : lpS (mixA (vA S v') (vA S o') l') 5 with
      | none =>
        rw [e] at this hO; dsimp only at this hO; rw [hO]
        exact ⟨fun _ => this, fun z => absurd (by grind) z⟩
      | some p =>
        obtain ⟨n, f⟩ := p
        rw [e] at this hO; dsimp only at this hO
        have hn := lpS_n e
        rw [hO.1]
        refine ⟨fun z => ?_, fun z => ?_⟩
        · rw [if_pos z] at this; exact this
        · rw [if_neg z] at this
          obtain ⟨j, hj, rfl⟩ := ni_of (n := n) (x := i) (by omega) hi0 (by grind)
          refine ⟨fun q => absurd ((ni_le (a := 5) (by omega) (by omega)).mp q) (by omega), fun _ => ⟨(ni_in (by omega)).mpr (by omega), ?_⟩⟩
          rw [ni_cl (by omega)] at this ⊢
          rw [hO.2 j hj]; exact this
