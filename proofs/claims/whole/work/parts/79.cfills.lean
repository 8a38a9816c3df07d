/-! FILLS, CAUSES, SETTLING: the class -/
theorem p_X9_judge {t : Nat} {S M : Mem} (hS : SOK S) (hI : InvC t S M) {c : Nat} (hc : c < nc S) {Q : Mem → Prop} (hQ : ∀ M1, InvC t S M1 → FrC M M1 → JCok S M1 c → Q M1) : wp_X9_judge c M Q := by
  obtain ⟨v1, v2⟩ := hS.cv hc
  unfold wp_X9_judge
  rw [e_X9_versionAt, hI.1.k 200, v2, at4_some v1 rfl]
  refine ⟨fun z => by (cases z), fun j z => ?_⟩
  cases z
  obtain ⟨hV, k8, hk8, e8⟩ := hI.2.1 (cvr S c) v1
  obtain ⟨hJ1, hJ2⟩ := hI.2.2.1 c hc
  obtain ⟨kk, hkk, ekk⟩ := hV.2
  refine ⟨fun q => ?_, fun q => ?_⟩
  · rcases hJ2 with hJ2 | ⟨_, hJ2⟩
    · rw [hJ2, ekk] at q
      exact absurd q.symm (ni_nem1 (by omega))
    · exact hQ M hI FrC.rf (hJ2 q)
  · refine p_X4_set1 hS hI v1 (fun M1 hI1 hMx h6 hF1 => p_X2_judge hS hI1 hc hMx h6 (fun M2 hF2 hO hJ => ?_))
    rintro _ rfl
    have e608 : M2 608 (cvr S c) 0 = M 608 (cvr S c) 0 := by rw [hF2 608 (by decide), hF1 608 (by decide)]
    have fr : ∀ k, k ∉ jdk ++ [21, 210, 211, 212] → mst M2 212 c 0 (M2 608 (cvr S c) 0) k = M1 k := fun k q => by
      rw [mst_ne (fun e => q (by rw [e]; decide)), hF2 k (fun e => q (by
        rcases List.mem_append.mp e with e | e
        · exact List.mem_append_left _ e
        · refine List.mem_append_right _ ?_
          clear q; revert e; revert k; decide))]
    have hJ' : JCok S (mst M2 212 c 0 (M2 608 (cvr S c) 0)) c := hJ.congr ⟨rfl, rfl⟩ ⟨rfl, rfl, rfl, rfl, rfl⟩ (fun k q => by rw [mst_ne (fun e => absurd (e ▸ q) (by decide))])
    refine hQ _ ⟨fun k q => ?_, fun v hv => ⟨(hI1.2.1 v hv).1.congr rfl rfl (fun k q => ?_), ?_⟩, fun c' hc' => ?_, ?_⟩ (fun k q => ?_) hJ'
    · rw [fr k (by revert q; revert k; decide)]; exact hI1.1 k q
    · rw [fr k (by revert q; revert k; decide)]
    · rw [fr 608 (by decide)]; exact (hI1.2.1 v hv).2
    · by_cases ec : c' = c
      · subst ec
        refine ⟨by rw [fr 203 (by decide)]; exact (hI1.2.2.1 c' hc').1, Or.inr ⟨⟨kk, kk, Nat.le_refl _, hkk, ?_, ?_⟩, fun _ => hJ'⟩⟩
        · rw [mst_eq, e608]; exact ekk
        · rw [fr 608 (by decide), hF1 608 (by decide)]; exact ekk
      · refine (hI1.2.2.1 c' hc').congr ⟨rfl, rfl⟩ ⟨rfl, rfl, rfl, rfl, rfl⟩ (fun k q => ?_) (fr 608 (by decide))
        simp only [List.mem_cons, List.not_mem_nil, or_false] at q
        rcases q with rfl | rfl | rfl | rfl | rfl
        · rw [fr 203 (by decide)]
        · funext x
          rw [mst_k, if_neg (fun q => ec q.1), hF2 212 (by decide)]
        · rw [mst_ne (by decide)]; exact hO 21 (by decide) c' ec
        · rw [mst_ne (by decide)]; exact hO 210 (by decide) c' ec
        · rw [mst_ne (by decide)]; exact hO 211 (by decide) c' ec
    · exact hI1.2.2.2.congr ⟨rfl, rfl⟩ (fun k q => fr k (by revert q; revert k; decide))
    · rw [fr k (fun z => (nrefk (by clear q; revert z; revert k; decide)) q), hF1 k (fun z => (nrefk (by clear q; revert z; revert k; decide)) q)]
theorem C_fills {t : Nat} {S M : Mem} (hS : SOK S) (hI : InvC t S M) (c w : Int32) {Q : Int32 → Mem → Prop} (hQ : ∀ M1, InvC (t + 1) S M1 → FrC M M1 → Q (a_fills S c w) M1) : wp_X9_fills c w M Q := by
  unfold wp_X9_fills
  rw [e_X9_counterAt]
  unfold a_fills at hQ
  rcases atC_cases hS hI.1 c with ⟨h1, h2⟩ | ⟨k, hk, rfl, h1, h2⟩
  · rw [h1]; unfold okC at h2
    rw [if_neg (fun z => h2 z.1)] at hQ
    exact ⟨fun _ => hQ M hI.more FrC.rf, fun j e => by (cases e)⟩
  · rw [h1]; unfold okC at h2
    refine ⟨fun e => by (cases e), fun j e => ?_⟩
    cases e
    refine ⟨fun q => ?_, fun q => ⟨fun q2 => ?_, fun q2 => ?_⟩⟩
    · rw [if_neg (fun z => absurd z.2.1 (by grind))] at hQ
      exact hQ M hI.more FrC.rf
    · have hw : 0 ≤ w ∧ w ≤ 3 := ⟨by grind, q2⟩
      rw [if_pos ⟨h2, hw⟩, cn_cl hS hk] at hQ
      obtain ⟨x, hx, rfl⟩ := ni_ofle (n := 3) (by decide) hw.1 hw.2
      rw [ni_cl (show x < 2147483648 by omega)] at hQ
      refine p_X9_judge hS hI hk (fun M1 hI1 hF hJ => ⟨(ni_in (by omega)).mpr (by omega), ?_⟩)
      rw [ni_cl (by omega), hJ.1 x (by omega)]
      exact hQ M1 hI1.more hF
    · rw [if_neg (fun z => q2 z.2.2)] at hQ
      exact hQ M hI.more FrC.rf
theorem C_causes {t : Nat} {S M : Mem} (hS : SOK S) (hI : InvC t S M) (c : Int32) {Q : Int32 → Mem → Prop} (hQ : ∀ M1, InvC (t + 1) S M1 → FrC M M1 → Q (a_causes S c) M1) : wp_X9_causes c M Q := by
  unfold wp_X9_causes
  rw [e_X9_counterAt]
  unfold a_causes at hQ
  rcases atC_cases hS hI.1 c with ⟨h1, h2⟩ | ⟨k, hk, rfl, h1, h2⟩
  · rw [h1]; unfold okC at h2
    rw [if_neg h2] at hQ
    exact ⟨fun _ => hQ M hI.more FrC.rf, fun j e => by (cases e)⟩
  · rw [h1]; unfold okC at h2
    refine ⟨fun e => by (cases e), fun j e => ?_⟩
    cases e
    rw [if_pos h2, cn_cl hS hk] at hQ
    refine p_X9_judge hS hI hk (fun M1 hI1 hF hJ => ?_)
    rw [hJ.2.1]
    exact hQ M1 hI1.more hF
theorem allCa_8 {S : Mem} {c : Nat} : allCa S c < 8 := by
  have : ∀ n, (List.range n).foldl (fun a f => a ||| causeF S c f) 0 < 2 ^ 3 := by
    intro n
    induction n with
    | zero => show 0 < 2 ^ 3; decide
    | succ n ih =>
      rw [ror_s (g := fun f => causeF S c f)]
      have := causeF_7 (S := S) (c := c) (f := n)
      exact Nat.or_lt_two_pow ih (by omega)
  exact this _
theorem C_settling {t : Nat} {S M : Mem} (hS : SOK S) (hI : InvC t S M) (c w : Int32) {Q : Int32 → Mem → Prop} (hQ : ∀ M1, InvC (t + 1) S M1 → FrC M M1 → Q (a_settling S c w) M1) : wp_X9_settling c w M Q := by
  unfold wp_X9_settling
  rw [e_X9_counterAt]
  unfold a_settling at hQ
  rcases atC_cases hS hI.1 c with ⟨h1, h2⟩ | ⟨k, hk, rfl, h1, h2⟩
  · rw [h1]; unfold okC at h2
    rw [if_neg (fun z => h2 z.1)] at hQ
    exact ⟨fun _ => hQ M hI.more FrC.rf, fun j e => by (cases e)⟩
  · rw [h1]; unfold okC at h2
    refine ⟨fun e => by (cases e), fun j e => ?_⟩
    cases e
    refine ⟨fun q => ?_, fun q => ⟨fun q2 => ?_, fun q2 => ?_⟩⟩
    · rw [if_neg (fun z => absurd z.2.1 (by grind))] at hQ
      exact hQ M hI.more FrC.rf
    · have hw : 0 ≤ w ∧ w ≤ 1 := ⟨by grind, q2⟩
      rw [if_pos ⟨h2, hw⟩, cn_cl hS hk] at hQ
      refine p_X9_judge hS hI hk (fun M1 hI1 hF hJ => ?_)
      have h8 := allCa_8 (S := S) (c := k)
      have hpg : pagCa S k < 8 := by rw [pag_pg]; exact pgN_8
      have := hQ M1 hI1.more hF
      rw [hJ.2.1, hJ.2.2]
      refine ⟨fun z => ?_, fun z => ⟨fun z2 => ?_, fun z2 => p_bitC (by omega) ?_⟩⟩
      · have z' := (ni_eq (b := 0) (by omega) (by omega)).mp z
        rw [if_pos z'] at this; exact this
      · have z' : ¬ allCa S k = 0 := fun e => z (by rw [e]; rfl)
        rw [if_neg z', if_pos z2] at this; exact this
      · have z' : ¬ allCa S k = 0 := fun e => z (by rw [e]; rfl)
        rw [if_neg z', if_neg z2] at this
        rw [hI1.1.k 206]; exact this
    · rw [if_neg (fun z => q2 z.2.2)] at hQ
      exact hQ M hI.more FrC.rf
