/-! THE CLASS JUDGES: all FILLS -/
theorem p_X2_judge {t : Nat} {S M : Mem} (hS : SOK S) (hI : InvC t S M) {c : Nat} (hc : c < nc S) (hMx : MxC S M (cvr S c) (cvr S c) 0) (h6 : M 609 (cvr S c) 0 = 1) {Q : Mem → Prop} (hQ : ∀ M1, (∀ k, k ∉ jdk ++ [21, 210, 211] → M1 k = M k) → onlyC c M M1 → JCok S M1 c → Q M1) : wp_X2_judge c M Q := by
  have hl := hS.lo hc
  have h512 := p8_512 hl
  obtain ⟨v1, v2⟩ := hS.cv hc
  unfold wp_X2_judge
  refine p_X2_begin hS hI.1 hc (fun M1 hF1 hFI1 => ?_)
  have hI1 : InvC t S M1 := hI.keep (fun k q => hF1 k (by revert q; revert k; decide))
  have e401 : (M1 401 0 0).toNatClampNeg = cvr S c := by rw [hF1 401 (by decide), hMx.2.1.1, ni_cl (by omega)]
  rw [e401]
  refine p_X2_findLikeEvents hS hI1 v1 (by rw [hF1 609 (by decide)]; exact h6) (fun M2 le hF2 hLe => ?_)
  have hFI2 : FI S M2 c := hFI1.keep (fun k q => hF2 k (fun e => absurd (e ▸ q) (by decide)))
  rintro _ rfl
  have e3 : (3 : Int32) * nI (clost S c) = nI (3 * clost S c) := pk_mul ..
  rw [hFI2.1.2, e3, sh_1 (by omega), Nat.pow_mul]
  refine p_fill (by decide) ⟨(ni_in (a := 0) (by decide)).mpr (by decide), ?_⟩
  have a21 : alen 21 = 4 := by decide
  have c0 : (0 : Int32).toNatClampNeg = 0 := rfl
  rw [a21, c0]
  rintro _ rfl _ rfl
  generalize hm0 : mst (mst (mfl M2 21 c 0 4 0) 21 c 0 (nI ((2 ^ 3) ^ clost S c))) 210 c 0 0 = m0
  have g0 : ∀ k, k ≠ 21 → k ≠ 210 → m0 k = M2 k := fun k q1 q2 => by rw [← hm0, mst_ne q2, mst_ne q1, mfl_ne q1]
  have g21 : ∀ j x, m0 21 j x = if j = c ∧ x = 0 then nI (8 ^ clost S c) else if j = c ∧ (0 ≤ x ∧ x < 0 + 4) then 0 else M2 21 j x := fun j x => by
    rw [← hm0, mst_ne (by decide), mst_k, mfl_k]
  have fr : ∀ k, k ∉ jdk ++ [21, 210, 211] → m0 k = M k := fun k q => by
    rw [g0 k (fun e => q (by rw [e]; decide)) (fun e => q (by rw [e]; decide)), hF2 k (fun e => q (by rw [e]; decide)), hF1 k (fun e => q (List.mem_append_left _ (List.mem_append_left _ e)))]
  have hJ0 : JdI S c le M 0 m0 := by
    refine ⟨fr, fun k hk j hj => ?_, hFI2.keep (fun k q => g0 k (fun e => absurd (e ▸ q) (by decide)) (fun e => absurd (e ▸ q) (by decide))), fun e he => ?_, fun f hf => absurd hf (Nat.not_lt_zero _), ?_, fun w hw1 hw3 => ?_, ?_⟩
    · simp only [List.mem_cons, List.not_mem_nil, or_false] at hk
      rcases hk with rfl | rfl | rfl
      · funext x
        rw [g21, if_neg (fun q => hj q.1), if_neg (fun q => hj q.1), hF2 21 (by decide), hF1 21 (by decide)]
      · funext x
        rw [← hm0, mst_k, if_neg (fun q => hj q.1), mst_ne (by decide), mfl_ne (by decide), hF2 210 (by decide), hF1 210 (by decide)]
      · rw [g0 211 (by decide) (by decide), hF2 211 (by decide), hF1 211 (by decide)]
    · rw [g0 29 (by decide) (by decide)]; exact hLe e he
    · rw [g21, if_pos ⟨rfl, rfl⟩]
    · rw [g21, if_neg (fun q => by omega), if_pos ⟨rfl, by omega, by omega⟩]; rfl
    · rw [← hm0, mst_eq]; rfl
  have e84 : (2 ^ 3) ^ clost S c = 8 ^ clost S c := rfl
  rw [e84]
  clear hm0 g21
  refine pk_loop (fun g i (m : Mem) => w_X2_judge_45 Q g c (nI (8 ^ clost S c)) (nI i) m) (fun i m => JdI S c le M i m) (8 ^ clost S c) 0 m0 (Nat.zero_le _) hJ0 ?_ ?_
  · rintro g m ⟨j1, j2, j3, j4, j5, j6, j7, j8⟩
    unfold w_X2_judge_45
    refine ⟨fun _ => ?_, fun q => absurd ((ni_le (by omega) (by omega)).mpr (Nat.le_refl _)) q⟩
    refine p_X2_fewestPages hl j3.1.2 j5 (fun m2 hF => ?_)
    rintro _ rfl
    refine hQ _ (fun k q => ?_) (fun k hk j hj => ?_) ⟨fun w hw => ?_, ?_, mst_eq⟩
    · rw [mst_ne (fun e => q (by rw [e]; decide)), hF k (fun e => q (by rw [e]; decide)), j1 k q]
    · simp only [List.mem_cons, List.not_mem_nil, or_false] at hk
      rcases hk with rfl | rfl | rfl
      · rw [mst_ne (by decide), hF 21 (by decide)]; exact j2 21 (by decide) j hj
      · rw [mst_ne (by decide), hF 210 (by decide)]; exact j2 210 (by decide) j hj
      · funext x
        rw [mst_k, if_neg (fun q => hj q.1), hF 211 (by decide), j2 211 (by decide) j hj]
    · rw [mst_ne (by decide), hF 21 (by decide)]
      unfold talCa
      by_cases w0 : w = 0
      · rw [if_pos w0, w0]; exact j6
      · rw [if_neg w0, j7 w (by omega) (by omega)]
        unfold tly cC
        rw [rsum_rv (g := fun f => causeF S c f / 2 ^ (w - 1) % 2) hl]
    · rw [mst_ne (by decide), hF 210 (by decide), j8]
      unfold allCa cC
      rw [ror_rv (g := fun f => causeF S c f) hl]
  · rintro g i m hi hJ ih
    have hJ' := hJ
    obtain ⟨j1, j2, j3, j4, j5, j6, j7, j8⟩ := hJ'
    have hle : ∀ e, e < 8 → le e ≤ e := fun e he => (j4 e he).2.1
    have hlf := lfN_le (f := i) hle (n := clost S c)
    rw [Nat.mod_eq_of_lt hi] at hlf
    have hlc : cC S c (lfN le i (clost S c)) = cC S c i := lf_cause hS hc (fun e he => ⟨(j4 e he).2.1, (j4 e he).2.2⟩)
    unfold w_X2_judge_45
    refine ⟨fun q => absurd ((ni_le (by omega) (by omega)).mp q) (by omega), fun _ => ?_⟩
    refine p_X2_likeFill hl (by omega) j3.1.2 j4 ⟨fun q => ?_, fun q => ?_⟩
    · have hMxm : MxC S m (cvr S c) (cvr S c) 0 := hMx.keep (fun k q => j1 k (by revert q; revert k; decide))
      refine p_X2_causesOfRow hS hc (by omega) (by rw [j1 204 (by decide)]; exact hI.1.k 204) (by rw [j1 205 (by decide)]; exact hI.1.k 205) hMxm j3 (fun m2 hF hFI => ?_)
      refine p_judge84 hl hi (M := M) (le := le) ⟨fun k q => (hF k (fun e => q (List.mem_append_left _ (List.mem_append_left _ e)))).trans (j1 k q), fun k hk j hj => ?_, hFI, fun e he => ?_, fun f hf => ?_, ?_, fun w h1 h3 => ?_, ?_⟩ (fun m' hJ' => ih m' hJ')
      · rw [hF k (by revert hk; revert k; decide)]; exact j2 k hk j hj
      · rw [hF 29 (by decide)]; exact j4 e he
      · rw [hF 30 (by decide)]; exact j5 f hf
      · rw [hF 21 (by decide)]; exact j6
      · rw [hF 21 (by decide)]; exact j7 w h1 h3
      · rw [hF 210 (by decide)]; exact j8
    · have hlt : lfN le i (clost S c) < i := by
        have : ¬ i ≤ lfN le i (clost S c) := fun z => q ((ni_le (by omega) (by omega)).mpr z)
        omega
      refine ⟨(ni_in (by omega)).mpr (by omega), ?_⟩
      rw [ni_cl (by omega), j5 _ hlt, hlc]
      exact p_judge84 hl hi hJ (fun m' hJ' => ih m' hJ')
