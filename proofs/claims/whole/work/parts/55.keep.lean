/-! THE CLASS SEEKS: a row is kept -/
def kpM (M : Mem) (K q : Nat) (key par ev : Int32) : Mem := mst (mst (mst (mst (mst M 37 0 K key) 38 0 K par) 39 0 K ev) 505 0 0 (nI (K + 1))) 40 0 q (nI (K + 1))
theorem kpM_ne {M : Mem} {K q : Nat} {key par ev : Int32} {k : Nat} (h : k ∉ [37, 38, 39, 505, 40]) : kpM M K q key par ev k = M k := by
  simp only [List.mem_cons, List.not_mem_nil, or_false, not_or] at h
  unfold kpM
  rw [mst_ne h.2.2.2.2, mst_ne h.2.2.2.1, mst_ne h.2.2.1, mst_ne h.2.1, mst_ne h.1]
theorem kpM_37 {M : Mem} {K q i : Nat} {key par ev : Int32} : kpM M K q key par ev 37 0 i = if i = K then key else M 37 0 i := by
  unfold kpM
  rw [mst_ne (by decide), mst_ne (by decide), mst_ne (by decide), mst_ne (by decide), mst_k]
  by_cases e : i = K
  · rw [if_pos ⟨rfl, e⟩, if_pos e]
  · rw [if_neg (fun z => e z.2), if_neg e]
theorem kpM_38 {M : Mem} {K q i : Nat} {key par ev : Int32} : kpM M K q key par ev 38 0 i = if i = K then par else M 38 0 i := by
  unfold kpM
  rw [mst_ne (by decide), mst_ne (by decide), mst_ne (by decide), mst_k, mst_ne (by decide)]
  by_cases e : i = K
  · rw [if_pos ⟨rfl, e⟩, if_pos e]
  · rw [if_neg (fun z => e z.2), if_neg e]
theorem kpM_39 {M : Mem} {K q i : Nat} {key par ev : Int32} : kpM M K q key par ev 39 0 i = if i = K then ev else M 39 0 i := by
  unfold kpM
  rw [mst_ne (by decide), mst_ne (by decide), mst_k, mst_ne (by decide), mst_ne (by decide)]
  by_cases e : i = K
  · rw [if_pos ⟨rfl, e⟩, if_pos e]
  · rw [if_neg (fun z => e z.2), if_neg e]
theorem kpM_40 {M : Mem} {K q i : Nat} {key par ev : Int32} : kpM M K q key par ev 40 0 i = if i = q then nI (K + 1) else M 40 0 i := by
  unfold kpM
  rw [mst_k, mst_ne (by decide), mst_ne (by decide), mst_ne (by decide), mst_ne (by decide)]
  by_cases e : i = q
  · rw [if_pos ⟨rfl, e⟩, if_pos e]
  · rw [if_neg (fun z => e z.2), if_neg e]
theorem p_X6_keep {M : Mem} {K q : Nat} {key par ev : Int32} (hT : M 505 0 0 = nI K) (hK : K < 585) (hq : q < 1024) {Q : Mem → Prop} (hQ : Q (kpM M K q key par ev)) : wp_X6_keep (nI q) key par ev M Q := by
  unfold wp_X6_keep
  rw [hT]
  have inK : vp_in (nI K) 585 := (ni_in (by omega)).mpr hK
  refine ⟨fun _ => ⟨inK, ?_⟩, fun z => absurd ((ni_lt (b := 585) (by omega) (by omega)).mpr hK) z⟩
  rintro _ rfl
  rw [mst_ne (show 505 ≠ 37 by decide), hT]
  refine ⟨inK, ?_⟩
  rintro _ rfl
  rw [mst_ne (show 505 ≠ 38 by decide), mst_ne (show 505 ≠ 37 by decide), hT]
  refine ⟨inK, ?_⟩
  rintro _ rfl _ rfl
  refine ⟨(ni_in (by omega)).mpr hq, ?_⟩
  rintro _ rfl
  rw [mst_eq, mst_ne (show 505 ≠ 39 by decide), mst_ne (show 505 ≠ 38 by decide), mst_ne (show 505 ≠ 37 by decide), hT, nI_1, ni_cl (by omega), ni_cl (by omega)]
  exact hQ
theorem HT.keep {M : Mem} {K e : Nat} {key par ev : Int32} (hT : HT M K) (hK : K < 585) (he : e < 1024) (h0 : M 40 0 ((hsh key + e) % 1024) = 0) (hj : ∀ j, j < e → ¬ M 40 0 ((hsh key + j) % 1024) = 0) : HT (kpM M K ((hsh key + e) % 1024) key par ev) (K + 1) := by
  obtain ⟨t1, t2, t3, t4, t5⟩ := hT
  have hq : (hsh key + e) % 1024 < 1024 := Nat.mod_lt _ (by decide)
  have nz : ∀ i, i < 1024 → ¬ nI (i + 1) = 0 := fun i hi z => absurd ((ni_eq (b := 0) (by omega) (by omega)).mp z) (by omega)
  refine ⟨?_, by omega, ?_, fun q hq' => ?_, fun i hi => ?_⟩
  · unfold kpM; rw [mst_ne (by decide), mst_eq]
  · rw [cntZ_up (f := M 40 0) (q := (hsh key + e) % 1024) h0 (by rw [kpM_40, if_pos rfl]; exact nz K (by omega)) (fun i hi => by rw [kpM_40, if_neg hi]) hq, t3]
  · rw [kpM_40]
    split
    · exact Or.inr ⟨K, by omega, rfl⟩
    · rcases t4 q hq' with c | ⟨i, hi, c⟩
      · exact Or.inl c
      · exact Or.inr ⟨i, by omega, c⟩
  · rw [kpM_37]
    by_cases ei : i = K
    · subst ei
      rw [if_pos rfl]
      refine ⟨e, he, by rw [kpM_40, if_pos rfl], fun j hjj => ?_⟩
      rw [kpM_40]
      split
      · exact nz i (by omega)
      · exact hj j hjj
    · rw [if_neg ei]
      obtain ⟨e', he', p1, p2⟩ := t5 i (by omega)
      refine ⟨e', he', ?_, fun j hjj => ?_⟩
      · rw [kpM_40, if_neg (fun z => by rw [z, h0] at p1; exact nz i (by omega) p1.symm)]; exact p1
      · rw [kpM_40]
        split
        · exact nz K (by omega)
        · exact p2 j hjj
