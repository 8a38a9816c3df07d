/-! COUNTER: three cells more -/
def gnx (G : GG) (n a : Nat) : GG := (G.1, G.2.1, G.2.2.1, (fun k j => if j = n ∧ k = 0 then a else if j = n ∧ k = 20 then a + 1 else if j = n ∧ k = 21 then a + 2 else gad G k j), G.2.2.2.2)
theorem gnx_0 {G : GG} {n a : Nat} : gad (gnx G n a) 0 n = a := if_pos ⟨rfl, rfl⟩
theorem gnx_20 {G : GG} {n a : Nat} : gad (gnx G n a) 20 n = a + 1 := by
  show (if n = n ∧ 20 = 0 then a else if n = n ∧ 20 = 20 then a + 1 else _) = a + 1
  rw [if_neg (fun q => absurd q.2 (by decide)), if_pos ⟨rfl, rfl⟩]
theorem gnx_21 {G : GG} {n a : Nat} : gad (gnx G n a) 21 n = a + 2 := by
  show (if n = n ∧ 21 = 0 then a else if n = n ∧ 21 = 20 then a + 1 else if n = n ∧ 21 = 21 then a + 2 else _) = a + 2
  rw [if_neg (fun q => absurd q.2 (by decide)), if_neg (fun q => absurd q.2 (by decide)), if_pos ⟨rfl, rfl⟩]
theorem gnx_o {G : GG} {n a k j : Nat} (h : ¬ (j = n ∧ (k = 0 ∨ k = 20 ∨ k = 21))) : gad (gnx G n a) k j = gad G k j := by
  show (if j = n ∧ k = 0 then a else if j = n ∧ k = 20 then a + 1 else if j = n ∧ k = 21 then a + 2 else gad G k j) = gad G k j
  rw [if_neg (fun q => h ⟨q.1, Or.inl q.2⟩), if_neg (fun q => h ⟨q.1, Or.inr (Or.inl q.2)⟩), if_neg (fun q => h ⟨q.1, Or.inr (Or.inr q.2)⟩)]
theorem cnt_99 {k : Nat} (hk : k < 87) : (cntL.getD k 0 = 99) ↔ (k = 0 ∨ k = 20 ∨ k = 21) := by revert k; decide
theorem cnt_mid {k : Nat} (h1 : 11 ≤ k) (h2 : k < 20) (n : Nat) : cnt n k = 0 := by
  have : ∀ k, k < 20 → 11 ≤ k → cntL.getD k 0 = 0 := by decide
  unfold cnt; rw [this k h2 h1]; rfl
theorem cnt_s {n k j : Nat} (hk : k < 87) (h : j < cnt (n + 1) k) : (j = n ∧ (k = 0 ∨ k = 20 ∨ k = 21)) ∨ (¬ (j = n ∧ (k = 0 ∨ k = 20 ∨ k = 21)) ∧ j < cnt n k) := by
  unfold cnt at h ⊢
  by_cases e : cntL.getD k 0 = 99
  · rw [if_pos e] at h ⊢
    have := (cnt_99 hk).mp e
    omega
  · rw [if_neg e] at h ⊢
    exact Or.inr ⟨fun q => e ((cnt_99 hk).mpr q.2), h⟩
theorem Rep.lt {G : GG} {n : Nat} {M : Mem} {H : Heap} (hR : Rep G n M H) {k j : Nat} (hk : k < 87) (hj : j < cnt n k) : gad G k j < H.size := by
  by_cases h1 : k < 11
  · obtain ⟨cell, q, _⟩ := hR.2.2.1 k j h1 hj
    exact (Array.getElem?_eq_some_iff.mp q).1
  · by_cases h2 : k < 20
    · rw [cnt_mid (by omega) h2] at hj; omega
    · exact (Array.getElem?_eq_some_iff.mp (hR.2.2.2 k j (by omega) hk hj)).1
theorem GOK.new {G : GG} {n : Nat} {M : Mem} {H : Heap} (hG : GOK G n) (hR : Rep G n M H) (hgb : gb G ≤ H.size) : GOK (gnx G n H.size) (n + 1) := by
  have hN : ∀ k j, j = n ∧ (k = 0 ∨ k = 20 ∨ k = 21) → (k = 0 ∧ gad (gnx G n H.size) k j = H.size) ∨ (k = 20 ∧ gad (gnx G n H.size) k j = H.size + 1) ∨ (k = 21 ∧ gad (gnx G n H.size) k j = H.size + 2) := fun k j h => by
    obtain ⟨rfl, rfl | rfl | rfl⟩ := h
    · exact Or.inl ⟨rfl, gnx_0⟩
    · exact Or.inr (Or.inl ⟨rfl, gnx_20⟩)
    · exact Or.inr (Or.inr ⟨rfl, gnx_21⟩)
  refine ⟨fun k j k' j' hk hk' hj hj' e => ?_, fun k j hk hj => ?_⟩
  · rcases cnt_s hk hj with h1 | ⟨h1, h1'⟩ <;> rcases cnt_s hk' hj' with h2 | ⟨h2, h2'⟩
    · have a1 := hN k j h1
      have a2 := hN k' j' h2
      omega
    · have a1 := hN k j h1
      rw [gnx_o h2] at e
      have := hR.lt hk' h2'
      omega
    · have a2 := hN k' j' h2
      rw [gnx_o h1] at e
      have := hR.lt hk h1'
      omega
    · rw [gnx_o h1, gnx_o h2] at e
      exact hG.1 k j k' j' hk hk' h1' h2' e
  · show gb G ≤ _
    rcases cnt_s hk hj with h1 | ⟨h1, h1'⟩
    · have a1 := hN k j h1
      omega
    · rw [gnx_o h1]
      exact hG.2 k j hk h1'
theorem fk_1 : ∀ ci : Nat, ci < 11 → 0 < ci → ∀ s : Nat, s < 48 → fk ci s ≠ 2 ∧ fk ci s ≠ 22 ∧ fk ci s ≠ 23 := by decide
theorem fk_0 : ∀ s : Nat, s < 13 → (s = 1 ∧ fk 0 s = 22) ∨ (s = 9 ∧ fk 0 s = 23) ∨ (s ≠ 1 ∧ s ≠ 9 ∧ fk 0 s = 0) := by decide
theorem ek_1 : ∀ k : Nat, k < 87 → 20 ≤ k → k ≠ 50 → ek k ≠ 1 ∧ ek k ≠ 2 ∧ ek k ≠ 22 ∧ ek k ≠ 23 := by decide
theorem fv_new {G : GG} {M : Mem} {n a ci j s : Nat} {v : Int32} (hci : ci < 11) (hs : s < nsl ci) (h : ¬ (j = n ∧ ci = 0)) (h9 : ¬ (ci = 9 ∧ s = 10)) : fv (gnx G n a) (mkc M n v) ci j s = fv G M ci j s := by
  have hb := nsl_le ci hci
  by_cases h0 : ci = 0
  · subst h0
    have hj : j ≠ n := fun q => h ⟨q, rfl⟩
    have hs' : s < 13 := hs
    unfold fv
    rcases fk_0 s hs' with ⟨_, e⟩ | ⟨_, e⟩ | ⟨_, _, e⟩ <;> rw [e]
    · show Value.ref (gad (gnx G n a) 20 j) = .ref (gad G 20 j)
      rw [gnx_o (fun q => hj q.1)]
    · show Value.ref (gad (gnx G n a) 21 j) = .ref (gad G 21 j)
      rw [gnx_o (fun q => hj q.1)]
    · show Value.int (mkc M n v (200 + 50 * 0 + s) j 0) = .int (M (200 + 50 * 0 + s) j 0)
      rw [mkc_j (by omega) hj]
  · obtain ⟨f1, f2, f3⟩ := fk_1 ci hci (by omega) s (by omega)
    have eM : mkc M n v (200 + 50 * ci + s) = M (200 + 50 * ci + s) := mkc_o (by omega) (by omega)
    unfold fv
    rw [eM]
    split
    · rfl
    · show Value.ref (gad (gnx G n a) 8 _) = .ref (gad G 8 _)
      rw [gnx_o (fun q => by omega)]
    · rename_i k e
      show Value.ref (gad (gnx G n a) k j) = .ref (gad G k j)
      rw [gnx_o (fun q => by omega)]
theorem av_new {G : GG} {M : Mem} {n a k j i : Nat} {v : Int32} (h1 : 20 ≤ k) (h2 : k < 87) (h : ¬ (j = n ∧ (k = 20 ∨ k = 21))) (h50 : k ≠ 50) : av (gnx G n a) (n + 1) (mkc M n v) k j i = av G n M k j i := by
  obtain ⟨f0, f1, f2, f3⟩ := ek_1 k h2 h1 h50
  have eM : mkc M n v k j i = M k j i := by
    by_cases hk : k = 20 ∨ k = 21
    · rw [mkc_j (by omega) (fun q => h ⟨q, hk⟩)]
    · rw [mkc_o (by omega) (by omega)]
  unfold av
  rw [eM]
  split
  · rfl
  · rename_i e; exact absurd e f0
  · rename_i c e
    show Value.ref (gad (gnx G n a) c i) = .ref (gad G c i)
    rw [gnx_o (fun q => by omega)]
theorem Rep.new {G : GG} {n : Nat} {M : Mem} {H H4 : Heap} {v : Int32} (hn : n < 12) (hG : GOK G n) (hR : Rep G n M H) (hq : ∀ q : Nat, q < H.size → q ≠ gad G 50 0 → q ≠ gad G 9 0 → H4[q]? = H[q]?)
    (ha : H4[gad G 50 0]? = some (arrV (gR G 5) 12 (updV (fun i => av G n M 50 0 i) n (.ref H.size))))
    (ho : t_OB (gad G 9 0) (gC G 9) 14 (gI G 9) H4 (updV (fun s => fv G M 9 0 s) 10 (.int (nI (n + 1)))))
    (c0 : clAt G H.size (.inl (0, [.int v, .ref (H.size + 1), .int 0, .int 0, .int 0, .int 0, .int 10, .int 5, .int 1, .ref (H.size + 2), .int 0, .int 0, .int (-1)])) H4) (c1 : clAt G (H.size + 1) (.inr (0, 12, fun _ => .int 0)) H4) (c2 : clAt G (H.size + 2) (.inr (0, 4, fun _ => .int 0)) H4) : Rep (gnx G n H.size) (n + 1) (mkc M n v) H4 := by
  refine ⟨⟨mkc_c, hn⟩, by rw [mkc_o (by decide) (by decide), mkc_o (by decide) (by decide)]; exact hR.2.1, fun ci j hci hj => ?_, fun k j hk1 hk2 hj => ?_⟩
  · rcases cnt_s (by omega) hj with ⟨rfl, h1⟩ | ⟨h1, hj'⟩
    · have e0 : ci = 0 := by omega
      subst e0
      rw [gnx_0]
      refine t_OB.to c0 (fun s hs => ?_)
      have hs' : s < 13 := hs
      unfold fv
      rcases fk_0 s hs' with ⟨rfl, e⟩ | ⟨rfl, e⟩ | ⟨g1, g2, e⟩
      · rw [e]
        show Value.ref (H.size + 1) = .ref (gad (gnx G j H.size) 20 j)
        rw [gnx_20]
      · rw [e]
        show Value.ref (H.size + 2) = .ref (gad (gnx G j H.size) 21 j)
        rw [gnx_21]
      · rw [e]
        show _ = Value.int (mkc M j v (200 + 50 * 0 + s) j 0)
        rw [mkc_n (by omega)]
        clear e hs hj h1
        have : s = 0 ∨ s = 2 ∨ s = 3 ∨ s = 4 ∨ s = 5 ∨ s = 6 ∨ s = 7 ∨ s = 8 ∨ s = 10 ∨ s = 11 ∨ s = 12 := by omega
        rcases this with rfl | rfl | rfl | rfl | rfl | rfl | rfl | rfl | rfl | rfl | rfl <;> rfl
    · have hr := hR.2.2.1 ci j hci hj'
      have hl := hR.lt (by omega) hj'
      rw [gnx_o h1]
      by_cases h9 : ci = 9
      · subst h9
        have e0 : j = 0 := Nat.lt_one_iff.mp hj'
        subst e0
        refine t_OB.to ho (fun s hs => ?_)
        unfold updV
        by_cases e : s = 10
        · subst e
          rw [if_pos rfl]
          show _ = Value.int (mkc M n v 660 0 0)
          rw [mkc_c]
        · rw [if_neg e]
          exact (fv_new hci hs (fun q => by omega) (fun q => e q.2)).symm
      · refine t_OB.to (hr.kept (hq _ hl (fun q => ?_) (fun q => ?_))) (fun s hs => (fv_new hci hs (fun q => h1 ⟨q.1, Or.inl q.2⟩) (fun q => h9 q.1)).symm)
        · have := (hG.1 ci j 50 0 (by omega) (by decide) hj' (Nat.le_of_ble_eq_true rfl) q).1; omega
        · exact h9 (hG.1 ci j 9 0 (by omega) (by decide) hj' (Nat.le_of_ble_eq_true rfl) q).1
  · rcases cnt_s hk2 hj with ⟨rfl, h1⟩ | ⟨h1, hj'⟩
    · rcases h1 with h1 | h1 | h1
      · omega
      · subst h1
        rw [gnx_20, c1]
        congr 2
        funext i
        show Value.int 0 = .int (mkc M j v 20 j i)
        rw [mkc_n (by decide)]; rfl
      · subst h1
        rw [gnx_21, c2]
        congr 2
        funext i
        show Value.int 0 = .int (mkc M j v 21 j i)
        rw [mkc_n (by decide)]; rfl
    · have hr := hR.2.2.2 k j hk1 hk2 hj'
      have hl := hR.lt hk2 hj'
      rw [gnx_o h1]
      by_cases h50 : k = 50
      · subst h50
        have e0 : j = 0 := Nat.lt_one_iff.mp hj'
        subst e0
        rw [ha]
        congr 2
        funext i
        show updV (fun i => if i < n then Value.ref (gad G 0 i) else .null) n (.ref H.size) i = if i < n + 1 then Value.ref (gad (gnx G n H.size) 0 i) else .null
        unfold updV
        by_cases e : i = n
        · subst e
          rw [if_pos rfl, if_pos (Nat.lt_succ_self _), gnx_0]
        · rw [if_neg e, gnx_o (fun q => e q.1)]
          dsimp only
          by_cases e2 : i < n
          · rw [if_pos e2, if_pos (by omega)]
          · rw [if_neg e2, if_neg (by omega)]
      · rw [hq _ hl (fun q => h50 (hG.1 k j 50 0 hk2 (by decide) hj' (Nat.le_of_ble_eq_true rfl) q).1) (fun q => by have := (hG.1 k j 9 0 hk2 (by decide) hj' (Nat.le_of_ble_eq_true rfl) q).1; omega), hr]
        congr 2
        funext i
        exact (av_new hk1 hk2 (fun q => h1 ⟨q.1, Or.inr q.2⟩) h50).symm
