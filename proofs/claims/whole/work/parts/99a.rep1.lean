/-! THE START: Rep, and what both hold -/
section R1
variable {dC : Nat → ClassId} {dI : Nat → Nat → Nat} {dR : Nat → ClassId} {kK kV : Nat → Nat} {f h : Nat} {H : Heap}
theorem gok_0 : GOK (gsI dC dI dR kK kV f h) 0 := by
  refine ⟨fun k j k' j' hk hk' hj hj' e => ?_, fun k j hk hj => Nat.le_add_right _ _⟩
  have e1 : h + pos k j = h + pos k' j' := e
  have e2 : pos k j = pos k' j' := by omega
  have a1 := (pos_in k hk j hj).2
  have a2 := (pos_in k' hk' j' hj').2
  rw [e2, a2] at a1
  exact ⟨(congrArg Prod.fst a1).symm, (congrArg Prod.snd a1).symm⟩
theorem rep_0 (hX : HC (gsI dC dI dR kK kV f h) h (h + 1) (wcX h (h + 1)) H) (hM : HC (gsI dC dI dR kK kV f h) (h + 80) (h + 80 + 1) (wcM (h + 80) (h + 80 + 1)) H) : Rep (gsI dC dI dR kK kV f h) 0 mem0 H := by
  have hq := zq_all hX hM
  refine ⟨⟨by decide, by decide⟩, ⟨by decide, by decide⟩, fun ci j hci hj => ?_, fun k j hk1 hk2 hj => ?_⟩
  · obtain ⟨p1, p2⟩ := pos_in ci (by omega) j hj
    have := (hq _ p1).1
    rw [p2] at this
    exact this hci
  · obtain ⟨p1, p2⟩ := pos_in k hk2 j hj
    have := (hq _ p1).2
    rw [p2] at this
    exact this (show 11 ≤ k by omega)
end R1
theorem nc_0 : nc mem0 = 0 := by decide
theorem sok_0 : SOK mem0 := by
  refine SOK.mk (fun v hv => ⟨⟨0, by decide, by rfl⟩, fun i => ?_⟩) ⟨0, by decide, by rfl⟩ (fun c hc => by rw [nc_0] at hc; omega) (fun s hs => ⟨Or.inr rfl, ?_, ⟨0, by decide, by rfl⟩⟩) ⟨⟨0, by decide, by rfl⟩, ?_, fun i hi => absurd hi ?_⟩ ⟨⟨0, by decide, by rfl⟩, ?_, fun i hi => absurd hi ?_⟩
  · exact (show rng (0 : Int32) 0 255 from ⟨by decide, by decide⟩)
  · exact (show rng (0 : Int32) 0 2 from ⟨by decide, by decide⟩)
  · exact (show rng (1 : Int32) 0 100 from ⟨by decide, by decide⟩)
  · exact (show ¬ i < 0 from Nat.not_lt_zero i)
  · exact (show rng (255 : Int32) 0 255 from ⟨by decide, by decide⟩)
  · exact (show ¬ i < 0 from Nat.not_lt_zero i)
theorem vln_0 (v : Nat) : vln mem0 v = 0 := rfl
theorem invC_0 : InvC 0 mem0 mem0 := by
  refine ⟨fun k hk => rfl, fun v hv => ⟨⟨Or.inr ⟨rfl, ?_⟩, ⟨0, by decide, by rfl⟩⟩, ⟨0, by decide, by rfl⟩⟩, fun c hc => by rw [nc_0] at hc; omega, Or.inl rfl⟩
  rw [vln_0]
  exact ⟨rfl, fun l hl => ⟨rfl, rfl, rfl, fun _ => rfl⟩, fun k hk => absurd hk (show ¬ k < 0 from Nat.not_lt_zero k)⟩
theorem invR_0 : InvR mem0 mem0 := by
  refine InvR.mk (fun v hv => ⟨rfl, fun i hi => rfl, Or.inl rfl⟩) rfl (fun c hc => by rw [nc_0] at hc; omega) (fun s hs => ⟨?_, rfl, rfl, fun i hi => rfl⟩) ⟨rfl, rfl, fun i hi => ⟨rfl, rfl, ?_⟩⟩ ⟨rfl, rfl, fun i hi => ⟨rfl, rfl⟩⟩ rfl
  · exact (show (0 : Int32) = 1 - 1 by decide)
  · exact absurd hi (show ¬ i < 0 from Nat.not_lt_zero i)
