theorem ct_ofF {G : GG} {n : Nat} {l : Launch} {y : MethodName} {code : ByteArray} {mL : Nat} {ret : Option FieldType} {fr lo : Nat} {av : List Value} {lv : List (Nat × Value)} {M : Mem} {Qc : Array Value → State → Outcome → State → Prop} (hy : plainFor y = true) (hlen : (lg_sl av).length ≤ mL) (hlv : lv_args 0 av = lv)
    (body : ∀ E : EE, Cx G n E y.cls code mL → RM E fr lo → RT E ret → E.2.1 = l → WW G n E mL (QE G E Qc) 0 lv [] M) : Ct G n l y code mL ret fr lo av M Qc := by
  refine va_MetF (cc := code) (maxL := mL) (ret := ret) hy rfl ?_
  intro p e s m args below meth c s₁ B hml hv
  obtain ⟨rfl, hR, hK, hNW, hKC, hKS, hG, hgb⟩ := hv
  have hts := atoms_spec (ws := Cond.code y code mL ret :: GW) B.pre
  have h := body (p, l, e, ({ frames := fr, cells := 0, slots := 0, locals := lo } : Room), s, m, av.toArray, below, meth, c, 0, 0)
    ⟨B.exec, B.bytes, hml, findClass_of_methodNamed B.named, fun w hw => hts w (List.mem_cons_of_mem _ hw), B.notSynchronized, hK, hNW, hKC, hKS, hG, hgb⟩ ⟨rfl, rfl, Nat.le_refl _, Nat.le_refl _⟩ B.returns rfl
  have hl := lv_entry av (n := mL) hlen
  rw [lg_entry_eq]
  rw [hlv] at hl
  exact h s.heap [] _ hR va_S.rf hl
