/-! THE MEMORY: every int that the class, the reference keep, by kind, instance, place -/
abbrev Mem : Type := Nat → Nat → Nat → Int32
def mst (M : Mem) (k j i : Nat) (v : Int32) : Mem := fun k' => if k' = k then (fun j' i' => if j' = j ∧ i' = i then v else M k j' i') else M k'
theorem mst_ne {M : Mem} {k j i : Nat} {v : Int32} {k' : Nat} (h : k' ≠ k) : mst M k j i v k' = M k' := if_neg h
theorem mst_k {M : Mem} {k j i : Nat} {v : Int32} {j' i' : Nat} : mst M k j i v k j' i' = if j' = j ∧ i' = i then v else M k j' i' := by simp [mst]
theorem mst_eq {M : Mem} {k j i : Nat} {v : Int32} : mst M k j i v k j i = v := by simp [mst]
def mcp (M : Mem) (k j dp ks js sp n : Nat) : Mem := fun k' => if k' = k then (fun j' i' => if j' = j ∧ (dp ≤ i' ∧ i' < dp + n) then M ks js (sp + (i' - dp)) else M k j' i') else M k'
theorem mcp_ne {M : Mem} {k j dp ks js sp n : Nat} {k' : Nat} (h : k' ≠ k) : mcp M k j dp ks js sp n k' = M k' := if_neg h
theorem mcp_k {M : Mem} {k j dp ks js sp n : Nat} {j' i' : Nat} : mcp M k j dp ks js sp n k j' i' = if j' = j ∧ (dp ≤ i' ∧ i' < dp + n) then M ks js (sp + (i' - dp)) else M k j' i' := by simp [mcp]
abbrev GG : Type := (Nat → ClassId) × (Nat → Nat → Nat) × (Nat → ClassId) × (Nat → Nat → Nat) × (Nat → Nat) × (Nat → Nat) × Nat × Nat
def gC (G : GG) : Nat → ClassId := G.1
def gI (G : GG) : Nat → Nat → Nat := G.2.1
def gR (G : GG) : Nat → ClassId := G.2.2.1
def gad (G : GG) : Nat → Nat → Nat := G.2.2.2.1
def gK (G : GG) : Nat → Nat := G.2.2.2.2.1
def gV (G : GG) : Nat → Nat := G.2.2.2.2.2.1
def gF (G : GG) : Nat := G.2.2.2.2.2.2.1
def gb (G : GG) : Nat := G.2.2.2.2.2.2.2
def gA (G : GG) : Nat → Prop := fun q => gb G ≤ q
def nslL : List Nat := [13, 4, 12, 1, 4, 5, 6, 4, 10, 14, 48]
def fkL : List (List Nat) := [[0, 22, 0, 0, 0, 0, 0, 0, 0, 23, 0, 0, 0], [24, 25, 0, 0], [26, 27, 28, 29, 30, 31, 32, 33, 0, 0, 0, 0], [34], [35, 1, 1, 0], [36, 37, 38, 0, 0], [39, 40, 41, 42, 43, 0], [44, 0, 0, 0], [45, 46, 47, 48, 49, 50, 0, 0, 0, 0], [51, 52, 53, 54, 6, 8, 5, 4, 7, 3, 0, 0, 0, 0], [55, 56, 57, 58, 59, 60, 61, 62, 63, 0, 0, 0, 0, 64, 0, 0, 0, 0, 0, 65, 0, 66, 67, 68, 69, 70, 71, 72, 73, 74, 75, 76, 0, 77, 78, 79, 0, 0, 80, 81, 0, 82, 83, 84, 85, 86, 87, 0]]
def ekL : List Nat := [0, 0, 0, 0, 0, 0, 0, 88, 0, 0, 0, 0, 0, 0, 0, 0, 0, 0, 0, 0, 0, 0, 0, 0, 0, 0, 0, 0, 0, 10, 1, 9, 0, 0, 0, 0, 0, 0, 0, 0, 0, 0, 0, 0, 0, 0, 0, 0, 0, 0, 0, 0, 0, 0, 0, 0, 0, 0, 0, 0, 0, 0, 0, 0, 0, 0, 0]
def alL : List Nat := [12, 4, 16, 16, 12, 3, 13, 13, 13, 8, 512, 512, 256, 4, 40, 40, 40, 585, 585, 585, 1024, 5, 40, 120, 120, 16, 16, 16, 16, 4, 12, 4, 8, 4, 480, 4, 4, 64, 64, 240, 240, 240, 3, 5, 12, 12, 144, 12, 12, 12, 12, 12, 12, 512, 512, 40, 40, 40, 16, 16, 4096, 4, 4, 4, 160, 40, 78]
def atL : List Nat := [0, 0, 0, 0, 0, 0, 0, 6, 0, 0, 1, 1, 0, 0, 0, 0, 0, 0, 0, 0, 0, 0, 0, 0, 0, 0, 0, 0, 0, 3, 5, 4, 0, 0, 0, 2, 0, 0, 0, 0, 0, 0, 0, 0, 0, 0, 0, 0, 0, 0, 0, 0, 0, 0, 0, 0, 0, 0, 0, 0, 0, 2, 0, 0, 0, 0, 0]
def cntL : List Nat := [99, 1, 1, 1, 1, 1, 1, 4, 4, 1, 1, 0, 0, 0, 0, 0, 0, 0, 0, 0, 99, 99, 1, 1, 1, 1, 1, 1, 1, 1, 1, 1, 1, 1, 1, 1, 1, 1, 1, 1, 1, 1, 4, 4, 4, 4, 4, 4, 4, 1, 1, 1, 1, 1, 1, 1, 1, 1, 1, 1, 1, 1, 1, 1, 1, 1, 1, 1, 1, 1, 1, 1, 1, 1, 1, 1, 1, 1, 1, 1, 1, 1, 1, 1, 1, 1, 13]
def nsl (ci : Nat) : Nat := nslL.getD ci 0
def fk (ci s : Nat) : Nat := (fkL.getD ci []).getD s 0
def ek (k : Nat) : Nat := ekL.getD (k - 20) 0
def alen (k : Nat) : Nat := alL.getD (k - 20) 0
def atc (k : Nat) : Nat := atL.getD (k - 20) 0
def cnt (n k : Nat) : Nat := if cntL.getD k 0 = 99 then n else cntL.getD k 0
def aty : List FieldType := [.int, .byte, .boolean, .object "TrueLedger$Version", .object "TrueLedger$Sheet", .object "TrueLedger$Counter", .array .int]
def tysG (G : GG) : List (ClassId × FieldType) := [(gR G 0, .int), (gR G 1, .byte), (gR G 2, .boolean), (gR G 3, .object "TrueLedger$Version"), (gR G 4, .object "TrueLedger$Sheet"), (gR G 5, .object "TrueLedger$Counter"), (gR G 6, .array .int)]
def fv (G : GG) (M : Mem) (ci j s : Nat) : Value := match fk ci s with
  | 0 => .int (M (200 + 50 * ci + s) j 0)
  | 1 => .ref (gad G 8 (M (200 + 50 * ci + s) j 0).toNatClampNeg)
  | k + 2 => .ref (gad G k j)
def av (G : GG) (n : Nat) (M : Mem) (k j i : Nat) : Value := match ek k with
  | 0 => .int (M k j i)
  | 1 => if i < n then .ref (gad G 0 i) else .null
  | c + 2 => .ref (gad G c i)
def Rep (G : GG) (n : Nat) (M : Mem) (H : Heap) : Prop :=
  (M 660 0 0 = nI n ∧ n ≤ 12) ∧ ((M 401 0 0).toNatClampNeg < 4 ∧ (M 402 0 0).toNatClampNeg < 4) ∧
  (∀ ci j : Nat, ci < 11 → j < cnt n ci → t_OB (gad G ci j) (gC G ci) (nsl ci) (gI G ci) H (fun s => fv G M ci j s)) ∧
  (∀ k j : Nat, 20 ≤ k → k < 87 → j < cnt n k → H[gad G k j]? = some (arrV (gR G (atc k)) (alen k) (fun i => av G n M k j i)))
def GOK (G : GG) (n : Nat) : Prop := (∀ k j k' j' : Nat, k < 87 → k' < 87 → j < cnt n k → j' < cnt n k' → gad G k j = gad G k' j' → k = k' ∧ j = j') ∧ ∀ k j : Nat, k < 87 → j < cnt n k → gb G ≤ gad G k j
/-- words that a caller hands on, and those of nest mates -/
def isNest : Cond → Bool
  | .fieldLinkNest _ _ _ _ _ _ => true
  | .methodLinkNest _ _ _ _ => true
  | _ => false
def GW : List Cond := lw_tbl.filter goodWord
def NW : List Cond := lw_tbl.filter isNest
theorem NW_warm {w : Cond} (hw : w ∈ NW) {s U : State} (hW : s.WarmedH U.vm) (h : va_Nw w s) : va_Nw w U := by
  have h1 := (List.mem_filter.mp hw).2
  cases w <;> first | (exact absurd h1 Bool.false_ne_true) | exact va_Nw.warmF hW h | exact va_Nw.warmM hW h
theorem NW_same {w : Cond} (hw : w ∈ NW) {s U : State} (hv : s.vm = U.vm) (h : va_Nw w s) : va_Nw w U := by
  have h1 := (List.mem_filter.mp hw).2
  cases w <;> first | (exact absurd h1 Bool.false_ne_true) | exact va_Nw.same rfl hv h
def slen : List Nat := [8, 3, 3]
def sbyt : List (List Int32) := [[115, 114, 107, 100, 97, 120, 116, 98], [108, 112, 99], [43, 45, 61]]
def fewL : List Int32 := [0, 1, 2, 4, 3, 5, 6, 7]
/-- what never changes: the texts, the table, a static of String's -/
def KC (G : GG) (U : State) (H : Heap) : Prop :=
  vk_S 3 slen sbyt (gK G) (gV G) (gA G) U H ∧ va_Z "java/lang/String" "COMPACT_STRINGS" "Z" (.int 1) (gA G) U H ∧
  va_Z "TrueLedger$Filler" "FEWEST_FIRST" "[I" (.ref (gF G)) (gA G) U H ∧ va_T .int (gF G) 8 (fun j => .int (fewL.getD j 0)) (gA G) U H
def KS (G : GG) (U : State) : Prop := vk_R "TrueLedger$Version" 69 "srkdaxtb" (gK G 0) U ∧ vk_R "TrueLedger$Version" 61 "lpc" (gK G 1) U ∧ vk_R "TrueLedger$Version" 71 "+-=" (gK G 2) U
theorem KC.kept {G : GG} {U : State} {H H1 : Heap} (h : KC G U H) (hq : ∀ a : Nat, a < H.size → ¬ gA G a → H1[a]? = H[a]?) : KC G U H1 := ⟨h.1.kept hq, h.2.1.kept hq, h.2.2.1.kept hq, h.2.2.2.kept hq⟩
theorem KC.moved {G : GG} {u U : State} {H : Heap} (hvm : u.vm.Alike U.vm) (h : KC G u H) : KC G U H := ⟨h.1.moved hvm, h.2.1.moved hvm, h.2.2.1.moved hvm, h.2.2.2.moved hvm⟩
theorem KS.warm {G : GG} {s U : State} (hW : s.WarmedH U.vm) (h : KS G s) : KS G U := ⟨h.1.warm hW, h.2.1.warm hW, h.2.2.warm hW⟩
theorem KS.same {G : GG} {s U : State} (hv : U.vm = s.vm) (h : KS G s) : KS G U := ⟨h.1.same hv, h.2.1.same hv, h.2.2.same hv⟩
def PreM (G : GG) (n : Nat) (M : Mem) (U : State) : Prop := Rep G n M U.heap ∧ va_K (gC G, gI G) vwCl (tysG G) U ∧ (∀ w ∈ NW, va_Nw w U) ∧ KC G U U.heap ∧ KS G U ∧ GOK G n ∧ gb G ≤ U.heap.size
abbrev EE : Type := Program × Launch × Env × Room × State × MethodId × Array Value × List Frame × Method × Code × Nat × Nat
/-- the walk: at pc, with locals lv, stack st, memory M -/
def WW (G : GG) (n : Nat) (E : EE) (nL : Nat) (Q : State → Prop) (pc : Nat) (lv : List (Nat × Value)) (st : List Value) (M : Mem) : Prop :=
  match E with
  | (p, l, e, R, s, m, args, below, meth, c, ce, sl) => ∀ (H : Heap) (locs : List Loc) (ls : Array Slot), Rep G n M H → va_S (gA G) s.heap H locs → lv_has ls nL lv → W p l e R s m args below meth c H locs ce sl Q (F0 m pc ls st)
def Cx (G : GG) (n : Nat) (E : EE) (own : String) (cc : ByteArray) (nL : Nat) : Prop :=
  match E with
  | (p, l, e, R, s, m, args, below, meth, c, ce, sl) => p.tables.exec = Jvm.exec ∧ c.code = cc ∧ c.maxLocals = nL ∧ s.vm.findClass own = some m.cls ∧ (∀ w ∈ GW, w.before args s = true) ∧ meth.locks = false ∧ va_K (gC G, gI G) vwCl (tysG G) s ∧ (∀ w ∈ NW, va_Nw w s) ∧ KC G s s.heap ∧ KS G s ∧ GOK G n ∧ gb G ≤ s.heap.size
section ROWS
variable {G : GG} {n : Nat} {E : EE} {own : String} {cc : ByteArray} {nL : Nat} {Q : State → Prop} {pc : Nat} {lv : List (Nat × Value)} {st : List Value} {M : Mem}
theorem w_eq {pc' : Nat} (h : pc = pc') (k : WW G n E nL Q pc' lv st M) : WW G n E nL Q pc lv st M := h ▸ k
theorem w_sub {lv' : List (Nat × Value)} (ks : List Nat) (h : lv_pick lv ks = lv') (k : WW G n E nL Q pc lv' st M) : WW G n E nL Q pc lv st M := by
  obtain ⟨p, l, e, R, s, m, args, below, meth, c, ce, sl⟩ := E
  exact fun H locs ls hR hS hl => k H locs ls hR hS (lv_sub hl ks h)
theorem w_iconst (C : Cx G n E own cc nL) {z : Int} {v : Int32} (hd : decode cc pc = .ok (.iconst z, 1)) (hv : Int32.ofInt z = v) (k : WW G n E nL Q (pc + 1) lv (.int v :: st) M) : WW G n E nL Q pc lv (st) M := by
  obtain ⟨p, l, e, R, s, m, args, below, meth, c, ce, sl⟩ := E
  exact fun H locs ls hR hS hl => lv_iconst C.1 C.2.1 hd hv (k H locs ls hR hS hl)
theorem w_bipush (C : Cx G n E own cc nL) {z : Int} {v : Int32} (hd : decode cc pc = .ok (.bipush z, 2)) (hv : (Int8.ofInt z).toInt32 = v) (k : WW G n E nL Q (pc + 2) lv (.int v :: st) M) : WW G n E nL Q pc lv (st) M := by
  obtain ⟨p, l, e, R, s, m, args, below, meth, c, ce, sl⟩ := E
  exact fun H locs ls hR hS hl => lv_bipush C.1 C.2.1 hd hv (k H locs ls hR hS hl)
theorem w_sipush (C : Cx G n E own cc nL) {z : Int} {v : Int32} (hd : decode cc pc = .ok (.sipush z, 3)) (hv : (Int16.ofInt z).toInt32 = v) (k : WW G n E nL Q (pc + 3) lv (.int v :: st) M) : WW G n E nL Q pc lv (st) M := by
  obtain ⟨p, l, e, R, s, m, args, below, meth, c, ce, sl⟩ := E
  exact fun H locs ls hR hS hl => lv_sipush C.1 C.2.1 hd hv (k H locs ls hR hS hl)
theorem w_iload_n (C : Cx G n E own cc nL) (q : Nat) {kf : Fin 4} {i : Nat} {x : Int32} (hd : decode cc pc = .ok (.iload_n kf, 1)) (hi : (kf : Nat) = i) (h : lv[q]? = some (i, .int x)) (k : WW G n E nL Q (pc + 1) lv (.int x :: st) M) : WW G n E nL Q pc lv (st) M := by
  obtain ⟨p, l, e, R, s, m, args, below, meth, c, ce, sl⟩ := E
  exact fun H locs ls hR hS hl => lv_iload_n C.1 C.2.1 hd hi (lv_at hl q h) (k H locs ls hR hS hl)
theorem w_iload (C : Cx G n E own cc nL) (q : Nat) {i : Nat} {x : Int32} (hd : decode cc pc = .ok (.iload i, 2)) (h : lv[q]? = some (i, .int x)) (k : WW G n E nL Q (pc + 2) lv (.int x :: st) M) : WW G n E nL Q pc lv (st) M := by
  obtain ⟨p, l, e, R, s, m, args, below, meth, c, ce, sl⟩ := E
  exact fun H locs ls hR hS hl => lv_iload C.1 C.2.1 hd (lv_at hl q h) (k H locs ls hR hS hl)
theorem w_lload_n (C : Cx G n E own cc nL) (q : Nat) {kf : Fin 4} {i : Nat} {x : Int64} (hd : decode cc pc = .ok (.lload_n kf, 1)) (hi : (kf : Nat) = i) (h : lv[q]? = some (i, .long x)) (k : WW G n E nL Q (pc + 1) lv (.long x :: st) M) : WW G n E nL Q pc lv (st) M := by
  obtain ⟨p, l, e, R, s, m, args, below, meth, c, ce, sl⟩ := E
  exact fun H locs ls hR hS hl => lv_lload_n C.1 C.2.1 hd hi (lv_at hl q h) (k H locs ls hR hS hl)
theorem w_aload_n (C : Cx G n E own cc nL) (q : Nat) {kf : Fin 4} {i : Nat} {x : Nat} (hd : decode cc pc = .ok (.aload_n kf, 1)) (hi : (kf : Nat) = i) (h : lv[q]? = some (i, .ref x)) (k : WW G n E nL Q (pc + 1) lv (.ref x :: st) M) : WW G n E nL Q pc lv (st) M := by
  obtain ⟨p, l, e, R, s, m, args, below, meth, c, ce, sl⟩ := E
  exact fun H locs ls hR hS hl => lv_aload_n C.1 C.2.1 hd hi (lv_at hl q h) (k H locs ls hR hS hl)
theorem w_aload (C : Cx G n E own cc nL) (q : Nat) {i : Nat} {x : Nat} (hd : decode cc pc = .ok (.aload i, 2)) (h : lv[q]? = some (i, .ref x)) (k : WW G n E nL Q (pc + 2) lv (.ref x :: st) M) : WW G n E nL Q pc lv (st) M := by
  obtain ⟨p, l, e, R, s, m, args, below, meth, c, ce, sl⟩ := E
  exact fun H locs ls hR hS hl => lv_aload C.1 C.2.1 hd (lv_at hl q h) (k H locs ls hR hS hl)
theorem w_aload_nN (C : Cx G n E own cc nL) (q : Nat) {kf : Fin 4} {i : Nat} (hd : decode cc pc = .ok (.aload_n kf, 1)) (hi : (kf : Nat) = i) (h : lv[q]? = some (i, .null)) (k : WW G n E nL Q (pc + 1) lv (.null :: st) M) : WW G n E nL Q pc lv (st) M := by
  obtain ⟨p, l, e, R, s, m, args, below, meth, c, ce, sl⟩ := E
  exact fun H locs ls hR hS hl => lv_aload_nN C.1 C.2.1 hd hi (lv_at hl q h) (k H locs ls hR hS hl)
theorem w_aloadN (C : Cx G n E own cc nL) (q : Nat) {i : Nat} (hd : decode cc pc = .ok (.aload i, 2)) (h : lv[q]? = some (i, .null)) (k : WW G n E nL Q (pc + 2) lv (.null :: st) M) : WW G n E nL Q pc lv (st) M := by
  obtain ⟨p, l, e, R, s, m, args, below, meth, c, ce, sl⟩ := E
  exact fun H locs ls hR hS hl => lv_aloadN C.1 C.2.1 hd (lv_at hl q h) (k H locs ls hR hS hl)
theorem w_iadd (C : Cx G n E own cc nL) {x y : Int32} (hd : decode cc pc = .ok (.iadd, 1)) (k : WW G n E nL Q (pc + 1) lv (.int (x + y) :: st) M) : WW G n E nL Q pc lv (.int y :: .int x :: st) M := by
  obtain ⟨p, l, e, R, s, m, args, below, meth, c, ce, sl⟩ := E
  exact fun H locs ls hR hS hl => lv_iadd C.1 C.2.1 hd (k H locs ls hR hS hl)
theorem w_isub (C : Cx G n E own cc nL) {x y : Int32} (hd : decode cc pc = .ok (.isub, 1)) (k : WW G n E nL Q (pc + 1) lv (.int (x - y) :: st) M) : WW G n E nL Q pc lv (.int y :: .int x :: st) M := by
  obtain ⟨p, l, e, R, s, m, args, below, meth, c, ce, sl⟩ := E
  exact fun H locs ls hR hS hl => lv_isub C.1 C.2.1 hd (k H locs ls hR hS hl)
theorem w_imul (C : Cx G n E own cc nL) {x y : Int32} (hd : decode cc pc = .ok (.imul, 1)) (k : WW G n E nL Q (pc + 1) lv (.int (x * y) :: st) M) : WW G n E nL Q pc lv (.int y :: .int x :: st) M := by
  obtain ⟨p, l, e, R, s, m, args, below, meth, c, ce, sl⟩ := E
  exact fun H locs ls hR hS hl => lv_imul C.1 C.2.1 hd (k H locs ls hR hS hl)
theorem w_iand (C : Cx G n E own cc nL) {x y : Int32} (hd : decode cc pc = .ok (.iand, 1)) (k : WW G n E nL Q (pc + 1) lv (.int (x &&& y) :: st) M) : WW G n E nL Q pc lv (.int y :: .int x :: st) M := by
  obtain ⟨p, l, e, R, s, m, args, below, meth, c, ce, sl⟩ := E
  exact fun H locs ls hR hS hl => lv_iand C.1 C.2.1 hd (k H locs ls hR hS hl)
theorem w_ior (C : Cx G n E own cc nL) {x y : Int32} (hd : decode cc pc = .ok (.ior, 1)) (k : WW G n E nL Q (pc + 1) lv (.int (x ||| y) :: st) M) : WW G n E nL Q pc lv (.int y :: .int x :: st) M := by
  obtain ⟨p, l, e, R, s, m, args, below, meth, c, ce, sl⟩ := E
  exact fun H locs ls hR hS hl => lv_ior C.1 C.2.1 hd (k H locs ls hR hS hl)
theorem w_ixor (C : Cx G n E own cc nL) {x y : Int32} (hd : decode cc pc = .ok (.ixor, 1)) (k : WW G n E nL Q (pc + 1) lv (.int (x ^^^ y) :: st) M) : WW G n E nL Q pc lv (.int y :: .int x :: st) M := by
  obtain ⟨p, l, e, R, s, m, args, below, meth, c, ce, sl⟩ := E
  exact fun H locs ls hR hS hl => lv_ixor C.1 C.2.1 hd (k H locs ls hR hS hl)
theorem w_ishl (C : Cx G n E own cc nL) {x y : Int32} (hd : decode cc pc = .ok (.ishl, 1)) (k : WW G n E nL Q (pc + 1) lv (.int (x <<< (y &&& 31)) :: st) M) : WW G n E nL Q pc lv (.int y :: .int x :: st) M := by
  obtain ⟨p, l, e, R, s, m, args, below, meth, c, ce, sl⟩ := E
  exact fun H locs ls hR hS hl => lv_ishl C.1 C.2.1 hd (k H locs ls hR hS hl)
theorem w_ishr (C : Cx G n E own cc nL) {x y : Int32} (hd : decode cc pc = .ok (.ishr, 1)) (k : WW G n E nL Q (pc + 1) lv (.int (x >>> (y &&& 31)) :: st) M) : WW G n E nL Q pc lv (.int y :: .int x :: st) M := by
  obtain ⟨p, l, e, R, s, m, args, below, meth, c, ce, sl⟩ := E
  exact fun H locs ls hR hS hl => lv_ishr C.1 C.2.1 hd (k H locs ls hR hS hl)
theorem w_iushr (C : Cx G n E own cc nL) {x y : Int32} (hd : decode cc pc = .ok (.iushr, 1)) (k : WW G n E nL Q (pc + 1) lv (.int (x.toUInt32 >>> (y.toUInt32 &&& Int32.toUInt32 31)).toInt32 :: st) M) : WW G n E nL Q pc lv (.int y :: .int x :: st) M := by
  obtain ⟨p, l, e, R, s, m, args, below, meth, c, ce, sl⟩ := E
  exact fun H locs ls hR hS hl => lv_iushr C.1 C.2.1 hd rfl (k H locs ls hR hS hl)
theorem w_idiv (C : Cx G n E own cc nL) {x y : Int32} (hd : decode cc pc = .ok (.idiv, 1)) (hne : ¬ y = 0) (k : WW G n E nL Q (pc + 1) lv (.int (x / y) :: st) M) : WW G n E nL Q pc lv (.int y :: .int x :: st) M := by
  obtain ⟨p, l, e, R, s, m, args, below, meth, c, ce, sl⟩ := E
  exact fun H locs ls hR hS hl => lv_idiv C.1 C.2.1 hd hne (k H locs ls hR hS hl)
theorem w_irem (C : Cx G n E own cc nL) {x y : Int32} (hd : decode cc pc = .ok (.irem, 1)) (hne : ¬ y = 0) (k : WW G n E nL Q (pc + 1) lv (.int (x - x / y * y) :: st) M) : WW G n E nL Q pc lv (.int y :: .int x :: st) M := by
  obtain ⟨p, l, e, R, s, m, args, below, meth, c, ce, sl⟩ := E
  exact fun H locs ls hR hS hl => lv_irem C.1 C.2.1 hd hne (k H locs ls hR hS hl)
theorem w_ineg (C : Cx G n E own cc nL) {x : Int32} (hd : decode cc pc = .ok (.ineg, 1)) (k : WW G n E nL Q (pc + 1) lv (.int (-x) :: st) M) : WW G n E nL Q pc lv (.int x :: st) M := by
  obtain ⟨p, l, e, R, s, m, args, below, meth, c, ce, sl⟩ := E
  exact fun H locs ls hR hS hl => lv_ineg C.1 C.2.1 hd (k H locs ls hR hS hl)
theorem w_i2l (C : Cx G n E own cc nL) {x : Int32} (hd : decode cc pc = .ok (.i2l, 1)) (k : WW G n E nL Q (pc + 1) lv (.long x.toInt64 :: st) M) : WW G n E nL Q pc lv (.int x :: st) M := by
  obtain ⟨p, l, e, R, s, m, args, below, meth, c, ce, sl⟩ := E
  exact fun H locs ls hR hS hl => lv_i2l C.1 C.2.1 hd rfl (k H locs ls hR hS hl)
theorem w_i2b (C : Cx G n E own cc nL) {x : Int32} (hd : decode cc pc = .ok (.i2b, 1)) (k : WW G n E nL Q (pc + 1) lv (.int x.toInt8.toInt32 :: st) M) : WW G n E nL Q pc lv (.int x :: st) M := by
  obtain ⟨p, l, e, R, s, m, args, below, meth, c, ce, sl⟩ := E
  exact fun H locs ls hR hS hl => lv_i2b C.1 C.2.1 hd rfl (k H locs ls hR hS hl)
theorem w_i2s (C : Cx G n E own cc nL) {x : Int32} (hd : decode cc pc = .ok (.i2s, 1)) (k : WW G n E nL Q (pc + 1) lv (.int x.toInt16.toInt32 :: st) M) : WW G n E nL Q pc lv (.int x :: st) M := by
  obtain ⟨p, l, e, R, s, m, args, below, meth, c, ce, sl⟩ := E
  exact fun H locs ls hR hS hl => lv_i2s C.1 C.2.1 hd rfl (k H locs ls hR hS hl)
theorem w_i2c (C : Cx G n E own cc nL) {x : Int32} (hd : decode cc pc = .ok (.i2c, 1)) (k : WW G n E nL Q (pc + 1) lv (.int (x.toUInt32 % 65536).toInt32 :: st) M) : WW G n E nL Q pc lv (.int x :: st) M := by
  obtain ⟨p, l, e, R, s, m, args, below, meth, c, ce, sl⟩ := E
  exact fun H locs ls hR hS hl => lv_i2c C.1 C.2.1 hd rfl (k H locs ls hR hS hl)
theorem w_ladd (C : Cx G n E own cc nL) {x y : Int64} (hd : decode cc pc = .ok (.ladd, 1)) (k : WW G n E nL Q (pc + 1) lv (.long (x + y) :: st) M) : WW G n E nL Q pc lv (.long y :: .long x :: st) M := by
  obtain ⟨p, l, e, R, s, m, args, below, meth, c, ce, sl⟩ := E
  exact fun H locs ls hR hS hl => lv_ladd C.1 C.2.1 hd (k H locs ls hR hS hl)
theorem w_lmul (C : Cx G n E own cc nL) {x y : Int64} (hd : decode cc pc = .ok (.lmul, 1)) (k : WW G n E nL Q (pc + 1) lv (.long (x * y) :: st) M) : WW G n E nL Q pc lv (.long y :: .long x :: st) M := by
  obtain ⟨p, l, e, R, s, m, args, below, meth, c, ce, sl⟩ := E
  exact fun H locs ls hR hS hl => lv_lmul C.1 C.2.1 hd (k H locs ls hR hS hl)
theorem w_lcmp (C : Cx G n E own cc nL) {x y : Int64} (hd : decode cc pc = .ok (.lcmp, 1)) (k : WW G n E nL Q (pc + 1) lv (.int (lg_cmp x y) :: st) M) : WW G n E nL Q pc lv (.long y :: .long x :: st) M := by
  obtain ⟨p, l, e, R, s, m, args, below, meth, c, ce, sl⟩ := E
  exact fun H locs ls hR hS hl => W.lcmp C.1 C.2.1 hd (k H locs ls hR hS hl)
theorem w_dup (C : Cx G n E own cc nL) {va : Value} (hd : decode cc pc = .ok (.dup, 1)) (hva : va.category = 1) (k : WW G n E nL Q (pc + 1) lv (va :: va :: st) M) : WW G n E nL Q pc lv (va :: st) M := by
  obtain ⟨p, l, e, R, s, m, args, below, meth, c, ce, sl⟩ := E
  exact fun H locs ls hR hS hl => lv_dup C.1 C.2.1 hd hva (k H locs ls hR hS hl)
theorem w_dup2 (C : Cx G n E own cc nL) {va vb : Value} (hd : decode cc pc = .ok (.dup2, 1)) (hva : va.category = 1) (hvb : vb.category = 1) (k : WW G n E nL Q (pc + 1) lv (va :: vb :: va :: vb :: st) M) : WW G n E nL Q pc lv (va :: vb :: st) M := by
  obtain ⟨p, l, e, R, s, m, args, below, meth, c, ce, sl⟩ := E
  exact fun H locs ls hR hS hl => lv_dup2_11 C.1 C.2.1 hd hva hvb (k H locs ls hR hS hl)
theorem w_null (C : Cx G n E own cc nL)  (hd : decode cc pc = .ok (.aconst_null, 1)) (k : WW G n E nL Q (pc + 1) lv (.null :: st) M) : WW G n E nL Q pc lv (st) M := by
  obtain ⟨p, l, e, R, s, m, args, below, meth, c, ce, sl⟩ := E
  exact fun H locs ls hR hS hl => lv_null C.1 C.2.1 hd (k H locs ls hR hS hl)
theorem w_ldc (C : Cx G n E own cc nL) {ix : Nat} {v : Int32} (hd : decode cc pc = .ok (.ldc ix, 2)) (hw : Cond.constant own ix v ∈ GW) (k : WW G n E nL Q (pc + 2) lv (.int v :: st) M) : WW G n E nL Q pc lv st M := by
  obtain ⟨p, l, e, R, s, m, args, below, meth, c, ce, sl⟩ := E
  exact fun H locs ls hR hS hl => lv_ldc C.1 C.2.1 C.2.2.2.1 (C.2.2.2.2.1 _ hw) hd (k H locs ls hR hS hl)
theorem w_ldcw (C : Cx G n E own cc nL) {ix : Nat} {v : Int32} (hd : decode cc pc = .ok (.ldc_w ix, 3)) (hw : Cond.constant own ix v ∈ GW) (k : WW G n E nL Q (pc + 3) lv (.int v :: st) M) : WW G n E nL Q pc lv st M := by
  obtain ⟨p, l, e, R, s, m, args, below, meth, c, ce, sl⟩ := E
  exact fun H locs ls hR hS hl => lv_ldcw C.1 C.2.1 C.2.2.2.1 (C.2.2.2.2.1 _ hw) hd (k H locs ls hR hS hl)
theorem w_ldc2 (C : Cx G n E own cc nL) {ix : Nat} {v : Int64} (hd : decode cc pc = .ok (.ldc2_w ix, 3)) (hw : Cond.constantLong own ix v ∈ GW) (k : WW G n E nL Q (pc + 3) lv (.long v :: st) M) : WW G n E nL Q pc lv st M := by
  obtain ⟨p, l, e, R, s, m, args, below, meth, c, ce, sl⟩ := E
  exact fun H locs ls hR hS hl => lv_ldc2 C.1 C.2.1 C.2.2.2.1 (C.2.2.2.2.1 _ hw) hd (k H locs ls hR hS hl)
theorem w_istore_n (C : Cx G n E own cc nL) {kf : Fin 4} {i : Nat} {x : Int32} {lv' : List (Nat × Value)} (hd : decode cc pc = .ok (.istore_n kf, 1)) (hi : (kf : Nat) = i) (hn : i < nL) (h : (i, Value.int x) :: lv.filter (fun q => !(q.1 == i) && !(q.1 + 1 == i && q.2.category == 2)) = lv') (k : WW G n E nL Q (pc + 1) lv' st M) : WW G n E nL Q pc lv (Value.int x :: st) M := by
  obtain ⟨p, l, e, R, s, m, args, below, meth, c, ce, sl⟩ := E
  exact fun H locs ls hR hS hl => lv_istore_n C.1 C.2.1 hd hi hl hn h (fun ls' hl' => k H locs ls' hR hS hl')
theorem w_istore (C : Cx G n E own cc nL) {i : Nat} {x : Int32} {lv' : List (Nat × Value)} (hd : decode cc pc = .ok (.istore i, 2)) (hn : i < nL) (h : (i, Value.int x) :: lv.filter (fun q => !(q.1 == i) && !(q.1 + 1 == i && q.2.category == 2)) = lv') (k : WW G n E nL Q (pc + 2) lv' st M) : WW G n E nL Q pc lv (Value.int x :: st) M := by
  obtain ⟨p, l, e, R, s, m, args, below, meth, c, ce, sl⟩ := E
  exact fun H locs ls hR hS hl => lv_istore C.1 C.2.1 hd hl hn h (fun ls' hl' => k H locs ls' hR hS hl')
theorem w_astore_n (C : Cx G n E own cc nL) {kf : Fin 4} {i : Nat} {x : Nat} {lv' : List (Nat × Value)} (hd : decode cc pc = .ok (.astore_n kf, 1)) (hi : (kf : Nat) = i) (hn : i < nL) (h : (i, Value.ref x) :: lv.filter (fun q => !(q.1 == i) && !(q.1 + 1 == i && q.2.category == 2)) = lv') (k : WW G n E nL Q (pc + 1) lv' st M) : WW G n E nL Q pc lv (Value.ref x :: st) M := by
  obtain ⟨p, l, e, R, s, m, args, below, meth, c, ce, sl⟩ := E
  exact fun H locs ls hR hS hl => lv_astore_n C.1 C.2.1 hd hi hl hn h (fun ls' hl' => k H locs ls' hR hS hl')
theorem w_astore (C : Cx G n E own cc nL) {i : Nat} {x : Nat} {lv' : List (Nat × Value)} (hd : decode cc pc = .ok (.astore i, 2)) (hn : i < nL) (h : (i, Value.ref x) :: lv.filter (fun q => !(q.1 == i) && !(q.1 + 1 == i && q.2.category == 2)) = lv') (k : WW G n E nL Q (pc + 2) lv' st M) : WW G n E nL Q pc lv (Value.ref x :: st) M := by
  obtain ⟨p, l, e, R, s, m, args, below, meth, c, ce, sl⟩ := E
  exact fun H locs ls hR hS hl => lv_astore C.1 C.2.1 hd hl hn h (fun ls' hl' => k H locs ls' hR hS hl')
theorem w_astore_nN (C : Cx G n E own cc nL) {kf : Fin 4} {i : Nat} {lv' : List (Nat × Value)} (hd : decode cc pc = .ok (.astore_n kf, 1)) (hi : (kf : Nat) = i) (hn : i < nL) (h : (i, Value.null) :: lv.filter (fun q => !(q.1 == i) && !(q.1 + 1 == i && q.2.category == 2)) = lv') (k : WW G n E nL Q (pc + 1) lv' st M) : WW G n E nL Q pc lv (Value.null :: st) M := by
  obtain ⟨p, l, e, R, s, m, args, below, meth, c, ce, sl⟩ := E
  exact fun H locs ls hR hS hl => lv_astore_nN C.1 C.2.1 hd hi hl hn h (fun ls' hl' => k H locs ls' hR hS hl')
theorem w_astoreN (C : Cx G n E own cc nL) {i : Nat} {lv' : List (Nat × Value)} (hd : decode cc pc = .ok (.astore i, 2)) (hn : i < nL) (h : (i, Value.null) :: lv.filter (fun q => !(q.1 == i) && !(q.1 + 1 == i && q.2.category == 2)) = lv') (k : WW G n E nL Q (pc + 2) lv' st M) : WW G n E nL Q pc lv (Value.null :: st) M := by
  obtain ⟨p, l, e, R, s, m, args, below, meth, c, ce, sl⟩ := E
  exact fun H locs ls hR hS hl => lv_astoreN C.1 C.2.1 hd hl hn h (fun ls' hl' => k H locs ls' hR hS hl')
theorem w_lstore_n (C : Cx G n E own cc nL) {kf : Fin 4} {i : Nat} {x : Int64} {lv' : List (Nat × Value)} (hd : decode cc pc = .ok (.lstore_n kf, 1)) (hi : (kf : Nat) = i) (hn : i + 1 < nL) (h : (i, Value.long x) :: lv.filter (fun q => !(q.1 == i) && (!(q.1 == i + 1) && !(q.1 + 1 == i && q.2.category == 2))) = lv') (k : WW G n E nL Q (pc + 1) lv' st M) : WW G n E nL Q pc lv (.long x :: st) M := by
  obtain ⟨p, l, e, R, s, m, args, below, meth, c, ce, sl⟩ := E
  exact fun H locs ls hR hS hl => lv_lstore_n C.1 C.2.1 hd hi hl hn h (fun ls' hl' => k H locs ls' hR hS hl')
theorem w_iinc (C : Cx G n E own cc nL) (q : Nat) {i : Nat} {z : Int} {x v : Int32} {lv' : List (Nat × Value)} (hd : decode cc pc = .ok (.iinc i z, 3)) (hk : lv[q]? = some (i, .int x)) (hv : x + Int32.ofInt z = v) (hn : i < nL) (h : (i, Value.int v) :: lv.filter (fun q => !(q.1 == i) && !(q.1 + 1 == i && q.2.category == 2)) = lv') (k : WW G n E nL Q (pc + 3) lv' st M) : WW G n E nL Q pc lv st M := by
  obtain ⟨p, l, e, R, s, m, args, below, meth, c, ce, sl⟩ := E
  exact fun H locs ls hR hS hl => lv_iinc C.1 C.2.1 hd hl hk hv hn h (fun ls' hl' => k H locs ls' hR hS hl')
theorem w_goto (C : Cx G n E own cc nL) {off : Int} {tgt : Nat} (hd : decode cc pc = .ok (.goto off, 3)) (ht : (pc : Int) + off = (tgt : Int)) (k : WW G n E nL Q tgt lv st M) : WW G n E nL Q pc lv st M := by
  obtain ⟨p, l, e, R, s, m, args, below, meth, c, ce, sl⟩ := E
  exact fun H locs ls hR hS hl => lv_goto C.1 C.2.1 hd ht (k H locs ls hR hS hl)
theorem w_if_eq (C : Cx G n E own cc nL) {x : Int32} {off : Int} {tgt : Nat} (hd : decode cc pc = .ok (.ifCond .eq off, 3)) (ht : (pc : Int) + off = (tgt : Int)) (kt : x = 0 → WW G n E nL Q tgt lv st M) (kf : ¬ x = 0 → WW G n E nL Q (pc + 3) lv st M) : WW G n E nL Q pc lv (.int x :: st) M := by
  obtain ⟨p, l, e, R, s, m, args, below, meth, c, ce, sl⟩ := E
  exact fun H locs ls hR hS hl => lv_if_eq C.1 C.2.1 hd ht (fun h => kt h H locs ls hR hS hl) (fun h => kf h H locs ls hR hS hl)
theorem w_icmp_eq (C : Cx G n E own cc nL) {x y : Int32} {off : Int} {tgt : Nat} (hd : decode cc pc = .ok (.if_icmp .eq off, 3)) (ht : (pc : Int) + off = (tgt : Int)) (kt : x = y → WW G n E nL Q tgt lv st M) (kf : ¬ x = y → WW G n E nL Q (pc + 3) lv st M) : WW G n E nL Q pc lv (.int y :: .int x :: st) M := by
  obtain ⟨p, l, e, R, s, m, args, below, meth, c, ce, sl⟩ := E
  exact fun H locs ls hR hS hl => lv_icmp_eq C.1 C.2.1 hd ht (fun h => kt h H locs ls hR hS hl) (fun h => kf h H locs ls hR hS hl)
theorem w_if_ne (C : Cx G n E own cc nL) {x : Int32} {off : Int} {tgt : Nat} (hd : decode cc pc = .ok (.ifCond .ne off, 3)) (ht : (pc : Int) + off = (tgt : Int)) (kt : ¬ x = 0 → WW G n E nL Q tgt lv st M) (kf : x = 0 → WW G n E nL Q (pc + 3) lv st M) : WW G n E nL Q pc lv (.int x :: st) M := by
  obtain ⟨p, l, e, R, s, m, args, below, meth, c, ce, sl⟩ := E
  exact fun H locs ls hR hS hl => lv_if_ne C.1 C.2.1 hd ht (fun h => kt h H locs ls hR hS hl) (fun h => kf h H locs ls hR hS hl)
theorem w_icmp_ne (C : Cx G n E own cc nL) {x y : Int32} {off : Int} {tgt : Nat} (hd : decode cc pc = .ok (.if_icmp .ne off, 3)) (ht : (pc : Int) + off = (tgt : Int)) (kt : ¬ x = y → WW G n E nL Q tgt lv st M) (kf : x = y → WW G n E nL Q (pc + 3) lv st M) : WW G n E nL Q pc lv (.int y :: .int x :: st) M := by
  obtain ⟨p, l, e, R, s, m, args, below, meth, c, ce, sl⟩ := E
  exact fun H locs ls hR hS hl => lv_icmp_ne C.1 C.2.1 hd ht (fun h => kt h H locs ls hR hS hl) (fun h => kf h H locs ls hR hS hl)
theorem w_if_lt (C : Cx G n E own cc nL) {x : Int32} {off : Int} {tgt : Nat} (hd : decode cc pc = .ok (.ifCond .lt off, 3)) (ht : (pc : Int) + off = (tgt : Int)) (kt : x < 0 → WW G n E nL Q tgt lv st M) (kf : ¬ x < 0 → WW G n E nL Q (pc + 3) lv st M) : WW G n E nL Q pc lv (.int x :: st) M := by
  obtain ⟨p, l, e, R, s, m, args, below, meth, c, ce, sl⟩ := E
  exact fun H locs ls hR hS hl => lv_if_lt C.1 C.2.1 hd ht (fun h => kt h H locs ls hR hS hl) (fun h => kf h H locs ls hR hS hl)
theorem w_icmp_lt (C : Cx G n E own cc nL) {x y : Int32} {off : Int} {tgt : Nat} (hd : decode cc pc = .ok (.if_icmp .lt off, 3)) (ht : (pc : Int) + off = (tgt : Int)) (kt : x < y → WW G n E nL Q tgt lv st M) (kf : ¬ x < y → WW G n E nL Q (pc + 3) lv st M) : WW G n E nL Q pc lv (.int y :: .int x :: st) M := by
  obtain ⟨p, l, e, R, s, m, args, below, meth, c, ce, sl⟩ := E
  exact fun H locs ls hR hS hl => lv_icmp_lt C.1 C.2.1 hd ht (fun h => kt h H locs ls hR hS hl) (fun h => kf h H locs ls hR hS hl)
theorem w_if_ge (C : Cx G n E own cc nL) {x : Int32} {off : Int} {tgt : Nat} (hd : decode cc pc = .ok (.ifCond .ge off, 3)) (ht : (pc : Int) + off = (tgt : Int)) (kt : 0 ≤ x → WW G n E nL Q tgt lv st M) (kf : ¬ 0 ≤ x → WW G n E nL Q (pc + 3) lv st M) : WW G n E nL Q pc lv (.int x :: st) M := by
  obtain ⟨p, l, e, R, s, m, args, below, meth, c, ce, sl⟩ := E
  exact fun H locs ls hR hS hl => lv_if_ge C.1 C.2.1 hd ht (fun h => kt h H locs ls hR hS hl) (fun h => kf h H locs ls hR hS hl)
theorem w_icmp_ge (C : Cx G n E own cc nL) {x y : Int32} {off : Int} {tgt : Nat} (hd : decode cc pc = .ok (.if_icmp .ge off, 3)) (ht : (pc : Int) + off = (tgt : Int)) (kt : y ≤ x → WW G n E nL Q tgt lv st M) (kf : ¬ y ≤ x → WW G n E nL Q (pc + 3) lv st M) : WW G n E nL Q pc lv (.int y :: .int x :: st) M := by
  obtain ⟨p, l, e, R, s, m, args, below, meth, c, ce, sl⟩ := E
  exact fun H locs ls hR hS hl => lv_icmp_ge C.1 C.2.1 hd ht (fun h => kt h H locs ls hR hS hl) (fun h => kf h H locs ls hR hS hl)
theorem w_if_gt (C : Cx G n E own cc nL) {x : Int32} {off : Int} {tgt : Nat} (hd : decode cc pc = .ok (.ifCond .gt off, 3)) (ht : (pc : Int) + off = (tgt : Int)) (kt : 0 < x → WW G n E nL Q tgt lv st M) (kf : ¬ 0 < x → WW G n E nL Q (pc + 3) lv st M) : WW G n E nL Q pc lv (.int x :: st) M := by
  obtain ⟨p, l, e, R, s, m, args, below, meth, c, ce, sl⟩ := E
  exact fun H locs ls hR hS hl => lv_if_gt C.1 C.2.1 hd ht (fun h => kt h H locs ls hR hS hl) (fun h => kf h H locs ls hR hS hl)
theorem w_icmp_gt (C : Cx G n E own cc nL) {x y : Int32} {off : Int} {tgt : Nat} (hd : decode cc pc = .ok (.if_icmp .gt off, 3)) (ht : (pc : Int) + off = (tgt : Int)) (kt : y < x → WW G n E nL Q tgt lv st M) (kf : ¬ y < x → WW G n E nL Q (pc + 3) lv st M) : WW G n E nL Q pc lv (.int y :: .int x :: st) M := by
  obtain ⟨p, l, e, R, s, m, args, below, meth, c, ce, sl⟩ := E
  exact fun H locs ls hR hS hl => lv_icmp_gt C.1 C.2.1 hd ht (fun h => kt h H locs ls hR hS hl) (fun h => kf h H locs ls hR hS hl)
theorem w_if_le (C : Cx G n E own cc nL) {x : Int32} {off : Int} {tgt : Nat} (hd : decode cc pc = .ok (.ifCond .le off, 3)) (ht : (pc : Int) + off = (tgt : Int)) (kt : x ≤ 0 → WW G n E nL Q tgt lv st M) (kf : ¬ x ≤ 0 → WW G n E nL Q (pc + 3) lv st M) : WW G n E nL Q pc lv (.int x :: st) M := by
  obtain ⟨p, l, e, R, s, m, args, below, meth, c, ce, sl⟩ := E
  exact fun H locs ls hR hS hl => lv_if_le C.1 C.2.1 hd ht (fun h => kt h H locs ls hR hS hl) (fun h => kf h H locs ls hR hS hl)
theorem w_icmp_le (C : Cx G n E own cc nL) {x y : Int32} {off : Int} {tgt : Nat} (hd : decode cc pc = .ok (.if_icmp .le off, 3)) (ht : (pc : Int) + off = (tgt : Int)) (kt : x ≤ y → WW G n E nL Q tgt lv st M) (kf : ¬ x ≤ y → WW G n E nL Q (pc + 3) lv st M) : WW G n E nL Q pc lv (.int y :: .int x :: st) M := by
  obtain ⟨p, l, e, R, s, m, args, below, meth, c, ce, sl⟩ := E
  exact fun H locs ls hR hS hl => lv_icmp_le C.1 C.2.1 hd ht (fun h => kt h H locs ls hR hS hl) (fun h => kf h H locs ls hR hS hl)
theorem w_ifnull (C : Cx G n E own cc nL) {x : Nat} {off : Int} (hd : decode cc pc = .ok (.ifnull off, 3)) (k : WW G n E nL Q (pc + 3) lv st M) : WW G n E nL Q pc lv (.ref x :: st) M := by
  obtain ⟨p, l, e, R, s, m, args, below, meth, c, ce, sl⟩ := E
  exact fun H locs ls hR hS hl => lv_ifnull C.1 C.2.1 hd (k H locs ls hR hS hl)
theorem w_ifnonnull (C : Cx G n E own cc nL) {x : Nat} {off : Int} {tgt : Nat} (hd : decode cc pc = .ok (.ifnonnull off, 3)) (ht : (pc : Int) + off = (tgt : Int)) (k : WW G n E nL Q tgt lv st M) : WW G n E nL Q pc lv (.ref x :: st) M := by
  obtain ⟨p, l, e, R, s, m, args, below, meth, c, ce, sl⟩ := E
  exact fun H locs ls hR hS hl => lv_ifnonnull C.1 C.2.1 hd ht (k H locs ls hR hS hl)
theorem w_ifnullN (C : Cx G n E own cc nL) {off : Int} {tgt : Nat} (hd : decode cc pc = .ok (.ifnull off, 3)) (ht : (pc : Int) + off = (tgt : Int)) (k : WW G n E nL Q tgt lv st M) : WW G n E nL Q pc lv (.null :: st) M := by
  obtain ⟨p, l, e, R, s, m, args, below, meth, c, ce, sl⟩ := E
  exact fun H locs ls hR hS hl => lv_ifnullN C.1 C.2.1 hd ht (k H locs ls hR hS hl)
theorem w_ifnonnullN (C : Cx G n E own cc nL) {off : Int} (hd : decode cc pc = .ok (.ifnonnull off, 3)) (k : WW G n E nL Q (pc + 3) lv st M) : WW G n E nL Q pc lv (.null :: st) M := by
  obtain ⟨p, l, e, R, s, m, args, below, meth, c, ce, sl⟩ := E
  exact fun H locs ls hR hS hl => lv_ifnonnullN C.1 C.2.1 hd (k H locs ls hR hS hl)
theorem w_swIn (C : Cx G n E own cc nL) {dflt lo hi : Int} {offs : Array Int} {len : Nat} {x : Int32} {off : Int} {tgt : Nat} (hd : decode cc pc = .ok (.tableswitch dflt lo hi offs, len)) (h1 : ¬ x.toInt < lo) (h2 : ¬ hi < x.toInt) (ho : offs[(x.toInt - lo).toNat]? = some off) (ht : (pc : Int) + off = (tgt : Int)) (k : WW G n E nL Q tgt lv st M) : WW G n E nL Q pc lv (.int x :: st) M := by
  obtain ⟨p, l, e, R, s, m, args, below, meth, c, ce, sl⟩ := E
  exact fun H locs ls hR hS hl => lv_tableIn C.1 C.2.1 hd h1 h2 ho ht (k H locs ls hR hS hl)
theorem w_swOut (C : Cx G n E own cc nL) {dflt lo hi : Int} {offs : Array Int} {len : Nat} {x : Int32} {tgt : Nat} (hd : decode cc pc = .ok (.tableswitch dflt lo hi offs, len)) (h : x.toInt < lo ∨ hi < x.toInt) (ht : (pc : Int) + dflt = (tgt : Int)) (k : WW G n E nL Q tgt lv st M) : WW G n E nL Q pc lv (.int x :: st) M := by
  obtain ⟨p, l, e, R, s, m, args, below, meth, c, ce, sl⟩ := E
  exact fun H locs ls hR hS hl => lv_tableOut C.1 C.2.1 hd h ht (k H locs ls hR hS hl)
theorem w_swL (C : Cx G n E own cc nL) {dflt : Int} {ps : Array (Int × Int)} {len : Nat} {x : Int32} {off : Int} {tgt : Nat} (hd : decode cc pc = .ok (.lookupswitch dflt ps, len)) (hp : (ps.toList.zip (ps.toList.drop 1)).all (fun (a, next) => a.1 < next.1) = true) (ho : Op.lookupswitch.offset ps.toList dflt x.toInt = off) (ht : (pc : Int) + off = (tgt : Int)) (k : WW G n E nL Q tgt lv st M) : WW G n E nL Q pc lv (.int x :: st) M := by
  obtain ⟨p, l, e, R, s, m, args, below, meth, c, ce, sl⟩ := E
  exact fun H locs ls hR hS hl => lv_lookup C.1 C.2.1 hd hp ho ht (k H locs ls hR hS hl)
end ROWS
