/-! THE DOCUMENT AS FUNCTIONS -/
def evOf (b : Int32) : Option Nat := if b = 115 then some 0 else if b = 114 then some 1 else if b = 107 then some 2 else if b = 100 then some 3 else if b = 97 then some 4 else if b = 120 then some 5 else if b = 116 then some 6 else if b = 98 then some 7 else none
def rgOf (b : Int32) : Option Nat := if b = 108 then some 0 else if b = 112 then some 1 else if b = 99 then some 2 else none
def sgOf (b : Int32) : Option Nat := if b = 43 then some 0 else if b = 45 then some 1 else if b = 61 then some 2 else none
def isDg (b : Int32) : Bool := decide (48 ≤ b ∧ b ≤ 57)
def isMd (b : Int32) : Bool := decide (b = 48 ∨ b = 49)
/-- what is due behind a byte: 0 EVENT, 1 MODE, 2 colon, 3 ACT, 4 sign, 5 value, 6 a MODE's value, 7 behind an ACT -/
def dl (q : Nat) (b : Int32) : Option Nat := match q with
  | 0 => if (evOf b).isSome then some 1 else none
  | 1 => if isMd b then some 2 else none
  | 2 => if b = 58 then some 3 else none
  | 3 => if (rgOf b).isSome then some 4 else if b = 109 then some 6 else none
  | 4 => if (sgOf b).isSome then some 5 else none
  | 5 => if (rgOf b).isSome || isDg b then some 7 else none
  | 6 => if isMd b then some 7 else none
  | _ => if b = 44 then some 3 else if b = 59 then some 0 else none
def rs (t : Nat → Int32) : Nat → Option Nat
  | 0 => some 0
  | i + 1 => (rs t i).bind (fun q => dl q (t i))
def fbad (t : Nat → Int32) : Nat → Nat
  | 0 => 0
  | i + 1 => if (rs t i).isNone then fbad t i else i
def well (t : Nat → Int32) (n : Nat) : Bool := n == 0 || rs t n == some 7
/-- THE FAULT -/
def flt (t : Nat → Int32) (n : Nat) : Int32 := if (rs t n).isNone then nI (fbad t n) else if well t n then -1 else nI n
def valOf (b : Int32) : Nat := match rgOf b with
  | some r => 10 + r
  | none => (b - 48).toNatClampNeg
def upN (f : Nat → Nat) (k v : Nat) : Nat → Nat := fun j => if j = k then v else f j
/-- reading: line, the ACT begun, how many ACTS, their codes; by line: the first, how many, from where, to where -/
abbrev PSt : Type := Nat × Nat × Nat × (Nat → Nat) × (Nat → Nat) × (Nat → Nat) × (Nat → Nat) × (Nat → Nat)
def pstep (q : Nat) (b : Int32) (i : Nat) : PSt → PSt
  | (l, g, u, cd, fi, cn, fr, to) => match q with
    | 0 => (2 * (evOf b).getD 0, g, u, cd, fi, cn, fr, to)
    | 1 => ((if b = 49 then l + 1 else l), g, u, cd, fi, cn, fr, to)
    | 2 => (l, g, u, cd, upN fi l u, upN cn l 0, upN fr l (i + 1), to)
    | 3 => (l, (if b = 109 then 192 else 16 * (rgOf b).getD 0), u, cd, fi, cn, fr, to)
    | 4 => (l, g + 64 * (sgOf b).getD 0, u, cd, fi, cn, fr, to)
    | 5 => (l, g, u + 1, upN cd u (g + valOf b), fi, upN cn l (cn l + 1), fr, upN to l (i + 1))
    | 6 => (l, g, u + 1, upN cd u (g + valOf b), fi, upN cn l (cn l + 1), fr, upN to l (i + 1))
    | _ => (l, g, u, cd, fi, cn, fr, to)
def ps0 : PSt := (0, 0, 0, fun _ => 0, fun _ => 0, fun _ => 0, fun _ => 0, fun _ => 0)
def pst (t : Nat → Int32) : Nat → PSt
  | 0 => ps0
  | i + 1 => pstep ((rs t i).getD 7) (t i) i (pst t i)
/-- what a text tells, when it is read -/
def prs (t : Nat → Int32) (n : Nat) : PSt := if well t n then pst t n else ps0
def pU (p : PSt) : Nat := p.2.2.1
def pCd (p : PSt) : Nat → Nat := p.2.2.2.1
def pFi (p : PSt) : Nat → Nat := p.2.2.2.2.1
def pCn (p : PSt) : Nat → Nat := p.2.2.2.2.2.1
def pFr (p : PSt) : Nat → Nat := p.2.2.2.2.2.2.1
def pTo (p : PSt) : Nat → Nat := p.2.2.2.2.2.2.2
/-- the ACTS of a line, as codes -/
def lact (t : Nat → Int32) (n l : Nat) : List Nat := (List.range (pCn (prs t n) l)).map (fun k => pCd (prs t n) (pFi (prs t n) l + k))
/-- a STATE: l, p, c, MODE -/
abbrev STt : Type := Int × Int × Int × Nat
def clI (x : Int) : Int := if 99 < x then 99 else if x < -99 then -99 else x
def rgI (s : STt) (k : Nat) : Int := match k with
  | 0 => s.1
  | 1 => s.2.1
  | _ => s.2.2.1
def rgS (s : STt) (k : Nat) (v : Int) : STt := match k with
  | 0 => (v, s.2.1, s.2.2.1, s.2.2.2)
  | 1 => (s.1, v, s.2.2.1, s.2.2.2)
  | _ => (s.1, s.2.1, v, s.2.2.2)
def act1 (s : STt) (c : Nat) : STt :=
  if 192 ≤ c then (s.1, s.2.1, s.2.2.1, c % 2) else
    let v : Int := if 10 ≤ c % 16 then rgI s (c % 16 - 10) else (c % 16 : Nat)
    let o : Int := rgI s (c / 16 % 4)
    rgS s (c / 16 % 4) (clI (if c / 64 = 0 then o + v else if c / 64 = 1 then o - v else v))
def actsS (s : STt) (l : List Nat) : STt := l.foldl act1 s
def stp (A : Nat → List Nat) (s : STt) (e : Nat) : STt := actsS s (A (2 * e + s.2.2.2))
def s0 : STt := (0, 0, 0, 0)
def runS (A : Nat → List Nat) (r : List Nat) : STt := r.foldl (stp A) s0
def coin (e : Nat) : Int := if e = 0 then 1 else if e = 1 then -1 else 0
def drw (r : List Nat) : Int := (r.map coin).sum
def mixA (A1 A2 : Nat → List Nat) (ls l : Nat) : List Nat := if ls.testBit l then A2 l else A1 l
/-- the text of a VERSION -/
def vln (S : Mem) (v : Nat) : Nat := (S 606 v 0).toNatClampNeg
def vA (S : Mem) (v : Nat) : Nat → List Nat := lact (S 43 v) (vln S v)
/-- rows of EVENTS in front of a BALANCE, by their figures -/
def rowF (n f : Nat) : List Nat := (List.range (n - 1)).map (fun k => f / 8 ^ (n - 2 - k) % 8) ++ [7]
def partsF (A : Nat → List Nat) (n f : Nat) : Bool := decide ((runS A (rowF n f)).2.2.1 ≠ drw (rowF n f))
def lpS (A : Nat → List Nat) : Nat → Option (Nat × Nat)
  | 0 => none
  | n + 1 => match lpS A n with
    | some r => some r
    | none => ((List.range (8 ^ n)).find? (partsF A (n + 1))).map (fun f => (n + 1, f))
/-- FILLS -/
def lostN (ev : Nat → Int32) : Nat → Nat
  | 0 => 0
  | i + 1 => lostN ev i + (if ev i = -1 then 1 else 0)
def fillR (ev : Nat → Int32) (n f : Nat) : List Nat := (List.range n).map (fun i => if ev i = -1 then f / 8 ^ (lostN ev i) % 8 else (ev i).toNatClampNeg)
def postS (A : Nat → List Nat) (r : List Nat) (p : Nat) (z : Int) : STt :=
  let s := runS A (r.take p)
  (r.drop p).foldl (stp A) (s.1, s.2.1, clI (s.2.2.1 + z), s.2.2.2)
def afar (A : Nat → List Nat) (r : List Nat) (L : Int) : Bool := (List.range (r.length + 1)).any (fun p => [-3, -2, -1, 1, 2, 3].any (fun z => decide ((postS A r p z).2.2.1 = L)))
def causeR (A : Nat → List Nat) (r : List Nat) (D L : Int) : Nat :=
  (if (runS A r).2.2.1 = L ∧ drw r = D then 1 else 0) + (if (runS A r).2.2.1 = L ∧ (drw r - D = 1 ∨ D - drw r = 1) then 2 else 0) + (if drw r = D ∧ afar A r L = true then 4 else 0)
def cvr (S : Mem) (c : Nat) : Nat := (S 200 c 0).toNatClampNeg
def cln (S : Mem) (c : Nat) : Nat := (S 202 c 0).toNatClampNeg
def clost (S : Mem) (c : Nat) : Nat := lostN (S 20 c) (cln S c)
def causeF (S : Mem) (c f : Nat) : Nat := causeR (vA S (cvr S c)) (fillR (S 20 c) (cln S c) f) (S 204 c 0).toInt (S 205 c 0).toInt
def allCa (S : Mem) (c : Nat) : Nat := (List.range (8 ^ clost S c)).foldl (fun a f => a ||| causeF S c f) 0
def talCa (S : Mem) (c w : Nat) : Nat := if w = 0 then 8 ^ clost S c else ((List.range (8 ^ clost S c)).map (fun f => causeF S c f / 2 ^ (w - 1) % 2)).sum
/-- does reading these pages settle it: fills that agree there have no two unlike CAUSES -/
def agree (rd f g : Nat) : Bool := (List.range 3).all (fun k => !rd.testBit k || f / 8 ^ k % 8 == g / 8 ^ k % 8)
def settl (S : Mem) (c rd : Nat) : Bool := (List.range (8 ^ clost S c)).all (fun f => (List.range (8 ^ clost S c)).all (fun g => !(agree rd f g && causeF S c f != 0 && causeF S c g != 0) || causeF S c f == causeF S c g))
def pagCa (S : Mem) (c : Nat) : Nat := (([0, 1, 2, 4, 3, 5, 6, 7].filter (fun r => decide (r < 2 ^ clost S c))).find? (settl S c)).getD 0
/-! THE STATE THAT BOTH HOLD: S has what matters of the class's memory -/
def esk : List Nat := [606, 43, 660, 200, 202, 20, 204, 205, 206, 207, 208, 551, 552, 553, 42, 453, 454, 34, 35, 36, 252, 253, 22, 23, 661]
def refk (k : Nat) : Prop := (53 ≤ k ∧ k ≤ 85) ∨ 700 ≤ k
def FrC (M M1 : Mem) : Prop := ∀ k, refk k → M1 k = M k
def FrR (M M1 : Mem) : Prop := ∀ k, ¬ refk k → M1 k = M k
def EsC (S M : Mem) : Prop := ∀ k, k ∈ esk → M k = S k
def rng (x : Int32) (a b : Int) : Prop := a ≤ x.toInt ∧ x.toInt ≤ b
def SOK (S : Mem) : Prop :=
  (∀ v, v < 4 → (∃ n, n ≤ 120 ∧ S 606 v 0 = nI n) ∧ ∀ i, rng (S 43 v i) 0 255) ∧
  (∃ n, n ≤ 12 ∧ S 660 0 0 = nI n) ∧
  (∀ c, c < nc S → (∃ v, v < 4 ∧ S 200 c 0 = nI v) ∧ (∃ n, n ≤ 12 ∧ S 202 c 0 = nI n) ∧ (∀ i, rng (S 20 c i) (-1) 7) ∧ clost S c ≤ 3 ∧ rng (S 204 c 0) (-99) 99 ∧ rng (S 205 c 0) (-99) 99 ∧ rng (S 206 c 0) 0 99 ∧ rng (S 207 c 0) 1 50 ∧ rng (S 208 c 0) 0 50) ∧
  (∀ s, s < 4 → (S 551 s 0 = 0 ∨ S 551 s 0 = 1) ∧ rng (S 552 s 0) 0 2 ∧ ∃ n, n ≤ 40 ∧ S 553 s 0 = nI n) ∧
  ((∃ n, n ≤ 40 ∧ S 453 0 0 = nI n) ∧ rng (S 454 0 0) 0 100 ∧ ∀ i, i < (S 453 0 0).toNatClampNeg → (∃ c, c < nc S ∧ S 34 0 i = nI c) ∧ rng (S 35 0 i) 0 399 ∧ rng (S 36 0 i) 1 1000) ∧
  ((∃ n, n ≤ 16 ∧ S 252 0 0 = nI n) ∧ rng (S 253 0 0) 0 255 ∧ ∀ i, i < (S 252 0 0).toNatClampNeg → rng (S 22 0 i) 0 16777215 ∧ rng (S 23 0 i) 0 16777215)
/-- what the class has read of a VERSION -/
def VCok (t : Nat → Int32) (n : Nat) (M : Mem) (v : Nat) : Prop :=
  M 607 v 0 = flt t n ∧ (∀ l, l < 16 → M 46 v l = nI (pCn (prs t n) l) ∧ M 47 v l = nI (pFr (prs t n) l) ∧ M 48 v l = nI (pTo (prs t n) l) ∧ (0 < pCn (prs t n) l → M 45 v l = nI (pFi (prs t n) l))) ∧ ∀ k, k < pU (prs t n) → M 44 v k = nI (pCd (prs t n) k)
def VC (S M : Mem) (v : Nat) : Prop := (M 609 v 0 = 0 ∨ M 609 v 0 = 1 ∧ VCok (S 43 v) (vln S v) M v) ∧ (∃ k, k ≤ 512 ∧ M 608 v 0 = nI k)
def JCok (S M : Mem) (c : Nat) : Prop := (∀ w, w < 4 → M 21 c w = nI (talCa S c w)) ∧ M 210 c 0 = nI (allCa S c) ∧ M 211 c 0 = nI (pagCa S c)
def JC (S M : Mem) (c : Nat) : Prop := M 203 c 0 = nI (clost S c) ∧ (M 212 c 0 = -1 ∨ (∃ k k', k ≤ k' ∧ k' ≤ 512 ∧ M 212 c 0 = nI k ∧ M 608 (cvr S c) 0 = nI k') ∧ (M 212 c 0 = M 608 (cvr S c) 0 → JCok S M c))
def SOC (S M : Mem) : Prop := M 662 0 0 = -1 ∨ ∃ v o ls, v < 4 ∧ o < 4 ∧ ls < 65536 ∧ M 662 0 0 = nI (ls * 16 + o * 4 + v) ∧
  match lpS (mixA (vA S v) (vA S o) ls) 5 with
  | none => M 663 0 0 = -1
  | some (n, f) => M 663 0 0 = nI n ∧ ∀ i, i < n → M 41 0 i = nI ((rowF n f).getD i 0)
/-- t: how many calls have been -/
def InvC (t : Nat) (S M : Mem) : Prop := EsC S M ∧ (∀ v, v < 4 → VC S M v ∧ ∃ k, k ≤ t ∧ M 608 v 0 = nI k) ∧ (∀ c, c < nc S → JC S M c) ∧ SOC S M
/-- what the reference has read of a VERSION -/
def onC (c : Nat) : Int32 := if 192 ≤ c then 3 else nI (c / 16 % 4)
def sgC (c : Nat) : Int32 := if 192 ≤ c then 0 else if c / 64 = 0 then 1 else if c / 64 = 1 then 2 else 0
def byC (c : Nat) : Int32 := if 192 ≤ c then nI (c % 2) else nI (c % 16)
def VRok (t : Nat → Int32) (n : Nat) (M : Mem) (v : Nat) : Prop :=
  M 56 0 v = flt t n ∧ (∀ l, l < 16 → M 58 0 (16 * v + l) = nI (pCn (prs t n) l) ∧ (0 < pCn (prs t n) l → M 57 0 (16 * v + l) = nI (pFi (prs t n) l))) ∧ ∀ k, k < pU (prs t n) → M 59 0 (60 * v + k) = onC (pCd (prs t n) k) ∧ M 60 0 (60 * v + k) = sgC (pCd (prs t n) k) ∧ M 61 0 (60 * v + k) = byC (pCd (prs t n) k)
def InvR (S M : Mem) : Prop :=
  (∀ v, v < 4 → M 53 0 v = S 606 v 0 ∧ (∀ i, i < vln S v → M 54 0 (120 * v + i) = S 43 v i) ∧ (M 55 0 v = 0 ∨ M 55 0 v = 1 ∧ VRok (S 43 v) (vln S v) M v)) ∧
  M 720 0 0 = S 660 0 0 ∧
  (∀ c, c < nc S → M 64 0 c = S 200 c 0 ∧ M 65 0 c = S 202 c 0 ∧ (∀ i, i < cln S c → M 66 0 (12 * c + i) = S 20 c i) ∧ M 67 0 c = S 204 c 0 ∧ M 68 0 c = S 205 c 0 ∧ M 69 0 c = S 206 c 0 ∧ M 70 0 c = S 207 c 0 ∧ M 71 0 c = S 208 c 0) ∧
  (∀ s, s < 4 → M 81 0 s = 1 - S 551 s 0 ∧ M 82 0 s = S 552 s 0 ∧ M 83 0 s = S 553 s 0 ∧ ∀ i, i < 40 → M 84 0 (40 * s + i) = S 42 s i) ∧
  (M 732 0 0 = S 453 0 0 ∧ M 736 0 0 = S 454 0 0 ∧ ∀ i, i < (S 453 0 0).toNatClampNeg → M 75 0 i = S 34 0 i ∧ M 76 0 i = S 35 0 i ∧ M 77 0 i = S 36 0 i) ∧
  (M 737 0 0 = S 252 0 0 ∧ M 740 0 0 = S 253 0 0 ∧ ∀ i, i < (S 252 0 0).toNatClampNeg → M 78 0 i = S 22 0 i ∧ M 79 0 i = S 23 0 i) ∧
  M 747 0 0 = S 661 0 0
