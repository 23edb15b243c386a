/-! ===== PURE: the abstract store: what class and reference both do ===== -/
/-- a row: key, content, numbers -/
abbrev RW := Int32 × Int32 × Int32 × Int32
/-- a store: is it there, its indexes, its rows -/
abbrev SA := Int32 × Int32 × Int32 × List RW
/-- a transaction: its tab, scope, whether it writes, phase -/
abbrev TX := Nat × Int32 × Int32 × Int32
/-- a cursor: transaction, store, field, direction, phase, number and key of its place -/
abbrev CU := Nat × Nat × Int32 × Int32 × Int32 × Int32 × Int32
abbrev TS := List TX × (Nat → SA)
/-- tabs: condition, wanted version, turn -/
abbrev TQ := Nat → Int32 × Int32 × Int32
/-- version, upgrade, turns; tabs; transactions and stores; -/
abbrev PA := (Int32 × Int32 × Int32) × TQ × TS
abbrev AS := (Int32 × Int32 × Int32) × TQ × TS × List CU
def upn {α : Type} (f : Nat → α) (k : Nat) (v : α) : Nat → α := fun j => if j = k then v else f j
theorem upn_s {α : Type} (f : Nat → α) (k : Nat) (v : α) : upn f k v k = v := if_pos rfl
theorem upn_n {α : Type} (f : Nat → α) {k j : Nat} (v : α) (h : j ≠ k) : upn f k v j = f j := if_neg h
def txAt (ts : List TX) (i : Nat) : TX := ts.getD i (0, 0, 0, 0)
def cuAt (cs : List CU) (i : Nat) : CU := cs.getD i (0, 0, 0, 0, 0, 0, 0)
abbrev rKey (r : RW) : Int32 := r.1
def rNum (f : Int32) (r : RW) : Int32 := if f = 0 then r.2.2.1 else r.2.2.2
def sIx (f : Nat) (s : SA) : Int32 := if f = 0 then s.2.1 else s.2.2.1
abbrev pendT (t : TX) : Prop := t.2.2.2 = 0 ∨ t.2.2.2 = 1
abbrev cflT (t u : TX) : Prop := ¬ t.2.1 &&& u.2.1 = 0 ∧ (¬ t.2.2.1 = 0 ∨ ¬ u.2.2.1 = 0)
abbrev mwA (ts : List TX) (i : Nat) : Prop := ∃ j ∈ List.range i, pendT (txAt ts j) ∧ cflT (txAt ts j) (txAt ts i)
def setP (ts : List TX) (i : Nat) (p : Int32) : List TX := ts.set i ((txAt ts i).1, (txAt ts i).2.1, (txAt ts i).2.2.1, p)
def copyA (sc : Int32) (a b : Nat) (st : Nat → SA) : Nat → SA := fun j => if b ≤ j ∧ j < b + 3 ∧ inS sc (nI (j - b)) then st (a + (j - b)) else st j
def runA (i : Nat) (T : TS) : TS := (setP T.1 i 1, if (txAt T.1 i).2.2.1 = 0 then T.2 else copyA (txAt T.1 i).2.1 0 3 T.2)
def giveA (i : Nat) (T : TS) : TS := (setP T.1 i 3, if (txAt T.1 i).2.2.2 = 1 ∧ ¬ (txAt T.1 i).2.2.1 = 0 then copyA (txAt T.1 i).2.1 3 0 T.2 else T.2)
def goA : Nat → Nat → Nat → TS → Nat × TS
  | 0, _, c, T => (c, T)
  | n + 1, i, c, T => if (txAt T.1 i).2.2.2 = 0 ∧ ¬ mwA T.1 i then goA n (i + 1) (c + 1) (runA i T) else goA n (i + 1) c T
def goesA (T : TS) : Nat × TS := goA T.1.length 0 0 T
def closeA (j : Nat) : Nat → TS → TS
  | 0, T => T
  | n + 1, T => closeA j n (if (txAt T.1 n).1 = j ∧ pendT (txAt T.1 n) then giveA n T else T)
abbrev insA (B : TQ) (j : Nat) : Prop := (B j).1 = 1 ∨ (B j).1 = 2
abbrev busyA (B : TQ) : Prop := ∃ j ∈ List.range 4, insA B j
/-- an upgrade would follow: another tab is blocked at a greater version -/
abbrev folA (v : Int32) (B : TQ) (p : Nat) : Prop := ∃ j ∈ List.range 4, j ≠ p ∧ (B j).1 = 3 ∧ v < (B j).2.1
abbrev busyX (B : TQ) (p : Nat) : Prop := ∃ j ∈ List.range 4, j ≠ p ∧ insA B j
def fbB (B : TQ) (k : Nat) (b : Option Nat) : Bool := match b with
  | none => true
  | some q => decide ((B k).2.2 < (B q).2.2)
def fbA (B : TQ) : Nat → Nat → Option Nat → Option Nat
  | 0, _, b => b
  | n + 1, k, b => fbA B n (k + 1) (if (B k).1 = 3 ∧ fbB B k b = true then some k else b)
def beginA (j : Nat) (a : PA) : PA := ((a.1.1, nI a.2.2.1.length, a.1.2.2), upn a.2.1 j (2, (a.2.1 j).2), runA a.2.2.1.length (a.2.2.1 ++ [(j, 7, 1, 0)], a.2.2.2))
def looksA : Nat → PA → PA
  | 0, a => a
  | n + 1, a => if busyA a.2.1 then a else match fbA a.2.1 4 0 none with
    | none => a
    | some j => looksA n (if (a.2.1 j).2.1 ≤ a.1.1 then (a.1, upn a.2.1 j (0, (a.2.1 j).2), a.2.2) else beginA j a)
/-! keys and entries -/
abbrev kP (k : Int32) : Prop := x_X1_isKey k = some 1
abbrev btwR (a b : Int32) (r : RW) : Prop := rk a ≤ rk r.1 ∧ rk r.1 ≤ rk b
abbrev tknR (xs : List RW) (f : Int32) (r : RW) : Prop := ¬ rNum f r = -1 ∧ ∃ x ∈ xs, ¬ x.1 = r.1 ∧ rNum f x = rNum f r
abbrev dblR (xs : List RW) (f : Int32) : Prop := ∃ x ∈ xs, tknR xs f x
def findR (xs : List RW) (k : Int32) : Option RW := xs.find? (fun x => decide (x.1 = k))
/-- a row set: in the place of the one with its key, or behind all -/
def putR : List RW → RW → List RW
  | [], r => [r]
  | x :: xs, r => if x.1 = r.1 then r :: xs else x :: putR xs r
def remR (xs : List RW) (a b : Int32) : List RW := xs.filter (fun r => ¬ btwR a b r)
/-- the number of an entry: by keys all have 0 -/
def entR (f : Int32) (r : RW) : Int32 := if f = -1 then 0 else rNum f r
/-- an entry is behind the place of a cursor -/
def behR (c : CU) (r : RW) : Bool :=
  if entR c.2.2.1 r = -1 then false
  else if c.2.2.2.2.1 = 0 then true
  else if ¬ c.2.2.2.1 ≤ 1 ∧ ¬ c.2.2.1 = -1 then (if c.2.2.2.1 = 3 then decide (entR c.2.2.1 r < c.2.2.2.2.2.1) else decide (c.2.2.2.2.2.1 < entR c.2.2.1 r))
  else if c.2.2.2.1 = 1 ∨ c.2.2.2.1 = 3 then decide (entR c.2.2.1 r < c.2.2.2.2.2.1 ∨ entR c.2.2.1 r = c.2.2.2.2.2.1 ∧ rk r.1 < rk c.2.2.2.2.2.2)
  else decide (c.2.2.2.2.2.1 < entR c.2.2.1 r ∨ entR c.2.2.1 r = c.2.2.2.2.2.1 ∧ rk c.2.2.2.2.2.2 < rk r.1)
/-- an entry comes ahead of another one -/
def sooR (c : CU) (r b : RW) : Bool :=
  if (¬ c.2.2.2.1 ≤ 1 ∧ ¬ c.2.2.1 = -1) ∧ entR c.2.2.1 r = entR c.2.2.1 b then decide (rk r.1 < rk b.1)
  else if c.2.2.2.1 = 1 ∨ c.2.2.2.1 = 3 then decide (entR c.2.2.1 b < entR c.2.2.1 r ∨ entR c.2.2.1 r = entR c.2.2.1 b ∧ rk b.1 < rk r.1)
  else decide (entR c.2.2.1 r < entR c.2.2.1 b ∨ entR c.2.2.1 r = entR c.2.2.1 b ∧ rk r.1 < rk b.1)
def bestF (P : RW → Bool) (lt : RW → RW → Bool) (b : Option RW) (r : RW) : Option RW := match b with
  | none => if P r then some r else none
  | some q => if P r && lt r q then some r else some q
def nextR (c : CU) (xs : List RW) : Option RW := xs.foldl (bestF (behR c) (sooR c)) none
/-! the calls: which of the three exceptions (0: none), the answer, the state then -/
abbrev OUT := Nat × Int32 × AS
abbrev oT (v : Int32) (n : Nat) : Prop := v < 0 ∨ nI n ≤ v
abbrev noS (a : AS) (s : Int32) : Prop := oT s 3 ∨ (a.2.2.1.2 s.toNatClampNeg).1 = 0
abbrev rng (v lo hi : Int32) : Prop := v < lo ∨ ¬ v ≤ hi
abbrev lenT (a : AS) : Nat := a.2.2.1.1.length
abbrev oX (a : AS) (t : Int32) : Prop := oT t (lenT a)
abbrev txA (a : AS) (t : Int32) : TX := txAt a.2.2.1.1 t.toNatClampNeg
abbrev stA (a : AS) (s : Int32) : SA := a.2.2.1.2 s.toNatClampNeg
abbrev reA (a : AS) (t s : Int32) : Prop := (txA a t).2.2.2 = 1 ∧ inS (txA a t).2.1 s
abbrev wrA (a : AS) (t s : Int32) : Prop := reA a t s ∧ ¬ (txA a t).2.2.1 = 0
def setS (a : AS) (s : Int32) (v : SA) : AS := (a.1, a.2.1, (a.2.2.1.1, upn a.2.2.1.2 s.toNatClampNeg v), a.2.2.2)
def plus (p : PA) (q : List CU) : AS := (p.1, p.2.1, p.2.2, q)
/-- no room for the upgrade that would follow -/
abbrev lateA (a : AS) (p : Nat) : Prop := lenT a = 60 ∧ ¬ busyX a.2.1 p ∧ folA a.1.1 a.2.1 p
def openA (p v : Int32) (a : AS) : OUT :=
  if oT p 4 then (1, 0, a) else if rng v 1 100 then (2, 0, a)
  else if ¬ (a.2.1 p.toNatClampNeg).1 = 0 ∨ v < a.1.1 ∨ (v = a.1.1 ∧ ¬ a.1.2.1 = -1) ∨ (a.1.1 < v ∧ ¬ busyA a.2.1 ∧ lenT a = 60) then (3, 0, a)
  else if v = a.1.1 then (0, 1, (a.1, upn a.2.1 p.toNatClampNeg (1, (a.2.1 p.toNatClampNeg).2), a.2.2))
  else (fun z : PA => (0, (z.2.1 p.toNatClampNeg).1, plus z a.2.2.2)) (looksA 4 ((a.1.1, a.1.2.1, a.1.2.2 + 1), upn a.2.1 p.toNatClampNeg (3, v, a.1.2.2), a.2.2.1))
def closA (p : Int32) (a : AS) : OUT :=
  if oT p 4 then (1, 0, a)
  else if (a.2.1 p.toNatClampNeg).1 = 0 ∨ lateA a p.toNatClampNeg then (3, 0, a)
  else (fun z : PA => (0, (a.2.1 p.toNatClampNeg).1, plus z a.2.2.2)) (looksA 4 ((a.1.1, (if (a.2.1 p.toNatClampNeg).1 = 2 then -1 else a.1.2.1), a.1.2.2), upn a.2.1 p.toNatClampNeg (0, (a.2.1 p.toNatClampNeg).2), (goesA (closeA p.toNatClampNeg (lenT a) a.2.2.1)).2))
def statA (p : Int32) (a : AS) : OUT := if oT p 4 then (1, 0, a) else (0, (a.2.1 p.toNatClampNeg).1, a)
def mkSA (t s : Int32) (a : AS) : OUT :=
  if oX a t then (1, 0, a) else if oT s 3 then (1, 0, a) else if ¬ t = a.1.2.1 then (3, 0, a)
  else if ¬ (stA a s).1 = 0 then (3, 0, a) else (0, 0, setS a s (1, (stA a s).2))
def delA (t s : Int32) (a : AS) : OUT :=
  if oX a t then (1, 0, a) else if noS a s then (1, 0, a) else if ¬ t = a.1.2.1 then (3, 0, a)
  else (0, nI (stA a s).2.2.2.length, setS a s (0, 0, 0, []))
def mkIA (t s f u : Int32) (a : AS) : OUT :=
  if oX a t then (1, 0, a) else if noS a s then (1, 0, a) else if oT f 2 then (1, 0, a) else if ¬ t = a.1.2.1 then (3, 0, a)
  else if ¬ sIx f.toNatClampNeg (stA a s) = 0 ∨ (¬ u = 0 ∧ dblR (stA a s).2.2.2 f) then (3, 0, a)
  else (0, 0, setS a s (if f = 0 then ((stA a s).1, (if u = 0 then 1 else 2), (stA a s).2.2) else ((stA a s).1, (stA a s).2.1, (if u = 0 then 1 else 2), (stA a s).2.2.2)))
def begA (p sc u : Int32) (a : AS) : OUT :=
  if oT p 4 then (1, 0, a)
  else if ¬ rng sc 1 7 ∧ ∃ k ∈ List.range 3, inS sc (nI k) ∧ (a.2.2.1.2 k).1 = 0 then (1, 0, a)
  else if rng sc 1 7 then (2, 0, a)
  else if ¬ (a.2.1 p.toNatClampNeg).1 = 1 ∨ ¬ lenT a < 60 then (3, 0, a)
  else (0, nI (lenT a), (a.1, a.2.1, (goesA (a.2.2.1.1 ++ [(p.toNatClampNeg, sc, u, 0)], a.2.2.1.2)).2, a.2.2.2))
def staA (t : Int32) (a : AS) : OUT := if oX a t then (1, 0, a) else (0, (txA a t).2.2.2, a)
def comA (t : Int32) (a : AS) : OUT :=
  if oX a t then (1, 0, a) else if ¬ (txA a t).2.2.2 = 1 then (3, 0, a)
  else (fun z : Nat × TS => (0, nI z.1, (if t = a.1.2.1 then (((a.2.1 (txA a t).1).2.1, -1, a.1.2.2), upn a.2.1 (txA a t).1 (1, (a.2.1 (txA a t).1).2), z.2, a.2.2.2) else (a.1, a.2.1, z.2, a.2.2.2)))) (goesA (setP a.2.2.1.1 t.toNatClampNeg 2, a.2.2.1.2))
def aboA (t : Int32) (a : AS) : OUT :=
  if oX a t then (1, 0, a) else if ¬ pendT (txA a t) ∨ (t = a.1.2.1 ∧ lateA a (txA a t).1) then (3, 0, a)
  else (fun z : Nat × TS => (0, nI z.1, (if t = a.1.2.1 then plus (looksA 4 ((a.1.1, -1, a.1.2.2), upn a.2.1 (txA a t).1 (0, (a.2.1 (txA a t).1).2), z.2)) a.2.2.2 else (a.1, a.2.1, z.2, a.2.2.2)))) (goesA (giveA t.toNatClampNeg a.2.2.1))
abbrev allR (a : AS) : Nat := (a.2.2.1.2 0).2.2.2.length + (a.2.2.1.2 1).2.2.2.length + (a.2.2.1.2 2).2.2.2.length
def putA (t s k c f g : Int32) (a : AS) : OUT :=
  if oX a t then (1, 0, a) else if noS a s then (1, 0, a) else if ¬ kP k then (2, 0, a)
  else if rng c 0 9999 then (2, 0, a) else if rng f (-1) 999 then (2, 0, a) else if rng g (-1) 999 then (2, 0, a)
  else if ¬ wrA a t s then (3, 0, a)
  else if (((stA a s).2.1 = 2 ∧ tknR (stA a s).2.2.2 0 (k, c, f, g)) ∨ ((stA a s).2.2.1 = 2 ∧ tknR (stA a s).2.2.2 1 (k, c, f, g))) ∨ (findR (stA a s).2.2.2 k = none ∧ ¬ allR a < 40) then (3, 0, a)
  else (0, (if findR (stA a s).2.2.2 k = none then 1 else 0), setS a s ((stA a s).1, (stA a s).2.1, (stA a s).2.2.1, putR (stA a s).2.2.2 (k, c, f, g)))
def rmvA (t s x y : Int32) (a : AS) : OUT :=
  if oX a t then (1, 0, a) else if noS a s then (1, 0, a) else if ¬ kP x then (2, 0, a) else if ¬ kP y then (2, 0, a)
  else if ¬ wrA a t s then (3, 0, a)
  else (0, nI ((stA a s).2.2.2.countP (fun r => decide (btwR x y r))), setS a s ((stA a s).1, (stA a s).2.1, (stA a s).2.2.1, remR (stA a s).2.2.2 x y))
def getA (t s k : Int32) (a : AS) : OUT :=
  if oX a t then (1, 0, a) else if noS a s then (1, 0, a) else if ¬ kP k then (2, 0, a) else if ¬ reA a t s then (3, 0, a)
  else (0, (match findR (stA a s).2.2.2 k with | none => -1 | some r => r.2.1), a)
def cntA (t s x y : Int32) (a : AS) : OUT :=
  if oX a t then (1, 0, a) else if noS a s then (1, 0, a) else if ¬ kP x then (2, 0, a) else if ¬ kP y then (2, 0, a) else if ¬ reA a t s then (3, 0, a)
  else (0, nI ((stA a s).2.2.2.countP (fun r => decide (btwR x y r))), a)
def curA (t s f d : Int32) (a : AS) : OUT :=
  if oX a t then (1, 0, a) else if noS a s then (1, 0, a) else if ¬ f = -1 ∧ oT f 2 then (1, 0, a) else if rng d 0 3 then (2, 0, a)
  else if ¬ reA a t s then (3, 0, a)
  else if (¬ f = -1 ∧ sIx f.toNatClampNeg (stA a s) = 0) ∨ ¬ a.2.2.2.length < 40 then (3, 0, a)
  else (0, nI a.2.2.2.length, (a.1, a.2.1, a.2.2.1, a.2.2.2 ++ [(t.toNatClampNeg, s.toNatClampNeg, f, d, 0, 0, 0)]))
def setC (a : AS) (i : Nat) (c : CU) : AS := (a.1, a.2.1, a.2.2.1, a.2.2.2.set i c)
def steA (i : Int32) (a : AS) : OUT :=
  if oT i a.2.2.2.length then (1, 0, a)
  else (fun c : CU => if ¬ (txAt a.2.2.1.1 c.1).2.2.2 = 1 ∨ (a.2.2.1.2 c.2.1).1 = 0 ∨ c.2.2.2.2.1 = 2 then (3, 0, a)
    else (match nextR c (a.2.2.1.2 c.2.1).2.2.2 with
      | none => (0, -1, setC a i.toNatClampNeg (c.1, c.2.1, c.2.2.1, c.2.2.2.1, 2, c.2.2.2.2.2))
      | some r => (0, r.1, setC a i.toNatClampNeg (c.1, c.2.1, c.2.2.1, c.2.2.2.1, 1, entR c.2.2.1 r, r.1)))) (cuAt a.2.2.2 i.toNatClampNeg)
def updA (i v : Int32) (a : AS) : OUT :=
  if oT i a.2.2.2.length then (1, 0, a) else if rng v 0 9999 then (2, 0, a)
  else (fun c : CU => if ¬ (txAt a.2.2.1.1 c.1).2.2.2 = 1 ∨ (txAt a.2.2.1.1 c.1).2.2.1 = 0 ∨ ¬ c.2.2.2.2.1 = 1 then (3, 0, a)
    else (match findR (a.2.2.1.2 c.2.1).2.2.2 c.2.2.2.2.2.2 with
      | none => (3, 0, a)
      | some r => (0, r.2.1, (a.1, a.2.1, (a.2.2.1.1, upn a.2.2.1.2 c.2.1 ((a.2.2.1.2 c.2.1).1, (a.2.2.1.2 c.2.1).2.1, (a.2.2.1.2 c.2.1).2.2.1, putR (a.2.2.1.2 c.2.1).2.2.2 (r.1, v, r.2.2))), a.2.2.2)))) (cuAt a.2.2.2 i.toNatClampNeg)
