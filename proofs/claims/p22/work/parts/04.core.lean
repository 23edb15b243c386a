/-! ===== THE WORLD: one abstract memory for the class's objects (by reference numbers: address + 1, 0 is null), one for the reference's (its scalars and arrays by the number of the field) ===== -/
abbrev CS : Type := (Nat → Nat → Int32) × (Nat → Nat → Int32) × (Nat → Nat → Nat) × (Nat → Nat → Nat) × (Nat → Nat → Int64) × (Nat → Nat → Int64) × Nat × Nat × Nat
abbrev MS : Type := (Nat → Int32) × (Nat → Nat → Int32)
abbrev TW : Type := CS × MS
abbrev GG : Type := va_G × (Nat → ClassId) × (Nat → Nat) × Heap × (Nat → Nat) × (State → Prop)
def wI (c : CS) (f x : Nat) : Int32 := c.1 f x
def wA (c : CS) (x i : Nat) : Int32 := c.2.1 x i
def wJ (c : CS) (f x : Nat) : Nat := c.2.2.1 f x
def wB (c : CS) (x i : Nat) : Nat := c.2.2.2.1 x i
def wL (c : CS) (f x : Nat) : Int64 := c.2.2.2.2.1 f x
def wM (c : CS) (x i : Nat) : Int64 := c.2.2.2.2.2.1 x i
def wz (c : CS) : Nat := c.2.2.2.2.2.2.1
def wl (c : CS) : Nat := c.2.2.2.2.2.2.2.1
def wk (c : CS) : Nat := c.2.2.2.2.2.2.2.2
def u2 {α : Type} (F : Nat → Nat → α) (f x : Nat) (v : α) : Nat → Nat → α := fun g y => if g = f ∧ y = x then v else F g y
def gs (m : MS) (k : Nat) : Int32 := m.1 k
def ga (m : MS) (k i : Nat) : Int32 := m.2 k i
def ss (m : MS) (k : Nat) (v : Int32) : MS := (fun j => if j = k then v else m.1 j, m.2)
def sa (m : MS) (k i : Nat) (v : Int32) : MS := (m.1, u2 m.2 k i v)
def gD (g : GG) : va_G := g.1
def gcy (g : GG) : Nat → ClassId := g.2.1
def gnn (g : GG) : Nat → Nat := g.2.2.1
def gH (g : GG) : Heap := g.2.2.2.1
def gmd (g : GG) : Nat → Nat := g.2.2.2.2.1
def gP (g : GG) : State → Prop := g.2.2.2.2.2
def gA (g : GG) : Nat → Prop := fun q => gnn g 0 ≤ q
def ro (x : Nat) : Option Nat := if x = 0 then none else some (x - 1)
def rv (x : Nat) : Value := va_rf (ro x)
abbrev vR (i : Int32) (n : Nat) : Prop := ¬ (i < 0 ∨ n ≤ i.toNatClampNeg)
abbrev isB (v : Int32) : Prop := v = 0 ∨ v = 1
/-- the class's objects and arrays, by their kinds -/
def cent (g : GG) (c : CS) (x : Nat) : Option va_E := match wJ c 0 x with
  | 1 => some (.inr (2, [.int (wI c 40 x), .int (wI c 41 x), .int (wI c 42 x), .int (wI c 43 x)]))
  | 2 => some (.inr (5, [rv (wJ c 80 x), .int (wI c 81 x), .int (wI c 82 x), .int (wI c 83 x)]))
  | 3 => some (.inr (1, [rv (wJ c 120 x), rv (wJ c 121 x), .int (wI c 122 x), .int (wI c 123 x), .int (wI c 124 x), .int (wI c 125 x), .int (wI c 126 x), .long (wL c 127 x)]))
  | 4 => some (.inr (4, [.int (wI c 160 x), .int (wI c 161 x), .int (wI c 162 x)]))
  | 5 => some (.inr (3, [.int (wI c 200 x), rv (wJ c 201 x), rv (wJ c 202 x)]))
  | 6 => some (.inr (6, [rv (wJ c 240 x), rv (wJ c 241 x), rv (wJ c 242 x), rv (wJ c 243 x), rv (wJ c 244 x), .int (wI c 245 x), .int (wI c 246 x), .int (wI c 247 x)]))
  | 7 => some (.inr (0, [.int (wI c 280 x), rv (wJ c 281 x), .int (wI c 282 x)]))
  | 8 => some (.inl (gcy g 0, wJ c 1 x, .inl (fun i => wA c x i)))
  | 9 => some (.inl (gcy g 1, wJ c 1 x, .inl (fun i => wA c x i)))
  | 10 => some (.inl (gcy g 2, wJ c 1 x, .inr (.inr (.inr (.inr (fun i => ro (wB c x i)))))))
  | 11 => some (.inl (gcy g 3, wJ c 1 x, .inr (.inr (.inr (.inr (fun i => ro (wB c x i)))))))
  | 12 => some (.inl (gcy g 4, wJ c 1 x, .inr (.inr (.inr (.inr (fun i => ro (wB c x i)))))))
  | 13 => some (.inl (gcy g 4, wJ c 1 x, .inr (.inr (.inr (.inr (fun i => ro (wB c x i)))))))
  | _ => none
/-- the law's own arrays: 1 its a, 2 its c, 3 its t, 4 its h -/
def mlen (k : Nat) : Nat := match k with
  | 1 => 60 | 2 => 60 | 3 => 16 | 4 => 6 | _ => 0
def mcy (_ : Nat) : Nat := 0
def ment (g : GG) (m : MS) (k : Nat) : Option va_E := if mlen k = 0 then none else some (.inl (gcy g (mcy k), mlen k, .inl (fun i => ga m k i)))
def cH (g : GG) (c : CS) (H : Heap) : Prop := wJ c 0 0 = 0 ∧ ∀ (x : Nat) (e : va_E), cent g c x = some e → va_at (gD g) vwCl (x - 1, e) H ∧ (wJ c 0 x ≠ 13 → gnn g 0 ≤ x - 1)
def mH (g : GG) (c : CS) (m : MS) (H : Heap) : Prop := gnn g 4 = 1 → (∀ (k : Nat) (e : va_E), ment g m k = some e → va_at (gD g) vwCl (gmd g k, e) H ∧ wJ c 0 (gmd g k + 1) = 0 ∧ gnn g 0 ≤ gmd g k) ∧ ∀ (j k : Nat) (e e' : va_E), ment g m j = some e → ment g m k = some e' → gmd g j = gmd g k → j = k
def hsl (H : Heap) : Nat := (H.toList.map (fun x => x.slots.size)).sum
def wH (g : GG) (z : Nat) (T : TW) (H : Heap) (locs : List Loc) : Prop := cH g T.1 H ∧ mH g T.1 T.2 H ∧ (∀ q : Nat, q < gnn g 0 → H[q]? = (gH g)[q]?) ∧ (gnn g 0 ≤ z ∧ z ≤ H.size ∧ H.size = wz T.1 ∧ hsl H + wk T.1 ≤ gnn g 2 ∧ wz T.1 + wl T.1 ≤ gnn g 1 ∧ wJ T.1 2 0 = gnn g 3 + 1 ∧ wJ T.1 3 0 = gnn g 5 + 1) ∧ ∀ q ∈ locs, gA g q.base
def gty (g : GG) : List (ClassId × FieldType) := [(gcy g 0, .int), (gcy g 1, .int), (gcy g 2, .object "TabStore$Store"), (gcy g 3, .object "TabStore$Tab"), (gcy g 4, .object "java/lang/Object")]
/-- what the tables say; it doesn't change while they grow warmer -/
def TB (g : GG) (s : State) : Prop := va_K (gD g) vwCl (gty g) s ∧ gP g s ∧ ∀ u U : State, u.WarmedH U.vm → gP g u → gP g U
theorem TB.moved {g : GG} {u U : State} (hW : u.WarmedH U.vm) (h : TB g u) : TB g U := ⟨va_K.moved hW.alike h.1, h.2.2 u U hW h.2.1, h.2.2⟩
/-! the extracted functions' words -/
def bd {α β : Type} (x : Option α) (f : α → Option β) : Option β := match x with
  | some a => f a
  | none => none
def bs {α β : Type} (x : α) (f : α → β) : β := f x
theorem og {c : Prop} [Decidable c] {α : Type} {x : Option α} {y : α} (h : (if c then x else none) = some y) : c ∧ x = some y := by
  by_cases hc : c
  · rw [if_pos hc] at h; exact ⟨hc, h⟩
  · rw [if_neg hc] at h; cases h
theorem ot {c : Prop} [Decidable c] {α : Type} {a b y : α} (hc : c) (h : (if c then a else b) = y) : a = y := by rw [if_pos hc] at h; exact h
theorem oe {c : Prop} [Decidable c] {α : Type} {a b y : α} (hc : ¬ c) (h : (if c then a else b) = y) : b = y := by rw [if_neg hc] at h; exact h
theorem ob {α β : Type} {x : Option α} {f : α → Option β} {y : β} (h : bd x f = some y) : ∃ a, x = some a ∧ f a = some y := by
  cases x with
  | none => cases h
  | some a => exact ⟨a, rfl, h⟩
theorem ol {α β : Type} {x : α} {f : α → Option β} {y : β} (h : bs x f = some y) : ∃ a, a = x ∧ f a = some y := ⟨x, rfl, h⟩
def FU : Nat := 1000
def b0 { ρ : Type} (x : Option (Unit)) (f : (Unit → Option ρ)) : Option ρ := match x with
  | some _ => f ()
  | none => none
theorem ob0 { ρ : Type} {x : Option (Unit)} {f : (Unit → Option ρ)} {y : ρ} (h : b0 x f = some y) : ∃ a, x = some a ∧ f () = some y := by
  cases x with
  | none => cases h
  | some a => exact ⟨a, rfl, h⟩
def l0 { ρ : Type} (x : Option ((Unit) ⊕ ρ)) (f : (Unit → Option ρ)) : Option ρ := match x with
  | some (.inl _) => f ()
  | some (.inr r) => some r
  | none => none
theorem ol0 { ρ : Type} {x : Option ((Unit) ⊕ ρ)} {f : (Unit → Option ρ)} {y : ρ} (h : l0 x f = some y) : ∃ a, x = some a ∧ ((a = .inl () → f () = some y)) ∧ ∀ r, a = .inr r → y = r := by
  cases x with
  | none => cases h
  | some a => exact ⟨a, rfl, fun e => by subst e; exact h, fun r e => by subst e; exact (Option.some.inj h).symm⟩
theorem ob1 {α ρ : Type} {x : Option (α)} {f : (α → Option ρ)} {y : ρ} (h : bd x f = some y) : ∃ a, x = some a ∧ ∀ (a0 : α), a = a0 → f a0 = some y := by
  cases x with
  | none => cases h
  | some a => exact ⟨a, rfl, fun a0 e => by subst e; exact h⟩
def l1 {α ρ : Type} (x : Option ((α) ⊕ ρ)) (f : (α → Option ρ)) : Option ρ := match x with
  | some (.inl a0) => f a0
  | some (.inr r) => some r
  | none => none
theorem ol1 {α ρ : Type} {x : Option ((α) ⊕ ρ)} {f : (α → Option ρ)} {y : ρ} (h : l1 x f = some y) : ∃ a, x = some a ∧ (∀ (a0 : α), a = .inl a0 → f a0 = some y) ∧ ∀ r, a = .inr r → y = r := by
  cases x with
  | none => cases h
  | some a => exact ⟨a, rfl, fun a0 e => by subst e; exact h, fun r e => by subst e; exact (Option.some.inj h).symm⟩
def b2 {α β ρ : Type} (x : Option (α × β)) (f : (α → β → Option ρ)) : Option ρ := match x with
  | some (a0, a1) => f a0 a1
  | none => none
theorem ob2 {α β ρ : Type} {x : Option (α × β)} {f : (α → β → Option ρ)} {y : ρ} (h : b2 x f = some y) : ∃ a, x = some a ∧ ∀ (a0 : α) (a1 : β), a = (a0, a1) → f a0 a1 = some y := by
  cases x with
  | none => cases h
  | some a => exact ⟨a, rfl, fun a0 a1 e => by subst e; exact h⟩
def l2 {α β ρ : Type} (x : Option ((α × β) ⊕ ρ)) (f : (α → β → Option ρ)) : Option ρ := match x with
  | some (.inl (a0, a1)) => f a0 a1
  | some (.inr r) => some r
  | none => none
theorem ol2 {α β ρ : Type} {x : Option ((α × β) ⊕ ρ)} {f : (α → β → Option ρ)} {y : ρ} (h : l2 x f = some y) : ∃ a, x = some a ∧ (∀ (a0 : α) (a1 : β), a = .inl (a0, a1) → f a0 a1 = some y) ∧ ∀ r, a = .inr r → y = r := by
  cases x with
  | none => cases h
  | some a => exact ⟨a, rfl, fun a0 a1 e => by subst e; exact h, fun r e => by subst e; exact (Option.some.inj h).symm⟩
def b3 {α β γ ρ : Type} (x : Option (α × β × γ)) (f : (α → β → γ → Option ρ)) : Option ρ := match x with
  | some (a0, a1, a2) => f a0 a1 a2
  | none => none
theorem ob3 {α β γ ρ : Type} {x : Option (α × β × γ)} {f : (α → β → γ → Option ρ)} {y : ρ} (h : b3 x f = some y) : ∃ a, x = some a ∧ ∀ (a0 : α) (a1 : β) (a2 : γ), a = (a0, a1, a2) → f a0 a1 a2 = some y := by
  cases x with
  | none => cases h
  | some a => exact ⟨a, rfl, fun a0 a1 a2 e => by subst e; exact h⟩
def l3 {α β γ ρ : Type} (x : Option ((α × β × γ) ⊕ ρ)) (f : (α → β → γ → Option ρ)) : Option ρ := match x with
  | some (.inl (a0, a1, a2)) => f a0 a1 a2
  | some (.inr r) => some r
  | none => none
theorem ol3 {α β γ ρ : Type} {x : Option ((α × β × γ) ⊕ ρ)} {f : (α → β → γ → Option ρ)} {y : ρ} (h : l3 x f = some y) : ∃ a, x = some a ∧ (∀ (a0 : α) (a1 : β) (a2 : γ), a = .inl (a0, a1, a2) → f a0 a1 a2 = some y) ∧ ∀ r, a = .inr r → y = r := by
  cases x with
  | none => cases h
  | some a => exact ⟨a, rfl, fun a0 a1 a2 e => by subst e; exact h, fun r e => by subst e; exact (Option.some.inj h).symm⟩
def b4 {α β γ δ ρ : Type} (x : Option (α × β × γ × δ)) (f : (α → β → γ → δ → Option ρ)) : Option ρ := match x with
  | some (a0, a1, a2, a3) => f a0 a1 a2 a3
  | none => none
theorem ob4 {α β γ δ ρ : Type} {x : Option (α × β × γ × δ)} {f : (α → β → γ → δ → Option ρ)} {y : ρ} (h : b4 x f = some y) : ∃ a, x = some a ∧ ∀ (a0 : α) (a1 : β) (a2 : γ) (a3 : δ), a = (a0, a1, a2, a3) → f a0 a1 a2 a3 = some y := by
  cases x with
  | none => cases h
  | some a => exact ⟨a, rfl, fun a0 a1 a2 a3 e => by subst e; exact h⟩
def l4 {α β γ δ ρ : Type} (x : Option ((α × β × γ × δ) ⊕ ρ)) (f : (α → β → γ → δ → Option ρ)) : Option ρ := match x with
  | some (.inl (a0, a1, a2, a3)) => f a0 a1 a2 a3
  | some (.inr r) => some r
  | none => none
theorem ol4 {α β γ δ ρ : Type} {x : Option ((α × β × γ × δ) ⊕ ρ)} {f : (α → β → γ → δ → Option ρ)} {y : ρ} (h : l4 x f = some y) : ∃ a, x = some a ∧ (∀ (a0 : α) (a1 : β) (a2 : γ) (a3 : δ), a = .inl (a0, a1, a2, a3) → f a0 a1 a2 a3 = some y) ∧ ∀ r, a = .inr r → y = r := by
  cases x with
  | none => cases h
  | some a => exact ⟨a, rfl, fun a0 a1 a2 a3 e => by subst e; exact h, fun r e => by subst e; exact (Option.some.inj h).symm⟩
def b5 {α β γ δ ε ρ : Type} (x : Option (α × β × γ × δ × ε)) (f : (α → β → γ → δ → ε → Option ρ)) : Option ρ := match x with
  | some (a0, a1, a2, a3, a4) => f a0 a1 a2 a3 a4
  | none => none
theorem ob5 {α β γ δ ε ρ : Type} {x : Option (α × β × γ × δ × ε)} {f : (α → β → γ → δ → ε → Option ρ)} {y : ρ} (h : b5 x f = some y) : ∃ a, x = some a ∧ ∀ (a0 : α) (a1 : β) (a2 : γ) (a3 : δ) (a4 : ε), a = (a0, a1, a2, a3, a4) → f a0 a1 a2 a3 a4 = some y := by
  cases x with
  | none => cases h
  | some a => exact ⟨a, rfl, fun a0 a1 a2 a3 a4 e => by subst e; exact h⟩
def l5 {α β γ δ ε ρ : Type} (x : Option ((α × β × γ × δ × ε) ⊕ ρ)) (f : (α → β → γ → δ → ε → Option ρ)) : Option ρ := match x with
  | some (.inl (a0, a1, a2, a3, a4)) => f a0 a1 a2 a3 a4
  | some (.inr r) => some r
  | none => none
theorem ol5 {α β γ δ ε ρ : Type} {x : Option ((α × β × γ × δ × ε) ⊕ ρ)} {f : (α → β → γ → δ → ε → Option ρ)} {y : ρ} (h : l5 x f = some y) : ∃ a, x = some a ∧ (∀ (a0 : α) (a1 : β) (a2 : γ) (a3 : δ) (a4 : ε), a = .inl (a0, a1, a2, a3, a4) → f a0 a1 a2 a3 a4 = some y) ∧ ∀ r, a = .inr r → y = r := by
  cases x with
  | none => cases h
  | some a => exact ⟨a, rfl, fun a0 a1 a2 a3 a4 e => by subst e; exact h, fun r e => by subst e; exact (Option.some.inj h).symm⟩
def b6 {α β γ δ ε ζ ρ : Type} (x : Option (α × β × γ × δ × ε × ζ)) (f : (α → β → γ → δ → ε → ζ → Option ρ)) : Option ρ := match x with
  | some (a0, a1, a2, a3, a4, a5) => f a0 a1 a2 a3 a4 a5
  | none => none
theorem ob6 {α β γ δ ε ζ ρ : Type} {x : Option (α × β × γ × δ × ε × ζ)} {f : (α → β → γ → δ → ε → ζ → Option ρ)} {y : ρ} (h : b6 x f = some y) : ∃ a, x = some a ∧ ∀ (a0 : α) (a1 : β) (a2 : γ) (a3 : δ) (a4 : ε) (a5 : ζ), a = (a0, a1, a2, a3, a4, a5) → f a0 a1 a2 a3 a4 a5 = some y := by
  cases x with
  | none => cases h
  | some a => exact ⟨a, rfl, fun a0 a1 a2 a3 a4 a5 e => by subst e; exact h⟩
def l6 {α β γ δ ε ζ ρ : Type} (x : Option ((α × β × γ × δ × ε × ζ) ⊕ ρ)) (f : (α → β → γ → δ → ε → ζ → Option ρ)) : Option ρ := match x with
  | some (.inl (a0, a1, a2, a3, a4, a5)) => f a0 a1 a2 a3 a4 a5
  | some (.inr r) => some r
  | none => none
theorem ol6 {α β γ δ ε ζ ρ : Type} {x : Option ((α × β × γ × δ × ε × ζ) ⊕ ρ)} {f : (α → β → γ → δ → ε → ζ → Option ρ)} {y : ρ} (h : l6 x f = some y) : ∃ a, x = some a ∧ (∀ (a0 : α) (a1 : β) (a2 : γ) (a3 : δ) (a4 : ε) (a5 : ζ), a = .inl (a0, a1, a2, a3, a4, a5) → f a0 a1 a2 a3 a4 a5 = some y) ∧ ∀ r, a = .inr r → y = r := by
  cases x with
  | none => cases h
  | some a => exact ⟨a, rfl, fun a0 a1 a2 a3 a4 a5 e => by subst e; exact h, fun r e => by subst e; exact (Option.some.inj h).symm⟩
theorem oc2 {α β ρ : Type} {x : Option (α × β)} {f : α → β → Option ρ} {y : ρ} (h : b2 x f = some y) : ∃ a b, x = some (a, b) ∧ f a b = some y := by
  cases x with
  | none => cases h
  | some a => exact ⟨a.1, a.2, rfl, h⟩
/-! room: a state's cells and slots can be read off its heap -/
theorem hsl_congr {H H1 : Heap} (z : H1.size = H.size) (h : ∀ q : Nat, (H1[q]?).map (fun x => x.slots.size) = (H[q]?).map (fun x => x.slots.size)) : hsl H1 = hsl H := by
  unfold hsl
  congr 1
  apply List.ext_getElem?
  intro i
  rw [List.getElem?_map, List.getElem?_map, Array.getElem?_toList, Array.getElem?_toList]
  exact h i
theorem hsl_put {H H1 : Heap} {a : Nat} {c0 c1 : Cell} (z : H1.size = H.size) (h0 : H[a]? = some c0) (h1 : H1[a]? = some c1) (hs : c1.slots.size = c0.slots.size) (oq : ∀ q : Nat, q ≠ a → H1[q]? = H[q]?) : hsl H1 = hsl H := by
  refine hsl_congr z fun q => ?_
  by_cases hq : q = a
  · subst hq
    rw [h0, h1]
    simp [hs]
  · rw [oq q hq]
theorem hsl_new {H H1 : Heap} {c : Cell} (h1 : H1[H.size]? = some c) (z : H1.size = H.size + 1) (oq : ∀ q : Nat, q < H.size → H1[q]? = H[q]?) : hsl H1 = hsl H + c.slots.size := by
  have e : H1 = H.push c := by
    apply Array.ext_getElem?
    intro i
    rcases Nat.lt_trichotomy i H.size with h | h | h
    · rw [oq i h, Array.getElem?_push, if_neg (Nat.ne_of_lt h)]
    · subst h
      rw [h1, Array.getElem?_push_size]
    · rw [Array.getElem?_eq_none (by omega), Array.getElem?_eq_none (by rw [Array.size_push]; omega)]
  rw [e]
  unfold hsl
  rw [Array.toList_push, List.map_append, List.sum_append]
  simp
section CORE
variable {p : Program} {l : Launch} {e : Env} {R : Room} {s : State} {m : MethodId} {args : Array Value} {below : List Frame} {meth : Method} {c0 : Code} {H : Heap} {locs : List Loc} {cells slots : Nat} {Q : State → Prop}
theorem tw_tight {fr : JFrame} (k : ∀ c' s' : Nat, c' = H.size - s.heap.size → s' = hsl H - hsl s.heap → s.heap.size ≤ H.size → hsl s.heap ≤ hsl H → W p l e R s m args below meth c0 H locs c' s' Q fr) : W p l e R s m args below meth c0 H locs cells slots Q fr := by
  intro T hT X
  obtain ⟨e1, e2, e3, e4, e5, e6⟩ := X.same
  have hh : (T.setVm s.vm).heap = T.heap := rfl
  rw [hh] at e2 e3 e4 e5 e6
  have key : hsl T.heap = hsl s.heap + ((T.heap.toList.drop s.heap.size).map (fun x => x.slots.size)).sum := by
    have h1 : (T.heap.toList.take s.heap.size).map (fun x => x.slots.size) = s.heap.toList.map (fun x => x.slots.size) := by
      apply List.ext_getElem?
      intro i
      rw [List.getElem?_map, List.getElem?_map, List.getElem?_take]
      by_cases hi : i < s.heap.size
      · rw [if_pos hi, Array.getElem?_toList, Array.getElem?_toList]
        obtain ⟨c, hc⟩ : ∃ c, s.heap[i]? = some c := ⟨_, Array.getElem?_eq_getElem hi⟩
        obtain ⟨c', hc', -, hs, -⟩ := e6 i c hc
        rw [hc, hc']
        simp [hs]
      · rw [if_neg hi, Array.getElem?_toList, Array.getElem?_eq_none (by omega)]
    unfold hsl
    rw [← h1]
    conv => lhs; rw [← List.take_append_drop s.heap.size T.heap.toList]
    rw [List.map_append, List.sum_append]
  rw [hT] at key
  rw [hT] at e2 e3 e5
  refine k _ _ rfl rfl e2 (by omega) T hT { X with same := ⟨e1, ?_, ?_, ?_, ?_, ?_⟩ }
  · rw [hh, hT]; exact e2
  · rw [hh, hT]; omega
  · rw [hh]; exact e4
  · rw [hh, hT]; omega
  · rw [hh]; exact e6
end CORE
