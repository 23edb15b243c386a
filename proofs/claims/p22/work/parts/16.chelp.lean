/-! ===== words of the class's extracted functions ===== -/
theorem rv_cat (x : Nat) : (rv x).category = 1 := by
  unfold rv ro va_rf
  split <;> rfl
theorem ct_i (v : Int32) : (Value.int v).category = 1 := rfl
theorem ct_l (v : Int64) : (Value.long v).category = 2 := rfl
theorem hw_eq {g : GG} {z : Nat} {w w1 : CS} {mm : MS} {H : Heap} {L : List Loc} (e : w1 = w) (h : wH g z (w, mm) H L) : wH g z (w1, mm) H L := e ▸ h
theorem x_nz {g : GG} {z : Nat} {T : TW} {H : Heap} {locs : List Loc} (hw : wH g z T H locs) {x K : Nat} (hk : wJ T.1 0 x = K + 1) : x ≠ 0 := by
  intro h
  subst h
  rw [hw.1.1] at hk
  exact absurd hk (by omega)
def bx1 {α ρ : Type} (ι : Nat × CS → ρ) (x : Option ((Nat × CS) ⊕ α)) (f : α → Option ρ) : Option ρ := match x with
  | some (.inl e) => some (ι e)
  | some (.inr a) => f a
  | none => none
theorem obx1 {α ρ : Type} {ι : Nat × CS → ρ} {x : Option ((Nat × CS) ⊕ α)} {f : α → Option ρ} {y : ρ} (h : bx1 ι x f = some y) : (∃ k w, x = some (.inl (k, w)) ∧ y = ι (k, w)) ∨ ∃ a, x = some (.inr a) ∧ f a = some y := by
  cases x with
  | none => cases h
  | some a => cases a with
    | inl e => exact Or.inl ⟨e.1, e.2, rfl, (Option.some.inj h).symm⟩
    | inr a => exact Or.inr ⟨a, rfl, h⟩
def bx2 {α ρ : Type} (ι : Nat × CS → ρ) (x : Option ((Nat × CS) ⊕ (α × CS))) (f : α → CS → Option ρ) : Option ρ := match x with
  | some (.inl e) => some (ι e)
  | some (.inr (a, w)) => f a w
  | none => none
theorem obx2 {α ρ : Type} {ι : Nat × CS → ρ} {x : Option ((Nat × CS) ⊕ (α × CS))} {f : α → CS → Option ρ} {y : ρ} (h : bx2 ι x f = some y) : (∃ k w, x = some (.inl (k, w)) ∧ y = ι (k, w)) ∨ ∃ a w, x = some (.inr (a, w)) ∧ f a w = some y := by
  cases x with
  | none => cases h
  | some a => cases a with
    | inl e => exact Or.inl ⟨e.1, e.2, rfl, (Option.some.inj h).symm⟩
    | inr a => exact Or.inr ⟨a.1, a.2, rfl, h⟩
def oIr (r : (Nat × CS) ⊕ Int32) : Nat ⊕ Option Value := match r with
  | .inl a => .inl a.1
  | .inr v => .inr (some (.int v))
def wIr (w : CS) (r : (Nat × CS) ⊕ Int32) : CS := match r with
  | .inl a => a.2
  | .inr _ => w
def oIw (r : (Nat × CS) ⊕ (Int32 × CS)) : Nat ⊕ Option Value := match r with
  | .inl a => .inl a.1
  | .inr v => .inr (some (.int v.1))
def wIw (_ : CS) (r : (Nat × CS) ⊕ (Int32 × CS)) : CS := match r with
  | .inl a => a.2
  | .inr v => v.2
def oLr (r : (Nat × CS) ⊕ Int64) : Nat ⊕ Option Value := match r with
  | .inl a => .inl a.1
  | .inr v => .inr (some (.long v))
def wLr (w : CS) (r : (Nat × CS) ⊕ Int64) : CS := match r with
  | .inl a => a.2
  | .inr _ => w
def oLw (r : (Nat × CS) ⊕ (Int64 × CS)) : Nat ⊕ Option Value := match r with
  | .inl a => .inl a.1
  | .inr v => .inr (some (.long v.1))
def wLw (_ : CS) (r : (Nat × CS) ⊕ (Int64 × CS)) : CS := match r with
  | .inl a => a.2
  | .inr v => v.2
def oAr (r : (Nat × CS) ⊕ Nat) : Nat ⊕ Option Value := match r with
  | .inl a => .inl a.1
  | .inr v => .inr (some (rv v))
def wAr (w : CS) (r : (Nat × CS) ⊕ Nat) : CS := match r with
  | .inl a => a.2
  | .inr _ => w
def oAw (r : (Nat × CS) ⊕ (Nat × CS)) : Nat ⊕ Option Value := match r with
  | .inl a => .inl a.1
  | .inr v => .inr (some (rv v.1))
def wAw (_ : CS) (r : (Nat × CS) ⊕ (Nat × CS)) : CS := match r with
  | .inl a => a.2
  | .inr v => v.2
def oUr (r : (Nat × CS) ⊕ Unit) : Nat ⊕ Option Value := match r with
  | .inl a => .inl a.1
  | .inr _ => .inr (none)
def wUr (w : CS) (r : (Nat × CS) ⊕ Unit) : CS := match r with
  | .inl a => a.2
  | .inr _ => w
def oUw (r : (Nat × CS) ⊕ CS) : Nat ⊕ Option Value := match r with
  | .inl a => .inl a.1
  | .inr _ => .inr none
def wUw (_ : CS) (r : (Nat × CS) ⊕ CS) : CS := match r with
  | .inl a => a.2
  | .inr w => w
