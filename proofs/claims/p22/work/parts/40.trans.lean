/-! ===== PURE: transactions and tabs, one by one ===== -/
abbrev pend (w : CS) (x : Nat) : Prop := wI w 83 x = 0 ∨ wI w 83 x = 1
theorem s_isPending {w : CS} {x : Nat} (hx : wJ w 0 x = 2) : x_X5_isPending x w = some (if pend w x then 1 else 0) := by
  unfold x_X5_isPending
  rw [if_pos hx]
  by_cases h0 : wI w 83 x = 0
  · rw [if_pos h0, l0_inl, bd_some, if_pos (by decide), if_pos (show pend w x from (Or.inl h0))]
  · by_cases h1 : wI w 83 x = 1
    · rw [if_neg h0, if_pos h1, l0_inl, bd_some, if_pos (by decide), if_pos (show pend w x from (Or.inr h1))]
    · rw [if_neg h0, if_neg h1, l0_inr, bd_some, if_pos (by decide), if_neg (show ¬ pend w x from (fun q => q.elim h0 h1))]
/-- the store k stands in a scope -/
abbrev inS (sc k : Int32) : Prop := (sc >>> (k &&& 31)) &&& 1 = 1
theorem s_hasInScope {w : CS} {x : Nat} (hx : wJ w 0 x = 2) (k : Int32) : x_X5_hasInScope x k w = some (if inS (wI w 82 x) k then 1 else 0) := by
  unfold x_X5_hasInScope
  rw [if_pos hx]
  by_cases h : (wI w 82 x >>> (k &&& 31)) &&& 1 = 1
  · rw [if_pos h, if_pos (show inS (wI w 82 x) k from h), bd_some, if_pos (by decide)]
  · rw [if_neg h, if_neg (show ¬ inS (wI w 82 x) k from h), bd_some, if_pos (by decide)]
abbrev cfl (w : CS) (x y : Nat) : Prop := ¬ wI w 82 x &&& wI w 82 y = 0 ∧ (¬ wI w 81 x = 0 ∨ ¬ wI w 81 y = 0)
theorem s_conflicts {w : CS} {x y : Nat} (hx : wJ w 0 x = 2) (hy : wJ w 0 y = 2) : x_X5_conflictsWith x y w = some (if cfl w x y then 1 else 0) := by
  unfold x_X5_conflictsWith
  rw [if_pos hx, if_pos hy]
  by_cases h0 : wI w 82 x &&& wI w 82 y = 0
  · rw [if_pos h0, l0_inl, bd_some, if_pos (by decide), if_neg (show ¬ cfl w x y from (fun q => q.1 h0))]
  · by_cases h1 : wI w 81 x = 0
    · by_cases h2 : wI w 81 y = 0
      · rw [if_neg h0, if_pos h1, if_pos h2, l0_inr, l0_inl, bd_some, if_pos (by decide), if_neg (show ¬ cfl w x y from (fun q => q.2.elim (fun z => z h1) (fun z => z h2)))]
      · rw [if_neg h0, if_pos h1, if_neg h2, l0_inl, l0_inr, bd_some, if_pos (by decide), if_pos (show cfl w x y from ⟨h0, Or.inr h2⟩)]
    · rw [if_neg h0, if_neg h1, l0_inl, l0_inr, bd_some, if_pos (by decide), if_pos (show cfl w x y from ⟨h0, Or.inl h1⟩)]
abbrev insd (w : CS) (x : Nat) : Prop := wI w 160 x = 1 ∨ wI w 160 x = 2
theorem s_isInside {w : CS} {x : Nat} (hx : wJ w 0 x = 4) : x_X4_isInside x w = some (if insd w x then 1 else 0) := by
  unfold x_X4_isInside
  rw [if_pos hx]
  by_cases h0 : wI w 160 x = 1
  · rw [if_pos h0, l0_inl, bd_some, if_pos (by decide), if_pos (show insd w x from (Or.inl h0))]
  · by_cases h1 : wI w 160 x = 2
    · rw [if_neg h0, if_pos h1, l0_inl, bd_some, if_pos (by decide), if_pos (show insd w x from (Or.inr h1))]
    · rw [if_neg h0, if_neg h1, l0_inr, bd_some, if_pos (by decide), if_neg (show ¬ insd w x from (fun q => q.elim h0 h1))]
theorem s_requireReading {w : CS} (B : RE w) {x : Nat} (hx : wJ w 0 x = 2) (k : Int32) : x_X6_requireReading x k w = some (if wI w 83 x = 1 ∧ inS (wI w 82 x) k then .inr () else .inl (3, bump w)) := by
  unfold x_X6_requireReading
  rw [s_requireRunning B hx]
  by_cases h1 : wI w 83 x = 1
  · rw [if_pos h1, bx1_inr, if_pos hx, s_hasInScope hx, bd_some]
    by_cases h2 : inS (wI w 82 x) k
    · rw [if_pos h2, if_neg (by decide), if_pos ⟨h1, h2⟩]
    · rw [if_neg h2, if_pos rfl, if_pos B, if_neg (fun q => h2 q.2)]
  · rw [if_neg h1, bx1_inl, if_neg (fun q => h1 q.1)]
theorem s_requireWriting {w : CS} (B : RE w) {x : Nat} (hx : wJ w 0 x = 2) (k : Int32) : x_X6_requireWriting x k w = some (if (wI w 83 x = 1 ∧ inS (wI w 82 x) k) ∧ ¬ wI w 81 x = 0 then .inr () else .inl (3, bump w)) := by
  unfold x_X6_requireWriting
  rw [s_requireReading B hx]
  by_cases h1 : wI w 83 x = 1 ∧ inS (wI w 82 x) k
  · rw [if_pos h1, bx1_inr, if_pos hx]
    by_cases h2 : wI w 81 x = 0
    · rw [if_pos h2, if_pos B, if_neg (fun q => q.2 h2)]
    · rw [if_neg h2, if_pos ⟨h1, h2⟩]
  · rw [if_neg h1, bx1_inl, if_neg (fun q => h1 q.1)]
