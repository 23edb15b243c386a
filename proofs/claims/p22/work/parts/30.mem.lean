/-! ===== PURE: what the memory shows after a change (printed by mem.py) ===== -/
theorem wI_sI (c : CS) (a b : Nat) (v : Int32) (p q : Nat) : wI (sI c a b v) p q = if p = a ∧ q = b then v else wI c p q := rfl
theorem wA_sI (c : CS) (a b : Nat) (v : Int32) (p q : Nat) : wA (sI c a b v) p q = wA c p q := rfl
theorem wJ_sI (c : CS) (a b : Nat) (v : Int32) (p q : Nat) : wJ (sI c a b v) p q = wJ c p q := rfl
theorem wB_sI (c : CS) (a b : Nat) (v : Int32) (p q : Nat) : wB (sI c a b v) p q = wB c p q := rfl
theorem wL_sI (c : CS) (a b : Nat) (v : Int32) (p q : Nat) : wL (sI c a b v) p q = wL c p q := rfl
theorem wM_sI (c : CS) (a b : Nat) (v : Int32) (p q : Nat) : wM (sI c a b v) p q = wM c p q := rfl
theorem wz_sI (c : CS) (a b : Nat) (v : Int32) : wz (sI c a b v) = wz c := rfl
theorem wl_sI (c : CS) (a b : Nat) (v : Int32) : wl (sI c a b v) = wl c := rfl
theorem wk_sI (c : CS) (a b : Nat) (v : Int32) : wk (sI c a b v) = wk c := rfl
theorem wI_sA (c : CS) (a b : Nat) (v : Int32) (p q : Nat) : wI (sA c a b v) p q = wI c p q := rfl
theorem wA_sA (c : CS) (a b : Nat) (v : Int32) (p q : Nat) : wA (sA c a b v) p q = if p = a ∧ q = b then v else wA c p q := rfl
theorem wJ_sA (c : CS) (a b : Nat) (v : Int32) (p q : Nat) : wJ (sA c a b v) p q = wJ c p q := rfl
theorem wB_sA (c : CS) (a b : Nat) (v : Int32) (p q : Nat) : wB (sA c a b v) p q = wB c p q := rfl
theorem wL_sA (c : CS) (a b : Nat) (v : Int32) (p q : Nat) : wL (sA c a b v) p q = wL c p q := rfl
theorem wM_sA (c : CS) (a b : Nat) (v : Int32) (p q : Nat) : wM (sA c a b v) p q = wM c p q := rfl
theorem wz_sA (c : CS) (a b : Nat) (v : Int32) : wz (sA c a b v) = wz c := rfl
theorem wl_sA (c : CS) (a b : Nat) (v : Int32) : wl (sA c a b v) = wl c := rfl
theorem wk_sA (c : CS) (a b : Nat) (v : Int32) : wk (sA c a b v) = wk c := rfl
theorem wI_sJ (c : CS) (a b : Nat) (v : Nat) (p q : Nat) : wI (sJ c a b v) p q = wI c p q := rfl
theorem wA_sJ (c : CS) (a b : Nat) (v : Nat) (p q : Nat) : wA (sJ c a b v) p q = wA c p q := rfl
theorem wJ_sJ (c : CS) (a b : Nat) (v : Nat) (p q : Nat) : wJ (sJ c a b v) p q = if p = a ∧ q = b then v else wJ c p q := rfl
theorem wB_sJ (c : CS) (a b : Nat) (v : Nat) (p q : Nat) : wB (sJ c a b v) p q = wB c p q := rfl
theorem wL_sJ (c : CS) (a b : Nat) (v : Nat) (p q : Nat) : wL (sJ c a b v) p q = wL c p q := rfl
theorem wM_sJ (c : CS) (a b : Nat) (v : Nat) (p q : Nat) : wM (sJ c a b v) p q = wM c p q := rfl
theorem wz_sJ (c : CS) (a b : Nat) (v : Nat) : wz (sJ c a b v) = wz c := rfl
theorem wl_sJ (c : CS) (a b : Nat) (v : Nat) : wl (sJ c a b v) = wl c := rfl
theorem wk_sJ (c : CS) (a b : Nat) (v : Nat) : wk (sJ c a b v) = wk c := rfl
theorem wI_sB (c : CS) (a b : Nat) (v : Nat) (p q : Nat) : wI (sB c a b v) p q = wI c p q := rfl
theorem wA_sB (c : CS) (a b : Nat) (v : Nat) (p q : Nat) : wA (sB c a b v) p q = wA c p q := rfl
theorem wJ_sB (c : CS) (a b : Nat) (v : Nat) (p q : Nat) : wJ (sB c a b v) p q = wJ c p q := rfl
theorem wB_sB (c : CS) (a b : Nat) (v : Nat) (p q : Nat) : wB (sB c a b v) p q = if p = a ∧ q = b then v else wB c p q := rfl
theorem wL_sB (c : CS) (a b : Nat) (v : Nat) (p q : Nat) : wL (sB c a b v) p q = wL c p q := rfl
theorem wM_sB (c : CS) (a b : Nat) (v : Nat) (p q : Nat) : wM (sB c a b v) p q = wM c p q := rfl
theorem wz_sB (c : CS) (a b : Nat) (v : Nat) : wz (sB c a b v) = wz c := rfl
theorem wl_sB (c : CS) (a b : Nat) (v : Nat) : wl (sB c a b v) = wl c := rfl
theorem wk_sB (c : CS) (a b : Nat) (v : Nat) : wk (sB c a b v) = wk c := rfl
theorem wI_sL (c : CS) (a b : Nat) (v : Int64) (p q : Nat) : wI (sL c a b v) p q = wI c p q := rfl
theorem wA_sL (c : CS) (a b : Nat) (v : Int64) (p q : Nat) : wA (sL c a b v) p q = wA c p q := rfl
theorem wJ_sL (c : CS) (a b : Nat) (v : Int64) (p q : Nat) : wJ (sL c a b v) p q = wJ c p q := rfl
theorem wB_sL (c : CS) (a b : Nat) (v : Int64) (p q : Nat) : wB (sL c a b v) p q = wB c p q := rfl
theorem wL_sL (c : CS) (a b : Nat) (v : Int64) (p q : Nat) : wL (sL c a b v) p q = if p = a ∧ q = b then v else wL c p q := rfl
theorem wM_sL (c : CS) (a b : Nat) (v : Int64) (p q : Nat) : wM (sL c a b v) p q = wM c p q := rfl
theorem wz_sL (c : CS) (a b : Nat) (v : Int64) : wz (sL c a b v) = wz c := rfl
theorem wl_sL (c : CS) (a b : Nat) (v : Int64) : wl (sL c a b v) = wl c := rfl
theorem wk_sL (c : CS) (a b : Nat) (v : Int64) : wk (sL c a b v) = wk c := rfl
theorem wI_sM (c : CS) (a b : Nat) (v : Int64) (p q : Nat) : wI (sM c a b v) p q = wI c p q := rfl
theorem wA_sM (c : CS) (a b : Nat) (v : Int64) (p q : Nat) : wA (sM c a b v) p q = wA c p q := rfl
theorem wJ_sM (c : CS) (a b : Nat) (v : Int64) (p q : Nat) : wJ (sM c a b v) p q = wJ c p q := rfl
theorem wB_sM (c : CS) (a b : Nat) (v : Int64) (p q : Nat) : wB (sM c a b v) p q = wB c p q := rfl
theorem wL_sM (c : CS) (a b : Nat) (v : Int64) (p q : Nat) : wL (sM c a b v) p q = wL c p q := rfl
theorem wM_sM (c : CS) (a b : Nat) (v : Int64) (p q : Nat) : wM (sM c a b v) p q = if p = a ∧ q = b then v else wM c p q := rfl
theorem wz_sM (c : CS) (a b : Nat) (v : Int64) : wz (sM c a b v) = wz c := rfl
theorem wl_sM (c : CS) (a b : Nat) (v : Int64) : wl (sM c a b v) = wl c := rfl
theorem wk_sM (c : CS) (a b : Nat) (v : Int64) : wk (sM c a b v) = wk c := rfl
theorem wI_nw (c : CS) (k l n : Nat) (p q : Nat) : wI (nw c k l n) p q = if q = wz c + 1 then 0 else wI c p q := rfl
theorem wI_bump (c : CS) (p q : Nat) : wI (bump c) p q = wI c p q := rfl
theorem wI_cpB (c : CS) (x y sp dp n : Nat) (p q : Nat) : wI (cpB c x y sp dp n) p q = wI c p q := rfl
theorem wA_nw (c : CS) (k l n : Nat) (p q : Nat) : wA (nw c k l n) p q = if p = wz c + 1 then 0 else wA c p q := rfl
theorem wA_bump (c : CS) (p q : Nat) : wA (bump c) p q = wA c p q := rfl
theorem wA_cpB (c : CS) (x y sp dp n : Nat) (p q : Nat) : wA (cpB c x y sp dp n) p q = wA c p q := rfl
theorem wJ_nw (c : CS) (k l n : Nat) (p q : Nat) : wJ (nw c k l n) p q = if q = wz c + 1 then (if p = 0 then k else if p = 1 then l else 0) else wJ c p q := rfl
theorem wJ_bump (c : CS) (p q : Nat) : wJ (bump c) p q = wJ c p q := rfl
theorem wJ_cpB (c : CS) (x y sp dp n : Nat) (p q : Nat) : wJ (cpB c x y sp dp n) p q = wJ c p q := rfl
theorem wB_nw (c : CS) (k l n : Nat) (p q : Nat) : wB (nw c k l n) p q = if p = wz c + 1 then 0 else wB c p q := rfl
theorem wB_bump (c : CS) (p q : Nat) : wB (bump c) p q = wB c p q := rfl
theorem wB_cpB (c : CS) (x y sp dp n : Nat) (p q : Nat) : wB (cpB c x y sp dp n) p q = if p = y ∧ dp ≤ q ∧ q < dp + n then wB c x (sp + (q - dp)) else wB c p q := rfl
theorem wL_nw (c : CS) (k l n : Nat) (p q : Nat) : wL (nw c k l n) p q = if q = wz c + 1 then 0 else wL c p q := rfl
theorem wL_bump (c : CS) (p q : Nat) : wL (bump c) p q = wL c p q := rfl
theorem wL_cpB (c : CS) (x y sp dp n : Nat) (p q : Nat) : wL (cpB c x y sp dp n) p q = wL c p q := rfl
theorem wM_nw (c : CS) (k l n : Nat) (p q : Nat) : wM (nw c k l n) p q = if p = wz c + 1 then 0 else wM c p q := rfl
theorem wM_bump (c : CS) (p q : Nat) : wM (bump c) p q = wM c p q := rfl
theorem wM_cpB (c : CS) (x y sp dp n : Nat) (p q : Nat) : wM (cpB c x y sp dp n) p q = wM c p q := rfl
theorem wz_nw (c : CS) (k l n : Nat) : wz (nw c k l n) = wz c + 1 := rfl
theorem wz_bump (c : CS) : wz (bump c) = wz c + 1 := rfl
theorem wz_cpB (c : CS) (x y sp dp n : Nat) : wz (cpB c x y sp dp n) = wz c := rfl
theorem wl_nw (c : CS) (k l n : Nat) : wl (nw c k l n) = wl c - 1 := rfl
theorem wl_bump (c : CS) : wl (bump c) = wl c - 1 := rfl
theorem wl_cpB (c : CS) (x y sp dp n : Nat) : wl (cpB c x y sp dp n) = wl c := rfl
theorem wk_nw (c : CS) (k l n : Nat) : wk (nw c k l n) = wk c - n := rfl
theorem wk_bump (c : CS) : wk (bump c) = wk c - 6 := rfl
theorem wk_cpB (c : CS) (x y sp dp n : Nat) : wk (cpB c x y sp dp n) = wk c := rfl
theorem bs_eq {α β : Type} (x : α) (f : α → β) : bs x f = f x := rfl
theorem bd_some {α β : Type} (a : α) (f : α → Option β) : bd (some a) f = f a := rfl
theorem b2_some {α β ρ : Type} (a : α) (b : β) (f : α → β → Option ρ) : b2 (some (a, b)) f = f a b := rfl
theorem b0_some {ρ : Type} (a : Unit) (f : Unit → Option ρ) : b0 (some a) f = f () := rfl
theorem l0_inl {ρ : Type} (a : Unit) (f : Unit → Option ρ) : l0 (some (Sum.inl a)) f = f () := rfl
theorem l0_inr {ρ : Type} (r : ρ) (f : Unit → Option ρ) : l0 (some (Sum.inr r)) f = some r := rfl
theorem l1_inl {α ρ : Type} (a : α) (f : α → Option ρ) : l1 (some (Sum.inl a)) f = f a := rfl
theorem l1_inr {α ρ : Type} (r : ρ) (f : α → Option ρ) : l1 (some (Sum.inr r)) f = some r := rfl
theorem bx1_inl {α ρ : Type} (ι : Nat × CS → ρ) (e : Nat × CS) (f : α → Option ρ) : bx1 ι (some (Sum.inl e)) f = some (ι e) := rfl
theorem bx1_inr {α ρ : Type} (ι : Nat × CS → ρ) (a : α) (f : α → Option ρ) : bx1 ι (some (Sum.inr a)) f = f a := rfl
theorem bx2_inl {α ρ : Type} (ι : Nat × CS → ρ) (e : Nat × CS) (f : α → CS → Option ρ) : bx2 ι (some (Sum.inl e)) f = some (ι e) := rfl
theorem bx2_inr {α ρ : Type} (ι : Nat × CS → ρ) (a : α) (w : CS) (f : α → CS → Option ρ) : bx2 ι (some (Sum.inr (a, w))) f = f a w := rfl
theorem gs_ss (m : MS) (k : Nat) (v : Int32) (j : Nat) : gs (ss m k v) j = if j = k then v else gs m j := rfl
theorem gs_sa (m : MS) (k i : Nat) (v : Int32) (j : Nat) : gs (sa m k i v) j = gs m j := rfl
theorem ga_ss (m : MS) (k : Nat) (v : Int32) (j i : Nat) : ga (ss m k v) j i = ga m j i := rfl
theorem ga_sa2 (m : MS) (k i : Nat) (v : Int32) (p q : Nat) : ga (sa m k i v) p q = if p = k ∧ q = i then v else ga m p q := rfl
