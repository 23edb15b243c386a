/-! ===== the law's wrappers (printed by gen3.py) ===== -/
def NC (g : GG) : Prop := ∀ s : State, gP g s → va_Nc "java/lang/IllegalStateException" "java/lang/IndexOutOfBoundsException" s ∧ va_Nc "java/lang/IllegalStateException" "java/lang/IllegalArgumentException" s ∧ va_Nc "java/lang/IllegalArgumentException" "java/lang/IndexOutOfBoundsException" s ∧ va_Nw (.classLink RL 13 "java/lang/IndexOutOfBoundsException") s ∧ va_Nw (.classLink RL 15 "java/lang/IllegalArgumentException") s ∧ va_Nw (.classLink RL 17 "java/lang/IllegalStateException") s
def bh1 {ρ : Type} (x : Option ((Nat × CS) ⊕ CS)) (he : Nat → CS → Option ρ) (f : CS → Option ρ) : Option ρ := match x with
  | some (.inl e) => he e.1 e.2
  | some (.inr a) => f a
  | none => none
theorem obh1 {ρ : Type} {x : Option ((Nat × CS) ⊕ CS)} {he : Nat → CS → Option ρ} {f : CS → Option ρ} {y : ρ} (h : bh1 x he f = some y) : (∃ k w, x = some (.inl (k, w)) ∧ he k w = some y) ∨ ∃ w, x = some (.inr w) ∧ f w = some y := by
  cases x with
  | none => cases h
  | some a => cases a with
    | inl e => exact Or.inl ⟨e.1, e.2, rfl, h⟩
    | inr a => exact Or.inr ⟨a, rfl, h⟩
def bh3 {α ρ : Type} (x : Option ((Nat × CS) ⊕ α)) (he : Nat → CS → Option ρ) (f : α → Option ρ) : Option ρ := match x with
  | some (.inl e) => he e.1 e.2
  | some (.inr a) => f a
  | none => none
theorem obh3 {α ρ : Type} {x : Option ((Nat × CS) ⊕ α)} {he : Nat → CS → Option ρ} {f : α → Option ρ} {y : ρ} (h : bh3 x he f = some y) : (∃ k w, x = some (.inl (k, w)) ∧ he k w = some y) ∨ ∃ a, x = some (.inr a) ∧ f a = some y := by
  cases x with
  | none => cases h
  | some a => cases a with
    | inl e => exact Or.inl ⟨e.1, e.2, rfl, h⟩
    | inr a => exact Or.inr ⟨a, rfl, h⟩
def bh2 {α ρ : Type} (x : Option ((Nat × CS) ⊕ (α × CS))) (he : Nat → CS → Option ρ) (f : α → CS → Option ρ) : Option ρ := match x with
  | some (.inl e) => he e.1 e.2
  | some (.inr (a, w)) => f a w
  | none => none
theorem obh2 {α ρ : Type} {x : Option ((Nat × CS) ⊕ (α × CS))} {he : Nat → CS → Option ρ} {f : α → CS → Option ρ} {y : ρ} (h : bh2 x he f = some y) : (∃ k w, x = some (.inl (k, w)) ∧ he k w = some y) ∨ ∃ a w, x = some (.inr (a, w)) ∧ f a w = some y := by
  cases x with
  | none => cases h
  | some a => cases a with
    | inl e => exact Or.inl ⟨e.1, e.2, rfl, h⟩
    | inr a => exact Or.inr ⟨a.1, a.2, rfl, h⟩
def x_L_open (p0 : Nat) (p1 : Int32) (p2 : Int32) (p3 : Nat) (w : CS) : Option (Int32 × CS) :=
  if wJ w 0 p0 = 6 then
  bh2 (x_X6_open p0 p1 p2 w) (fun k9 w9 => if k9 = 1 then some ((1 : Int32), w9) else if k9 = 2 then some ((2 : Int32), w9) else if k9 = 3 then some ((3 : Int32), w9) else none) (fun (v3 : Int32) (w4 : CS) =>
  if wJ w4 0 p3 = 15 then
  if vR 0 (wJ w4 1 p3) then
  bs (sM w4 p3 (0 : Int32).toNatClampNeg v3.toInt64) (fun (w7 : CS) =>
  some (((0 : Int32), w7)))
  else none
  else none)
  else none
set_option maxHeartbeats 4000000 in
set_option maxRecDepth 100000 in
theorem c_L_open (g : GG) (l : Launch) (hG : XG g) (hC : NC g) (hst : l.stackTraces = false) (mm : MS) (p0 : Nat) (p1 : Int32) (p2 : Int32) (p3 : Nat) (w : CS) (r : Int32) (w' : CS) (h : x_L_open p0 p1 p2 p3 w = some (r, w')) : MetG g l yL_open wsL_open 13 304 [rv p0, .int p1, .int p2, rv p3] (w, mm) (some (.int r)) (w', mm) := by
  refine g_startW_i (hh := [(0, 10, 13, 13), (0, 10, 17, 15), (0, 10, 21, 17)]) (some (.int r)) (own := RL) (by decide +kernel) rfl rfl (by simp [lg_sl, rv_cat, ct_i, ct_l]) ?_
  intro p e s mi args below meth cd ls Q hX htab hw hl hret
  have hl : lv_has ls 5 [(0, rv p0), (1, .int p1), (2, .int p2), (3, rv p3)] := by simpa [lv_args, rv_cat, ct_i, ct_l] using hl
  obtain ⟨⟨hx, hb, -, hown, hts⟩, -⟩ := id hX
  unfold x_L_open at h
  refine t_aload_n hx hb dL_open_0 rfl (lv_at hl 3 rfl) ?_
  refine lv_iconst (v := 0) hx hb dL_open_1 (by decide) ?_
  refine t_aload_n hx hb dL_open_2 rfl (lv_at hl 0 rfl) ?_
  refine lv_iload_n hx hb dL_open_3 rfl (lv_at hl 1 rfl) ?_
  refine lv_iload_n hx hb dL_open_4 rfl (lv_at hl 2 rfl) ?_
  obtain ⟨c1, h⟩ := og h
  rcases obh2 h with ⟨k9, w9, e2, h⟩ | ⟨v3, w4, e2, h⟩
  · by_cases k9_1 : k9 = 1
    · replace h := ot k9_1 h
      obtain ⟨rfl, rfl⟩ := Prod.mk.inj (Option.some.inj h)
      subst k9_1
      refine x_callVE (n := 2) (As := [.int p1, .int p2]) (rest := [.int 0, rv p3]) hX hw (c_X6_open g l hG hst mm p0 p1 p2 w _ e2) gL_open_X6_open rfl (by decide +kernel) rfl (x_nz hw c1) (c_recv hX hw (ce_6 c1) rfl) hl.1 rfl (by simp [rv_cat, ct_i, ct_l]) ⟨by decide, by decide⟩ dL_open_5 (fun H lc cn sn q ce hw h1 h2 h3 => ?_)
      have hw : wH g s.heap.size (w9, mm) H lc := hw
      refine tw_catch (E := exn 1) (name := "java/lang/IndexOutOfBoundsException") hX htab [] [(0, 10, 17, 15), (0, 10, 21, 17)] (0, 10, 13, 13) rfl ⟨by decide, by decide⟩ (by decide) ((hC s hX.2.1.2.1).2.2.2.1) ((hG s hX.2.1.2.1).2.2.2.2.2.1.1) (fun _ h => absurd h List.not_mem_nil) h1 h2 h3 ?_
      refine lv_astore (lv' := [(4, .ref q), (0, rv p0), (1, .int p1), (2, .int p2), (3, rv p3)]) hx hb dL_open_13 hl (by decide) (by simp [rv_cat, ct_i, ct_l] <;> decide) (fun ls hl => ?_)
      refine lv_iconst (v := 1) hx hb dL_open_15 (by decide) ?_
      exact hret _ _ _ _ _ _ _ dL_open_16 hw rfl
    replace h := oe k9_1 h
    by_cases k9_2 : k9 = 2
    · replace h := ot k9_2 h
      obtain ⟨rfl, rfl⟩ := Prod.mk.inj (Option.some.inj h)
      subst k9_2
      refine x_callVE (n := 2) (As := [.int p1, .int p2]) (rest := [.int 0, rv p3]) hX hw (c_X6_open g l hG hst mm p0 p1 p2 w _ e2) gL_open_X6_open rfl (by decide +kernel) rfl (x_nz hw c1) (c_recv hX hw (ce_6 c1) rfl) hl.1 rfl (by simp [rv_cat, ct_i, ct_l]) ⟨by decide, by decide⟩ dL_open_5 (fun H lc cn sn q ce hw h1 h2 h3 => ?_)
      have hw : wH g s.heap.size (w9, mm) H lc := hw
      refine tw_catch (E := exn 2) (name := "java/lang/IllegalArgumentException") hX htab [(0, 10, 13, 13)] [(0, 10, 21, 17)] (0, 10, 17, 15) rfl ⟨by decide, by decide⟩ (by decide) ((hC s hX.2.1.2.1).2.2.2.2.1) ((hG s hX.2.1.2.1).2.2.2.2.2.1.2.1) (List.forall_mem_cons.mpr ⟨⟨by decide, "java/lang/IndexOutOfBoundsException", (hC s hX.2.1.2.1).2.2.2.1, (hC s hX.2.1.2.1).2.2.1⟩, (fun _ h => absurd h List.not_mem_nil)⟩) h1 h2 h3 ?_
      refine lv_astore (lv' := [(4, .ref q), (0, rv p0), (1, .int p1), (2, .int p2), (3, rv p3)]) hx hb dL_open_17 hl (by decide) (by simp [rv_cat, ct_i, ct_l] <;> decide) (fun ls hl => ?_)
      refine lv_iconst (v := 2) hx hb dL_open_19 (by decide) ?_
      exact hret _ _ _ _ _ _ _ dL_open_20 hw rfl
    replace h := oe k9_2 h
    by_cases k9_3 : k9 = 3
    · replace h := ot k9_3 h
      obtain ⟨rfl, rfl⟩ := Prod.mk.inj (Option.some.inj h)
      subst k9_3
      refine x_callVE (n := 2) (As := [.int p1, .int p2]) (rest := [.int 0, rv p3]) hX hw (c_X6_open g l hG hst mm p0 p1 p2 w _ e2) gL_open_X6_open rfl (by decide +kernel) rfl (x_nz hw c1) (c_recv hX hw (ce_6 c1) rfl) hl.1 rfl (by simp [rv_cat, ct_i, ct_l]) ⟨by decide, by decide⟩ dL_open_5 (fun H lc cn sn q ce hw h1 h2 h3 => ?_)
      have hw : wH g s.heap.size (w9, mm) H lc := hw
      refine tw_catch (E := exn 3) (name := "java/lang/IllegalStateException") hX htab [(0, 10, 13, 13), (0, 10, 17, 15)] [] (0, 10, 21, 17) rfl ⟨by decide, by decide⟩ (by decide) ((hC s hX.2.1.2.1).2.2.2.2.2) ((hG s hX.2.1.2.1).2.2.2.2.2.1.2.2) (List.forall_mem_cons.mpr ⟨⟨by decide, "java/lang/IndexOutOfBoundsException", (hC s hX.2.1.2.1).2.2.2.1, (hC s hX.2.1.2.1).1⟩, (List.forall_mem_cons.mpr ⟨⟨by decide, "java/lang/IllegalArgumentException", (hC s hX.2.1.2.1).2.2.2.2.1, (hC s hX.2.1.2.1).2.1⟩, (fun _ h => absurd h List.not_mem_nil)⟩)⟩) h1 h2 h3 ?_
      refine lv_astore (lv' := [(4, .ref q), (0, rv p0), (1, .int p1), (2, .int p2), (3, rv p3)]) hx hb dL_open_21 hl (by decide) (by simp [rv_cat, ct_i, ct_l] <;> decide) (fun ls hl => ?_)
      refine lv_iconst (v := 3) hx hb dL_open_23 (by decide) ?_
      exact hret _ _ _ _ _ _ _ dL_open_24 hw rfl
    replace h := oe k9_3 h
    cases h
  · refine x_callVNi (n := 2) (As := [.int p1, .int p2]) (rest := [.int 0, rv p3]) hX hw (c_X6_open g l hG hst mm p0 p1 p2 w _ e2) gL_open_X6_open rfl (by decide +kernel) rfl (x_nz hw c1) (c_recv hX hw (ce_6 c1) rfl) hl.1 rfl (by simp [rv_cat, ct_i, ct_l]) ⟨by decide, by decide⟩ dL_open_5 (fun H lc cn sn hw => ?_)
    have hw : wH g s.heap.size (w4, mm) H lc := hw
    refine lv_i2l (v := v3.toInt64) hx hb dL_open_8 rfl ?_
    obtain ⟨c5, h⟩ := og h
    obtain ⟨c6, h⟩ := og h
    obtain ⟨w7, ew7, h⟩ := ol h
    refine c_lst hX hw c5 c6 dL_open_9 (fun H lc hw => ?_)
    have hw := hw_eq ew7 hw
    refine lv_goto (tgt := 25) hx hb dL_open_10 (by decide) ?_
    refine lv_iconst (v := 0) hx hb dL_open_25 (by decide) ?_
    replace h := (Option.some.inj h).symm
    obtain ⟨rfl, rfl⟩ := Prod.mk.inj h
    exact hret _ _ _ _ _ _ _ dL_open_26 hw rfl

def x_L_close (p0 : Nat) (p1 : Int32) (p2 : Nat) (w : CS) : Option (Int32 × CS) :=
  if wJ w 0 p0 = 6 then
  bh2 (x_X6_close p0 p1 w) (fun k9 w9 => if k9 = 1 then some ((1 : Int32), w9) else if k9 = 3 then some ((2 : Int32), w9) else none) (fun (v3 : Int32) (w4 : CS) =>
  if wJ w4 0 p2 = 15 then
  if vR 0 (wJ w4 1 p2) then
  bs (sM w4 p2 (0 : Int32).toNatClampNeg v3.toInt64) (fun (w7 : CS) =>
  some (((0 : Int32), w7)))
  else none
  else none)
  else none
set_option maxHeartbeats 4000000 in
set_option maxRecDepth 100000 in
theorem c_L_close (g : GG) (l : Launch) (hG : XG g) (hC : NC g) (hst : l.stackTraces = false) (mm : MS) (p0 : Nat) (p1 : Int32) (p2 : Nat) (w : CS) (r : Int32) (w' : CS) (h : x_L_close p0 p1 p2 w = some (r, w')) : MetG g l yL_close wsL_close 14 327 [rv p0, .int p1, rv p2] (w, mm) (some (.int r)) (w', mm) := by
  refine g_startW_i (hh := [(0, 9, 12, 13), (0, 9, 15, 17)]) (some (.int r)) (own := RL) (by decide +kernel) rfl rfl (by simp [lg_sl, rv_cat, ct_i, ct_l]) ?_
  intro p e s mi args below meth cd ls Q hX htab hw hl hret
  have hl : lv_has ls 4 [(0, rv p0), (1, .int p1), (2, rv p2)] := by simpa [lv_args, rv_cat, ct_i, ct_l] using hl
  obtain ⟨⟨hx, hb, -, hown, hts⟩, -⟩ := id hX
  unfold x_L_close at h
  refine t_aload_n hx hb dL_close_0 rfl (lv_at hl 2 rfl) ?_
  refine lv_iconst (v := 0) hx hb dL_close_1 (by decide) ?_
  refine t_aload_n hx hb dL_close_2 rfl (lv_at hl 0 rfl) ?_
  refine lv_iload_n hx hb dL_close_3 rfl (lv_at hl 1 rfl) ?_
  obtain ⟨c1, h⟩ := og h
  rcases obh2 h with ⟨k9, w9, e2, h⟩ | ⟨v3, w4, e2, h⟩
  · by_cases k9_1 : k9 = 1
    · replace h := ot k9_1 h
      obtain ⟨rfl, rfl⟩ := Prod.mk.inj (Option.some.inj h)
      subst k9_1
      refine x_callVE (n := 1) (As := [.int p1]) (rest := [.int 0, rv p2]) hX hw (c_X6_close g l hG hst mm p0 p1 w _ e2) gL_close_X6_close rfl (by decide +kernel) rfl (x_nz hw c1) (c_recv hX hw (ce_6 c1) rfl) hl.1 rfl (by simp [rv_cat, ct_i, ct_l]) ⟨by decide, by decide⟩ dL_close_4 (fun H lc cn sn q ce hw h1 h2 h3 => ?_)
      have hw : wH g s.heap.size (w9, mm) H lc := hw
      refine tw_catch (E := exn 1) (name := "java/lang/IndexOutOfBoundsException") hX htab [] [(0, 9, 15, 17)] (0, 9, 12, 13) rfl ⟨by decide, by decide⟩ (by decide) ((hC s hX.2.1.2.1).2.2.2.1) ((hG s hX.2.1.2.1).2.2.2.2.2.1.1) (fun _ h => absurd h List.not_mem_nil) h1 h2 h3 ?_
      refine lv_astore_n (lv' := [(3, .ref q), (0, rv p0), (1, .int p1), (2, rv p2)]) hx hb dL_close_12 rfl hl (by decide) (by simp [rv_cat, ct_i, ct_l] <;> decide) (fun ls hl => ?_)
      refine lv_iconst (v := 1) hx hb dL_close_13 (by decide) ?_
      exact hret _ _ _ _ _ _ _ dL_close_14 hw rfl
    replace h := oe k9_1 h
    by_cases k9_3 : k9 = 3
    · replace h := ot k9_3 h
      obtain ⟨rfl, rfl⟩ := Prod.mk.inj (Option.some.inj h)
      subst k9_3
      refine x_callVE (n := 1) (As := [.int p1]) (rest := [.int 0, rv p2]) hX hw (c_X6_close g l hG hst mm p0 p1 w _ e2) gL_close_X6_close rfl (by decide +kernel) rfl (x_nz hw c1) (c_recv hX hw (ce_6 c1) rfl) hl.1 rfl (by simp [rv_cat, ct_i, ct_l]) ⟨by decide, by decide⟩ dL_close_4 (fun H lc cn sn q ce hw h1 h2 h3 => ?_)
      have hw : wH g s.heap.size (w9, mm) H lc := hw
      refine tw_catch (E := exn 3) (name := "java/lang/IllegalStateException") hX htab [(0, 9, 12, 13)] [] (0, 9, 15, 17) rfl ⟨by decide, by decide⟩ (by decide) ((hC s hX.2.1.2.1).2.2.2.2.2) ((hG s hX.2.1.2.1).2.2.2.2.2.1.2.2) (List.forall_mem_cons.mpr ⟨⟨by decide, "java/lang/IndexOutOfBoundsException", (hC s hX.2.1.2.1).2.2.2.1, (hC s hX.2.1.2.1).1⟩, (fun _ h => absurd h List.not_mem_nil)⟩) h1 h2 h3 ?_
      refine lv_astore_n (lv' := [(3, .ref q), (0, rv p0), (1, .int p1), (2, rv p2)]) hx hb dL_close_15 rfl hl (by decide) (by simp [rv_cat, ct_i, ct_l] <;> decide) (fun ls hl => ?_)
      refine lv_iconst (v := 2) hx hb dL_close_16 (by decide) ?_
      exact hret _ _ _ _ _ _ _ dL_close_17 hw rfl
    replace h := oe k9_3 h
    cases h
  · refine x_callVNi (n := 1) (As := [.int p1]) (rest := [.int 0, rv p2]) hX hw (c_X6_close g l hG hst mm p0 p1 w _ e2) gL_close_X6_close rfl (by decide +kernel) rfl (x_nz hw c1) (c_recv hX hw (ce_6 c1) rfl) hl.1 rfl (by simp [rv_cat, ct_i, ct_l]) ⟨by decide, by decide⟩ dL_close_4 (fun H lc cn sn hw => ?_)
    have hw : wH g s.heap.size (w4, mm) H lc := hw
    refine lv_i2l (v := v3.toInt64) hx hb dL_close_7 rfl ?_
    obtain ⟨c5, h⟩ := og h
    obtain ⟨c6, h⟩ := og h
    obtain ⟨w7, ew7, h⟩ := ol h
    refine c_lst hX hw c5 c6 dL_close_8 (fun H lc hw => ?_)
    have hw := hw_eq ew7 hw
    refine lv_goto (tgt := 18) hx hb dL_close_9 (by decide) ?_
    refine lv_iconst (v := 0) hx hb dL_close_18 (by decide) ?_
    replace h := (Option.some.inj h).symm
    obtain ⟨rfl, rfl⟩ := Prod.mk.inj h
    exact hret _ _ _ _ _ _ _ dL_close_19 hw rfl

def x_L_state (p0 : Nat) (p1 : Int32) (p2 : Nat) (w : CS) : Option (Int32 × CS) :=
  if wJ w 0 p0 = 6 then
  bh3 (x_X6_state p0 p1 w) (fun k9 w9 => if k9 = 1 then some ((1 : Int32), w9) else none) (fun (v3 : Int32) =>
  if wJ w 0 p2 = 15 then
  if vR 0 (wJ w 1 p2) then
  bs (sM w p2 (0 : Int32).toNatClampNeg v3.toInt64) (fun (w6 : CS) =>
  some (((0 : Int32), w6)))
  else none
  else none)
  else none
set_option maxHeartbeats 4000000 in
set_option maxRecDepth 100000 in
theorem c_L_state (g : GG) (l : Launch) (hG : XG g) (hC : NC g) (hst : l.stackTraces = false) (mm : MS) (p0 : Nat) (p1 : Int32) (p2 : Nat) (w : CS) (r : Int32) (w' : CS) (h : x_L_state p0 p1 p2 w = some (r, w')) : MetG g l yL_state wsL_state 8 124 [rv p0, .int p1, rv p2] (w, mm) (some (.int r)) (w', mm) := by
  refine g_startW_i (hh := [(0, 9, 12, 13)]) (some (.int r)) (own := RL) (by decide +kernel) rfl rfl (by simp [lg_sl, rv_cat, ct_i, ct_l]) ?_
  intro p e s mi args below meth cd ls Q hX htab hw hl hret
  have hl : lv_has ls 4 [(0, rv p0), (1, .int p1), (2, rv p2)] := by simpa [lv_args, rv_cat, ct_i, ct_l] using hl
  obtain ⟨⟨hx, hb, -, hown, hts⟩, -⟩ := id hX
  unfold x_L_state at h
  refine t_aload_n hx hb dL_state_0 rfl (lv_at hl 2 rfl) ?_
  refine lv_iconst (v := 0) hx hb dL_state_1 (by decide) ?_
  refine t_aload_n hx hb dL_state_2 rfl (lv_at hl 0 rfl) ?_
  refine lv_iload_n hx hb dL_state_3 rfl (lv_at hl 1 rfl) ?_
  obtain ⟨c1, h⟩ := og h
  rcases obh3 h with ⟨k9, w9, e2, h⟩ | ⟨v3, e2, h⟩
  · by_cases k9_1 : k9 = 1
    · replace h := ot k9_1 h
      obtain ⟨rfl, rfl⟩ := Prod.mk.inj (Option.some.inj h)
      subst k9_1
      refine x_callVE (n := 1) (As := [.int p1]) (rest := [.int 0, rv p2]) hX hw (c_X6_state g l hG hst mm p0 p1 w _ e2) gL_state_X6_state rfl (by decide +kernel) rfl (x_nz hw c1) (c_recv hX hw (ce_6 c1) rfl) hl.1 rfl (by simp [rv_cat, ct_i, ct_l]) ⟨by decide, by decide⟩ dL_state_4 (fun H lc cn sn q ce hw h1 h2 h3 => ?_)
      have hw : wH g s.heap.size (w9, mm) H lc := hw
      refine tw_catch (E := exn 1) (name := "java/lang/IndexOutOfBoundsException") hX htab [] [] (0, 9, 12, 13) rfl ⟨by decide, by decide⟩ (by decide) ((hC s hX.2.1.2.1).2.2.2.1) ((hG s hX.2.1.2.1).2.2.2.2.2.1.1) (fun _ h => absurd h List.not_mem_nil) h1 h2 h3 ?_
      refine lv_astore_n (lv' := [(3, .ref q), (0, rv p0), (1, .int p1), (2, rv p2)]) hx hb dL_state_12 rfl hl (by decide) (by simp [rv_cat, ct_i, ct_l] <;> decide) (fun ls hl => ?_)
      refine lv_iconst (v := 1) hx hb dL_state_13 (by decide) ?_
      exact hret _ _ _ _ _ _ _ dL_state_14 hw rfl
    replace h := oe k9_1 h
    cases h
  · refine x_callVNi (n := 1) (As := [.int p1]) (rest := [.int 0, rv p2]) hX hw (c_X6_state g l hG hst mm p0 p1 w _ e2) gL_state_X6_state rfl (by decide +kernel) rfl (x_nz hw c1) (c_recv hX hw (ce_6 c1) rfl) hl.1 rfl (by simp [rv_cat, ct_i, ct_l]) ⟨by decide, by decide⟩ dL_state_4 (fun H lc cn sn hw => ?_)
    have hw : wH g s.heap.size (w, mm) H lc := hw
    refine lv_i2l (v := v3.toInt64) hx hb dL_state_7 rfl ?_
    obtain ⟨c4, h⟩ := og h
    obtain ⟨c5, h⟩ := og h
    obtain ⟨w6, ew6, h⟩ := ol h
    refine c_lst hX hw c4 c5 dL_state_8 (fun H lc hw => ?_)
    have hw := hw_eq ew6 hw
    refine lv_goto (tgt := 15) hx hb dL_state_9 (by decide) ?_
    refine lv_iconst (v := 0) hx hb dL_state_15 (by decide) ?_
    replace h := (Option.some.inj h).symm
    obtain ⟨rfl, rfl⟩ := Prod.mk.inj h
    exact hret _ _ _ _ _ _ _ dL_state_16 hw rfl

def x_L_makeStore (p0 : Nat) (p1 : Int32) (p2 : Int32) (w : CS) : Option (Int32 × CS) :=
  if wJ w 0 p0 = 6 then
  bh1 (x_X6_makeStore p0 p1 p2 w) (fun k9 w9 => if k9 = 1 then some ((1 : Int32), w9) else if k9 = 3 then some ((2 : Int32), w9) else none) (fun (w3 : CS) =>
  some (((0 : Int32), w3)))
  else none
set_option maxHeartbeats 4000000 in
set_option maxRecDepth 100000 in
theorem c_L_makeStore (g : GG) (l : Launch) (hG : XG g) (hC : NC g) (hst : l.stackTraces = false) (mm : MS) (p0 : Nat) (p1 : Int32) (p2 : Int32) (w : CS) (r : Int32) (w' : CS) (h : x_L_makeStore p0 p1 p2 w = some (r, w')) : MetG g l yL_makeStore wsL_makeStore 8 126 [rv p0, .int p1, .int p2] (w, mm) (some (.int r)) (w', mm) := by
  refine g_startW_i (hh := [(0, 6, 9, 13), (0, 6, 12, 17)]) (some (.int r)) (own := RL) (by decide +kernel) rfl rfl (by simp [lg_sl, rv_cat, ct_i, ct_l]) ?_
  intro p e s mi args below meth cd ls Q hX htab hw hl hret
  have hl : lv_has ls 4 [(0, rv p0), (1, .int p1), (2, .int p2)] := by simpa [lv_args, rv_cat, ct_i, ct_l] using hl
  obtain ⟨⟨hx, hb, -, hown, hts⟩, -⟩ := id hX
  unfold x_L_makeStore at h
  refine t_aload_n hx hb dL_makeStore_0 rfl (lv_at hl 0 rfl) ?_
  refine lv_iload_n hx hb dL_makeStore_1 rfl (lv_at hl 1 rfl) ?_
  refine lv_iload_n hx hb dL_makeStore_2 rfl (lv_at hl 2 rfl) ?_
  obtain ⟨c1, h⟩ := og h
  rcases obh1 h with ⟨k9, w9, e2, h⟩ | ⟨w3, e2, h⟩
  · by_cases k9_1 : k9 = 1
    · replace h := ot k9_1 h
      obtain ⟨rfl, rfl⟩ := Prod.mk.inj (Option.some.inj h)
      subst k9_1
      refine x_callVE (n := 2) (As := [.int p1, .int p2]) (rest := []) hX hw (c_X6_makeStore g l hG hst mm p0 p1 p2 w _ e2) gL_makeStore_X6_makeStore rfl (by decide +kernel) rfl (x_nz hw c1) (c_recv hX hw (ce_6 c1) rfl) hl.1 rfl (Nat.le_of_ble_eq_true rfl) ⟨by decide, by decide⟩ dL_makeStore_3 (fun H lc cn sn q ce hw h1 h2 h3 => ?_)
      have hw : wH g s.heap.size (w9, mm) H lc := hw
      refine tw_catch (E := exn 1) (name := "java/lang/IndexOutOfBoundsException") hX htab [] [(0, 6, 12, 17)] (0, 6, 9, 13) rfl ⟨by decide, by decide⟩ (by decide) ((hC s hX.2.1.2.1).2.2.2.1) ((hG s hX.2.1.2.1).2.2.2.2.2.1.1) (fun _ h => absurd h List.not_mem_nil) h1 h2 h3 ?_
      refine lv_astore_n (lv' := [(3, .ref q), (0, rv p0), (1, .int p1), (2, .int p2)]) hx hb dL_makeStore_9 rfl hl (by decide) (by simp [rv_cat, ct_i, ct_l] <;> decide) (fun ls hl => ?_)
      refine lv_iconst (v := 1) hx hb dL_makeStore_10 (by decide) ?_
      exact hret _ _ _ _ _ _ _ dL_makeStore_11 hw rfl
    replace h := oe k9_1 h
    by_cases k9_3 : k9 = 3
    · replace h := ot k9_3 h
      obtain ⟨rfl, rfl⟩ := Prod.mk.inj (Option.some.inj h)
      subst k9_3
      refine x_callVE (n := 2) (As := [.int p1, .int p2]) (rest := []) hX hw (c_X6_makeStore g l hG hst mm p0 p1 p2 w _ e2) gL_makeStore_X6_makeStore rfl (by decide +kernel) rfl (x_nz hw c1) (c_recv hX hw (ce_6 c1) rfl) hl.1 rfl (Nat.le_of_ble_eq_true rfl) ⟨by decide, by decide⟩ dL_makeStore_3 (fun H lc cn sn q ce hw h1 h2 h3 => ?_)
      have hw : wH g s.heap.size (w9, mm) H lc := hw
      refine tw_catch (E := exn 3) (name := "java/lang/IllegalStateException") hX htab [(0, 6, 9, 13)] [] (0, 6, 12, 17) rfl ⟨by decide, by decide⟩ (by decide) ((hC s hX.2.1.2.1).2.2.2.2.2) ((hG s hX.2.1.2.1).2.2.2.2.2.1.2.2) (List.forall_mem_cons.mpr ⟨⟨by decide, "java/lang/IndexOutOfBoundsException", (hC s hX.2.1.2.1).2.2.2.1, (hC s hX.2.1.2.1).1⟩, (fun _ h => absurd h List.not_mem_nil)⟩) h1 h2 h3 ?_
      refine lv_astore_n (lv' := [(3, .ref q), (0, rv p0), (1, .int p1), (2, .int p2)]) hx hb dL_makeStore_12 rfl hl (by decide) (by simp [rv_cat, ct_i, ct_l] <;> decide) (fun ls hl => ?_)
      refine lv_iconst (v := 2) hx hb dL_makeStore_13 (by decide) ?_
      exact hret _ _ _ _ _ _ _ dL_makeStore_14 hw rfl
    replace h := oe k9_3 h
    cases h
  · refine x_callVNv (n := 2) (As := [.int p1, .int p2]) (rest := []) hX hw (c_X6_makeStore g l hG hst mm p0 p1 p2 w _ e2) gL_makeStore_X6_makeStore rfl (by decide +kernel) rfl (x_nz hw c1) (c_recv hX hw (ce_6 c1) rfl) hl.1 rfl (Nat.le_of_ble_eq_true rfl) ⟨by decide, by decide⟩ dL_makeStore_3 (fun H lc cn sn hw => ?_)
    have hw : wH g s.heap.size (w3, mm) H lc := hw
    refine lv_goto (tgt := 15) hx hb dL_makeStore_6 (by decide) ?_
    refine lv_iconst (v := 0) hx hb dL_makeStore_15 (by decide) ?_
    replace h := (Option.some.inj h).symm
    obtain ⟨rfl, rfl⟩ := Prod.mk.inj h
    exact hret _ _ _ _ _ _ _ dL_makeStore_16 hw rfl

def x_L_deleteStore (p0 : Nat) (p1 : Int32) (p2 : Int32) (p3 : Nat) (w : CS) : Option (Int32 × CS) :=
  if wJ w 0 p0 = 6 then
  bh2 (x_X6_deleteStore p0 p1 p2 w) (fun k9 w9 => if k9 = 1 then some ((1 : Int32), w9) else if k9 = 3 then some ((2 : Int32), w9) else none) (fun (v3 : Int32) (w4 : CS) =>
  if wJ w4 0 p3 = 15 then
  if vR 0 (wJ w4 1 p3) then
  bs (sM w4 p3 (0 : Int32).toNatClampNeg v3.toInt64) (fun (w7 : CS) =>
  some (((0 : Int32), w7)))
  else none
  else none)
  else none
set_option maxHeartbeats 4000000 in
set_option maxRecDepth 100000 in
theorem c_L_deleteStore (g : GG) (l : Launch) (hG : XG g) (hC : NC g) (hst : l.stackTraces = false) (mm : MS) (p0 : Nat) (p1 : Int32) (p2 : Int32) (p3 : Nat) (w : CS) (r : Int32) (w' : CS) (h : x_L_deleteStore p0 p1 p2 p3 w = some (r, w')) : MetG g l yL_deleteStore wsL_deleteStore 8 127 [rv p0, .int p1, .int p2, rv p3] (w, mm) (some (.int r)) (w', mm) := by
  refine g_startW_i (hh := [(0, 10, 13, 13), (0, 10, 17, 17)]) (some (.int r)) (own := RL) (by decide +kernel) rfl rfl (by simp [lg_sl, rv_cat, ct_i, ct_l]) ?_
  intro p e s mi args below meth cd ls Q hX htab hw hl hret
  have hl : lv_has ls 5 [(0, rv p0), (1, .int p1), (2, .int p2), (3, rv p3)] := by simpa [lv_args, rv_cat, ct_i, ct_l] using hl
  obtain ⟨⟨hx, hb, -, hown, hts⟩, -⟩ := id hX
  unfold x_L_deleteStore at h
  refine t_aload_n hx hb dL_deleteStore_0 rfl (lv_at hl 3 rfl) ?_
  refine lv_iconst (v := 0) hx hb dL_deleteStore_1 (by decide) ?_
  refine t_aload_n hx hb dL_deleteStore_2 rfl (lv_at hl 0 rfl) ?_
  refine lv_iload_n hx hb dL_deleteStore_3 rfl (lv_at hl 1 rfl) ?_
  refine lv_iload_n hx hb dL_deleteStore_4 rfl (lv_at hl 2 rfl) ?_
  obtain ⟨c1, h⟩ := og h
  rcases obh2 h with ⟨k9, w9, e2, h⟩ | ⟨v3, w4, e2, h⟩
  · by_cases k9_1 : k9 = 1
    · replace h := ot k9_1 h
      obtain ⟨rfl, rfl⟩ := Prod.mk.inj (Option.some.inj h)
      subst k9_1
      refine x_callVE (n := 2) (As := [.int p1, .int p2]) (rest := [.int 0, rv p3]) hX hw (c_X6_deleteStore g l hG hst mm p0 p1 p2 w _ e2) gL_deleteStore_X6_deleteStore rfl (by decide +kernel) rfl (x_nz hw c1) (c_recv hX hw (ce_6 c1) rfl) hl.1 rfl (by simp [rv_cat, ct_i, ct_l]) ⟨by decide, by decide⟩ dL_deleteStore_5 (fun H lc cn sn q ce hw h1 h2 h3 => ?_)
      have hw : wH g s.heap.size (w9, mm) H lc := hw
      refine tw_catch (E := exn 1) (name := "java/lang/IndexOutOfBoundsException") hX htab [] [(0, 10, 17, 17)] (0, 10, 13, 13) rfl ⟨by decide, by decide⟩ (by decide) ((hC s hX.2.1.2.1).2.2.2.1) ((hG s hX.2.1.2.1).2.2.2.2.2.1.1) (fun _ h => absurd h List.not_mem_nil) h1 h2 h3 ?_
      refine lv_astore (lv' := [(4, .ref q), (0, rv p0), (1, .int p1), (2, .int p2), (3, rv p3)]) hx hb dL_deleteStore_13 hl (by decide) (by simp [rv_cat, ct_i, ct_l] <;> decide) (fun ls hl => ?_)
      refine lv_iconst (v := 1) hx hb dL_deleteStore_15 (by decide) ?_
      exact hret _ _ _ _ _ _ _ dL_deleteStore_16 hw rfl
    replace h := oe k9_1 h
    by_cases k9_3 : k9 = 3
    · replace h := ot k9_3 h
      obtain ⟨rfl, rfl⟩ := Prod.mk.inj (Option.some.inj h)
      subst k9_3
      refine x_callVE (n := 2) (As := [.int p1, .int p2]) (rest := [.int 0, rv p3]) hX hw (c_X6_deleteStore g l hG hst mm p0 p1 p2 w _ e2) gL_deleteStore_X6_deleteStore rfl (by decide +kernel) rfl (x_nz hw c1) (c_recv hX hw (ce_6 c1) rfl) hl.1 rfl (by simp [rv_cat, ct_i, ct_l]) ⟨by decide, by decide⟩ dL_deleteStore_5 (fun H lc cn sn q ce hw h1 h2 h3 => ?_)
      have hw : wH g s.heap.size (w9, mm) H lc := hw
      refine tw_catch (E := exn 3) (name := "java/lang/IllegalStateException") hX htab [(0, 10, 13, 13)] [] (0, 10, 17, 17) rfl ⟨by decide, by decide⟩ (by decide) ((hC s hX.2.1.2.1).2.2.2.2.2) ((hG s hX.2.1.2.1).2.2.2.2.2.1.2.2) (List.forall_mem_cons.mpr ⟨⟨by decide, "java/lang/IndexOutOfBoundsException", (hC s hX.2.1.2.1).2.2.2.1, (hC s hX.2.1.2.1).1⟩, (fun _ h => absurd h List.not_mem_nil)⟩) h1 h2 h3 ?_
      refine lv_astore (lv' := [(4, .ref q), (0, rv p0), (1, .int p1), (2, .int p2), (3, rv p3)]) hx hb dL_deleteStore_17 hl (by decide) (by simp [rv_cat, ct_i, ct_l] <;> decide) (fun ls hl => ?_)
      refine lv_iconst (v := 2) hx hb dL_deleteStore_19 (by decide) ?_
      exact hret _ _ _ _ _ _ _ dL_deleteStore_20 hw rfl
    replace h := oe k9_3 h
    cases h
  · refine x_callVNi (n := 2) (As := [.int p1, .int p2]) (rest := [.int 0, rv p3]) hX hw (c_X6_deleteStore g l hG hst mm p0 p1 p2 w _ e2) gL_deleteStore_X6_deleteStore rfl (by decide +kernel) rfl (x_nz hw c1) (c_recv hX hw (ce_6 c1) rfl) hl.1 rfl (by simp [rv_cat, ct_i, ct_l]) ⟨by decide, by decide⟩ dL_deleteStore_5 (fun H lc cn sn hw => ?_)
    have hw : wH g s.heap.size (w4, mm) H lc := hw
    refine lv_i2l (v := v3.toInt64) hx hb dL_deleteStore_8 rfl ?_
    obtain ⟨c5, h⟩ := og h
    obtain ⟨c6, h⟩ := og h
    obtain ⟨w7, ew7, h⟩ := ol h
    refine c_lst hX hw c5 c6 dL_deleteStore_9 (fun H lc hw => ?_)
    have hw := hw_eq ew7 hw
    refine lv_goto (tgt := 21) hx hb dL_deleteStore_10 (by decide) ?_
    refine lv_iconst (v := 0) hx hb dL_deleteStore_21 (by decide) ?_
    replace h := (Option.some.inj h).symm
    obtain ⟨rfl, rfl⟩ := Prod.mk.inj h
    exact hret _ _ _ _ _ _ _ dL_deleteStore_22 hw rfl

def x_L_makeIndex (p0 : Nat) (p1 : Int32) (p2 : Int32) (p3 : Int32) (p4 : Int32) (w : CS) : Option (Int32 × CS) :=
  if wJ w 0 p0 = 6 then
  bh1 (x_X6_makeIndex p0 p1 p2 p3 p4 w) (fun k9 w9 => if k9 = 1 then some ((1 : Int32), w9) else if k9 = 3 then some ((2 : Int32), w9) else none) (fun (w3 : CS) =>
  some (((0 : Int32), w3)))
  else none
set_option maxHeartbeats 4000000 in
set_option maxRecDepth 100000 in
theorem c_L_makeIndex (g : GG) (l : Launch) (hG : XG g) (hC : NC g) (hst : l.stackTraces = false) (mm : MS) (p0 : Nat) (p1 : Int32) (p2 : Int32) (p3 : Int32) (p4 : Int32) (w : CS) (r : Int32) (w' : CS) (h : x_L_makeIndex p0 p1 p2 p3 p4 w = some (r, w')) : MetG g l yL_makeIndex wsL_makeIndex 8 136 [rv p0, .int p1, .int p2, .int p3, .int p4] (w, mm) (some (.int r)) (w', mm) := by
  refine g_startW_i (hh := [(0, 9, 12, 13), (0, 9, 16, 17)]) (some (.int r)) (own := RL) (by decide +kernel) rfl rfl (by simp [lg_sl, rv_cat, ct_i, ct_l]) ?_
  intro p e s mi args below meth cd ls Q hX htab hw hl hret
  have hl : lv_has ls 6 [(0, rv p0), (1, .int p1), (2, .int p2), (3, .int p3), (4, .int p4)] := by simpa [lv_args, rv_cat, ct_i, ct_l] using hl
  obtain ⟨⟨hx, hb, -, hown, hts⟩, -⟩ := id hX
  unfold x_L_makeIndex at h
  refine t_aload_n hx hb dL_makeIndex_0 rfl (lv_at hl 0 rfl) ?_
  refine lv_iload_n hx hb dL_makeIndex_1 rfl (lv_at hl 1 rfl) ?_
  refine lv_iload_n hx hb dL_makeIndex_2 rfl (lv_at hl 2 rfl) ?_
  refine lv_iload_n hx hb dL_makeIndex_3 rfl (lv_at hl 3 rfl) ?_
  refine lv_iload hx hb dL_makeIndex_4 (lv_at hl 4 rfl) ?_
  obtain ⟨c1, h⟩ := og h
  rcases obh1 h with ⟨k9, w9, e2, h⟩ | ⟨w3, e2, h⟩
  · by_cases k9_1 : k9 = 1
    · replace h := ot k9_1 h
      obtain ⟨rfl, rfl⟩ := Prod.mk.inj (Option.some.inj h)
      subst k9_1
      refine x_callVE (n := 4) (As := [.int p1, .int p2, .int p3, .int p4]) (rest := []) hX hw (c_X6_makeIndex g l hG hst mm p0 p1 p2 p3 p4 w _ e2) gL_makeIndex_X6_makeIndex rfl (by decide +kernel) rfl (x_nz hw c1) (c_recv hX hw (ce_6 c1) rfl) hl.1 rfl (Nat.le_of_ble_eq_true rfl) ⟨by decide, by decide⟩ dL_makeIndex_6 (fun H lc cn sn q ce hw h1 h2 h3 => ?_)
      have hw : wH g s.heap.size (w9, mm) H lc := hw
      refine tw_catch (E := exn 1) (name := "java/lang/IndexOutOfBoundsException") hX htab [] [(0, 9, 16, 17)] (0, 9, 12, 13) rfl ⟨by decide, by decide⟩ (by decide) ((hC s hX.2.1.2.1).2.2.2.1) ((hG s hX.2.1.2.1).2.2.2.2.2.1.1) (fun _ h => absurd h List.not_mem_nil) h1 h2 h3 ?_
      refine lv_astore (lv' := [(5, .ref q), (0, rv p0), (1, .int p1), (2, .int p2), (3, .int p3), (4, .int p4)]) hx hb dL_makeIndex_12 hl (by decide) (by simp [rv_cat, ct_i, ct_l] <;> decide) (fun ls hl => ?_)
      refine lv_iconst (v := 1) hx hb dL_makeIndex_14 (by decide) ?_
      exact hret _ _ _ _ _ _ _ dL_makeIndex_15 hw rfl
    replace h := oe k9_1 h
    by_cases k9_3 : k9 = 3
    · replace h := ot k9_3 h
      obtain ⟨rfl, rfl⟩ := Prod.mk.inj (Option.some.inj h)
      subst k9_3
      refine x_callVE (n := 4) (As := [.int p1, .int p2, .int p3, .int p4]) (rest := []) hX hw (c_X6_makeIndex g l hG hst mm p0 p1 p2 p3 p4 w _ e2) gL_makeIndex_X6_makeIndex rfl (by decide +kernel) rfl (x_nz hw c1) (c_recv hX hw (ce_6 c1) rfl) hl.1 rfl (Nat.le_of_ble_eq_true rfl) ⟨by decide, by decide⟩ dL_makeIndex_6 (fun H lc cn sn q ce hw h1 h2 h3 => ?_)
      have hw : wH g s.heap.size (w9, mm) H lc := hw
      refine tw_catch (E := exn 3) (name := "java/lang/IllegalStateException") hX htab [(0, 9, 12, 13)] [] (0, 9, 16, 17) rfl ⟨by decide, by decide⟩ (by decide) ((hC s hX.2.1.2.1).2.2.2.2.2) ((hG s hX.2.1.2.1).2.2.2.2.2.1.2.2) (List.forall_mem_cons.mpr ⟨⟨by decide, "java/lang/IndexOutOfBoundsException", (hC s hX.2.1.2.1).2.2.2.1, (hC s hX.2.1.2.1).1⟩, (fun _ h => absurd h List.not_mem_nil)⟩) h1 h2 h3 ?_
      refine lv_astore (lv' := [(5, .ref q), (0, rv p0), (1, .int p1), (2, .int p2), (3, .int p3), (4, .int p4)]) hx hb dL_makeIndex_16 hl (by decide) (by simp [rv_cat, ct_i, ct_l] <;> decide) (fun ls hl => ?_)
      refine lv_iconst (v := 2) hx hb dL_makeIndex_18 (by decide) ?_
      exact hret _ _ _ _ _ _ _ dL_makeIndex_19 hw rfl
    replace h := oe k9_3 h
    cases h
  · refine x_callVNv (n := 4) (As := [.int p1, .int p2, .int p3, .int p4]) (rest := []) hX hw (c_X6_makeIndex g l hG hst mm p0 p1 p2 p3 p4 w _ e2) gL_makeIndex_X6_makeIndex rfl (by decide +kernel) rfl (x_nz hw c1) (c_recv hX hw (ce_6 c1) rfl) hl.1 rfl (Nat.le_of_ble_eq_true rfl) ⟨by decide, by decide⟩ dL_makeIndex_6 (fun H lc cn sn hw => ?_)
    have hw : wH g s.heap.size (w3, mm) H lc := hw
    refine lv_goto (tgt := 20) hx hb dL_makeIndex_9 (by decide) ?_
    refine lv_iconst (v := 0) hx hb dL_makeIndex_20 (by decide) ?_
    replace h := (Option.some.inj h).symm
    obtain ⟨rfl, rfl⟩ := Prod.mk.inj h
    exact hret _ _ _ _ _ _ _ dL_makeIndex_21 hw rfl

def x_L_begin (p0 : Nat) (p1 : Int32) (p2 : Int32) (p3 : Int32) (p4 : Nat) (w : CS) : Option (Int32 × CS) :=
  if wJ w 0 p0 = 6 then
  bh2 (x_X6_begin p0 p1 p2 p3 w) (fun k9 w9 => if k9 = 1 then some ((1 : Int32), w9) else if k9 = 2 then some ((2 : Int32), w9) else if k9 = 3 then some ((3 : Int32), w9) else none) (fun (v3 : Int32) (w4 : CS) =>
  if wJ w4 0 p4 = 15 then
  if vR 0 (wJ w4 1 p4) then
  bs (sM w4 p4 (0 : Int32).toNatClampNeg v3.toInt64) (fun (w7 : CS) =>
  some (((0 : Int32), w7)))
  else none
  else none)
  else none
set_option maxHeartbeats 4000000 in
set_option maxRecDepth 100000 in
theorem c_L_begin (g : GG) (l : Launch) (hG : XG g) (hC : NC g) (hst : l.stackTraces = false) (mm : MS) (p0 : Nat) (p1 : Int32) (p2 : Int32) (p3 : Int32) (p4 : Nat) (w : CS) (r : Int32) (w' : CS) (h : x_L_begin p0 p1 p2 p3 p4 w = some (r, w')) : MetG g l yL_begin wsL_begin 12 285 [rv p0, .int p1, .int p2, .int p3, rv p4] (w, mm) (some (.int r)) (w', mm) := by
  refine g_startW_i (hh := [(0, 12, 15, 13), (0, 12, 19, 15), (0, 12, 23, 17)]) (some (.int r)) (own := RL) (by decide +kernel) rfl rfl (by simp [lg_sl, rv_cat, ct_i, ct_l]) ?_
  intro p e s mi args below meth cd ls Q hX htab hw hl hret
  have hl : lv_has ls 6 [(0, rv p0), (1, .int p1), (2, .int p2), (3, .int p3), (4, rv p4)] := by simpa [lv_args, rv_cat, ct_i, ct_l] using hl
  obtain ⟨⟨hx, hb, -, hown, hts⟩, -⟩ := id hX
  unfold x_L_begin at h
  refine t_aload hx hb dL_begin_0 (lv_at hl 4 rfl) ?_
  refine lv_iconst (v := 0) hx hb dL_begin_2 (by decide) ?_
  refine t_aload_n hx hb dL_begin_3 rfl (lv_at hl 0 rfl) ?_
  refine lv_iload_n hx hb dL_begin_4 rfl (lv_at hl 1 rfl) ?_
  refine lv_iload_n hx hb dL_begin_5 rfl (lv_at hl 2 rfl) ?_
  refine lv_iload_n hx hb dL_begin_6 rfl (lv_at hl 3 rfl) ?_
  obtain ⟨c1, h⟩ := og h
  rcases obh2 h with ⟨k9, w9, e2, h⟩ | ⟨v3, w4, e2, h⟩
  · by_cases k9_1 : k9 = 1
    · replace h := ot k9_1 h
      obtain ⟨rfl, rfl⟩ := Prod.mk.inj (Option.some.inj h)
      subst k9_1
      refine x_callVE (n := 3) (As := [.int p1, .int p2, .int p3]) (rest := [.int 0, rv p4]) hX hw (c_X6_begin g l hG hst mm p0 p1 p2 p3 w _ e2) gL_begin_X6_begin rfl (by decide +kernel) rfl (x_nz hw c1) (c_recv hX hw (ce_6 c1) rfl) hl.1 rfl (by simp [rv_cat, ct_i, ct_l]) ⟨by decide, by decide⟩ dL_begin_7 (fun H lc cn sn q ce hw h1 h2 h3 => ?_)
      have hw : wH g s.heap.size (w9, mm) H lc := hw
      refine tw_catch (E := exn 1) (name := "java/lang/IndexOutOfBoundsException") hX htab [] [(0, 12, 19, 15), (0, 12, 23, 17)] (0, 12, 15, 13) rfl ⟨by decide, by decide⟩ (by decide) ((hC s hX.2.1.2.1).2.2.2.1) ((hG s hX.2.1.2.1).2.2.2.2.2.1.1) (fun _ h => absurd h List.not_mem_nil) h1 h2 h3 ?_
      refine lv_astore (lv' := [(5, .ref q), (0, rv p0), (1, .int p1), (2, .int p2), (3, .int p3), (4, rv p4)]) hx hb dL_begin_15 hl (by decide) (by simp [rv_cat, ct_i, ct_l] <;> decide) (fun ls hl => ?_)
      refine lv_iconst (v := 1) hx hb dL_begin_17 (by decide) ?_
      exact hret _ _ _ _ _ _ _ dL_begin_18 hw rfl
    replace h := oe k9_1 h
    by_cases k9_2 : k9 = 2
    · replace h := ot k9_2 h
      obtain ⟨rfl, rfl⟩ := Prod.mk.inj (Option.some.inj h)
      subst k9_2
      refine x_callVE (n := 3) (As := [.int p1, .int p2, .int p3]) (rest := [.int 0, rv p4]) hX hw (c_X6_begin g l hG hst mm p0 p1 p2 p3 w _ e2) gL_begin_X6_begin rfl (by decide +kernel) rfl (x_nz hw c1) (c_recv hX hw (ce_6 c1) rfl) hl.1 rfl (by simp [rv_cat, ct_i, ct_l]) ⟨by decide, by decide⟩ dL_begin_7 (fun H lc cn sn q ce hw h1 h2 h3 => ?_)
      have hw : wH g s.heap.size (w9, mm) H lc := hw
      refine tw_catch (E := exn 2) (name := "java/lang/IllegalArgumentException") hX htab [(0, 12, 15, 13)] [(0, 12, 23, 17)] (0, 12, 19, 15) rfl ⟨by decide, by decide⟩ (by decide) ((hC s hX.2.1.2.1).2.2.2.2.1) ((hG s hX.2.1.2.1).2.2.2.2.2.1.2.1) (List.forall_mem_cons.mpr ⟨⟨by decide, "java/lang/IndexOutOfBoundsException", (hC s hX.2.1.2.1).2.2.2.1, (hC s hX.2.1.2.1).2.2.1⟩, (fun _ h => absurd h List.not_mem_nil)⟩) h1 h2 h3 ?_
      refine lv_astore (lv' := [(5, .ref q), (0, rv p0), (1, .int p1), (2, .int p2), (3, .int p3), (4, rv p4)]) hx hb dL_begin_19 hl (by decide) (by simp [rv_cat, ct_i, ct_l] <;> decide) (fun ls hl => ?_)
      refine lv_iconst (v := 2) hx hb dL_begin_21 (by decide) ?_
      exact hret _ _ _ _ _ _ _ dL_begin_22 hw rfl
    replace h := oe k9_2 h
    by_cases k9_3 : k9 = 3
    · replace h := ot k9_3 h
      obtain ⟨rfl, rfl⟩ := Prod.mk.inj (Option.some.inj h)
      subst k9_3
      refine x_callVE (n := 3) (As := [.int p1, .int p2, .int p3]) (rest := [.int 0, rv p4]) hX hw (c_X6_begin g l hG hst mm p0 p1 p2 p3 w _ e2) gL_begin_X6_begin rfl (by decide +kernel) rfl (x_nz hw c1) (c_recv hX hw (ce_6 c1) rfl) hl.1 rfl (by simp [rv_cat, ct_i, ct_l]) ⟨by decide, by decide⟩ dL_begin_7 (fun H lc cn sn q ce hw h1 h2 h3 => ?_)
      have hw : wH g s.heap.size (w9, mm) H lc := hw
      refine tw_catch (E := exn 3) (name := "java/lang/IllegalStateException") hX htab [(0, 12, 15, 13), (0, 12, 19, 15)] [] (0, 12, 23, 17) rfl ⟨by decide, by decide⟩ (by decide) ((hC s hX.2.1.2.1).2.2.2.2.2) ((hG s hX.2.1.2.1).2.2.2.2.2.1.2.2) (List.forall_mem_cons.mpr ⟨⟨by decide, "java/lang/IndexOutOfBoundsException", (hC s hX.2.1.2.1).2.2.2.1, (hC s hX.2.1.2.1).1⟩, (List.forall_mem_cons.mpr ⟨⟨by decide, "java/lang/IllegalArgumentException", (hC s hX.2.1.2.1).2.2.2.2.1, (hC s hX.2.1.2.1).2.1⟩, (fun _ h => absurd h List.not_mem_nil)⟩)⟩) h1 h2 h3 ?_
      refine lv_astore (lv' := [(5, .ref q), (0, rv p0), (1, .int p1), (2, .int p2), (3, .int p3), (4, rv p4)]) hx hb dL_begin_23 hl (by decide) (by simp [rv_cat, ct_i, ct_l] <;> decide) (fun ls hl => ?_)
      refine lv_iconst (v := 3) hx hb dL_begin_25 (by decide) ?_
      exact hret _ _ _ _ _ _ _ dL_begin_26 hw rfl
    replace h := oe k9_3 h
    cases h
  · refine x_callVNi (n := 3) (As := [.int p1, .int p2, .int p3]) (rest := [.int 0, rv p4]) hX hw (c_X6_begin g l hG hst mm p0 p1 p2 p3 w _ e2) gL_begin_X6_begin rfl (by decide +kernel) rfl (x_nz hw c1) (c_recv hX hw (ce_6 c1) rfl) hl.1 rfl (by simp [rv_cat, ct_i, ct_l]) ⟨by decide, by decide⟩ dL_begin_7 (fun H lc cn sn hw => ?_)
    have hw : wH g s.heap.size (w4, mm) H lc := hw
    refine lv_i2l (v := v3.toInt64) hx hb dL_begin_10 rfl ?_
    obtain ⟨c5, h⟩ := og h
    obtain ⟨c6, h⟩ := og h
    obtain ⟨w7, ew7, h⟩ := ol h
    refine c_lst hX hw c5 c6 dL_begin_11 (fun H lc hw => ?_)
    have hw := hw_eq ew7 hw
    refine lv_goto (tgt := 27) hx hb dL_begin_12 (by decide) ?_
    refine lv_iconst (v := 0) hx hb dL_begin_27 (by decide) ?_
    replace h := (Option.some.inj h).symm
    obtain ⟨rfl, rfl⟩ := Prod.mk.inj h
    exact hret _ _ _ _ _ _ _ dL_begin_28 hw rfl

def x_L_standing (p0 : Nat) (p1 : Int32) (p2 : Nat) (w : CS) : Option (Int32 × CS) :=
  if wJ w 0 p0 = 6 then
  bh3 (x_X6_standing p0 p1 w) (fun k9 w9 => if k9 = 1 then some ((1 : Int32), w9) else none) (fun (v3 : Int32) =>
  if wJ w 0 p2 = 15 then
  if vR 0 (wJ w 1 p2) then
  bs (sM w p2 (0 : Int32).toNatClampNeg v3.toInt64) (fun (w6 : CS) =>
  some (((0 : Int32), w6)))
  else none
  else none)
  else none
set_option maxHeartbeats 4000000 in
set_option maxRecDepth 100000 in
theorem c_L_standing (g : GG) (l : Launch) (hG : XG g) (hC : NC g) (hst : l.stackTraces = false) (mm : MS) (p0 : Nat) (p1 : Int32) (p2 : Nat) (w : CS) (r : Int32) (w' : CS) (h : x_L_standing p0 p1 p2 w = some (r, w')) : MetG g l yL_standing wsL_standing 8 124 [rv p0, .int p1, rv p2] (w, mm) (some (.int r)) (w', mm) := by
  refine g_startW_i (hh := [(0, 9, 12, 13)]) (some (.int r)) (own := RL) (by decide +kernel) rfl rfl (by simp [lg_sl, rv_cat, ct_i, ct_l]) ?_
  intro p e s mi args below meth cd ls Q hX htab hw hl hret
  have hl : lv_has ls 4 [(0, rv p0), (1, .int p1), (2, rv p2)] := by simpa [lv_args, rv_cat, ct_i, ct_l] using hl
  obtain ⟨⟨hx, hb, -, hown, hts⟩, -⟩ := id hX
  unfold x_L_standing at h
  refine t_aload_n hx hb dL_standing_0 rfl (lv_at hl 2 rfl) ?_
  refine lv_iconst (v := 0) hx hb dL_standing_1 (by decide) ?_
  refine t_aload_n hx hb dL_standing_2 rfl (lv_at hl 0 rfl) ?_
  refine lv_iload_n hx hb dL_standing_3 rfl (lv_at hl 1 rfl) ?_
  obtain ⟨c1, h⟩ := og h
  rcases obh3 h with ⟨k9, w9, e2, h⟩ | ⟨v3, e2, h⟩
  · by_cases k9_1 : k9 = 1
    · replace h := ot k9_1 h
      obtain ⟨rfl, rfl⟩ := Prod.mk.inj (Option.some.inj h)
      subst k9_1
      refine x_callVE (n := 1) (As := [.int p1]) (rest := [.int 0, rv p2]) hX hw (c_X6_standing g l hG hst mm p0 p1 w _ e2) gL_standing_X6_standing rfl (by decide +kernel) rfl (x_nz hw c1) (c_recv hX hw (ce_6 c1) rfl) hl.1 rfl (by simp [rv_cat, ct_i, ct_l]) ⟨by decide, by decide⟩ dL_standing_4 (fun H lc cn sn q ce hw h1 h2 h3 => ?_)
      have hw : wH g s.heap.size (w9, mm) H lc := hw
      refine tw_catch (E := exn 1) (name := "java/lang/IndexOutOfBoundsException") hX htab [] [] (0, 9, 12, 13) rfl ⟨by decide, by decide⟩ (by decide) ((hC s hX.2.1.2.1).2.2.2.1) ((hG s hX.2.1.2.1).2.2.2.2.2.1.1) (fun _ h => absurd h List.not_mem_nil) h1 h2 h3 ?_
      refine lv_astore_n (lv' := [(3, .ref q), (0, rv p0), (1, .int p1), (2, rv p2)]) hx hb dL_standing_12 rfl hl (by decide) (by simp [rv_cat, ct_i, ct_l] <;> decide) (fun ls hl => ?_)
      refine lv_iconst (v := 1) hx hb dL_standing_13 (by decide) ?_
      exact hret _ _ _ _ _ _ _ dL_standing_14 hw rfl
    replace h := oe k9_1 h
    cases h
  · refine x_callVNi (n := 1) (As := [.int p1]) (rest := [.int 0, rv p2]) hX hw (c_X6_standing g l hG hst mm p0 p1 w _ e2) gL_standing_X6_standing rfl (by decide +kernel) rfl (x_nz hw c1) (c_recv hX hw (ce_6 c1) rfl) hl.1 rfl (by simp [rv_cat, ct_i, ct_l]) ⟨by decide, by decide⟩ dL_standing_4 (fun H lc cn sn hw => ?_)
    have hw : wH g s.heap.size (w, mm) H lc := hw
    refine lv_i2l (v := v3.toInt64) hx hb dL_standing_7 rfl ?_
    obtain ⟨c4, h⟩ := og h
    obtain ⟨c5, h⟩ := og h
    obtain ⟨w6, ew6, h⟩ := ol h
    refine c_lst hX hw c4 c5 dL_standing_8 (fun H lc hw => ?_)
    have hw := hw_eq ew6 hw
    refine lv_goto (tgt := 15) hx hb dL_standing_9 (by decide) ?_
    refine lv_iconst (v := 0) hx hb dL_standing_15 (by decide) ?_
    replace h := (Option.some.inj h).symm
    obtain ⟨rfl, rfl⟩ := Prod.mk.inj h
    exact hret _ _ _ _ _ _ _ dL_standing_16 hw rfl

def x_L_commit (p0 : Nat) (p1 : Int32) (p2 : Nat) (w : CS) : Option (Int32 × CS) :=
  if wJ w 0 p0 = 6 then
  bh2 (x_X6_commit p0 p1 w) (fun k9 w9 => if k9 = 1 then some ((1 : Int32), w9) else if k9 = 3 then some ((2 : Int32), w9) else none) (fun (v3 : Int32) (w4 : CS) =>
  if wJ w4 0 p2 = 15 then
  if vR 0 (wJ w4 1 p2) then
  bs (sM w4 p2 (0 : Int32).toNatClampNeg v3.toInt64) (fun (w7 : CS) =>
  some (((0 : Int32), w7)))
  else none
  else none)
  else none
set_option maxHeartbeats 4000000 in
set_option maxRecDepth 100000 in
theorem c_L_commit (g : GG) (l : Launch) (hG : XG g) (hC : NC g) (hst : l.stackTraces = false) (mm : MS) (p0 : Nat) (p1 : Int32) (p2 : Nat) (w : CS) (r : Int32) (w' : CS) (h : x_L_commit p0 p1 p2 w = some (r, w')) : MetG g l yL_commit wsL_commit 12 282 [rv p0, .int p1, rv p2] (w, mm) (some (.int r)) (w', mm) := by
  refine g_startW_i (hh := [(0, 9, 12, 13), (0, 9, 15, 17)]) (some (.int r)) (own := RL) (by decide +kernel) rfl rfl (by simp [lg_sl, rv_cat, ct_i, ct_l]) ?_
  intro p e s mi args below meth cd ls Q hX htab hw hl hret
  have hl : lv_has ls 4 [(0, rv p0), (1, .int p1), (2, rv p2)] := by simpa [lv_args, rv_cat, ct_i, ct_l] using hl
  obtain ⟨⟨hx, hb, -, hown, hts⟩, -⟩ := id hX
  unfold x_L_commit at h
  refine t_aload_n hx hb dL_commit_0 rfl (lv_at hl 2 rfl) ?_
  refine lv_iconst (v := 0) hx hb dL_commit_1 (by decide) ?_
  refine t_aload_n hx hb dL_commit_2 rfl (lv_at hl 0 rfl) ?_
  refine lv_iload_n hx hb dL_commit_3 rfl (lv_at hl 1 rfl) ?_
  obtain ⟨c1, h⟩ := og h
  rcases obh2 h with ⟨k9, w9, e2, h⟩ | ⟨v3, w4, e2, h⟩
  · by_cases k9_1 : k9 = 1
    · replace h := ot k9_1 h
      obtain ⟨rfl, rfl⟩ := Prod.mk.inj (Option.some.inj h)
      subst k9_1
      refine x_callVE (n := 1) (As := [.int p1]) (rest := [.int 0, rv p2]) hX hw (c_X6_commit g l hG hst mm p0 p1 w _ e2) gL_commit_X6_commit rfl (by decide +kernel) rfl (x_nz hw c1) (c_recv hX hw (ce_6 c1) rfl) hl.1 rfl (by simp [rv_cat, ct_i, ct_l]) ⟨by decide, by decide⟩ dL_commit_4 (fun H lc cn sn q ce hw h1 h2 h3 => ?_)
      have hw : wH g s.heap.size (w9, mm) H lc := hw
      refine tw_catch (E := exn 1) (name := "java/lang/IndexOutOfBoundsException") hX htab [] [(0, 9, 15, 17)] (0, 9, 12, 13) rfl ⟨by decide, by decide⟩ (by decide) ((hC s hX.2.1.2.1).2.2.2.1) ((hG s hX.2.1.2.1).2.2.2.2.2.1.1) (fun _ h => absurd h List.not_mem_nil) h1 h2 h3 ?_
      refine lv_astore_n (lv' := [(3, .ref q), (0, rv p0), (1, .int p1), (2, rv p2)]) hx hb dL_commit_12 rfl hl (by decide) (by simp [rv_cat, ct_i, ct_l] <;> decide) (fun ls hl => ?_)
      refine lv_iconst (v := 1) hx hb dL_commit_13 (by decide) ?_
      exact hret _ _ _ _ _ _ _ dL_commit_14 hw rfl
    replace h := oe k9_1 h
    by_cases k9_3 : k9 = 3
    · replace h := ot k9_3 h
      obtain ⟨rfl, rfl⟩ := Prod.mk.inj (Option.some.inj h)
      subst k9_3
      refine x_callVE (n := 1) (As := [.int p1]) (rest := [.int 0, rv p2]) hX hw (c_X6_commit g l hG hst mm p0 p1 w _ e2) gL_commit_X6_commit rfl (by decide +kernel) rfl (x_nz hw c1) (c_recv hX hw (ce_6 c1) rfl) hl.1 rfl (by simp [rv_cat, ct_i, ct_l]) ⟨by decide, by decide⟩ dL_commit_4 (fun H lc cn sn q ce hw h1 h2 h3 => ?_)
      have hw : wH g s.heap.size (w9, mm) H lc := hw
      refine tw_catch (E := exn 3) (name := "java/lang/IllegalStateException") hX htab [(0, 9, 12, 13)] [] (0, 9, 15, 17) rfl ⟨by decide, by decide⟩ (by decide) ((hC s hX.2.1.2.1).2.2.2.2.2) ((hG s hX.2.1.2.1).2.2.2.2.2.1.2.2) (List.forall_mem_cons.mpr ⟨⟨by decide, "java/lang/IndexOutOfBoundsException", (hC s hX.2.1.2.1).2.2.2.1, (hC s hX.2.1.2.1).1⟩, (fun _ h => absurd h List.not_mem_nil)⟩) h1 h2 h3 ?_
      refine lv_astore_n (lv' := [(3, .ref q), (0, rv p0), (1, .int p1), (2, rv p2)]) hx hb dL_commit_15 rfl hl (by decide) (by simp [rv_cat, ct_i, ct_l] <;> decide) (fun ls hl => ?_)
      refine lv_iconst (v := 2) hx hb dL_commit_16 (by decide) ?_
      exact hret _ _ _ _ _ _ _ dL_commit_17 hw rfl
    replace h := oe k9_3 h
    cases h
  · refine x_callVNi (n := 1) (As := [.int p1]) (rest := [.int 0, rv p2]) hX hw (c_X6_commit g l hG hst mm p0 p1 w _ e2) gL_commit_X6_commit rfl (by decide +kernel) rfl (x_nz hw c1) (c_recv hX hw (ce_6 c1) rfl) hl.1 rfl (by simp [rv_cat, ct_i, ct_l]) ⟨by decide, by decide⟩ dL_commit_4 (fun H lc cn sn hw => ?_)
    have hw : wH g s.heap.size (w4, mm) H lc := hw
    refine lv_i2l (v := v3.toInt64) hx hb dL_commit_7 rfl ?_
    obtain ⟨c5, h⟩ := og h
    obtain ⟨c6, h⟩ := og h
    obtain ⟨w7, ew7, h⟩ := ol h
    refine c_lst hX hw c5 c6 dL_commit_8 (fun H lc hw => ?_)
    have hw := hw_eq ew7 hw
    refine lv_goto (tgt := 18) hx hb dL_commit_9 (by decide) ?_
    refine lv_iconst (v := 0) hx hb dL_commit_18 (by decide) ?_
    replace h := (Option.some.inj h).symm
    obtain ⟨rfl, rfl⟩ := Prod.mk.inj h
    exact hret _ _ _ _ _ _ _ dL_commit_19 hw rfl

def x_L_abort (p0 : Nat) (p1 : Int32) (p2 : Nat) (w : CS) : Option (Int32 × CS) :=
  if wJ w 0 p0 = 6 then
  bh2 (x_X6_abort p0 p1 w) (fun k9 w9 => if k9 = 1 then some ((1 : Int32), w9) else if k9 = 3 then some ((2 : Int32), w9) else none) (fun (v3 : Int32) (w4 : CS) =>
  if wJ w4 0 p2 = 15 then
  if vR 0 (wJ w4 1 p2) then
  bs (sM w4 p2 (0 : Int32).toNatClampNeg v3.toInt64) (fun (w7 : CS) =>
  some (((0 : Int32), w7)))
  else none
  else none)
  else none
set_option maxHeartbeats 4000000 in
set_option maxRecDepth 100000 in
theorem c_L_abort (g : GG) (l : Launch) (hG : XG g) (hC : NC g) (hst : l.stackTraces = false) (mm : MS) (p0 : Nat) (p1 : Int32) (p2 : Nat) (w : CS) (r : Int32) (w' : CS) (h : x_L_abort p0 p1 p2 w = some (r, w')) : MetG g l yL_abort wsL_abort 14 326 [rv p0, .int p1, rv p2] (w, mm) (some (.int r)) (w', mm) := by
  refine g_startW_i (hh := [(0, 9, 12, 13), (0, 9, 15, 17)]) (some (.int r)) (own := RL) (by decide +kernel) rfl rfl (by simp [lg_sl, rv_cat, ct_i, ct_l]) ?_
  intro p e s mi args below meth cd ls Q hX htab hw hl hret
  have hl : lv_has ls 4 [(0, rv p0), (1, .int p1), (2, rv p2)] := by simpa [lv_args, rv_cat, ct_i, ct_l] using hl
  obtain ⟨⟨hx, hb, -, hown, hts⟩, -⟩ := id hX
  unfold x_L_abort at h
  refine t_aload_n hx hb dL_abort_0 rfl (lv_at hl 2 rfl) ?_
  refine lv_iconst (v := 0) hx hb dL_abort_1 (by decide) ?_
  refine t_aload_n hx hb dL_abort_2 rfl (lv_at hl 0 rfl) ?_
  refine lv_iload_n hx hb dL_abort_3 rfl (lv_at hl 1 rfl) ?_
  obtain ⟨c1, h⟩ := og h
  rcases obh2 h with ⟨k9, w9, e2, h⟩ | ⟨v3, w4, e2, h⟩
  · by_cases k9_1 : k9 = 1
    · replace h := ot k9_1 h
      obtain ⟨rfl, rfl⟩ := Prod.mk.inj (Option.some.inj h)
      subst k9_1
      refine x_callVE (n := 1) (As := [.int p1]) (rest := [.int 0, rv p2]) hX hw (c_X6_abort g l hG hst mm p0 p1 w _ e2) gL_abort_X6_abort rfl (by decide +kernel) rfl (x_nz hw c1) (c_recv hX hw (ce_6 c1) rfl) hl.1 rfl (by simp [rv_cat, ct_i, ct_l]) ⟨by decide, by decide⟩ dL_abort_4 (fun H lc cn sn q ce hw h1 h2 h3 => ?_)
      have hw : wH g s.heap.size (w9, mm) H lc := hw
      refine tw_catch (E := exn 1) (name := "java/lang/IndexOutOfBoundsException") hX htab [] [(0, 9, 15, 17)] (0, 9, 12, 13) rfl ⟨by decide, by decide⟩ (by decide) ((hC s hX.2.1.2.1).2.2.2.1) ((hG s hX.2.1.2.1).2.2.2.2.2.1.1) (fun _ h => absurd h List.not_mem_nil) h1 h2 h3 ?_
      refine lv_astore_n (lv' := [(3, .ref q), (0, rv p0), (1, .int p1), (2, rv p2)]) hx hb dL_abort_12 rfl hl (by decide) (by simp [rv_cat, ct_i, ct_l] <;> decide) (fun ls hl => ?_)
      refine lv_iconst (v := 1) hx hb dL_abort_13 (by decide) ?_
      exact hret _ _ _ _ _ _ _ dL_abort_14 hw rfl
    replace h := oe k9_1 h
    by_cases k9_3 : k9 = 3
    · replace h := ot k9_3 h
      obtain ⟨rfl, rfl⟩ := Prod.mk.inj (Option.some.inj h)
      subst k9_3
      refine x_callVE (n := 1) (As := [.int p1]) (rest := [.int 0, rv p2]) hX hw (c_X6_abort g l hG hst mm p0 p1 w _ e2) gL_abort_X6_abort rfl (by decide +kernel) rfl (x_nz hw c1) (c_recv hX hw (ce_6 c1) rfl) hl.1 rfl (by simp [rv_cat, ct_i, ct_l]) ⟨by decide, by decide⟩ dL_abort_4 (fun H lc cn sn q ce hw h1 h2 h3 => ?_)
      have hw : wH g s.heap.size (w9, mm) H lc := hw
      refine tw_catch (E := exn 3) (name := "java/lang/IllegalStateException") hX htab [(0, 9, 12, 13)] [] (0, 9, 15, 17) rfl ⟨by decide, by decide⟩ (by decide) ((hC s hX.2.1.2.1).2.2.2.2.2) ((hG s hX.2.1.2.1).2.2.2.2.2.1.2.2) (List.forall_mem_cons.mpr ⟨⟨by decide, "java/lang/IndexOutOfBoundsException", (hC s hX.2.1.2.1).2.2.2.1, (hC s hX.2.1.2.1).1⟩, (fun _ h => absurd h List.not_mem_nil)⟩) h1 h2 h3 ?_
      refine lv_astore_n (lv' := [(3, .ref q), (0, rv p0), (1, .int p1), (2, rv p2)]) hx hb dL_abort_15 rfl hl (by decide) (by simp [rv_cat, ct_i, ct_l] <;> decide) (fun ls hl => ?_)
      refine lv_iconst (v := 2) hx hb dL_abort_16 (by decide) ?_
      exact hret _ _ _ _ _ _ _ dL_abort_17 hw rfl
    replace h := oe k9_3 h
    cases h
  · refine x_callVNi (n := 1) (As := [.int p1]) (rest := [.int 0, rv p2]) hX hw (c_X6_abort g l hG hst mm p0 p1 w _ e2) gL_abort_X6_abort rfl (by decide +kernel) rfl (x_nz hw c1) (c_recv hX hw (ce_6 c1) rfl) hl.1 rfl (by simp [rv_cat, ct_i, ct_l]) ⟨by decide, by decide⟩ dL_abort_4 (fun H lc cn sn hw => ?_)
    have hw : wH g s.heap.size (w4, mm) H lc := hw
    refine lv_i2l (v := v3.toInt64) hx hb dL_abort_7 rfl ?_
    obtain ⟨c5, h⟩ := og h
    obtain ⟨c6, h⟩ := og h
    obtain ⟨w7, ew7, h⟩ := ol h
    refine c_lst hX hw c5 c6 dL_abort_8 (fun H lc hw => ?_)
    have hw := hw_eq ew7 hw
    refine lv_goto (tgt := 18) hx hb dL_abort_9 (by decide) ?_
    refine lv_iconst (v := 0) hx hb dL_abort_18 (by decide) ?_
    replace h := (Option.some.inj h).symm
    obtain ⟨rfl, rfl⟩ := Prod.mk.inj h
    exact hret _ _ _ _ _ _ _ dL_abort_19 hw rfl

def x_L_put (p0 : Nat) (p1 : Int32) (p2 : Int32) (p3 : Int32) (p4 : Int32) (p5 : Int32) (p6 : Int32) (p7 : Nat) (w : CS) : Option (Int32 × CS) :=
  if wJ w 0 p0 = 6 then
  bh2 (x_X6_put p0 p1 p2 p3 p4 p5 p6 w) (fun k9 w9 => if k9 = 1 then some ((1 : Int32), w9) else if k9 = 2 then some ((2 : Int32), w9) else if k9 = 3 then some ((3 : Int32), w9) else none) (fun (v3 : Int32) (w4 : CS) =>
  bd (
    if (v3 : Int32) = 0 then
      some (0 : Int64)
    else
      some (1 : Int64)) (fun (v6 : Int64) =>
  if wJ w4 0 p7 = 15 then
  if vR 0 (wJ w4 1 p7) then
  bs (sM w4 p7 (0 : Int32).toNatClampNeg v6) (fun (w9 : CS) =>
  some (((0 : Int32), w9)))
  else none
  else none))
  else none
set_option maxHeartbeats 4000000 in
set_option maxRecDepth 100000 in
theorem c_L_put (g : GG) (l : Launch) (hG : XG g) (hC : NC g) (hst : l.stackTraces = false) (mm : MS) (p0 : Nat) (p1 : Int32) (p2 : Int32) (p3 : Int32) (p4 : Int32) (p5 : Int32) (p6 : Int32) (p7 : Nat) (w : CS) (r : Int32) (w' : CS) (h : x_L_put p0 p1 p2 p3 p4 p5 p6 p7 w = some (r, w')) : MetG g l yL_put wsL_put 10 223 [rv p0, .int p1, .int p2, .int p3, .int p4, .int p5, .int p6, rv p7] (w, mm) (some (.int r)) (w', mm) := by
  refine g_startW_i (hh := [(0, 25, 28, 13), (0, 25, 32, 15), (0, 25, 36, 17)]) (some (.int r)) (own := RL) (by decide +kernel) rfl rfl (by simp [lg_sl, rv_cat, ct_i, ct_l]) ?_
  intro p e s mi args below meth cd ls Q hX htab hw hl hret
  have hl : lv_has ls 9 [(0, rv p0), (1, .int p1), (2, .int p2), (3, .int p3), (4, .int p4), (5, .int p5), (6, .int p6), (7, rv p7)] := by simpa [lv_args, rv_cat, ct_i, ct_l] using hl
  obtain ⟨⟨hx, hb, -, hown, hts⟩, -⟩ := id hX
  unfold x_L_put at h
  refine t_aload hx hb dL_put_0 (lv_at hl 7 rfl) ?_
  refine lv_iconst (v := 0) hx hb dL_put_2 (by decide) ?_
  refine t_aload_n hx hb dL_put_3 rfl (lv_at hl 0 rfl) ?_
  refine lv_iload_n hx hb dL_put_4 rfl (lv_at hl 1 rfl) ?_
  refine lv_iload_n hx hb dL_put_5 rfl (lv_at hl 2 rfl) ?_
  refine lv_iload_n hx hb dL_put_6 rfl (lv_at hl 3 rfl) ?_
  refine lv_iload hx hb dL_put_7 (lv_at hl 4 rfl) ?_
  refine lv_iload hx hb dL_put_9 (lv_at hl 5 rfl) ?_
  refine lv_iload hx hb dL_put_11 (lv_at hl 6 rfl) ?_
  obtain ⟨c1, h⟩ := og h
  rcases obh2 h with ⟨k9, w9, e2, h⟩ | ⟨v3, w4, e2, h⟩
  · by_cases k9_1 : k9 = 1
    · replace h := ot k9_1 h
      obtain ⟨rfl, rfl⟩ := Prod.mk.inj (Option.some.inj h)
      subst k9_1
      refine x_callVE (n := 6) (As := [.int p1, .int p2, .int p3, .int p4, .int p5, .int p6]) (rest := [.int 0, rv p7]) hX hw (c_X6_put g l hG hst mm p0 p1 p2 p3 p4 p5 p6 w _ e2) gL_put_X6_put rfl (by decide +kernel) rfl (x_nz hw c1) (c_recv hX hw (ce_6 c1) rfl) hl.1 rfl (by simp [rv_cat, ct_i, ct_l]) ⟨by decide, by decide⟩ dL_put_13 (fun H lc cn sn q ce hw h1 h2 h3 => ?_)
      have hw : wH g s.heap.size (w9, mm) H lc := hw
      refine tw_catch (E := exn 1) (name := "java/lang/IndexOutOfBoundsException") hX htab [] [(0, 25, 32, 15), (0, 25, 36, 17)] (0, 25, 28, 13) rfl ⟨by decide, by decide⟩ (by decide) ((hC s hX.2.1.2.1).2.2.2.1) ((hG s hX.2.1.2.1).2.2.2.2.2.1.1) (fun _ h => absurd h List.not_mem_nil) h1 h2 h3 ?_
      refine lv_astore (lv' := [(8, .ref q), (0, rv p0), (1, .int p1), (2, .int p2), (3, .int p3), (4, .int p4), (5, .int p5), (6, .int p6), (7, rv p7)]) hx hb dL_put_28 hl (by decide) (by simp [rv_cat, ct_i, ct_l] <;> decide) (fun ls hl => ?_)
      refine lv_iconst (v := 1) hx hb dL_put_30 (by decide) ?_
      exact hret _ _ _ _ _ _ _ dL_put_31 hw rfl
    replace h := oe k9_1 h
    by_cases k9_2 : k9 = 2
    · replace h := ot k9_2 h
      obtain ⟨rfl, rfl⟩ := Prod.mk.inj (Option.some.inj h)
      subst k9_2
      refine x_callVE (n := 6) (As := [.int p1, .int p2, .int p3, .int p4, .int p5, .int p6]) (rest := [.int 0, rv p7]) hX hw (c_X6_put g l hG hst mm p0 p1 p2 p3 p4 p5 p6 w _ e2) gL_put_X6_put rfl (by decide +kernel) rfl (x_nz hw c1) (c_recv hX hw (ce_6 c1) rfl) hl.1 rfl (by simp [rv_cat, ct_i, ct_l]) ⟨by decide, by decide⟩ dL_put_13 (fun H lc cn sn q ce hw h1 h2 h3 => ?_)
      have hw : wH g s.heap.size (w9, mm) H lc := hw
      refine tw_catch (E := exn 2) (name := "java/lang/IllegalArgumentException") hX htab [(0, 25, 28, 13)] [(0, 25, 36, 17)] (0, 25, 32, 15) rfl ⟨by decide, by decide⟩ (by decide) ((hC s hX.2.1.2.1).2.2.2.2.1) ((hG s hX.2.1.2.1).2.2.2.2.2.1.2.1) (List.forall_mem_cons.mpr ⟨⟨by decide, "java/lang/IndexOutOfBoundsException", (hC s hX.2.1.2.1).2.2.2.1, (hC s hX.2.1.2.1).2.2.1⟩, (fun _ h => absurd h List.not_mem_nil)⟩) h1 h2 h3 ?_
      refine lv_astore (lv' := [(8, .ref q), (0, rv p0), (1, .int p1), (2, .int p2), (3, .int p3), (4, .int p4), (5, .int p5), (6, .int p6), (7, rv p7)]) hx hb dL_put_32 hl (by decide) (by simp [rv_cat, ct_i, ct_l] <;> decide) (fun ls hl => ?_)
      refine lv_iconst (v := 2) hx hb dL_put_34 (by decide) ?_
      exact hret _ _ _ _ _ _ _ dL_put_35 hw rfl
    replace h := oe k9_2 h
    by_cases k9_3 : k9 = 3
    · replace h := ot k9_3 h
      obtain ⟨rfl, rfl⟩ := Prod.mk.inj (Option.some.inj h)
      subst k9_3
      refine x_callVE (n := 6) (As := [.int p1, .int p2, .int p3, .int p4, .int p5, .int p6]) (rest := [.int 0, rv p7]) hX hw (c_X6_put g l hG hst mm p0 p1 p2 p3 p4 p5 p6 w _ e2) gL_put_X6_put rfl (by decide +kernel) rfl (x_nz hw c1) (c_recv hX hw (ce_6 c1) rfl) hl.1 rfl (by simp [rv_cat, ct_i, ct_l]) ⟨by decide, by decide⟩ dL_put_13 (fun H lc cn sn q ce hw h1 h2 h3 => ?_)
      have hw : wH g s.heap.size (w9, mm) H lc := hw
      refine tw_catch (E := exn 3) (name := "java/lang/IllegalStateException") hX htab [(0, 25, 28, 13), (0, 25, 32, 15)] [] (0, 25, 36, 17) rfl ⟨by decide, by decide⟩ (by decide) ((hC s hX.2.1.2.1).2.2.2.2.2) ((hG s hX.2.1.2.1).2.2.2.2.2.1.2.2) (List.forall_mem_cons.mpr ⟨⟨by decide, "java/lang/IndexOutOfBoundsException", (hC s hX.2.1.2.1).2.2.2.1, (hC s hX.2.1.2.1).1⟩, (List.forall_mem_cons.mpr ⟨⟨by decide, "java/lang/IllegalArgumentException", (hC s hX.2.1.2.1).2.2.2.2.1, (hC s hX.2.1.2.1).2.1⟩, (fun _ h => absurd h List.not_mem_nil)⟩)⟩) h1 h2 h3 ?_
      refine lv_astore (lv' := [(8, .ref q), (0, rv p0), (1, .int p1), (2, .int p2), (3, .int p3), (4, .int p4), (5, .int p5), (6, .int p6), (7, rv p7)]) hx hb dL_put_36 hl (by decide) (by simp [rv_cat, ct_i, ct_l] <;> decide) (fun ls hl => ?_)
      refine lv_iconst (v := 3) hx hb dL_put_38 (by decide) ?_
      exact hret _ _ _ _ _ _ _ dL_put_39 hw rfl
    replace h := oe k9_3 h
    cases h
  · refine x_callVNi (n := 6) (As := [.int p1, .int p2, .int p3, .int p4, .int p5, .int p6]) (rest := [.int 0, rv p7]) hX hw (c_X6_put g l hG hst mm p0 p1 p2 p3 p4 p5 p6 w _ e2) gL_put_X6_put rfl (by decide +kernel) rfl (x_nz hw c1) (c_recv hX hw (ce_6 c1) rfl) hl.1 rfl (by simp [rv_cat, ct_i, ct_l]) ⟨by decide, by decide⟩ dL_put_13 (fun H lc cn sn hw => ?_)
    have hw : wH g s.heap.size (w4, mm) H lc := hw
    obtain ⟨aj10, h1aj10, kaj10⟩ := ob1 h
    have haj10 : ∀ (v6 : Int64) (H : Heap) (lc : List Loc) (cn sn : Nat) (ls : Array Slot), aj10 = v6 → wH g s.heap.size (w4, mm) H lc → lv_has ls 9 [] → W p l e (rmO g 10 223 s.heap) s mi args below meth cd H lc cn sn Q (F0 mi 24 ls [.long v6, .int 0, rv p7]) := by
      intro v6 H lc cn sn ls h hw hl
      replace h := kaj10 _ h
      obtain ⟨c7, h⟩ := og h
      obtain ⟨c8, h⟩ := og h
      obtain ⟨w9, ew9, h⟩ := ol h
      refine c_lst hX hw c7 c8 dL_put_24 (fun H lc hw => ?_)
      have hw := hw_eq ew9 hw
      refine lv_goto (tgt := 40) hx hb dL_put_25 (by decide) ?_
      refine lv_iconst (v := 0) hx hb dL_put_40 (by decide) ?_
      replace h := (Option.some.inj h).symm
      obtain ⟨rfl, rfl⟩ := Prod.mk.inj h
      exact hret _ _ _ _ _ _ _ dL_put_41 hw rfl
    replace h := h1aj10
    refine lv_if_eq (tgt := 23) hx hb dL_put_16 (by decide) (fun c5 => ?_) (fun c5 => ?_)
    · replace h := ot c5 h
      refine lv_lconst (v := 0) hx hb dL_put_23 (by decide) ?_
      replace h := (Option.some.inj h).symm
      exact haj10 _ _ _ _ _ _ h hw (lv_sub hl [] rfl)
    · replace h := oe c5 h
      refine lv_lconst (v := 1) hx hb dL_put_19 (by decide) ?_
      refine lv_goto (tgt := 24) hx hb dL_put_20 (by decide) ?_
      replace h := (Option.some.inj h).symm
      exact haj10 _ _ _ _ _ _ h hw (lv_sub hl [] rfl)

def x_L_remove (p0 : Nat) (p1 : Int32) (p2 : Int32) (p3 : Int32) (p4 : Int32) (p5 : Nat) (w : CS) : Option (Int32 × CS) :=
  if wJ w 0 p0 = 6 then
  bh2 (x_X6_remove p0 p1 p2 p3 p4 w) (fun k9 w9 => if k9 = 1 then some ((1 : Int32), w9) else if k9 = 2 then some ((2 : Int32), w9) else if k9 = 3 then some ((3 : Int32), w9) else none) (fun (v3 : Int32) (w4 : CS) =>
  if wJ w4 0 p5 = 15 then
  if vR 0 (wJ w4 1 p5) then
  bs (sM w4 p5 (0 : Int32).toNatClampNeg v3.toInt64) (fun (w7 : CS) =>
  some (((0 : Int32), w7)))
  else none
  else none)
  else none
set_option maxHeartbeats 4000000 in
set_option maxRecDepth 100000 in
theorem c_L_remove (g : GG) (l : Launch) (hG : XG g) (hC : NC g) (hst : l.stackTraces = false) (mm : MS) (p0 : Nat) (p1 : Int32) (p2 : Int32) (p3 : Int32) (p4 : Int32) (p5 : Nat) (w : CS) (r : Int32) (w' : CS) (h : x_L_remove p0 p1 p2 p3 p4 p5 w = some (r, w')) : MetG g l yL_remove wsL_remove 10 170 [rv p0, .int p1, .int p2, .int p3, .int p4, rv p5] (w, mm) (some (.int r)) (w', mm) := by
  refine g_startW_i (hh := [(0, 14, 17, 13), (0, 14, 21, 15), (0, 14, 25, 17)]) (some (.int r)) (own := RL) (by decide +kernel) rfl rfl (by simp [lg_sl, rv_cat, ct_i, ct_l]) ?_
  intro p e s mi args below meth cd ls Q hX htab hw hl hret
  have hl : lv_has ls 7 [(0, rv p0), (1, .int p1), (2, .int p2), (3, .int p3), (4, .int p4), (5, rv p5)] := by simpa [lv_args, rv_cat, ct_i, ct_l] using hl
  obtain ⟨⟨hx, hb, -, hown, hts⟩, -⟩ := id hX
  unfold x_L_remove at h
  refine t_aload hx hb dL_remove_0 (lv_at hl 5 rfl) ?_
  refine lv_iconst (v := 0) hx hb dL_remove_2 (by decide) ?_
  refine t_aload_n hx hb dL_remove_3 rfl (lv_at hl 0 rfl) ?_
  refine lv_iload_n hx hb dL_remove_4 rfl (lv_at hl 1 rfl) ?_
  refine lv_iload_n hx hb dL_remove_5 rfl (lv_at hl 2 rfl) ?_
  refine lv_iload_n hx hb dL_remove_6 rfl (lv_at hl 3 rfl) ?_
  refine lv_iload hx hb dL_remove_7 (lv_at hl 4 rfl) ?_
  obtain ⟨c1, h⟩ := og h
  rcases obh2 h with ⟨k9, w9, e2, h⟩ | ⟨v3, w4, e2, h⟩
  · by_cases k9_1 : k9 = 1
    · replace h := ot k9_1 h
      obtain ⟨rfl, rfl⟩ := Prod.mk.inj (Option.some.inj h)
      subst k9_1
      refine x_callVE (n := 4) (As := [.int p1, .int p2, .int p3, .int p4]) (rest := [.int 0, rv p5]) hX hw (c_X6_remove g l hG hst mm p0 p1 p2 p3 p4 w _ e2) gL_remove_X6_remove rfl (by decide +kernel) rfl (x_nz hw c1) (c_recv hX hw (ce_6 c1) rfl) hl.1 rfl (by simp [rv_cat, ct_i, ct_l]) ⟨by decide, by decide⟩ dL_remove_9 (fun H lc cn sn q ce hw h1 h2 h3 => ?_)
      have hw : wH g s.heap.size (w9, mm) H lc := hw
      refine tw_catch (E := exn 1) (name := "java/lang/IndexOutOfBoundsException") hX htab [] [(0, 14, 21, 15), (0, 14, 25, 17)] (0, 14, 17, 13) rfl ⟨by decide, by decide⟩ (by decide) ((hC s hX.2.1.2.1).2.2.2.1) ((hG s hX.2.1.2.1).2.2.2.2.2.1.1) (fun _ h => absurd h List.not_mem_nil) h1 h2 h3 ?_
      refine lv_astore (lv' := [(6, .ref q), (0, rv p0), (1, .int p1), (2, .int p2), (3, .int p3), (4, .int p4), (5, rv p5)]) hx hb dL_remove_17 hl (by decide) (by simp [rv_cat, ct_i, ct_l] <;> decide) (fun ls hl => ?_)
      refine lv_iconst (v := 1) hx hb dL_remove_19 (by decide) ?_
      exact hret _ _ _ _ _ _ _ dL_remove_20 hw rfl
    replace h := oe k9_1 h
    by_cases k9_2 : k9 = 2
    · replace h := ot k9_2 h
      obtain ⟨rfl, rfl⟩ := Prod.mk.inj (Option.some.inj h)
      subst k9_2
      refine x_callVE (n := 4) (As := [.int p1, .int p2, .int p3, .int p4]) (rest := [.int 0, rv p5]) hX hw (c_X6_remove g l hG hst mm p0 p1 p2 p3 p4 w _ e2) gL_remove_X6_remove rfl (by decide +kernel) rfl (x_nz hw c1) (c_recv hX hw (ce_6 c1) rfl) hl.1 rfl (by simp [rv_cat, ct_i, ct_l]) ⟨by decide, by decide⟩ dL_remove_9 (fun H lc cn sn q ce hw h1 h2 h3 => ?_)
      have hw : wH g s.heap.size (w9, mm) H lc := hw
      refine tw_catch (E := exn 2) (name := "java/lang/IllegalArgumentException") hX htab [(0, 14, 17, 13)] [(0, 14, 25, 17)] (0, 14, 21, 15) rfl ⟨by decide, by decide⟩ (by decide) ((hC s hX.2.1.2.1).2.2.2.2.1) ((hG s hX.2.1.2.1).2.2.2.2.2.1.2.1) (List.forall_mem_cons.mpr ⟨⟨by decide, "java/lang/IndexOutOfBoundsException", (hC s hX.2.1.2.1).2.2.2.1, (hC s hX.2.1.2.1).2.2.1⟩, (fun _ h => absurd h List.not_mem_nil)⟩) h1 h2 h3 ?_
      refine lv_astore (lv' := [(6, .ref q), (0, rv p0), (1, .int p1), (2, .int p2), (3, .int p3), (4, .int p4), (5, rv p5)]) hx hb dL_remove_21 hl (by decide) (by simp [rv_cat, ct_i, ct_l] <;> decide) (fun ls hl => ?_)
      refine lv_iconst (v := 2) hx hb dL_remove_23 (by decide) ?_
      exact hret _ _ _ _ _ _ _ dL_remove_24 hw rfl
    replace h := oe k9_2 h
    by_cases k9_3 : k9 = 3
    · replace h := ot k9_3 h
      obtain ⟨rfl, rfl⟩ := Prod.mk.inj (Option.some.inj h)
      subst k9_3
      refine x_callVE (n := 4) (As := [.int p1, .int p2, .int p3, .int p4]) (rest := [.int 0, rv p5]) hX hw (c_X6_remove g l hG hst mm p0 p1 p2 p3 p4 w _ e2) gL_remove_X6_remove rfl (by decide +kernel) rfl (x_nz hw c1) (c_recv hX hw (ce_6 c1) rfl) hl.1 rfl (by simp [rv_cat, ct_i, ct_l]) ⟨by decide, by decide⟩ dL_remove_9 (fun H lc cn sn q ce hw h1 h2 h3 => ?_)
      have hw : wH g s.heap.size (w9, mm) H lc := hw
      refine tw_catch (E := exn 3) (name := "java/lang/IllegalStateException") hX htab [(0, 14, 17, 13), (0, 14, 21, 15)] [] (0, 14, 25, 17) rfl ⟨by decide, by decide⟩ (by decide) ((hC s hX.2.1.2.1).2.2.2.2.2) ((hG s hX.2.1.2.1).2.2.2.2.2.1.2.2) (List.forall_mem_cons.mpr ⟨⟨by decide, "java/lang/IndexOutOfBoundsException", (hC s hX.2.1.2.1).2.2.2.1, (hC s hX.2.1.2.1).1⟩, (List.forall_mem_cons.mpr ⟨⟨by decide, "java/lang/IllegalArgumentException", (hC s hX.2.1.2.1).2.2.2.2.1, (hC s hX.2.1.2.1).2.1⟩, (fun _ h => absurd h List.not_mem_nil)⟩)⟩) h1 h2 h3 ?_
      refine lv_astore (lv' := [(6, .ref q), (0, rv p0), (1, .int p1), (2, .int p2), (3, .int p3), (4, .int p4), (5, rv p5)]) hx hb dL_remove_25 hl (by decide) (by simp [rv_cat, ct_i, ct_l] <;> decide) (fun ls hl => ?_)
      refine lv_iconst (v := 3) hx hb dL_remove_27 (by decide) ?_
      exact hret _ _ _ _ _ _ _ dL_remove_28 hw rfl
    replace h := oe k9_3 h
    cases h
  · refine x_callVNi (n := 4) (As := [.int p1, .int p2, .int p3, .int p4]) (rest := [.int 0, rv p5]) hX hw (c_X6_remove g l hG hst mm p0 p1 p2 p3 p4 w _ e2) gL_remove_X6_remove rfl (by decide +kernel) rfl (x_nz hw c1) (c_recv hX hw (ce_6 c1) rfl) hl.1 rfl (by simp [rv_cat, ct_i, ct_l]) ⟨by decide, by decide⟩ dL_remove_9 (fun H lc cn sn hw => ?_)
    have hw : wH g s.heap.size (w4, mm) H lc := hw
    refine lv_i2l (v := v3.toInt64) hx hb dL_remove_12 rfl ?_
    obtain ⟨c5, h⟩ := og h
    obtain ⟨c6, h⟩ := og h
    obtain ⟨w7, ew7, h⟩ := ol h
    refine c_lst hX hw c5 c6 dL_remove_13 (fun H lc hw => ?_)
    have hw := hw_eq ew7 hw
    refine lv_goto (tgt := 29) hx hb dL_remove_14 (by decide) ?_
    refine lv_iconst (v := 0) hx hb dL_remove_29 (by decide) ?_
    replace h := (Option.some.inj h).symm
    obtain ⟨rfl, rfl⟩ := Prod.mk.inj h
    exact hret _ _ _ _ _ _ _ dL_remove_30 hw rfl

def x_L_get (p0 : Nat) (p1 : Int32) (p2 : Int32) (p3 : Int32) (p4 : Nat) (w : CS) : Option (Int32 × CS) :=
  if wJ w 0 p0 = 6 then
  bh3 (x_X6_get p0 p1 p2 p3 w) (fun k9 w9 => if k9 = 1 then some ((1 : Int32), w9) else if k9 = 2 then some ((2 : Int32), w9) else if k9 = 3 then some ((3 : Int32), w9) else none) (fun (v3 : Int32) =>
  if wJ w 0 p4 = 15 then
  if vR 0 (wJ w 1 p4) then
  bs (sM w p4 (0 : Int32).toNatClampNeg v3.toInt64) (fun (w6 : CS) =>
  some (((0 : Int32), w6)))
  else none
  else none)
  else none
set_option maxHeartbeats 4000000 in
set_option maxRecDepth 100000 in
theorem c_L_get (g : GG) (l : Launch) (hG : XG g) (hC : NC g) (hst : l.stackTraces = false) (mm : MS) (p0 : Nat) (p1 : Int32) (p2 : Int32) (p3 : Int32) (p4 : Nat) (w : CS) (r : Int32) (w' : CS) (h : x_L_get p0 p1 p2 p3 p4 w = some (r, w')) : MetG g l yL_get wsL_get 9 149 [rv p0, .int p1, .int p2, .int p3, rv p4] (w, mm) (some (.int r)) (w', mm) := by
  refine g_startW_i (hh := [(0, 12, 15, 13), (0, 12, 19, 15), (0, 12, 23, 17)]) (some (.int r)) (own := RL) (by decide +kernel) rfl rfl (by simp [lg_sl, rv_cat, ct_i, ct_l]) ?_
  intro p e s mi args below meth cd ls Q hX htab hw hl hret
  have hl : lv_has ls 6 [(0, rv p0), (1, .int p1), (2, .int p2), (3, .int p3), (4, rv p4)] := by simpa [lv_args, rv_cat, ct_i, ct_l] using hl
  obtain ⟨⟨hx, hb, -, hown, hts⟩, -⟩ := id hX
  unfold x_L_get at h
  refine t_aload hx hb dL_get_0 (lv_at hl 4 rfl) ?_
  refine lv_iconst (v := 0) hx hb dL_get_2 (by decide) ?_
  refine t_aload_n hx hb dL_get_3 rfl (lv_at hl 0 rfl) ?_
  refine lv_iload_n hx hb dL_get_4 rfl (lv_at hl 1 rfl) ?_
  refine lv_iload_n hx hb dL_get_5 rfl (lv_at hl 2 rfl) ?_
  refine lv_iload_n hx hb dL_get_6 rfl (lv_at hl 3 rfl) ?_
  obtain ⟨c1, h⟩ := og h
  rcases obh3 h with ⟨k9, w9, e2, h⟩ | ⟨v3, e2, h⟩
  · by_cases k9_1 : k9 = 1
    · replace h := ot k9_1 h
      obtain ⟨rfl, rfl⟩ := Prod.mk.inj (Option.some.inj h)
      subst k9_1
      refine x_callVE (n := 3) (As := [.int p1, .int p2, .int p3]) (rest := [.int 0, rv p4]) hX hw (c_X6_get g l hG hst mm p0 p1 p2 p3 w _ e2) gL_get_X6_get rfl (by decide +kernel) rfl (x_nz hw c1) (c_recv hX hw (ce_6 c1) rfl) hl.1 rfl (by simp [rv_cat, ct_i, ct_l]) ⟨by decide, by decide⟩ dL_get_7 (fun H lc cn sn q ce hw h1 h2 h3 => ?_)
      have hw : wH g s.heap.size (w9, mm) H lc := hw
      refine tw_catch (E := exn 1) (name := "java/lang/IndexOutOfBoundsException") hX htab [] [(0, 12, 19, 15), (0, 12, 23, 17)] (0, 12, 15, 13) rfl ⟨by decide, by decide⟩ (by decide) ((hC s hX.2.1.2.1).2.2.2.1) ((hG s hX.2.1.2.1).2.2.2.2.2.1.1) (fun _ h => absurd h List.not_mem_nil) h1 h2 h3 ?_
      refine lv_astore (lv' := [(5, .ref q), (0, rv p0), (1, .int p1), (2, .int p2), (3, .int p3), (4, rv p4)]) hx hb dL_get_15 hl (by decide) (by simp [rv_cat, ct_i, ct_l] <;> decide) (fun ls hl => ?_)
      refine lv_iconst (v := 1) hx hb dL_get_17 (by decide) ?_
      exact hret _ _ _ _ _ _ _ dL_get_18 hw rfl
    replace h := oe k9_1 h
    by_cases k9_2 : k9 = 2
    · replace h := ot k9_2 h
      obtain ⟨rfl, rfl⟩ := Prod.mk.inj (Option.some.inj h)
      subst k9_2
      refine x_callVE (n := 3) (As := [.int p1, .int p2, .int p3]) (rest := [.int 0, rv p4]) hX hw (c_X6_get g l hG hst mm p0 p1 p2 p3 w _ e2) gL_get_X6_get rfl (by decide +kernel) rfl (x_nz hw c1) (c_recv hX hw (ce_6 c1) rfl) hl.1 rfl (by simp [rv_cat, ct_i, ct_l]) ⟨by decide, by decide⟩ dL_get_7 (fun H lc cn sn q ce hw h1 h2 h3 => ?_)
      have hw : wH g s.heap.size (w9, mm) H lc := hw
      refine tw_catch (E := exn 2) (name := "java/lang/IllegalArgumentException") hX htab [(0, 12, 15, 13)] [(0, 12, 23, 17)] (0, 12, 19, 15) rfl ⟨by decide, by decide⟩ (by decide) ((hC s hX.2.1.2.1).2.2.2.2.1) ((hG s hX.2.1.2.1).2.2.2.2.2.1.2.1) (List.forall_mem_cons.mpr ⟨⟨by decide, "java/lang/IndexOutOfBoundsException", (hC s hX.2.1.2.1).2.2.2.1, (hC s hX.2.1.2.1).2.2.1⟩, (fun _ h => absurd h List.not_mem_nil)⟩) h1 h2 h3 ?_
      refine lv_astore (lv' := [(5, .ref q), (0, rv p0), (1, .int p1), (2, .int p2), (3, .int p3), (4, rv p4)]) hx hb dL_get_19 hl (by decide) (by simp [rv_cat, ct_i, ct_l] <;> decide) (fun ls hl => ?_)
      refine lv_iconst (v := 2) hx hb dL_get_21 (by decide) ?_
      exact hret _ _ _ _ _ _ _ dL_get_22 hw rfl
    replace h := oe k9_2 h
    by_cases k9_3 : k9 = 3
    · replace h := ot k9_3 h
      obtain ⟨rfl, rfl⟩ := Prod.mk.inj (Option.some.inj h)
      subst k9_3
      refine x_callVE (n := 3) (As := [.int p1, .int p2, .int p3]) (rest := [.int 0, rv p4]) hX hw (c_X6_get g l hG hst mm p0 p1 p2 p3 w _ e2) gL_get_X6_get rfl (by decide +kernel) rfl (x_nz hw c1) (c_recv hX hw (ce_6 c1) rfl) hl.1 rfl (by simp [rv_cat, ct_i, ct_l]) ⟨by decide, by decide⟩ dL_get_7 (fun H lc cn sn q ce hw h1 h2 h3 => ?_)
      have hw : wH g s.heap.size (w9, mm) H lc := hw
      refine tw_catch (E := exn 3) (name := "java/lang/IllegalStateException") hX htab [(0, 12, 15, 13), (0, 12, 19, 15)] [] (0, 12, 23, 17) rfl ⟨by decide, by decide⟩ (by decide) ((hC s hX.2.1.2.1).2.2.2.2.2) ((hG s hX.2.1.2.1).2.2.2.2.2.1.2.2) (List.forall_mem_cons.mpr ⟨⟨by decide, "java/lang/IndexOutOfBoundsException", (hC s hX.2.1.2.1).2.2.2.1, (hC s hX.2.1.2.1).1⟩, (List.forall_mem_cons.mpr ⟨⟨by decide, "java/lang/IllegalArgumentException", (hC s hX.2.1.2.1).2.2.2.2.1, (hC s hX.2.1.2.1).2.1⟩, (fun _ h => absurd h List.not_mem_nil)⟩)⟩) h1 h2 h3 ?_
      refine lv_astore (lv' := [(5, .ref q), (0, rv p0), (1, .int p1), (2, .int p2), (3, .int p3), (4, rv p4)]) hx hb dL_get_23 hl (by decide) (by simp [rv_cat, ct_i, ct_l] <;> decide) (fun ls hl => ?_)
      refine lv_iconst (v := 3) hx hb dL_get_25 (by decide) ?_
      exact hret _ _ _ _ _ _ _ dL_get_26 hw rfl
    replace h := oe k9_3 h
    cases h
  · refine x_callVNi (n := 3) (As := [.int p1, .int p2, .int p3]) (rest := [.int 0, rv p4]) hX hw (c_X6_get g l hG hst mm p0 p1 p2 p3 w _ e2) gL_get_X6_get rfl (by decide +kernel) rfl (x_nz hw c1) (c_recv hX hw (ce_6 c1) rfl) hl.1 rfl (by simp [rv_cat, ct_i, ct_l]) ⟨by decide, by decide⟩ dL_get_7 (fun H lc cn sn hw => ?_)
    have hw : wH g s.heap.size (w, mm) H lc := hw
    refine lv_i2l (v := v3.toInt64) hx hb dL_get_10 rfl ?_
    obtain ⟨c4, h⟩ := og h
    obtain ⟨c5, h⟩ := og h
    obtain ⟨w6, ew6, h⟩ := ol h
    refine c_lst hX hw c4 c5 dL_get_11 (fun H lc hw => ?_)
    have hw := hw_eq ew6 hw
    refine lv_goto (tgt := 27) hx hb dL_get_12 (by decide) ?_
    refine lv_iconst (v := 0) hx hb dL_get_27 (by decide) ?_
    replace h := (Option.some.inj h).symm
    obtain ⟨rfl, rfl⟩ := Prod.mk.inj h
    exact hret _ _ _ _ _ _ _ dL_get_28 hw rfl

def x_L_count (p0 : Nat) (p1 : Int32) (p2 : Int32) (p3 : Int32) (p4 : Int32) (p5 : Nat) (w : CS) : Option (Int32 × CS) :=
  if wJ w 0 p0 = 6 then
  bh3 (x_X6_count p0 p1 p2 p3 p4 w) (fun k9 w9 => if k9 = 1 then some ((1 : Int32), w9) else if k9 = 2 then some ((2 : Int32), w9) else if k9 = 3 then some ((3 : Int32), w9) else none) (fun (v3 : Int32) =>
  if wJ w 0 p5 = 15 then
  if vR 0 (wJ w 1 p5) then
  bs (sM w p5 (0 : Int32).toNatClampNeg v3.toInt64) (fun (w6 : CS) =>
  some (((0 : Int32), w6)))
  else none
  else none)
  else none
set_option maxHeartbeats 4000000 in
set_option maxRecDepth 100000 in
theorem c_L_count (g : GG) (l : Launch) (hG : XG g) (hC : NC g) (hst : l.stackTraces = false) (mm : MS) (p0 : Nat) (p1 : Int32) (p2 : Int32) (p3 : Int32) (p4 : Int32) (p5 : Nat) (w : CS) (r : Int32) (w' : CS) (h : x_L_count p0 p1 p2 p3 p4 p5 w = some (r, w')) : MetG g l yL_count wsL_count 9 149 [rv p0, .int p1, .int p2, .int p3, .int p4, rv p5] (w, mm) (some (.int r)) (w', mm) := by
  refine g_startW_i (hh := [(0, 14, 17, 13), (0, 14, 21, 15), (0, 14, 25, 17)]) (some (.int r)) (own := RL) (by decide +kernel) rfl rfl (by simp [lg_sl, rv_cat, ct_i, ct_l]) ?_
  intro p e s mi args below meth cd ls Q hX htab hw hl hret
  have hl : lv_has ls 7 [(0, rv p0), (1, .int p1), (2, .int p2), (3, .int p3), (4, .int p4), (5, rv p5)] := by simpa [lv_args, rv_cat, ct_i, ct_l] using hl
  obtain ⟨⟨hx, hb, -, hown, hts⟩, -⟩ := id hX
  unfold x_L_count at h
  refine t_aload hx hb dL_count_0 (lv_at hl 5 rfl) ?_
  refine lv_iconst (v := 0) hx hb dL_count_2 (by decide) ?_
  refine t_aload_n hx hb dL_count_3 rfl (lv_at hl 0 rfl) ?_
  refine lv_iload_n hx hb dL_count_4 rfl (lv_at hl 1 rfl) ?_
  refine lv_iload_n hx hb dL_count_5 rfl (lv_at hl 2 rfl) ?_
  refine lv_iload_n hx hb dL_count_6 rfl (lv_at hl 3 rfl) ?_
  refine lv_iload hx hb dL_count_7 (lv_at hl 4 rfl) ?_
  obtain ⟨c1, h⟩ := og h
  rcases obh3 h with ⟨k9, w9, e2, h⟩ | ⟨v3, e2, h⟩
  · by_cases k9_1 : k9 = 1
    · replace h := ot k9_1 h
      obtain ⟨rfl, rfl⟩ := Prod.mk.inj (Option.some.inj h)
      subst k9_1
      refine x_callVE (n := 4) (As := [.int p1, .int p2, .int p3, .int p4]) (rest := [.int 0, rv p5]) hX hw (c_X6_count g l hG hst mm p0 p1 p2 p3 p4 w _ e2) gL_count_X6_count rfl (by decide +kernel) rfl (x_nz hw c1) (c_recv hX hw (ce_6 c1) rfl) hl.1 rfl (by simp [rv_cat, ct_i, ct_l]) ⟨by decide, by decide⟩ dL_count_9 (fun H lc cn sn q ce hw h1 h2 h3 => ?_)
      have hw : wH g s.heap.size (w9, mm) H lc := hw
      refine tw_catch (E := exn 1) (name := "java/lang/IndexOutOfBoundsException") hX htab [] [(0, 14, 21, 15), (0, 14, 25, 17)] (0, 14, 17, 13) rfl ⟨by decide, by decide⟩ (by decide) ((hC s hX.2.1.2.1).2.2.2.1) ((hG s hX.2.1.2.1).2.2.2.2.2.1.1) (fun _ h => absurd h List.not_mem_nil) h1 h2 h3 ?_
      refine lv_astore (lv' := [(6, .ref q), (0, rv p0), (1, .int p1), (2, .int p2), (3, .int p3), (4, .int p4), (5, rv p5)]) hx hb dL_count_17 hl (by decide) (by simp [rv_cat, ct_i, ct_l] <;> decide) (fun ls hl => ?_)
      refine lv_iconst (v := 1) hx hb dL_count_19 (by decide) ?_
      exact hret _ _ _ _ _ _ _ dL_count_20 hw rfl
    replace h := oe k9_1 h
    by_cases k9_2 : k9 = 2
    · replace h := ot k9_2 h
      obtain ⟨rfl, rfl⟩ := Prod.mk.inj (Option.some.inj h)
      subst k9_2
      refine x_callVE (n := 4) (As := [.int p1, .int p2, .int p3, .int p4]) (rest := [.int 0, rv p5]) hX hw (c_X6_count g l hG hst mm p0 p1 p2 p3 p4 w _ e2) gL_count_X6_count rfl (by decide +kernel) rfl (x_nz hw c1) (c_recv hX hw (ce_6 c1) rfl) hl.1 rfl (by simp [rv_cat, ct_i, ct_l]) ⟨by decide, by decide⟩ dL_count_9 (fun H lc cn sn q ce hw h1 h2 h3 => ?_)
      have hw : wH g s.heap.size (w9, mm) H lc := hw
      refine tw_catch (E := exn 2) (name := "java/lang/IllegalArgumentException") hX htab [(0, 14, 17, 13)] [(0, 14, 25, 17)] (0, 14, 21, 15) rfl ⟨by decide, by decide⟩ (by decide) ((hC s hX.2.1.2.1).2.2.2.2.1) ((hG s hX.2.1.2.1).2.2.2.2.2.1.2.1) (List.forall_mem_cons.mpr ⟨⟨by decide, "java/lang/IndexOutOfBoundsException", (hC s hX.2.1.2.1).2.2.2.1, (hC s hX.2.1.2.1).2.2.1⟩, (fun _ h => absurd h List.not_mem_nil)⟩) h1 h2 h3 ?_
      refine lv_astore (lv' := [(6, .ref q), (0, rv p0), (1, .int p1), (2, .int p2), (3, .int p3), (4, .int p4), (5, rv p5)]) hx hb dL_count_21 hl (by decide) (by simp [rv_cat, ct_i, ct_l] <;> decide) (fun ls hl => ?_)
      refine lv_iconst (v := 2) hx hb dL_count_23 (by decide) ?_
      exact hret _ _ _ _ _ _ _ dL_count_24 hw rfl
    replace h := oe k9_2 h
    by_cases k9_3 : k9 = 3
    · replace h := ot k9_3 h
      obtain ⟨rfl, rfl⟩ := Prod.mk.inj (Option.some.inj h)
      subst k9_3
      refine x_callVE (n := 4) (As := [.int p1, .int p2, .int p3, .int p4]) (rest := [.int 0, rv p5]) hX hw (c_X6_count g l hG hst mm p0 p1 p2 p3 p4 w _ e2) gL_count_X6_count rfl (by decide +kernel) rfl (x_nz hw c1) (c_recv hX hw (ce_6 c1) rfl) hl.1 rfl (by simp [rv_cat, ct_i, ct_l]) ⟨by decide, by decide⟩ dL_count_9 (fun H lc cn sn q ce hw h1 h2 h3 => ?_)
      have hw : wH g s.heap.size (w9, mm) H lc := hw
      refine tw_catch (E := exn 3) (name := "java/lang/IllegalStateException") hX htab [(0, 14, 17, 13), (0, 14, 21, 15)] [] (0, 14, 25, 17) rfl ⟨by decide, by decide⟩ (by decide) ((hC s hX.2.1.2.1).2.2.2.2.2) ((hG s hX.2.1.2.1).2.2.2.2.2.1.2.2) (List.forall_mem_cons.mpr ⟨⟨by decide, "java/lang/IndexOutOfBoundsException", (hC s hX.2.1.2.1).2.2.2.1, (hC s hX.2.1.2.1).1⟩, (List.forall_mem_cons.mpr ⟨⟨by decide, "java/lang/IllegalArgumentException", (hC s hX.2.1.2.1).2.2.2.2.1, (hC s hX.2.1.2.1).2.1⟩, (fun _ h => absurd h List.not_mem_nil)⟩)⟩) h1 h2 h3 ?_
      refine lv_astore (lv' := [(6, .ref q), (0, rv p0), (1, .int p1), (2, .int p2), (3, .int p3), (4, .int p4), (5, rv p5)]) hx hb dL_count_25 hl (by decide) (by simp [rv_cat, ct_i, ct_l] <;> decide) (fun ls hl => ?_)
      refine lv_iconst (v := 3) hx hb dL_count_27 (by decide) ?_
      exact hret _ _ _ _ _ _ _ dL_count_28 hw rfl
    replace h := oe k9_3 h
    cases h
  · refine x_callVNi (n := 4) (As := [.int p1, .int p2, .int p3, .int p4]) (rest := [.int 0, rv p5]) hX hw (c_X6_count g l hG hst mm p0 p1 p2 p3 p4 w _ e2) gL_count_X6_count rfl (by decide +kernel) rfl (x_nz hw c1) (c_recv hX hw (ce_6 c1) rfl) hl.1 rfl (by simp [rv_cat, ct_i, ct_l]) ⟨by decide, by decide⟩ dL_count_9 (fun H lc cn sn hw => ?_)
    have hw : wH g s.heap.size (w, mm) H lc := hw
    refine lv_i2l (v := v3.toInt64) hx hb dL_count_12 rfl ?_
    obtain ⟨c4, h⟩ := og h
    obtain ⟨c5, h⟩ := og h
    obtain ⟨w6, ew6, h⟩ := ol h
    refine c_lst hX hw c4 c5 dL_count_13 (fun H lc hw => ?_)
    have hw := hw_eq ew6 hw
    refine lv_goto (tgt := 29) hx hb dL_count_14 (by decide) ?_
    refine lv_iconst (v := 0) hx hb dL_count_29 (by decide) ?_
    replace h := (Option.some.inj h).symm
    obtain ⟨rfl, rfl⟩ := Prod.mk.inj h
    exact hret _ _ _ _ _ _ _ dL_count_30 hw rfl

def x_L_cursor (p0 : Nat) (p1 : Int32) (p2 : Int32) (p3 : Int32) (p4 : Int32) (p5 : Nat) (w : CS) : Option (Int32 × CS) :=
  if wJ w 0 p0 = 6 then
  bh2 (x_X6_cursor p0 p1 p2 p3 p4 w) (fun k9 w9 => if k9 = 1 then some ((1 : Int32), w9) else if k9 = 2 then some ((2 : Int32), w9) else if k9 = 3 then some ((3 : Int32), w9) else none) (fun (v3 : Int32) (w4 : CS) =>
  if wJ w4 0 p5 = 15 then
  if vR 0 (wJ w4 1 p5) then
  bs (sM w4 p5 (0 : Int32).toNatClampNeg v3.toInt64) (fun (w7 : CS) =>
  some (((0 : Int32), w7)))
  else none
  else none)
  else none
set_option maxHeartbeats 4000000 in
set_option maxRecDepth 100000 in
theorem c_L_cursor (g : GG) (l : Launch) (hG : XG g) (hC : NC g) (hst : l.stackTraces = false) (mm : MS) (p0 : Nat) (p1 : Int32) (p2 : Int32) (p3 : Int32) (p4 : Int32) (p5 : Nat) (w : CS) (r : Int32) (w' : CS) (h : x_L_cursor p0 p1 p2 p3 p4 p5 w = some (r, w')) : MetG g l yL_cursor wsL_cursor 9 198 [rv p0, .int p1, .int p2, .int p3, .int p4, rv p5] (w, mm) (some (.int r)) (w', mm) := by
  refine g_startW_i (hh := [(0, 14, 17, 13), (0, 14, 21, 15), (0, 14, 25, 17)]) (some (.int r)) (own := RL) (by decide +kernel) rfl rfl (by simp [lg_sl, rv_cat, ct_i, ct_l]) ?_
  intro p e s mi args below meth cd ls Q hX htab hw hl hret
  have hl : lv_has ls 7 [(0, rv p0), (1, .int p1), (2, .int p2), (3, .int p3), (4, .int p4), (5, rv p5)] := by simpa [lv_args, rv_cat, ct_i, ct_l] using hl
  obtain ⟨⟨hx, hb, -, hown, hts⟩, -⟩ := id hX
  unfold x_L_cursor at h
  refine t_aload hx hb dL_cursor_0 (lv_at hl 5 rfl) ?_
  refine lv_iconst (v := 0) hx hb dL_cursor_2 (by decide) ?_
  refine t_aload_n hx hb dL_cursor_3 rfl (lv_at hl 0 rfl) ?_
  refine lv_iload_n hx hb dL_cursor_4 rfl (lv_at hl 1 rfl) ?_
  refine lv_iload_n hx hb dL_cursor_5 rfl (lv_at hl 2 rfl) ?_
  refine lv_iload_n hx hb dL_cursor_6 rfl (lv_at hl 3 rfl) ?_
  refine lv_iload hx hb dL_cursor_7 (lv_at hl 4 rfl) ?_
  obtain ⟨c1, h⟩ := og h
  rcases obh2 h with ⟨k9, w9, e2, h⟩ | ⟨v3, w4, e2, h⟩
  · by_cases k9_1 : k9 = 1
    · replace h := ot k9_1 h
      obtain ⟨rfl, rfl⟩ := Prod.mk.inj (Option.some.inj h)
      subst k9_1
      refine x_callVE (n := 4) (As := [.int p1, .int p2, .int p3, .int p4]) (rest := [.int 0, rv p5]) hX hw (c_X6_cursor g l hG hst mm p0 p1 p2 p3 p4 w _ e2) gL_cursor_X6_cursor rfl (by decide +kernel) rfl (x_nz hw c1) (c_recv hX hw (ce_6 c1) rfl) hl.1 rfl (by simp [rv_cat, ct_i, ct_l]) ⟨by decide, by decide⟩ dL_cursor_9 (fun H lc cn sn q ce hw h1 h2 h3 => ?_)
      have hw : wH g s.heap.size (w9, mm) H lc := hw
      refine tw_catch (E := exn 1) (name := "java/lang/IndexOutOfBoundsException") hX htab [] [(0, 14, 21, 15), (0, 14, 25, 17)] (0, 14, 17, 13) rfl ⟨by decide, by decide⟩ (by decide) ((hC s hX.2.1.2.1).2.2.2.1) ((hG s hX.2.1.2.1).2.2.2.2.2.1.1) (fun _ h => absurd h List.not_mem_nil) h1 h2 h3 ?_
      refine lv_astore (lv' := [(6, .ref q), (0, rv p0), (1, .int p1), (2, .int p2), (3, .int p3), (4, .int p4), (5, rv p5)]) hx hb dL_cursor_17 hl (by decide) (by simp [rv_cat, ct_i, ct_l] <;> decide) (fun ls hl => ?_)
      refine lv_iconst (v := 1) hx hb dL_cursor_19 (by decide) ?_
      exact hret _ _ _ _ _ _ _ dL_cursor_20 hw rfl
    replace h := oe k9_1 h
    by_cases k9_2 : k9 = 2
    · replace h := ot k9_2 h
      obtain ⟨rfl, rfl⟩ := Prod.mk.inj (Option.some.inj h)
      subst k9_2
      refine x_callVE (n := 4) (As := [.int p1, .int p2, .int p3, .int p4]) (rest := [.int 0, rv p5]) hX hw (c_X6_cursor g l hG hst mm p0 p1 p2 p3 p4 w _ e2) gL_cursor_X6_cursor rfl (by decide +kernel) rfl (x_nz hw c1) (c_recv hX hw (ce_6 c1) rfl) hl.1 rfl (by simp [rv_cat, ct_i, ct_l]) ⟨by decide, by decide⟩ dL_cursor_9 (fun H lc cn sn q ce hw h1 h2 h3 => ?_)
      have hw : wH g s.heap.size (w9, mm) H lc := hw
      refine tw_catch (E := exn 2) (name := "java/lang/IllegalArgumentException") hX htab [(0, 14, 17, 13)] [(0, 14, 25, 17)] (0, 14, 21, 15) rfl ⟨by decide, by decide⟩ (by decide) ((hC s hX.2.1.2.1).2.2.2.2.1) ((hG s hX.2.1.2.1).2.2.2.2.2.1.2.1) (List.forall_mem_cons.mpr ⟨⟨by decide, "java/lang/IndexOutOfBoundsException", (hC s hX.2.1.2.1).2.2.2.1, (hC s hX.2.1.2.1).2.2.1⟩, (fun _ h => absurd h List.not_mem_nil)⟩) h1 h2 h3 ?_
      refine lv_astore (lv' := [(6, .ref q), (0, rv p0), (1, .int p1), (2, .int p2), (3, .int p3), (4, .int p4), (5, rv p5)]) hx hb dL_cursor_21 hl (by decide) (by simp [rv_cat, ct_i, ct_l] <;> decide) (fun ls hl => ?_)
      refine lv_iconst (v := 2) hx hb dL_cursor_23 (by decide) ?_
      exact hret _ _ _ _ _ _ _ dL_cursor_24 hw rfl
    replace h := oe k9_2 h
    by_cases k9_3 : k9 = 3
    · replace h := ot k9_3 h
      obtain ⟨rfl, rfl⟩ := Prod.mk.inj (Option.some.inj h)
      subst k9_3
      refine x_callVE (n := 4) (As := [.int p1, .int p2, .int p3, .int p4]) (rest := [.int 0, rv p5]) hX hw (c_X6_cursor g l hG hst mm p0 p1 p2 p3 p4 w _ e2) gL_cursor_X6_cursor rfl (by decide +kernel) rfl (x_nz hw c1) (c_recv hX hw (ce_6 c1) rfl) hl.1 rfl (by simp [rv_cat, ct_i, ct_l]) ⟨by decide, by decide⟩ dL_cursor_9 (fun H lc cn sn q ce hw h1 h2 h3 => ?_)
      have hw : wH g s.heap.size (w9, mm) H lc := hw
      refine tw_catch (E := exn 3) (name := "java/lang/IllegalStateException") hX htab [(0, 14, 17, 13), (0, 14, 21, 15)] [] (0, 14, 25, 17) rfl ⟨by decide, by decide⟩ (by decide) ((hC s hX.2.1.2.1).2.2.2.2.2) ((hG s hX.2.1.2.1).2.2.2.2.2.1.2.2) (List.forall_mem_cons.mpr ⟨⟨by decide, "java/lang/IndexOutOfBoundsException", (hC s hX.2.1.2.1).2.2.2.1, (hC s hX.2.1.2.1).1⟩, (List.forall_mem_cons.mpr ⟨⟨by decide, "java/lang/IllegalArgumentException", (hC s hX.2.1.2.1).2.2.2.2.1, (hC s hX.2.1.2.1).2.1⟩, (fun _ h => absurd h List.not_mem_nil)⟩)⟩) h1 h2 h3 ?_
      refine lv_astore (lv' := [(6, .ref q), (0, rv p0), (1, .int p1), (2, .int p2), (3, .int p3), (4, .int p4), (5, rv p5)]) hx hb dL_cursor_25 hl (by decide) (by simp [rv_cat, ct_i, ct_l] <;> decide) (fun ls hl => ?_)
      refine lv_iconst (v := 3) hx hb dL_cursor_27 (by decide) ?_
      exact hret _ _ _ _ _ _ _ dL_cursor_28 hw rfl
    replace h := oe k9_3 h
    cases h
  · refine x_callVNi (n := 4) (As := [.int p1, .int p2, .int p3, .int p4]) (rest := [.int 0, rv p5]) hX hw (c_X6_cursor g l hG hst mm p0 p1 p2 p3 p4 w _ e2) gL_cursor_X6_cursor rfl (by decide +kernel) rfl (x_nz hw c1) (c_recv hX hw (ce_6 c1) rfl) hl.1 rfl (by simp [rv_cat, ct_i, ct_l]) ⟨by decide, by decide⟩ dL_cursor_9 (fun H lc cn sn hw => ?_)
    have hw : wH g s.heap.size (w4, mm) H lc := hw
    refine lv_i2l (v := v3.toInt64) hx hb dL_cursor_12 rfl ?_
    obtain ⟨c5, h⟩ := og h
    obtain ⟨c6, h⟩ := og h
    obtain ⟨w7, ew7, h⟩ := ol h
    refine c_lst hX hw c5 c6 dL_cursor_13 (fun H lc hw => ?_)
    have hw := hw_eq ew7 hw
    refine lv_goto (tgt := 29) hx hb dL_cursor_14 (by decide) ?_
    refine lv_iconst (v := 0) hx hb dL_cursor_29 (by decide) ?_
    replace h := (Option.some.inj h).symm
    obtain ⟨rfl, rfl⟩ := Prod.mk.inj h
    exact hret _ _ _ _ _ _ _ dL_cursor_30 hw rfl

def x_L_step (p0 : Nat) (p1 : Int32) (p2 : Nat) (w : CS) : Option (Int32 × CS) :=
  if wJ w 0 p0 = 6 then
  bh2 (x_X6_step p0 p1 w) (fun k9 w9 => if k9 = 1 then some ((1 : Int32), w9) else if k9 = 3 then some ((2 : Int32), w9) else none) (fun (v3 : Int32) (w4 : CS) =>
  if wJ w4 0 p2 = 15 then
  if vR 0 (wJ w4 1 p2) then
  bs (sM w4 p2 (0 : Int32).toNatClampNeg v3.toInt64) (fun (w7 : CS) =>
  some (((0 : Int32), w7)))
  else none
  else none)
  else none
set_option maxHeartbeats 4000000 in
set_option maxRecDepth 100000 in
theorem c_L_step (g : GG) (l : Launch) (hG : XG g) (hC : NC g) (hst : l.stackTraces = false) (mm : MS) (p0 : Nat) (p1 : Int32) (p2 : Nat) (w : CS) (r : Int32) (w' : CS) (h : x_L_step p0 p1 p2 w = some (r, w')) : MetG g l yL_step wsL_step 8 158 [rv p0, .int p1, rv p2] (w, mm) (some (.int r)) (w', mm) := by
  refine g_startW_i (hh := [(0, 9, 12, 13), (0, 9, 15, 17)]) (some (.int r)) (own := RL) (by decide +kernel) rfl rfl (by simp [lg_sl, rv_cat, ct_i, ct_l]) ?_
  intro p e s mi args below meth cd ls Q hX htab hw hl hret
  have hl : lv_has ls 4 [(0, rv p0), (1, .int p1), (2, rv p2)] := by simpa [lv_args, rv_cat, ct_i, ct_l] using hl
  obtain ⟨⟨hx, hb, -, hown, hts⟩, -⟩ := id hX
  unfold x_L_step at h
  refine t_aload_n hx hb dL_step_0 rfl (lv_at hl 2 rfl) ?_
  refine lv_iconst (v := 0) hx hb dL_step_1 (by decide) ?_
  refine t_aload_n hx hb dL_step_2 rfl (lv_at hl 0 rfl) ?_
  refine lv_iload_n hx hb dL_step_3 rfl (lv_at hl 1 rfl) ?_
  obtain ⟨c1, h⟩ := og h
  rcases obh2 h with ⟨k9, w9, e2, h⟩ | ⟨v3, w4, e2, h⟩
  · by_cases k9_1 : k9 = 1
    · replace h := ot k9_1 h
      obtain ⟨rfl, rfl⟩ := Prod.mk.inj (Option.some.inj h)
      subst k9_1
      refine x_callVE (n := 1) (As := [.int p1]) (rest := [.int 0, rv p2]) hX hw (c_X6_step g l hG hst mm p0 p1 w _ e2) gL_step_X6_step rfl (by decide +kernel) rfl (x_nz hw c1) (c_recv hX hw (ce_6 c1) rfl) hl.1 rfl (by simp [rv_cat, ct_i, ct_l]) ⟨by decide, by decide⟩ dL_step_4 (fun H lc cn sn q ce hw h1 h2 h3 => ?_)
      have hw : wH g s.heap.size (w9, mm) H lc := hw
      refine tw_catch (E := exn 1) (name := "java/lang/IndexOutOfBoundsException") hX htab [] [(0, 9, 15, 17)] (0, 9, 12, 13) rfl ⟨by decide, by decide⟩ (by decide) ((hC s hX.2.1.2.1).2.2.2.1) ((hG s hX.2.1.2.1).2.2.2.2.2.1.1) (fun _ h => absurd h List.not_mem_nil) h1 h2 h3 ?_
      refine lv_astore_n (lv' := [(3, .ref q), (0, rv p0), (1, .int p1), (2, rv p2)]) hx hb dL_step_12 rfl hl (by decide) (by simp [rv_cat, ct_i, ct_l] <;> decide) (fun ls hl => ?_)
      refine lv_iconst (v := 1) hx hb dL_step_13 (by decide) ?_
      exact hret _ _ _ _ _ _ _ dL_step_14 hw rfl
    replace h := oe k9_1 h
    by_cases k9_3 : k9 = 3
    · replace h := ot k9_3 h
      obtain ⟨rfl, rfl⟩ := Prod.mk.inj (Option.some.inj h)
      subst k9_3
      refine x_callVE (n := 1) (As := [.int p1]) (rest := [.int 0, rv p2]) hX hw (c_X6_step g l hG hst mm p0 p1 w _ e2) gL_step_X6_step rfl (by decide +kernel) rfl (x_nz hw c1) (c_recv hX hw (ce_6 c1) rfl) hl.1 rfl (by simp [rv_cat, ct_i, ct_l]) ⟨by decide, by decide⟩ dL_step_4 (fun H lc cn sn q ce hw h1 h2 h3 => ?_)
      have hw : wH g s.heap.size (w9, mm) H lc := hw
      refine tw_catch (E := exn 3) (name := "java/lang/IllegalStateException") hX htab [(0, 9, 12, 13)] [] (0, 9, 15, 17) rfl ⟨by decide, by decide⟩ (by decide) ((hC s hX.2.1.2.1).2.2.2.2.2) ((hG s hX.2.1.2.1).2.2.2.2.2.1.2.2) (List.forall_mem_cons.mpr ⟨⟨by decide, "java/lang/IndexOutOfBoundsException", (hC s hX.2.1.2.1).2.2.2.1, (hC s hX.2.1.2.1).1⟩, (fun _ h => absurd h List.not_mem_nil)⟩) h1 h2 h3 ?_
      refine lv_astore_n (lv' := [(3, .ref q), (0, rv p0), (1, .int p1), (2, rv p2)]) hx hb dL_step_15 rfl hl (by decide) (by simp [rv_cat, ct_i, ct_l] <;> decide) (fun ls hl => ?_)
      refine lv_iconst (v := 2) hx hb dL_step_16 (by decide) ?_
      exact hret _ _ _ _ _ _ _ dL_step_17 hw rfl
    replace h := oe k9_3 h
    cases h
  · refine x_callVNi (n := 1) (As := [.int p1]) (rest := [.int 0, rv p2]) hX hw (c_X6_step g l hG hst mm p0 p1 w _ e2) gL_step_X6_step rfl (by decide +kernel) rfl (x_nz hw c1) (c_recv hX hw (ce_6 c1) rfl) hl.1 rfl (by simp [rv_cat, ct_i, ct_l]) ⟨by decide, by decide⟩ dL_step_4 (fun H lc cn sn hw => ?_)
    have hw : wH g s.heap.size (w4, mm) H lc := hw
    refine lv_i2l (v := v3.toInt64) hx hb dL_step_7 rfl ?_
    obtain ⟨c5, h⟩ := og h
    obtain ⟨c6, h⟩ := og h
    obtain ⟨w7, ew7, h⟩ := ol h
    refine c_lst hX hw c5 c6 dL_step_8 (fun H lc hw => ?_)
    have hw := hw_eq ew7 hw
    refine lv_goto (tgt := 18) hx hb dL_step_9 (by decide) ?_
    refine lv_iconst (v := 0) hx hb dL_step_18 (by decide) ?_
    replace h := (Option.some.inj h).symm
    obtain ⟨rfl, rfl⟩ := Prod.mk.inj h
    exact hret _ _ _ _ _ _ _ dL_step_19 hw rfl

def x_L_update (p0 : Nat) (p1 : Int32) (p2 : Int32) (p3 : Nat) (w : CS) : Option (Int32 × CS) :=
  if wJ w 0 p0 = 6 then
  bh2 (x_X6_update p0 p1 p2 w) (fun k9 w9 => if k9 = 1 then some ((1 : Int32), w9) else if k9 = 2 then some ((2 : Int32), w9) else if k9 = 3 then some ((3 : Int32), w9) else none) (fun (v3 : Int32) (w4 : CS) =>
  if wJ w4 0 p3 = 15 then
  if vR 0 (wJ w4 1 p3) then
  bs (sM w4 p3 (0 : Int32).toNatClampNeg v3.toInt64) (fun (w7 : CS) =>
  some (((0 : Int32), w7)))
  else none
  else none)
  else none
set_option maxHeartbeats 4000000 in
set_option maxRecDepth 100000 in
theorem c_L_update (g : GG) (l : Launch) (hG : XG g) (hC : NC g) (hst : l.stackTraces = false) (mm : MS) (p0 : Nat) (p1 : Int32) (p2 : Int32) (p3 : Nat) (w : CS) (r : Int32) (w' : CS) (h : x_L_update p0 p1 p2 p3 w = some (r, w')) : MetG g l yL_update wsL_update 9 217 [rv p0, .int p1, .int p2, rv p3] (w, mm) (some (.int r)) (w', mm) := by
  refine g_startW_i (hh := [(0, 10, 13, 13), (0, 10, 17, 15), (0, 10, 21, 17)]) (some (.int r)) (own := RL) (by decide +kernel) rfl rfl (by simp [lg_sl, rv_cat, ct_i, ct_l]) ?_
  intro p e s mi args below meth cd ls Q hX htab hw hl hret
  have hl : lv_has ls 5 [(0, rv p0), (1, .int p1), (2, .int p2), (3, rv p3)] := by simpa [lv_args, rv_cat, ct_i, ct_l] using hl
  obtain ⟨⟨hx, hb, -, hown, hts⟩, -⟩ := id hX
  unfold x_L_update at h
  refine t_aload_n hx hb dL_update_0 rfl (lv_at hl 3 rfl) ?_
  refine lv_iconst (v := 0) hx hb dL_update_1 (by decide) ?_
  refine t_aload_n hx hb dL_update_2 rfl (lv_at hl 0 rfl) ?_
  refine lv_iload_n hx hb dL_update_3 rfl (lv_at hl 1 rfl) ?_
  refine lv_iload_n hx hb dL_update_4 rfl (lv_at hl 2 rfl) ?_
  obtain ⟨c1, h⟩ := og h
  rcases obh2 h with ⟨k9, w9, e2, h⟩ | ⟨v3, w4, e2, h⟩
  · by_cases k9_1 : k9 = 1
    · replace h := ot k9_1 h
      obtain ⟨rfl, rfl⟩ := Prod.mk.inj (Option.some.inj h)
      subst k9_1
      refine x_callVE (n := 2) (As := [.int p1, .int p2]) (rest := [.int 0, rv p3]) hX hw (c_X6_update g l hG hst mm p0 p1 p2 w _ e2) gL_update_X6_update rfl (by decide +kernel) rfl (x_nz hw c1) (c_recv hX hw (ce_6 c1) rfl) hl.1 rfl (by simp [rv_cat, ct_i, ct_l]) ⟨by decide, by decide⟩ dL_update_5 (fun H lc cn sn q ce hw h1 h2 h3 => ?_)
      have hw : wH g s.heap.size (w9, mm) H lc := hw
      refine tw_catch (E := exn 1) (name := "java/lang/IndexOutOfBoundsException") hX htab [] [(0, 10, 17, 15), (0, 10, 21, 17)] (0, 10, 13, 13) rfl ⟨by decide, by decide⟩ (by decide) ((hC s hX.2.1.2.1).2.2.2.1) ((hG s hX.2.1.2.1).2.2.2.2.2.1.1) (fun _ h => absurd h List.not_mem_nil) h1 h2 h3 ?_
      refine lv_astore (lv' := [(4, .ref q), (0, rv p0), (1, .int p1), (2, .int p2), (3, rv p3)]) hx hb dL_update_13 hl (by decide) (by simp [rv_cat, ct_i, ct_l] <;> decide) (fun ls hl => ?_)
      refine lv_iconst (v := 1) hx hb dL_update_15 (by decide) ?_
      exact hret _ _ _ _ _ _ _ dL_update_16 hw rfl
    replace h := oe k9_1 h
    by_cases k9_2 : k9 = 2
    · replace h := ot k9_2 h
      obtain ⟨rfl, rfl⟩ := Prod.mk.inj (Option.some.inj h)
      subst k9_2
      refine x_callVE (n := 2) (As := [.int p1, .int p2]) (rest := [.int 0, rv p3]) hX hw (c_X6_update g l hG hst mm p0 p1 p2 w _ e2) gL_update_X6_update rfl (by decide +kernel) rfl (x_nz hw c1) (c_recv hX hw (ce_6 c1) rfl) hl.1 rfl (by simp [rv_cat, ct_i, ct_l]) ⟨by decide, by decide⟩ dL_update_5 (fun H lc cn sn q ce hw h1 h2 h3 => ?_)
      have hw : wH g s.heap.size (w9, mm) H lc := hw
      refine tw_catch (E := exn 2) (name := "java/lang/IllegalArgumentException") hX htab [(0, 10, 13, 13)] [(0, 10, 21, 17)] (0, 10, 17, 15) rfl ⟨by decide, by decide⟩ (by decide) ((hC s hX.2.1.2.1).2.2.2.2.1) ((hG s hX.2.1.2.1).2.2.2.2.2.1.2.1) (List.forall_mem_cons.mpr ⟨⟨by decide, "java/lang/IndexOutOfBoundsException", (hC s hX.2.1.2.1).2.2.2.1, (hC s hX.2.1.2.1).2.2.1⟩, (fun _ h => absurd h List.not_mem_nil)⟩) h1 h2 h3 ?_
      refine lv_astore (lv' := [(4, .ref q), (0, rv p0), (1, .int p1), (2, .int p2), (3, rv p3)]) hx hb dL_update_17 hl (by decide) (by simp [rv_cat, ct_i, ct_l] <;> decide) (fun ls hl => ?_)
      refine lv_iconst (v := 2) hx hb dL_update_19 (by decide) ?_
      exact hret _ _ _ _ _ _ _ dL_update_20 hw rfl
    replace h := oe k9_2 h
    by_cases k9_3 : k9 = 3
    · replace h := ot k9_3 h
      obtain ⟨rfl, rfl⟩ := Prod.mk.inj (Option.some.inj h)
      subst k9_3
      refine x_callVE (n := 2) (As := [.int p1, .int p2]) (rest := [.int 0, rv p3]) hX hw (c_X6_update g l hG hst mm p0 p1 p2 w _ e2) gL_update_X6_update rfl (by decide +kernel) rfl (x_nz hw c1) (c_recv hX hw (ce_6 c1) rfl) hl.1 rfl (by simp [rv_cat, ct_i, ct_l]) ⟨by decide, by decide⟩ dL_update_5 (fun H lc cn sn q ce hw h1 h2 h3 => ?_)
      have hw : wH g s.heap.size (w9, mm) H lc := hw
      refine tw_catch (E := exn 3) (name := "java/lang/IllegalStateException") hX htab [(0, 10, 13, 13), (0, 10, 17, 15)] [] (0, 10, 21, 17) rfl ⟨by decide, by decide⟩ (by decide) ((hC s hX.2.1.2.1).2.2.2.2.2) ((hG s hX.2.1.2.1).2.2.2.2.2.1.2.2) (List.forall_mem_cons.mpr ⟨⟨by decide, "java/lang/IndexOutOfBoundsException", (hC s hX.2.1.2.1).2.2.2.1, (hC s hX.2.1.2.1).1⟩, (List.forall_mem_cons.mpr ⟨⟨by decide, "java/lang/IllegalArgumentException", (hC s hX.2.1.2.1).2.2.2.2.1, (hC s hX.2.1.2.1).2.1⟩, (fun _ h => absurd h List.not_mem_nil)⟩)⟩) h1 h2 h3 ?_
      refine lv_astore (lv' := [(4, .ref q), (0, rv p0), (1, .int p1), (2, .int p2), (3, rv p3)]) hx hb dL_update_21 hl (by decide) (by simp [rv_cat, ct_i, ct_l] <;> decide) (fun ls hl => ?_)
      refine lv_iconst (v := 3) hx hb dL_update_23 (by decide) ?_
      exact hret _ _ _ _ _ _ _ dL_update_24 hw rfl
    replace h := oe k9_3 h
    cases h
  · refine x_callVNi (n := 2) (As := [.int p1, .int p2]) (rest := [.int 0, rv p3]) hX hw (c_X6_update g l hG hst mm p0 p1 p2 w _ e2) gL_update_X6_update rfl (by decide +kernel) rfl (x_nz hw c1) (c_recv hX hw (ce_6 c1) rfl) hl.1 rfl (by simp [rv_cat, ct_i, ct_l]) ⟨by decide, by decide⟩ dL_update_5 (fun H lc cn sn hw => ?_)
    have hw : wH g s.heap.size (w4, mm) H lc := hw
    refine lv_i2l (v := v3.toInt64) hx hb dL_update_8 rfl ?_
    obtain ⟨c5, h⟩ := og h
    obtain ⟨c6, h⟩ := og h
    obtain ⟨w7, ew7, h⟩ := ol h
    refine c_lst hX hw c5 c6 dL_update_9 (fun H lc hw => ?_)
    have hw := hw_eq ew7 hw
    refine lv_goto (tgt := 25) hx hb dL_update_10 (by decide) ?_
    refine lv_iconst (v := 0) hx hb dL_update_25 (by decide) ?_
    replace h := (Option.some.inj h).symm
    obtain ⟨rfl, rfl⟩ := Prod.mk.inj h
    exact hret _ _ _ _ _ _ _ dL_update_26 hw rfl
