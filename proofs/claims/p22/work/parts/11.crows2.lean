/-! ===== rows over the class's memory: locals, arrays, new, casts ===== -/
def xstrs : List (Nat × String) := [(60, "the tab cannot open at this version now"), (81, "the tab cannot be closed now"), (120, "there is no place for such a store"), (131, "the store is there"), (141, "there is no such field"), (150, "the index cannot be made"), (159, "a store of the scope is not there"), (164, "no transaction can begin now"), (179, "the transaction cannot be aborted now"), (204, "the row cannot be put"), (223, "the cursor cannot be made"), (243, "the cursor cannot step now"), (258, "the cursor cannot update now"), (261, "the row is not there any more"), (269, "there is no such tab"), (271, "there is no such transaction"), (273, "there is no such store"), (275, "there is no such cursor"), (279, "an argument is out of range"), (287, "this number tells no key"), (289, "the transaction is not the upgrade that is running"), (291, "the transaction is not running"), (296, "the store is not in the scope"), (298, "the transaction does not write")]
def xbad (E : String) : List Cond := [.castable E E, .declares ⟨"java/lang/RuntimeException", "<init>", "(Ljava/lang/String;)V"⟩, .declares ⟨"java/lang/Exception", "<init>", "(Ljava/lang/String;)V"⟩, .declares ⟨"java/lang/Throwable", "<init>", "(Ljava/lang/String;)V"⟩]
def XF (g : GG) (s : State) : Prop :=
  (vx_Zq Bundle.tN "UNASSIGNED_STACK" Bundle.steD (gA g) s (gH g) ∧ vx_Zq Bundle.tN "SUPPRESSED_SENTINEL" Bundle.listD (gA g) s (gH g) ∧ va_Z "java/util/ArrayList" "DEFAULTCAPACITY_EMPTY_ELEMENTDATA" "[Ljava/lang/Object;" (.ref (gnn g 3)) (gA g) s (gH g))
  ∧ (va_Fw RJx4a65c ⟨"java/util/List", "size", "()I"⟩ yJx4a65c_size_8abf5 s ∧ va_Fw RJx4a65c ⟨"java/util/List", "get", "(I)Ljava/lang/Object;"⟩ yJx4a65c_get_915e3 s ∧ va_Fw RJx4a65c ⟨"java/util/List", "set", "(ILjava/lang/Object;)Ljava/lang/Object;"⟩ yJx4a65c_set_bcc79 s ∧ va_Fw RJx4a65c ⟨"java/util/List", "add", "(Ljava/lang/Object;)Z"⟩ yJx4a65c_add_9ea2d s ∧ va_Fw RJx4a65c ⟨"java/util/List", "remove", "(I)Ljava/lang/Object;"⟩ yJx4a65c_remove_915e3 s ∧ va_Fw RJx4a65c ⟨"java/util/List", "clear", "()V"⟩ yJx4a65c_clear_da8c8 s)
  ∧ (va_AO "java/lang/Object" s ∧ va_AO "TabStore$Tab" s ∧ va_AO "TabStore$Store" s)
  ∧ (va_Nw (.castable "TabStore$Row" "java/lang/Object") s ∧ va_Nw (.castable "TabStore$Transaction" "java/lang/Object") s ∧ va_Nw (.castable "TabStore$Cursor" "java/lang/Object") s)
  ∧ (va_Mi "[Ljava/lang/Object;" (gnn g 5) s ∧ va_Dc s ∧ ∃ cell : Cell, (gH g)[gnn g 3]? = some cell ∧ s.isArrayOf cell (.object "java/lang/Object") ∧ cell.slots.size.toInt32 = 0 ∧ gnn g 3 < gnn g 0)
  ∧ (va_Nw (.castable "java/lang/IndexOutOfBoundsException" "java/lang/IndexOutOfBoundsException") s ∧ va_Nw (.castable "java/lang/IllegalArgumentException" "java/lang/IllegalArgumentException") s ∧ va_Nw (.castable "java/lang/IllegalStateException" "java/lang/IllegalStateException") s)
  ∧ (va_Nw (.declares ⟨"java/lang/RuntimeException", "<init>", "(Ljava/lang/String;)V"⟩) s ∧ va_Nw (.declares ⟨"java/lang/Exception", "<init>", "(Ljava/lang/String;)V"⟩) s ∧ va_Nw (.declares ⟨"java/lang/Throwable", "<init>", "(Ljava/lang/String;)V"⟩) s)
  ∧ (∀ q ∈ xstrs, ∃ a : Nat, vk_R RX6 q.1 q.2 a s)
def XG (g : GG) : Prop := ∀ s : State, gP g s → XF g s
abbrev oK (k : Nat) : Prop := k = 1 ∨ k = 2 ∨ k = 3
section CROWS2
variable {p : Program} {l : Launch} {e : Env} {R : Room} {s : State} {m : MethodId} {args : Array Value} {below : List Frame} {meth : Method} {c0 : Code} {H : Heap} {locs : List Loc} {cells slots : Nat} {Q : State → Prop}
variable {cc : ByteArray} {pc : Nat} {ls : Array Slot} {rest : List Value} {g : GG} {z : Nat} {T : TW} {Ts : List Cond} {nL : Nat} {own : String} {ret : Option FieldType}
theorem t_aload_n (hexec : p.tables.exec = Jvm.exec) (hb : c0.code = cc) {k : Fin 4} {i x : Nat} (hdg : decode cc pc = .ok (.aload_n k, 1)) (hi : (k : Nat) = i) (hl : ls[i]? = some (.val (rv x)))
    (kk : W p l e R s m args below meth c0 H locs cells slots Q (F0 m (pc + 1) ls (rv x :: rest))) : W p l e R s m args below meth c0 H locs cells slots Q (F0 m pc ls rest) := by
  by_cases h : x = 0
  · subst h
    exact lv_aload_nN hexec hb hdg hi hl kk
  · rw [rv_ref h] at hl kk
    exact lv_aload_n hexec hb hdg hi hl kk
theorem t_aload (hexec : p.tables.exec = Jvm.exec) (hb : c0.code = cc) {i x : Nat} (hdg : decode cc pc = .ok (.aload i, 2)) (hl : ls[i]? = some (.val (rv x)))
    (kk : W p l e R s m args below meth c0 H locs cells slots Q (F0 m (pc + 2) ls (rv x :: rest))) : W p l e R s m args below meth c0 H locs cells slots Q (F0 m pc ls rest) := by
  by_cases h : x = 0
  · subst h
    exact lv_aloadN hexec hb hdg hl kk
  · rw [rv_ref h] at hl kk
    exact lv_aload hexec hb hdg hl kk
theorem t_astore_n (hexec : p.tables.exec = Jvm.exec) (hb : c0.code = cc) {k : Fin 4} {i x nL : Nat} {lv lv' : List (Nat × Value)} (hdg : decode cc pc = .ok (.astore_n k, 1)) (hi : (k : Nat) = i) (h : lv_has ls nL lv) (hn : i < nL) (hl : (i, rv x) :: lv.filter (fun q => !(q.1 == i) && !(q.1 + 1 == i && q.2.category == 2)) = lv')
    (kk : ∀ ls' : Array Slot, lv_has ls' nL lv' → W p l e R s m args below meth c0 H locs cells slots Q (F0 m (pc + 1) ls' rest)) : W p l e R s m args below meth c0 H locs cells slots Q (F0 m pc ls (rv x :: rest)) := by
  by_cases hx : x = 0
  · subst hx
    exact lv_astore_nN hexec hb hdg hi h hn hl kk
  · rw [rv_ref hx] at hl ⊢
    exact lv_astore_n hexec hb hdg hi h hn hl kk
theorem t_astore (hexec : p.tables.exec = Jvm.exec) (hb : c0.code = cc) {i x nL : Nat} {lv lv' : List (Nat × Value)} (hdg : decode cc pc = .ok (.astore i, 2)) (h : lv_has ls nL lv) (hn : i < nL) (hl : (i, rv x) :: lv.filter (fun q => !(q.1 == i) && !(q.1 + 1 == i && q.2.category == 2)) = lv')
    (kk : ∀ ls' : Array Slot, lv_has ls' nL lv' → W p l e R s m args below meth c0 H locs cells slots Q (F0 m (pc + 2) ls' rest)) : W p l e R s m args below meth c0 H locs cells slots Q (F0 m pc ls (rv x :: rest)) := by
  by_cases hx : x = 0
  · subst hx
    exact lv_astoreN hexec hb hdg h hn hl kk
  · rw [rv_ref hx] at hl ⊢
    exact lv_astore hexec hb hdg h hn hl kk
theorem t_null (hexec : p.tables.exec = Jvm.exec) (hb : c0.code = cc) (hdg : decode cc pc = .ok (.aconst_null, 1))
    (kk : W p l e R s m args below meth c0 H locs cells slots Q (F0 m (pc + 1) ls (rv 0 :: rest))) : W p l e R s m args below meth c0 H locs cells slots Q (F0 m pc ls rest) := lv_null hexec hb hdg kk
theorem t_ifnull (hexec : p.tables.exec = Jvm.exec) (hb : c0.code = cc) {x : Nat} {off : Int} {tgt : Nat} (hdg : decode cc pc = .ok (.ifnull off, 3)) (ht : (pc : Int) + off = (tgt : Int))
    (kt : x = 0 → W p l e R s m args below meth c0 H locs cells slots Q (F0 m tgt ls rest)) (kf : ¬ x = 0 → W p l e R s m args below meth c0 H locs cells slots Q (F0 m (pc + 3) ls rest)) : W p l e R s m args below meth c0 H locs cells slots Q (F0 m pc ls (rv x :: rest)) := by
  by_cases hx : x = 0
  · subst hx
    exact lv_ifnullN hexec hb hdg ht (kt rfl)
  · rw [rv_ref hx]
    exact lv_ifnull hexec hb hdg (kf hx)
theorem t_ifnonnull (hexec : p.tables.exec = Jvm.exec) (hb : c0.code = cc) {x : Nat} {off : Int} {tgt : Nat} (hdg : decode cc pc = .ok (.ifnonnull off, 3)) (ht : (pc : Int) + off = (tgt : Int))
    (kt : ¬ x = 0 → W p l e R s m args below meth c0 H locs cells slots Q (F0 m tgt ls rest)) (kf : x = 0 → W p l e R s m args below meth c0 H locs cells slots Q (F0 m (pc + 3) ls rest)) : W p l e R s m args below meth c0 H locs cells slots Q (F0 m pc ls (rv x :: rest)) := by
  by_cases hx : x = 0
  · subst hx
    exact lv_ifnonnullN hexec hb hdg (kf rfl)
  · rw [rv_ref hx]
    exact lv_ifnonnull hexec hb hdg ht (kt hx)
theorem t_acmp_eq (hexec : p.tables.exec = Jvm.exec) (hb : c0.code = cc) {x y : Nat} {off : Int} {tgt : Nat} (hdg : decode cc pc = .ok (.if_acmp .eq off, 3)) (ht : (pc : Int) + off = (tgt : Int))
    (kt : x = y → W p l e R s m args below meth c0 H locs cells slots Q (F0 m tgt ls rest)) (kf : ¬ x = y → W p l e R s m args below meth c0 H locs cells slots Q (F0 m (pc + 3) ls rest)) : W p l e R s m args below meth c0 H locs cells slots Q (F0 m pc ls (rv y :: rv x :: rest)) :=
  lv_acmp_eq hexec hb hdg ht (fun h => kt (ro_inj.mp h)) (fun h => kf fun h2 => h (ro_inj.mpr h2))
theorem t_acmp_ne (hexec : p.tables.exec = Jvm.exec) (hb : c0.code = cc) {x y : Nat} {off : Int} {tgt : Nat} (hdg : decode cc pc = .ok (.if_acmp .ne off, 3)) (ht : (pc : Int) + off = (tgt : Int))
    (kt : ¬ x = y → W p l e R s m args below meth c0 H locs cells slots Q (F0 m tgt ls rest)) (kf : x = y → W p l e R s m args below meth c0 H locs cells slots Q (F0 m (pc + 3) ls rest)) : W p l e R s m args below meth c0 H locs cells slots Q (F0 m pc ls (rv y :: rv x :: rest)) :=
  lv_acmp_ne hexec hb hdg ht (fun h => kt fun h2 => h (ro_inj.mpr h2)) (fun h => kf (ro_inj.mp h))
/-! arrays -/
theorem ae_8 {g : GG} {c : CS} {x : Nat} (h : wJ c 0 x = 8) : cent g c x = some (.inl (gcy g 0, wJ c 1 x, .inl (fun i => wA c x i))) := by
  unfold cent
  rw [h]
  rfl
theorem ae_10 {g : GG} {c : CS} {x : Nat} (h : wJ c 0 x = 10) : cent g c x = some (.inl (gcy g 2, wJ c 1 x, .inr (.inr (.inr (.inr (fun i => ro (wB c x i))))))) := by
  unfold cent
  rw [h]
  rfl
theorem ae_11 {g : GG} {c : CS} {x : Nat} (h : wJ c 0 x = 11) : cent g c x = some (.inl (gcy g 3, wJ c 1 x, .inr (.inr (.inr (.inr (fun i => ro (wB c x i))))))) := by
  unfold cent
  rw [h]
  rfl
theorem ae_12 {g : GG} {c : CS} {x : Nat} (h : wJ c 0 x = 12) : cent g c x = some (.inl (gcy g 4, wJ c 1 x, .inr (.inr (.inr (.inr (fun i => ro (wB c x i))))))) := by
  unfold cent
  rw [h]
  rfl
theorem ae_1213 {g : GG} {c : CS} {x : Nat} (h : wJ c 0 x = 12 ∨ wJ c 0 x = 13) : cent g c x = some (.inl (gcy g 4, wJ c 1 x, .inr (.inr (.inr (.inr (fun i => ro (wB c x i))))))) := by
  unfold cent
  rcases h with h | h <;> rw [h] <;> rfl
theorem c_ild (hX : MX g own p s m args c0 cc nL Ts meth ret) (hw : wH g z T H locs) {x : Nat} {ix : Int32} (hk : wJ T.1 0 x = 8) (hr : vR ix (wJ T.1 1 x)) (hdg : decode cc pc = .ok (.iaload, 1))
    (kk : W p l e R s m args below meth c0 H locs cells slots Q (F0 m (pc + 1) ls (.int (wA T.1 x ix.toNatClampNeg) :: rest))) : W p l e R s m args below meth c0 H locs cells slots Q (F0 m pc ls (.int ix :: rv x :: rest)) := by
  obtain ⟨⟨hx, hb, hml, hown, hts⟩, hK, -⟩ := hX
  obtain ⟨hat, hx0⟩ := cH_cell hw (ae_8 hk)
  rw [rv_ref hx0]
  exact va_iald (D := gD g) (cl := vwCl) (ws := [(x - 1, .inl (gcy g 0, wJ T.1 1 x, .inl (fun i => wA T.1 x i)))]) hx hb hK.1 (fun i q hq => by
    have hz : i < 1 := (List.getElem?_eq_some_iff.mp hq).1
    rw [show i = 0 by omega] at hq
    cases hq
    exact hat) 0 0 rfl rfl hr hdg kk
theorem c_ald (hX : MX g own p s m args c0 cc nL Ts meth ret) (hw : wH g z T H locs) {x : Nat} {C : String} (t0 : Nat) {ix : Int32} (he : cent g T.1 x = some (.inl (gcy g t0, wJ T.1 1 x, .inr (.inr (.inr (.inr (fun i => ro (wB T.1 x i)))))))) (ht : (gty g)[t0]? = some (gcy g t0, .object C)) (hr : vR ix (wJ T.1 1 x)) (hdg : decode cc pc = .ok (.aaload, 1))
    (kk : W p l e R s m args below meth c0 H locs cells slots Q (F0 m (pc + 1) ls (rv (wB T.1 x ix.toNatClampNeg) :: rest))) : W p l e R s m args below meth c0 H locs cells slots Q (F0 m pc ls (.int ix :: rv x :: rest)) := by
  obtain ⟨⟨hx, hb, hml, hown, hts⟩, hK, -⟩ := hX
  obtain ⟨hat, hx0⟩ := cH_cell hw he
  rw [rv_ref hx0]
  exact va_aldq (D := gD g) (cl := vwCl) (ws := [(x - 1, .inl (gcy g t0, wJ T.1 1 x, .inr (.inr (.inr (.inr (fun i => ro (wB T.1 x i)))))))]) hx hb hK.1 (fun i q hq => by
    have hz : i < 1 := (List.getElem?_eq_some_iff.mp hq).1
    rw [show i = 0 by omega] at hq
    cases hq
    exact hat) 0 t0 rfl ht hr hdg kk
theorem c_alen (hX : MX g own p s m args c0 cc nL Ts meth ret) (hw : wH g z T H locs) {x n : Nat} {ty : FieldType} (t0 : Nat) {f : (Nat → Int32) ⊕ (Nat → Int64) ⊕ (Nat → UInt32) ⊕ (Nat → UInt64) ⊕ (Nat → Option Nat)} (he : cent g T.1 x = some (.inl (gcy g t0, n, f))) (ht : (gty g)[t0]? = some (gcy g t0, ty)) (hdg : decode cc pc = .ok (.arraylength, 1))
    (kk : W p l e R s m args below meth c0 H locs cells slots Q (F0 m (pc + 1) ls (.int (nI n) :: rest))) : W p l e R s m args below meth c0 H locs cells slots Q (F0 m pc ls (rv x :: rest)) := by
  obtain ⟨⟨hx, hb, hml, hown, hts⟩, hK, -⟩ := hX
  obtain ⟨hat, hx0⟩ := cH_cell hw he
  rw [rv_ref hx0]
  exact va_alen (D := gD g) (cl := vwCl) (ws := [(x - 1, .inl (gcy g t0, n, f))]) hx hb hK.1 (fun i q hq => by
    have hz : i < 1 := (List.getElem?_eq_some_iff.mp hq).1
    rw [show i = 0 by omega] at hq
    cases hq
    exact hat) 0 t0 rfl ht rfl hdg kk
theorem c_alenE (hX : MX g own p s m args c0 cc nL Ts meth ret) (hG : XG g) (hw : wH g z T H locs) {x : Nat} (hk : wJ T.1 0 x = 12 ∨ x = wJ T.1 2 0 ∧ wJ T.1 1 x = 0) (hdg : decode cc pc = .ok (.arraylength, 1))
    (kk : W p l e R s m args below meth c0 H locs cells slots Q (F0 m (pc + 1) ls (.int (nI (wJ T.1 1 x)) :: rest))) : W p l e R s m args below meth c0 H locs cells slots Q (F0 m pc ls (rv x :: rest)) := by
  rcases hk with q | ⟨q1, q2⟩
  · exact c_alen hX hw 4 (ae_12 q) rfl hdg kk
  · obtain ⟨cell, h1, h2, h3, h4⟩ := (hG s hX.2.1.2.1).2.2.2.2.1.2.2
    obtain ⟨⟨hx, hb, hml, hown, hts⟩, hK, -⟩ := hX
    obtain ⟨w1, w2, w3, ⟨w4, w5, w6, w7, w8, w9, wA⟩, w10⟩ := hw
    rw [q2] at kk
    rw [q1, w9, rv_ref (by omega), Nat.add_sub_cancel]
    exact W.alen (n := nI 0) hx hb (by rw [w3 _ h4]; exact h1) h2 h3 rfl rfl hdg kk
theorem c_ist (hX : MX g own p s m args c0 cc nL Ts meth ret) (hw : wH g z T H locs) {x : Nat} {ix v : Int32} (hk : wJ T.1 0 x = 8) (hr : vR ix (wJ T.1 1 x)) (hdg : decode cc pc = .ok (.iastore, 1))
    (kk : ∀ (H1 : Heap) (locs1 : List Loc), wH g z (sA T.1 x ix.toNatClampNeg v, T.2) H1 locs1 → W p l e R s m args below meth c0 H1 locs1 cells slots Q (F0 m (pc + 1) ls rest)) : W p l e R s m args below meth c0 H locs cells slots Q (F0 m pc ls (.int v :: .int ix :: rv x :: rest)) := by
  obtain ⟨⟨hx, hb, hml, hown, hts⟩, hK, -⟩ := hX
  obtain ⟨hat, hx0⟩ := cH_cell hw (ae_8 hk)
  rw [rv_ref hx0]
  refine W.iast hx hb hat ((hK.1.2 0 _ rfl).1 (wJ T.1 1 x) (fun j => .int (wA T.1 x j))) (fun q => by cases q) (by show ¬ (ix < 0 ∨ (arrV _ _ _).slots.size ≤ _); rw [arrV_size]; exact hr) rfl rfl hdg fun H1 e z oq => ?_
  refine kk H1 _ (cH_put hw (ae_8 hk) (by rw [hk]; decide) (ae_8 (c := sA T.1 x ix.toNatClampNeg v) hk) (eqx_sA _ _ _ _) ?_ z oq hat e ?_)
  · show H1[x - 1]? = some (vp_cell _ _)
    rw [e, vp_cell_i, vp_cell_i, arrV_store]
    congr 2
    funext q
    by_cases hq : q = ix.toNatClampNeg
    · subst hq
      simp [updV, wA, sA, u2]
    · simp [updV, wA, sA, u2, hq]
  · rw [vp_cell_i, arrV_store, arrV_size, arrV_size]
/-- a store into an array of references: null, or something of a class that fits -/
theorem c_ast (hX : MX g own p s m args c0 cc nL Ts meth ret) (hw : wH g z T H locs) {x y : Nat} {E : String} (t0 : Nat) {ix : Int32} (he : cent g T.1 x = some (.inl (gcy g t0, wJ T.1 1 x, .inr (.inr (.inr (.inr (fun i => ro (wB T.1 x i)))))))) (he1 : cent g (sB T.1 x ix.toNatClampNeg y) x = some (.inl (gcy g t0, wJ T.1 1 x, .inr (.inr (.inr (.inr (fun i => ro (wB (sB T.1 x ix.toNatClampNeg y) x i)))))))) (hk : wJ T.1 0 x ≠ 13) (ht : (gty g)[t0]? = some (gcy g t0, .object E)) (hr : vR ix (wJ T.1 1 x)) (hv : y = 0 ∨ va_Any E s H (y - 1)) (hdg : decode cc pc = .ok (.aastore, 1))
    (kk : ∀ (H1 : Heap) (locs1 : List Loc), wH g z (sB T.1 x ix.toNatClampNeg y, T.2) H1 locs1 → W p l e R s m args below meth c0 H1 locs1 cells slots Q (F0 m (pc + 1) ls rest)) : W p l e R s m args below meth c0 H locs cells slots Q (F0 m pc ls (rv y :: .int ix :: rv x :: rest)) := by
  obtain ⟨⟨hx, hb, hml, hown, hts⟩, hK, -⟩ := hX
  obtain ⟨hat, hx0⟩ := cH_cell hw he
  have hlt : ix.toNatClampNeg < wJ T.1 1 x := Nat.not_le.mp fun q => hr (Or.inr q)
  have h0 : ¬ ix < 0 := fun q => hr (Or.inl q)
  have fin : ∀ (H1 : Heap), H1[x - 1]? = some ((vp_cell (gcy g t0) (wJ T.1 1 x, .inr (.inr (.inr (.inr (fun i => ro (wB T.1 x i))))))).setSlot ix.toNatClampNeg (rv y)) → H1.size = H.size → (∀ q : Nat, q ≠ x - 1 → H1[q]? = H[q]?) → W p l e R s m args below meth c0 H1 (locs ++ [⟨x - 1, ix.toNatClampNeg⟩]) cells slots Q (F0 m (pc + 1) ls rest) := by
    intro H1 e z oq
    refine kk H1 _ (cH_put hw he hk he1 (eqx_sB _ _ _ _) ?_ z oq hat e ?_)
    · show H1[x - 1]? = some (vp_cell _ _)
      rw [e, vp_cell_q, vp_cell_q, arrV_store]
      congr 2
      funext q
      by_cases hq : q = ix.toNatClampNeg
      · subst hq
        simp [updV, wB, sB, u2, rv]
      · simp [updV, wB, sB, u2, hq]
    · rw [vp_cell_q, arrV_store, arrV_size, arrV_size]
  rcases hv with hv | hv
  · subst hv
    rw [rv_ref hx0]
    exact va_WaastN (C := E) hx hb hat ((hK.1.2 t0 _ ht).1 (wJ T.1 1 x) (fun j => va_rf (ro (wB T.1 x j)))) (fun h => by cases h) (by show ¬ (ix < 0 ∨ (arrV _ _ _).slots.size ≤ _); rw [arrV_size]; exact hr) rfl rfl hdg fun H1 e z oq => fin H1 e z oq
  · by_cases hy : y = 0
    · subst hy
      rw [rv_ref hx0]
      exact va_WaastN (C := E) hx hb hat ((hK.1.2 t0 _ ht).1 (wJ T.1 1 x) (fun j => va_rf (ro (wB T.1 x j)))) (fun h => by cases h) (by show ¬ (ix < 0 ∨ (arrV _ _ _).slots.size ≤ _); rw [arrV_size]; exact hr) rfl rfl hdg fun H1 e z oq => fin H1 e z oq
    · rw [rv_ref hx0, rv_ref hy]
      obtain ⟨cellV, g1, g3, ⟨kC, hkC⟩, hasg⟩ := hv
      obtain ⟨kA, comp, k1, k2, k3, -⟩ := (hK.1.2 t0 _ ht).2
      obtain ⟨kE, hkE, -⟩ := Vm.findClass_spec k3
      refine W.aast hx hb hat (fun q h => by cases h) (fun h => by cases h) k1 k2 rfl hkE ⟨h0, by show _ < (arrV _ _ _).slots.size; rw [arrV_size]; exact hlt⟩ g1 (fun q h => by rw [h] at g3; cases g3) hkC (hasg _ k3) rfl rfl hdg fun H1 e z oq => ?_
      rw [← rv_ref hy] at e
      exact fin H1 e z oq
theorem c_any (hX : MX g own p s m args c0 cc nL Ts meth ret) (hw : wH g z T H locs) {x ci : Nat} {fs : List Value} {r : vw_C} {E : String} (he : cent g T.1 x = some (.inr (ci, fs))) (hc : vwCl[ci]? = some r) (hasg : ∀ comp c0 : ClassId, s.vm.findClass E = some comp → s.vm.findClass r.1 = some c0 → s.vm.assignable c0 comp = true) : va_Any E s H (x - 1) := by
  obtain ⟨-, hK, -⟩ := hX
  obtain ⟨hat, hx0⟩ := cH_cell hw he
  exact va_rAny (D := gD g) (cl := vwCl) (ws := [(x - 1, .inr (ci, fs))]) (q0 := 0) hK.1 (fun i q hq => by
    have hz : i < 1 := (List.getElem?_eq_some_iff.mp hq).1
    rw [show i = 0 by omega] at hq
    cases hq
    exact hat) rfl hc hasg
theorem c_anyS (hX : MX g own p s m args c0 cc nL Ts meth ret) (hw : wH g z T H locs) {x ci : Nat} {fs : List Value} {r : vw_C} (he : cent g T.1 x = some (.inr (ci, fs))) (hc : vwCl[ci]? = some r) : va_Any r.1 s H (x - 1) := by
  have hK := hX.2.1
  refine c_any hX hw he hc fun comp c1 h1 h2 => ?_
  cases Option.some.inj (h1.symm.trans h2)
  have hcls := (hK.1.1 ci r hc).2
  cases Option.some.inj (h1.symm.trans hcls.1)
  exact va_assign hcls
theorem c_anyO (hX : MX g own p s m args c0 cc nL Ts meth ret) (hG : XG g) (hw : wH g z T H locs) {x : Nat} (hk : x = 0 ∨ oK (wJ T.1 0 x)) : x = 0 ∨ va_Any "java/lang/Object" s H (x - 1) := by
  obtain ⟨-, -, -, ⟨f1, f2, f3⟩, -⟩ := hG s hX.2.1.2.1
  have key : ∀ {C : String}, va_Nw (.castable C "java/lang/Object") s → ∀ comp c0 : ClassId, s.vm.findClass "java/lang/Object" = some comp → s.vm.findClass C = some c0 → s.vm.assignable c0 comp = true := by
    intro C h comp c1 h1 h2
    obtain ⟨a, b, i1, i2, i3⟩ := Cond.castable_spec (va_Nw.use (A := args) rfl h)
    cases Option.some.inj (h2.symm.trans i1)
    cases Option.some.inj (h1.symm.trans i2)
    exact i3
  rcases hk with h | h | h | h
  · exact Or.inl h
  · exact Or.inr (c_any hX hw (ce_1 h) rfl (key f1))
  · exact Or.inr (c_any hX hw (ce_2 h) rfl (key f2))
  · exact Or.inr (c_any hX hw (ce_3 h) rfl (key f3))
/-! a cast to a class of ours -/
theorem c_cast (hX : MX g own p s m args c0 cc nL Ts meth ret) (hw : wH g z T H locs) {x ci N index : Nat} {C : String} {TT : u_T} {fs : List Value} (he : x = 0 ∨ cent g T.1 x = some (.inr (ci, fs))) (hc : vwCl[ci]? = some (C, TT, N)) (hl : Cond.classLink own index C ∈ Ts) (hdg : decode cc pc = .ok (.checkcast index, 3))
    (kk : W p l e R s m args below meth c0 H locs cells slots Q (F0 m (pc + 3) ls (rv x :: rest))) : W p l e R s m args below meth c0 H locs cells slots Q (F0 m pc ls (rv x :: rest)) := by
  obtain ⟨⟨hx, hb, hml, hown, hts⟩, hK, -⟩ := hX
  by_cases h : x = 0
  · subst h
    exact lv_castN hx hb hdg kk
  · rcases he with he | he
    · exact absurd he h
    · obtain ⟨hat, hx0⟩ := cH_cell hw he
      rw [rv_ref hx0] at kk ⊢
      obtain ⟨r, h1, cell, q1, q2, q3, q4⟩ := hat
      have hr : r = (C, TT, N) := Option.some.inj (h1.symm.trans hc)
      subst hr
      have hcl := (hK.1.1 ci _ hc).2
      exact va_castS hx hb hown (hts _ hl) hcl ⟨cell, q1, by rw [q3]; rfl, by rw [q2]; exact hcl.1⟩ hdg kk
theorem c_recv (hX : MX g own p s m args c0 cc nL Ts meth ret) (hw : wH g z T H locs) {x ci N : Nat} {C : String} {TT : u_T} {fs : List Value} (he : cent g T.1 x = some (.inr (ci, fs))) (hc : vwCl[ci]? = some (C, TT, N)) : ∃ cell : Cell, H[x - 1]? = some cell ∧ cell.vm.isStatics = false ∧ s.vm.findClass C = some cell.cls := by
  obtain ⟨⟨hx, hb, hml, hown, hts⟩, hK, -⟩ := hX
  obtain ⟨hat, hx0⟩ := cH_cell hw he
  obtain ⟨r, h1, cell, q1, q2, q3, q4⟩ := hat
  have hr : r = (C, TT, N) := Option.some.inj (h1.symm.trans hc)
  subst hr
  exact ⟨cell, q1, by rw [q3]; rfl, by rw [q2]; exact (hK.1.1 ci _ hc).2.1⟩
end CROWS2
