/-! ===== the JDK methods, proved (printed by gen2.py) ===== -/
set_option maxHeartbeats 4000000 in
set_option maxRecDepth 100000 in
theorem c_J3_checkIndex_8e157 (g : GG) (l : Launch) (hG : XG g) (hst : l.stackTraces = false) (mm : MS) (p0 : Int32) (p1 : Int32) (p2 : Nat) (w : CS) (r : Int32) (h : x_J3_checkIndex_8e157 p0 p1 p2 = some r) : MetG g l yJ3_checkIndex_8e157 wsJ3_checkIndex_8e157 0 0 [.int p0, .int p1, rv p2] (w, mm) (some (.int r)) (w, mm) := by
  refine g_start_i (some (.int r)) (own := RJ3) (by decide +kernel) rfl rfl (by simp [lg_sl, rv_cat, ct_i, ct_l]) ?_
  intro p e s mi args below meth cd ls Q hX hnm hw hl hret
  have hl : lv_has ls 3 [(0, .int p0), (1, .int p1), (2, rv p2)] := by simpa [lv_args, rv_cat, ct_i, ct_l] using hl
  obtain ⟨⟨hx, hb, -, hown, hts⟩, -⟩ := id hX
  unfold x_J3_checkIndex_8e157 at h
  refine lv_iload_n hx hb dJ3_checkIndex_8e157_0 rfl (lv_at hl 0 rfl) ?_
  obtain ⟨aj3, h1aj3, kaj3, raj3⟩ := ol0 h
  have haj3 : ∀ (H : Heap) (lc : List Loc) (cn sn : Nat) (ls : Array Slot), aj3 = Sum.inl () → wH g s.heap.size (w, mm) H lc → lv_has ls 3 [(0, .int p0), (1, .int p1), (2, rv p2)] → W p l e (rmO g 0 0 s.heap) s mi args below meth cd H lc cn sn Q (F0 mi 9 ls []) := by
    intro H lc cn sn ls h hw hl
    replace h := kaj3 h
    cases h
  replace h := h1aj3
  refine lv_if_lt (tgt := 9) hx hb dJ3_checkIndex_8e157_1 (by decide) (fun c1 => ?_) (fun c1 => ?_)
  · replace h := ot c1 h
    replace h := (Option.some.inj h).symm
    exact haj3 _ _ _ _ _ h hw (lv_sub hl [0, 1, 2] rfl)
  · replace h := oe c1 h
    refine lv_iload_n hx hb dJ3_checkIndex_8e157_4 rfl (lv_at hl 0 rfl) ?_
    refine lv_iload_n hx hb dJ3_checkIndex_8e157_5 rfl (lv_at hl 1 rfl) ?_
    refine lv_icmp_lt (tgt := 16) hx hb dJ3_checkIndex_8e157_6 (by decide) (fun c2 => ?_) (fun c2 => ?_)
    · replace h := ot c2 h
      refine lv_iload_n hx hb dJ3_checkIndex_8e157_16 rfl (lv_at hl 0 rfl) ?_
      replace h := (Option.some.inj h).symm
      replace h := raj3 _ h
      subst h
      exact hret _ _ _ _ _ _ _ dJ3_checkIndex_8e157_17 hw rfl
    · replace h := oe c2 h
      replace h := (Option.some.inj h).symm
      exact haj3 _ _ _ _ _ h hw (lv_sub hl [0, 1, 2] rfl)

set_option maxHeartbeats 4000000 in
set_option maxRecDepth 100000 in
theorem c_J15_checkIndex_7cf53 (g : GG) (l : Launch) (hG : XG g) (hst : l.stackTraces = false) (mm : MS) (p0 : Int32) (p1 : Int32) (w : CS) (r : Int32) (h : x_J15_checkIndex_7cf53 p0 p1 = some r) : MetG g l yJ15_checkIndex_7cf53 wsJ15_checkIndex_7cf53 1 22 [.int p0, .int p1] (w, mm) (some (.int r)) (w, mm) := by
  refine g_start_i (some (.int r)) (own := RJ15) (by decide +kernel) rfl rfl (by simp [lg_sl, rv_cat, ct_i, ct_l]) ?_
  intro p e s mi args below meth cd ls Q hX hnm hw hl hret
  have hl : lv_has ls 2 [(0, .int p0), (1, .int p1)] := by simpa [lv_args, rv_cat, ct_i, ct_l] using hl
  obtain ⟨⟨hx, hb, -, hown, hts⟩, -⟩ := id hX
  unfold x_J15_checkIndex_7cf53 at h
  refine lv_iload_n hx hb dJ15_checkIndex_7cf53_0 rfl (lv_at hl 0 rfl) ?_
  refine lv_iload_n hx hb dJ15_checkIndex_7cf53_1 rfl (lv_at hl 1 rfl) ?_
  refine t_null hx hb dJ15_checkIndex_7cf53_2 ?_
  obtain ⟨v2, e1, h⟩ := ob h
  refine g_callSi (n := 3) (As := [.int p0, .int p1, rv 0]) (rest := []) hX hw (c_J3_checkIndex_8e157 g l hG hst mm p0 p1 0 w v2 e1) gJ15_checkIndex_7cf53_J3_checkIndex_8e157 rfl (by decide +kernel) rfl hl.1 rfl (Nat.le_of_ble_eq_true rfl) ⟨by decide, by decide⟩ dJ15_checkIndex_7cf53_3 (fun H lc cn sn hw => ?_)
  replace h := (Option.some.inj h).symm
  subst h
  exact hret _ _ _ _ _ _ _ dJ15_checkIndex_7cf53_6 hw rfl

set_option maxHeartbeats 4000000 in
set_option maxRecDepth 100000 in
theorem c_Jx4a65c_size_8abf5 (g : GG) (l : Launch) (hG : XG g) (hst : l.stackTraces = false) (mm : MS) (o : Nat) (w : CS) (r : Int32) (h : x_Jx4a65c_size_8abf5 o w = some r) : MetG g l yJx4a65c_size_8abf5 wsJx4a65c_size_8abf5 0 0 [rv o] (w, mm) (some (.int r)) (w, mm) := by
  refine g_start_i (some (.int r)) (own := RJx4a65c) (by decide +kernel) rfl rfl (by simp [lg_sl, rv_cat, ct_i, ct_l]) ?_
  intro p e s mi args below meth cd ls Q hX hnm hw hl hret
  have hl : lv_has ls 1 [(0, rv o)] := by simpa [lv_args, rv_cat, ct_i, ct_l] using hl
  obtain ⟨⟨hx, hb, -, hown, hts⟩, -⟩ := id hX
  unfold x_Jx4a65c_size_8abf5 at h
  refine t_aload_n hx hb dJx4a65c_size_8abf5_0 rfl (lv_at hl 0 rfl) ?_
  obtain ⟨c1, h⟩ := og h
  refine c_gf (C := RJx4a65c) (TT := TJx4a65c) (N := 3) (ref := "java/util/ArrayList") (v := .int (wI w 282 o)) hX hw (ce_7 c1) rfl 2 (by decide +kernel) (by decide) (by decide +kernel) (fun _ h9 => h9) rfl dJx4a65c_size_8abf5_1 ?_
  replace h := (Option.some.inj h).symm
  subst h
  exact hret _ _ _ _ _ _ _ dJx4a65c_size_8abf5_4 hw rfl

set_option maxHeartbeats 4000000 in
set_option maxRecDepth 100000 in
theorem c_Jx4a65c_elementData_915e3 (g : GG) (l : Launch) (hG : XG g) (hst : l.stackTraces = false) (mm : MS) (o : Nat) (p0 : Int32) (w : CS) (r : Nat) (h : x_Jx4a65c_elementData_915e3 o p0 w = some r) : MetG g l yJx4a65c_elementData_915e3 wsJx4a65c_elementData_915e3 0 0 [rv o, .int p0] (w, mm) (some (rv r)) (w, mm) := by
  refine g_start_a (Or.inl ⟨_, rfl⟩) (some (rv r)) (own := RJx4a65c) (by decide +kernel) rfl rfl (by simp [lg_sl, rv_cat, ct_i, ct_l]) ?_
  intro p e s mi args below meth cd ls Q hX hnm hw hl hret
  have hl : lv_has ls 2 [(0, rv o), (1, .int p0)] := by simpa [lv_args, rv_cat, ct_i, ct_l] using hl
  obtain ⟨⟨hx, hb, -, hown, hts⟩, -⟩ := id hX
  unfold x_Jx4a65c_elementData_915e3 at h
  refine t_aload_n hx hb dJx4a65c_elementData_915e3_0 rfl (lv_at hl 0 rfl) ?_
  obtain ⟨c1, h⟩ := og h
  refine c_gf (C := RJx4a65c) (TT := TJx4a65c) (N := 3) (ref := "java/util/ArrayList") (v := rv (wJ w 281 o)) hX hw (ce_7 c1) rfl 1 (by decide +kernel) (by decide) (by decide +kernel) (fun _ h9 => h9) rfl dJx4a65c_elementData_915e3_1 ?_
  refine lv_iload_n hx hb dJx4a65c_elementData_915e3_4 rfl (lv_at hl 1 rfl) ?_
  obtain ⟨c2, h⟩ := og h
  obtain ⟨c3, h⟩ := og h
  refine c_ald hX hw 4 (ae_12 c2) rfl c3 dJx4a65c_elementData_915e3_5 ?_
  replace h := (Option.some.inj h).symm
  subst h
  exact hret _ _ _ _ _ _ _ dJx4a65c_elementData_915e3_6 hw rfl

set_option maxHeartbeats 4000000 in
set_option maxRecDepth 100000 in
theorem c_Jx4a65c_get_915e3 (g : GG) (l : Launch) (hG : XG g) (hst : l.stackTraces = false) (mm : MS) (o : Nat) (p0 : Int32) (w : CS) (r : Nat) (h : x_Jx4a65c_get_915e3 o p0 w = some r) : MetG g l yJx4a65c_get_915e3 wsJx4a65c_get_915e3 2 43 [rv o, .int p0] (w, mm) (some (rv r)) (w, mm) := by
  refine g_start_a (Or.inl ⟨_, rfl⟩) (some (rv r)) (own := RJx4a65c) (by decide +kernel) rfl rfl (by simp [lg_sl, rv_cat, ct_i, ct_l]) ?_
  intro p e s mi args below meth cd ls Q hX hnm hw hl hret
  have hl : lv_has ls 2 [(0, rv o), (1, .int p0)] := by simpa [lv_args, rv_cat, ct_i, ct_l] using hl
  obtain ⟨⟨hx, hb, -, hown, hts⟩, -⟩ := id hX
  unfold x_Jx4a65c_get_915e3 at h
  refine lv_iload_n hx hb dJx4a65c_get_915e3_0 rfl (lv_at hl 1 rfl) ?_
  refine t_aload_n hx hb dJx4a65c_get_915e3_1 rfl (lv_at hl 0 rfl) ?_
  obtain ⟨c1, h⟩ := og h
  refine c_gf (C := RJx4a65c) (TT := TJx4a65c) (N := 3) (ref := "java/util/ArrayList") (v := .int (wI w 282 o)) hX hw (ce_7 c1) rfl 2 (by decide +kernel) (by decide) (by decide +kernel) (fun _ h9 => h9) rfl dJx4a65c_get_915e3_2 ?_
  obtain ⟨v3, e2, h⟩ := ob h
  refine g_callSi (n := 2) (As := [.int p0, .int (wI w 282 o)]) (rest := []) hX hw (c_J15_checkIndex_7cf53 g l hG hst mm p0 (wI w 282 o) w v3 e2) gJx4a65c_get_915e3_J15_checkIndex_7cf53 rfl (by decide +kernel) rfl hl.1 rfl (Nat.le_of_ble_eq_true rfl) ⟨by decide, by decide⟩ dJx4a65c_get_915e3_5 (fun H lc cn sn hw => ?_)
  refine lv_pop hx hb dJx4a65c_get_915e3_8 rfl ?_
  refine t_aload_n hx hb dJx4a65c_get_915e3_9 rfl (lv_at hl 0 rfl) ?_
  refine lv_iload_n hx hb dJx4a65c_get_915e3_10 rfl (lv_at hl 1 rfl) ?_
  obtain ⟨v5, e4, h⟩ := ob h
  refine g_callVa (n := 1) (As := [.int p0]) (rest := []) hX hw (c_Jx4a65c_elementData_915e3 g l hG hst mm o p0 w v5 e4) gJx4a65c_get_915e3_Jx4a65c_elementData_915e3 rfl (by decide +kernel) rfl (x_nz hw c1) (c_recv hX hw (ce_7 c1) rfl) hl.1 rfl (Nat.le_of_ble_eq_true rfl) ⟨by decide, by decide⟩ dJx4a65c_get_915e3_11 (fun H lc cn sn hw => ?_)
  replace h := (Option.some.inj h).symm
  subst h
  exact hret _ _ _ _ _ _ _ dJx4a65c_get_915e3_14 hw rfl

set_option maxHeartbeats 4000000 in
set_option maxRecDepth 100000 in
theorem c_Jxa1e45_init_da8c8 (g : GG) (l : Launch) (hG : XG g) (hst : l.stackTraces = false) (mm : MS) (o : Nat) (w : CS) (h : x_Jxa1e45_init_da8c8 o w = some ()) : MetG g l yJxa1e45_init_da8c8 wsJxa1e45_init_da8c8 1 12 [rv o] (w, mm) (none) (w, mm) := by
  refine g_start_v (none) (own := RJxa1e45) (by decide +kernel) rfl rfl (by simp [lg_sl, rv_cat, ct_i, ct_l]) ?_
  intro p e s mi args below meth cd ls Q hX hnm hw hl hret
  have hl : lv_has ls 1 [(0, rv o)] := by simpa [lv_args, rv_cat, ct_i, ct_l] using hl
  obtain ⟨⟨hx, hb, -, hown, hts⟩, -⟩ := id hX
  unfold x_Jxa1e45_init_da8c8 at h
  refine t_aload_n hx hb dJxa1e45_init_da8c8_0 rfl (lv_at hl 0 rfl) ?_
  obtain ⟨c1, h⟩ := og h
  refine c_oinit hX (x_nz hw c1) (by decide +kernel) (by decide +kernel) (by decide +kernel) hl.1 dJxa1e45_init_da8c8_1 ⟨by decide, by simp [rv_cat, ct_i, ct_l]⟩ ?_
  replace h := (Option.some.inj h).symm
  exact hret _ _ _ _ _ _ dJxa1e45_init_da8c8_4 hw rfl

set_option maxHeartbeats 4000000 in
set_option maxRecDepth 100000 in
theorem c_Jxc12de_init_da8c8 (g : GG) (l : Launch) (hG : XG g) (hst : l.stackTraces = false) (mm : MS) (o : Nat) (w : CS) (w' : CS) (h : x_Jxc12de_init_da8c8 o w = some w') : MetG g l yJxc12de_init_da8c8 wsJxc12de_init_da8c8 2 32 [rv o] (w, mm) (none) (w', mm) := by
  refine g_start_v (none) (own := RJxc12de) (by decide +kernel) rfl rfl (by simp [lg_sl, rv_cat, ct_i, ct_l]) ?_
  intro p e s mi args below meth cd ls Q hX hnm hw hl hret
  have hl : lv_has ls 1 [(0, rv o)] := by simpa [lv_args, rv_cat, ct_i, ct_l] using hl
  obtain ⟨⟨hx, hb, -, hown, hts⟩, -⟩ := id hX
  unfold x_Jxc12de_init_da8c8 at h
  refine t_aload_n hx hb dJxc12de_init_da8c8_0 rfl (lv_at hl 0 rfl) ?_
  obtain ⟨c1, h⟩ := og h
  obtain ⟨_, e2, h⟩ := ob h
  refine g_callI (n := 0) (As := []) (rest := []) hX hw (c_Jxa1e45_init_da8c8 g l hG hst mm o w e2) gJxc12de_init_da8c8_Jxa1e45_init_da8c8 rfl (by decide +kernel) rfl (x_nz hw c1) (by decide +kernel) (by decide +kernel) (by decide +kernel) rfl hl.1 rfl (Nat.le_of_ble_eq_true rfl) ⟨by decide, by decide⟩ dJxc12de_init_da8c8_1 (fun H lc cn sn hw => ?_)
  refine t_aload_n hx hb dJxc12de_init_da8c8_4 rfl (lv_at hl 0 rfl) ?_
  refine lv_iconst (v := 0) hx hb dJxc12de_init_da8c8_5 (by decide) ?_
  obtain ⟨w3, ew3, h⟩ := ol h
  refine p_7_0b hX hw c1 (by decide +kernel) (by decide +kernel) dJxc12de_init_da8c8_6 (fun H lc hw => ?_)
  have hw := hw_eq ew3 hw
  replace h := (Option.some.inj h).symm
  subst h
  exact hret _ _ _ _ _ _ dJxc12de_init_da8c8_9 hw rfl

set_option maxHeartbeats 4000000 in
set_option maxRecDepth 100000 in
theorem c_Jx4a65c_init_da8c8 (g : GG) (l : Launch) (hG : XG g) (hst : l.stackTraces = false) (mm : MS) (o : Nat) (w : CS) (w' : CS) (h : x_Jx4a65c_init_da8c8 o w = some w') : MetG g l yJx4a65c_init_da8c8 wsJx4a65c_init_da8c8 3 52 [rv o] (w, mm) (none) (w', mm) := by
  refine g_start_v (none) (own := RJx4a65c) (by decide +kernel) rfl rfl (by simp [lg_sl, rv_cat, ct_i, ct_l]) ?_
  intro p e s mi args below meth cd ls Q hX hnm hw hl hret
  have hl : lv_has ls 1 [(0, rv o)] := by simpa [lv_args, rv_cat, ct_i, ct_l] using hl
  obtain ⟨⟨hx, hb, -, hown, hts⟩, -⟩ := id hX
  unfold x_Jx4a65c_init_da8c8 at h
  refine t_aload_n hx hb dJx4a65c_init_da8c8_0 rfl (lv_at hl 0 rfl) ?_
  obtain ⟨c1, h⟩ := og h
  obtain ⟨w3, e2, h⟩ := ob h
  refine g_callI (n := 0) (As := []) (rest := []) hX hw (c_Jxc12de_init_da8c8 g l hG hst mm o w w3 e2) gJx4a65c_init_da8c8_Jxc12de_init_da8c8 rfl (by decide +kernel) rfl (x_nz hw c1) (by decide +kernel) (by decide +kernel) (by decide +kernel) rfl hl.1 rfl (Nat.le_of_ble_eq_true rfl) ⟨by decide, by decide⟩ dJx4a65c_init_da8c8_1 (fun H lc cn sn hw => ?_)
  refine t_aload_n hx hb dJx4a65c_init_da8c8_4 rfl (lv_at hl 0 rfl) ?_
  refine c_gsE hX hG hw (ref := "java/util/ArrayList") (by decide +kernel) rfl dJx4a65c_init_da8c8_5 ?_
  obtain ⟨c4, h⟩ := og h
  obtain ⟨w5, ew5, h⟩ := ol h
  refine p_7_1 hX hw c4 (by decide +kernel) (by decide +kernel) dJx4a65c_init_da8c8_8 (fun H lc hw => ?_)
  have hw := hw_eq ew5 hw
  replace h := (Option.some.inj h).symm
  subst h
  exact hret _ _ _ _ _ _ dJx4a65c_init_da8c8_11 hw rfl

set_option maxHeartbeats 4000000 in
set_option maxRecDepth 100000 in
theorem c_J8_newLength_cabcc (g : GG) (l : Launch) (hG : XG g) (hst : l.stackTraces = false) (mm : MS) (p0 : Int32) (p1 : Int32) (p2 : Int32) (w : CS) (r : Int32) (h : x_J8_newLength_cabcc p0 p1 p2 w = some r) : MetG g l yJ8_newLength_cabcc wsJ8_newLength_cabcc 1 14 [.int p0, .int p1, .int p2] (w, mm) (some (.int r)) (w, mm) := by
  refine g_start_i (some (.int r)) (own := RJ8) (by decide +kernel) rfl rfl (by simp [lg_sl, rv_cat, ct_i, ct_l]) ?_
  intro p e s mi args below meth cd ls Q hX hnm hw hl hret
  have hl : lv_has ls 4 [(0, .int p0), (1, .int p1), (2, .int p2)] := by simpa [lv_args, rv_cat, ct_i, ct_l] using hl
  obtain ⟨⟨hx, hb, -, hown, hts⟩, -⟩ := id hX
  unfold x_J8_newLength_cabcc at h
  refine lv_iload_n hx hb dJ8_newLength_cabcc_0 rfl (lv_at hl 0 rfl) ?_
  refine lv_iload_n hx hb dJ8_newLength_cabcc_1 rfl (lv_at hl 1 rfl) ?_
  refine lv_iload_n hx hb dJ8_newLength_cabcc_2 rfl (lv_at hl 2 rfl) ?_
  refine c_max (z := 0) hX hw (by decide +kernel) (by decide +kernel) (by decide +kernel) (by decide +kernel) hl.1 ⟨by decide, by simp [rv_cat, ct_i, ct_l]⟩ dJ8_newLength_cabcc_3 (fun cn sn => ?_)
  refine lv_iadd hx hb dJ8_newLength_cabcc_6 ?_
  refine lv_istore_n (lv' := [(3, .int (p0 + (if p1 < p2 then p2 else p1))), (0, .int p0), (1, .int p1), (2, .int p2)]) hx hb dJ8_newLength_cabcc_7 rfl hl (by decide) rfl (fun ls hl => ?_)
  refine lv_iconst (v := 0) hx hb dJ8_newLength_cabcc_8 (by decide) ?_
  refine lv_iload_n hx hb dJ8_newLength_cabcc_9 rfl (lv_at hl 0 rfl) ?_
  obtain ⟨aj3, h1aj3, kaj3, raj3⟩ := ol0 h
  have haj3 : ∀ (H : Heap) (lc : List Loc) (cn sn : Nat) (ls : Array Slot), aj3 = Sum.inl () → wH g s.heap.size (w, mm) H lc → lv_has ls 4 [(0, .int p0), (1, .int p1)] → W p l e (rmO g 1 14 s.heap) s mi args below meth cd H lc cn sn Q (F0 mi 21 ls []) := by
    intro H lc cn sn ls h hw hl
    replace h := kaj3 h
    cases h
  replace h := h1aj3
  refine lv_icmp_ge (tgt := 21) hx hb dJ8_newLength_cabcc_10 (by decide) (fun c1 => ?_) (fun c1 => ?_)
  · replace h := ot c1 h
    replace h := (Option.some.inj h).symm
    exact haj3 _ _ _ _ _ h hw (lv_sub hl [1, 2] rfl)
  · replace h := oe c1 h
    refine lv_iload_n hx hb dJ8_newLength_cabcc_13 rfl (lv_at hl 0 rfl) ?_
    refine lv_ldc (v := 2147483639) hx hb hown (hts (.constant RJ8 200 (2147483639)) (by decide +kernel)) dJ8_newLength_cabcc_14 ?_
    refine lv_icmp_gt (tgt := 21) hx hb dJ8_newLength_cabcc_16 (by decide) (fun c2 => ?_) (fun c2 => ?_)
    · replace h := ot c2 h
      replace h := (Option.some.inj h).symm
      exact haj3 _ _ _ _ _ h hw (lv_sub hl [1, 2] rfl)
    · replace h := oe c2 h
      refine lv_iload_n hx hb dJ8_newLength_cabcc_19 rfl (lv_at hl 0 rfl) ?_
      replace h := (Option.some.inj h).symm
      replace h := raj3 _ h
      subst h
      exact hret _ _ _ _ _ _ _ dJ8_newLength_cabcc_20 hw rfl

set_option maxHeartbeats 4000000 in
set_option maxRecDepth 100000 in
theorem c_J7_copyOf_6403c (g : GG) (l : Launch) (hG : XG g) (hst : l.stackTraces = false) (mm : MS) (p0 : Nat) (p1 : Int32) (p2 : Nat) (w : CS) (r : Nat) (w' : CS) (h : x_J7_copyOf_6403c p0 p1 p2 w = some (r, w')) : MetG g l yJ7_copyOf_6403c wsJ7_copyOf_6403c 1 40 [rv p0, .int p1, rv p2] (w, mm) (some (rv r)) (w', mm) := by
  refine g_start_a (Or.inr ⟨_, rfl⟩) (some (rv r)) (own := RJ7) (by decide +kernel) rfl rfl (by simp [lg_sl, rv_cat, ct_i, ct_l]) ?_
  intro p e s mi args below meth cd ls Q hX hnm hw hl hret
  have hl : lv_has ls 4 [(0, rv p0), (1, .int p1), (2, rv p2)] := by simpa [lv_args, rv_cat, ct_i, ct_l] using hl
  obtain ⟨⟨hx, hb, -, hown, hts⟩, -⟩ := id hX
  unfold x_J7_copyOf_6403c at h
  refine t_aload_n hx hb dJ7_copyOf_6403c_0 rfl (lv_at hl 2 rfl) ?_
  refine c_ldcM hX hG hw (by decide +kernel) dJ7_copyOf_6403c_1 ?_
  obtain ⟨aj16, h1aj16, kaj16⟩ := ob1 h
  have haj16 : ∀ (w5 : CS) (H : Heap) (lc : List Loc) (cn sn : Nat) (ls : Array Slot), aj16 = w5 → wH g s.heap.size (w5, mm) H lc → lv_has ls 4 [(0, rv p0), (1, .int p1)] → W p l e (rmO g 1 40 s.heap) s mi args below meth cd H lc cn sn Q (F0 mi 24 ls [rv (wz w + 1)]) := by
    intro w5 H lc cn sn ls h hw hl
    replace h := kaj16 _ h
    refine t_astore_n (lv' := [(3, rv (wz w + 1)), (0, rv p0), (1, .int p1)]) hx hb dJ7_copyOf_6403c_24 rfl hl (by decide) rfl (fun ls hl => ?_)
    refine t_aload_n hx hb dJ7_copyOf_6403c_25 rfl (lv_at hl 1 rfl) ?_
    refine lv_iconst (v := 0) hx hb dJ7_copyOf_6403c_26 (by decide) ?_
    refine t_aload_n hx hb dJ7_copyOf_6403c_27 rfl (lv_at hl 0 rfl) ?_
    refine lv_iconst (v := 0) hx hb dJ7_copyOf_6403c_28 (by decide) ?_
    refine t_aload_n hx hb dJ7_copyOf_6403c_29 rfl (lv_at hl 1 rfl) ?_
    obtain ⟨c6, h⟩ := og h
    refine c_alenE hX hG hw c6 dJ7_copyOf_6403c_30 ?_
    refine lv_iload_n hx hb dJ7_copyOf_6403c_31 rfl (lv_at hl 2 rfl) ?_
    refine c_min (z := 0) hX hw (by decide +kernel) (by decide +kernel) (by decide +kernel) (by decide +kernel) hl.1 ⟨by decide, by simp [rv_cat, ct_i, ct_l]⟩ dJ7_copyOf_6403c_32 (fun cn sn => ?_)
    obtain ⟨c7, h⟩ := og h
    obtain ⟨c8, h⟩ := og h
    obtain ⟨c9, h⟩ := og h
    obtain ⟨c10, h⟩ := og h
    obtain ⟨c11, h⟩ := og h
    obtain ⟨c12, h⟩ := og h
    obtain ⟨c13, h⟩ := og h
    obtain ⟨c14, h⟩ := og h
    obtain ⟨w15, ew15, h⟩ := ol h
    refine c_copy hX hG hw (Or.inl c7) c8 c9 c10 c11 c12 c13 c14 (by decide +kernel) (by decide +kernel) (by decide +kernel) (by decide +kernel) hl.1 ⟨by decide, by simp [rv_cat, ct_i, ct_l]; decide⟩ dJ7_copyOf_6403c_35 (fun H lc hw => ?_)
    have hw := hw_eq ew15 hw
    refine t_aload_n hx hb dJ7_copyOf_6403c_38 rfl (lv_at hl 0 rfl) ?_
    replace h := (Option.some.inj h).symm
    obtain ⟨rfl, rfl⟩ := Prod.mk.inj h
    exact hret _ _ _ _ _ _ _ dJ7_copyOf_6403c_39 hw rfl
  replace h := h1aj16
  refine t_acmp_ne (tgt := 13) hx hb dJ7_copyOf_6403c_3 (by decide) (fun c1 => ?_) (fun c1 => ?_)
  · replace h := oe c1 h
    cases h
  · replace h := ot c1 h
    refine lv_iload_n hx hb dJ7_copyOf_6403c_6 rfl (lv_at hl 1 rfl) ?_
    obtain ⟨c2, h⟩ := og h
    obtain ⟨c3, h⟩ := og h
    obtain ⟨w4, ew4, h⟩ := ol h
    refine n_arrO hX hG hw (by decide +kernel) c2 c3 dJ7_copyOf_6403c_7 (fun H cn sn hw => ?_)
    have hw := hw_eq ew4 hw
    refine lv_goto (tgt := 24) hx hb dJ7_copyOf_6403c_10 (by decide) ?_
    replace h := (Option.some.inj h).symm
    exact haj16 _ _ _ _ _ _ h hw (lv_sub hl [0, 1] rfl)

set_option maxHeartbeats 4000000 in
set_option maxRecDepth 100000 in
theorem c_J7_copyOf_1904c (g : GG) (l : Launch) (hG : XG g) (hst : l.stackTraces = false) (mm : MS) (p0 : Nat) (p1 : Int32) (w : CS) (r : Nat) (w' : CS) (h : x_J7_copyOf_1904c p0 p1 w = some (r, w')) : MetG g l yJ7_copyOf_1904c wsJ7_copyOf_1904c 2 63 [rv p0, .int p1] (w, mm) (some (rv r)) (w', mm) := by
  refine g_start_a (Or.inr ⟨_, rfl⟩) (some (rv r)) (own := RJ7) (by decide +kernel) rfl rfl (by simp [lg_sl, rv_cat, ct_i, ct_l]) ?_
  intro p e s mi args below meth cd ls Q hX hnm hw hl hret
  have hl : lv_has ls 2 [(0, rv p0), (1, .int p1)] := by simpa [lv_args, rv_cat, ct_i, ct_l] using hl
  obtain ⟨⟨hx, hb, -, hown, hts⟩, -⟩ := id hX
  unfold x_J7_copyOf_1904c at h
  refine t_aload_n hx hb dJ7_copyOf_1904c_0 rfl (lv_at hl 0 rfl) ?_
  refine lv_iload_n hx hb dJ7_copyOf_1904c_1 rfl (lv_at hl 1 rfl) ?_
  refine t_aload_n hx hb dJ7_copyOf_1904c_2 rfl (lv_at hl 0 rfl) ?_
  obtain ⟨c1, h⟩ := og h
  refine c_getC hX hG hw (Or.inl c1) (by decide +kernel) (by decide +kernel) (by decide +kernel) (by decide +kernel) hl.1 ⟨by decide, by simp [rv_cat, ct_i, ct_l]⟩ dJ7_copyOf_1904c_3 ?_
  obtain ⟨v3, w4, e2, h⟩ := oc2 h
  refine g_callSa (n := 3) (As := [rv p0, .int p1, rv (wJ w 3 0)]) (rest := []) hX hw (c_J7_copyOf_6403c g l hG hst mm p0 p1 (wJ w 3 0) w v3 w4 e2) gJ7_copyOf_1904c_J7_copyOf_6403c rfl (by decide +kernel) rfl hl.1 rfl (Nat.le_of_ble_eq_true rfl) ⟨by decide, by decide⟩ dJ7_copyOf_1904c_6 (fun H lc cn sn hw => ?_)
  replace h := (Option.some.inj h).symm
  obtain ⟨rfl, rfl⟩ := Prod.mk.inj h
  exact hret _ _ _ _ _ _ _ dJ7_copyOf_1904c_9 hw rfl

set_option maxHeartbeats 4000000 in
set_option maxRecDepth 100000 in
theorem c_Jx4a65c_grow_92f84 (g : GG) (l : Launch) (hG : XG g) (hst : l.stackTraces = false) (mm : MS) (o : Nat) (p0 : Int32) (w : CS) (r : Nat) (w' : CS) (h : x_Jx4a65c_grow_92f84 o p0 w = some (r, w')) : MetG g l yJx4a65c_grow_92f84 wsJx4a65c_grow_92f84 3 84 [rv o, .int p0] (w, mm) (some (rv r)) (w', mm) := by
  refine g_start_a (Or.inr ⟨_, rfl⟩) (some (rv r)) (own := RJx4a65c) (by decide +kernel) rfl rfl (by simp [lg_sl, rv_cat, ct_i, ct_l]) ?_
  intro p e s mi args below meth cd ls Q hX hnm hw hl hret
  have hl : lv_has ls 4 [(0, rv o), (1, .int p0)] := by simpa [lv_args, rv_cat, ct_i, ct_l] using hl
  obtain ⟨⟨hx, hb, -, hown, hts⟩, -⟩ := id hX
  unfold x_Jx4a65c_grow_92f84 at h
  refine t_aload_n hx hb dJx4a65c_grow_92f84_0 rfl (lv_at hl 0 rfl) ?_
  obtain ⟨c1, h⟩ := og h
  refine c_gf (C := RJx4a65c) (TT := TJx4a65c) (N := 3) (ref := "java/util/ArrayList") (v := rv (wJ w 281 o)) hX hw (ce_7 c1) rfl 1 (by decide +kernel) (by decide) (by decide +kernel) (fun _ h9 => h9) rfl dJx4a65c_grow_92f84_1 ?_
  obtain ⟨c2, h⟩ := og h
  refine c_alenE hX hG hw c2 dJx4a65c_grow_92f84_4 ?_
  refine lv_istore_n (lv' := [(2, .int (nI (wJ w 1 (wJ w 281 o)))), (0, rv o), (1, .int p0)]) hx hb dJx4a65c_grow_92f84_5 rfl hl (by decide) rfl (fun ls hl => ?_)
  refine lv_iload_n hx hb dJx4a65c_grow_92f84_6 rfl (lv_at hl 0 rfl) ?_
  obtain ⟨aj17, h1aj17, kaj17, raj17⟩ := ol0 h
  have haj17 : ∀ (H : Heap) (lc : List Loc) (cn sn : Nat) (ls : Array Slot), aj17 = Sum.inl () → wH g s.heap.size (w, mm) H lc → lv_has ls 4 [(2, .int (nI (wJ w 1 (wJ w 281 o)))), (0, rv o), (1, .int p0)] → W p l e (rmO g 3 84 s.heap) s mi args below meth cd H lc cn sn Q (F0 mi 20 ls []) := by
    intro H lc cn sn ls h hw hl
    replace h := kaj17 h
    refine lv_iload_n hx hb dJx4a65c_grow_92f84_20 rfl (lv_at hl 0 rfl) ?_
    refine lv_iload_n hx hb dJx4a65c_grow_92f84_21 rfl (lv_at hl 2 rfl) ?_
    refine lv_iload_n hx hb dJx4a65c_grow_92f84_22 rfl (lv_at hl 0 rfl) ?_
    refine lv_isub hx hb dJx4a65c_grow_92f84_23 ?_
    refine lv_iload_n hx hb dJx4a65c_grow_92f84_24 rfl (lv_at hl 0 rfl) ?_
    refine lv_iconst (v := 1) hx hb dJx4a65c_grow_92f84_25 (by decide) ?_
    refine lv_ishr hx hb dJx4a65c_grow_92f84_26 ?_
    obtain ⟨v11, e10, h⟩ := ob h
    refine g_callSi (n := 3) (As := [.int (nI (wJ w 1 (wJ w 281 o))), .int (p0 - (nI (wJ w 1 (wJ w 281 o)))), .int ((nI (wJ w 1 (wJ w 281 o))) >>> (1 &&& 31))]) (rest := []) hX hw (c_J8_newLength_cabcc g l hG hst mm (nI (wJ w 1 (wJ w 281 o))) (p0 - (nI (wJ w 1 (wJ w 281 o)))) ((nI (wJ w 1 (wJ w 281 o))) >>> (1 &&& 31)) w v11 e10) gJx4a65c_grow_92f84_J8_newLength_cabcc rfl (by decide +kernel) rfl hl.1 rfl (Nat.le_of_ble_eq_true rfl) ⟨by decide, by decide⟩ dJx4a65c_grow_92f84_27 (fun H lc cn sn hw => ?_)
    refine lv_istore_n (lv' := [(3, .int v11), (2, .int (nI (wJ w 1 (wJ w 281 o)))), (0, rv o), (1, .int p0)]) hx hb dJx4a65c_grow_92f84_30 rfl hl (by decide) rfl (fun ls hl => ?_)
    refine t_aload_n hx hb dJx4a65c_grow_92f84_31 rfl (lv_at hl 2 rfl) ?_
    refine t_aload_n hx hb dJx4a65c_grow_92f84_32 rfl (lv_at hl 2 rfl) ?_
    refine c_gf (C := RJx4a65c) (TT := TJx4a65c) (N := 3) (ref := "java/util/ArrayList") (v := rv (wJ w 281 o)) hX hw (ce_7 c1) rfl 1 (by decide +kernel) (by decide) (by decide +kernel) (fun _ h9 => h9) rfl dJx4a65c_grow_92f84_33 ?_
    refine lv_iload_n hx hb dJx4a65c_grow_92f84_36 rfl (lv_at hl 0 rfl) ?_
    obtain ⟨v13, w14, e12, h⟩ := oc2 h
    refine g_callSa (n := 2) (As := [rv (wJ w 281 o), .int v11]) (rest := [rv o]) hX hw (c_J7_copyOf_1904c g l hG hst mm (wJ w 281 o) v11 w v13 w14 e12) gJx4a65c_grow_92f84_J7_copyOf_1904c rfl (by decide +kernel) rfl hl.1 rfl (by simp [rv_cat, ct_i, ct_l]) ⟨by decide, by decide⟩ dJx4a65c_grow_92f84_37 (fun H lc cn sn hw => ?_)
    refine lv_dup_x1 hx hb dJx4a65c_grow_92f84_40 (rv_cat _) (rv_cat _) ?_
    obtain ⟨c15, h⟩ := og h
    obtain ⟨w16, ew16, h⟩ := ol h
    refine p_7_1 hX hw c15 (by decide +kernel) (by decide +kernel) dJx4a65c_grow_92f84_41 (fun H lc hw => ?_)
    have hw := hw_eq ew16 hw
    replace h := (Option.some.inj h).symm
    obtain ⟨rfl, rfl⟩ := Prod.mk.inj h
    exact hret _ _ _ _ _ _ _ dJx4a65c_grow_92f84_44 hw rfl
  replace h := h1aj17
  refine lv_if_gt (tgt := 20) hx hb dJx4a65c_grow_92f84_7 (by decide) (fun c3 => ?_) (fun c3 => ?_)
  · replace h := ot c3 h
    replace h := (Option.some.inj h).symm
    exact haj17 _ _ _ _ _ h hw (lv_sub hl [0, 1, 2] rfl)
  · replace h := oe c3 h
    refine t_aload_n hx hb dJx4a65c_grow_92f84_10 rfl (lv_at hl 1 rfl) ?_
    refine c_gf (C := RJx4a65c) (TT := TJx4a65c) (N := 3) (ref := "java/util/ArrayList") (v := rv (wJ w 281 o)) hX hw (ce_7 c1) rfl 1 (by decide +kernel) (by decide) (by decide +kernel) (fun _ h9 => h9) rfl dJx4a65c_grow_92f84_11 ?_
    refine c_gsE hX hG hw (ref := "java/util/ArrayList") (by decide +kernel) rfl dJx4a65c_grow_92f84_14 ?_
    refine t_acmp_eq (tgt := 45) hx hb dJx4a65c_grow_92f84_17 (by decide) (fun c4 => ?_) (fun c4 => ?_)
    · replace h := ot c4 h
      refine t_aload_n hx hb dJx4a65c_grow_92f84_45 rfl (lv_at hl 1 rfl) ?_
      refine lv_bipush (v := 10) hx hb dJx4a65c_grow_92f84_46 (by decide) ?_
      refine lv_iload_n hx hb dJx4a65c_grow_92f84_48 rfl (lv_at hl 2 rfl) ?_
      refine c_max (z := 0) hX hw (by decide +kernel) (by decide +kernel) (by decide +kernel) (by decide +kernel) hl.1 ⟨by decide, by simp [rv_cat, ct_i, ct_l]⟩ dJx4a65c_grow_92f84_49 (fun cn sn => ?_)
      obtain ⟨c5, h⟩ := og h
      obtain ⟨c6, h⟩ := og h
      obtain ⟨w7, ew7, h⟩ := ol h
      refine n_arrO hX hG hw (by decide +kernel) c5 c6 dJx4a65c_grow_92f84_52 (fun H cn sn hw => ?_)
      have hw := hw_eq ew7 hw
      refine lv_dup_x1 hx hb dJx4a65c_grow_92f84_55 (rv_cat _) (rv_cat _) ?_
      obtain ⟨c8, h⟩ := og h
      obtain ⟨w9, ew9, h⟩ := ol h
      refine p_7_1 hX hw c8 (by decide +kernel) (by decide +kernel) dJx4a65c_grow_92f84_56 (fun H lc hw => ?_)
      have hw := hw_eq ew9 hw
      replace h := (Option.some.inj h).symm
      replace h := raj17 _ h
      obtain ⟨rfl, rfl⟩ := Prod.mk.inj h
      exact hret _ _ _ _ _ _ _ dJx4a65c_grow_92f84_59 hw rfl
    · replace h := oe c4 h
      replace h := (Option.some.inj h).symm
      exact haj17 _ _ _ _ _ h hw (lv_sub hl [0, 1, 2] rfl)

set_option maxHeartbeats 4000000 in
set_option maxRecDepth 100000 in
theorem c_Jx4a65c_grow_d5877 (g : GG) (l : Launch) (hG : XG g) (hst : l.stackTraces = false) (mm : MS) (o : Nat) (w : CS) (r : Nat) (w' : CS) (h : x_Jx4a65c_grow_d5877 o w = some (r, w')) : MetG g l yJx4a65c_grow_d5877 wsJx4a65c_grow_d5877 4 107 [rv o] (w, mm) (some (rv r)) (w', mm) := by
  refine g_start_a (Or.inr ⟨_, rfl⟩) (some (rv r)) (own := RJx4a65c) (by decide +kernel) rfl rfl (by simp [lg_sl, rv_cat, ct_i, ct_l]) ?_
  intro p e s mi args below meth cd ls Q hX hnm hw hl hret
  have hl : lv_has ls 1 [(0, rv o)] := by simpa [lv_args, rv_cat, ct_i, ct_l] using hl
  obtain ⟨⟨hx, hb, -, hown, hts⟩, -⟩ := id hX
  unfold x_Jx4a65c_grow_d5877 at h
  refine t_aload_n hx hb dJx4a65c_grow_d5877_0 rfl (lv_at hl 0 rfl) ?_
  refine t_aload_n hx hb dJx4a65c_grow_d5877_1 rfl (lv_at hl 0 rfl) ?_
  obtain ⟨c1, h⟩ := og h
  refine c_gf (C := RJx4a65c) (TT := TJx4a65c) (N := 3) (ref := "java/util/ArrayList") (v := .int (wI w 282 o)) hX hw (ce_7 c1) rfl 2 (by decide +kernel) (by decide) (by decide +kernel) (fun _ h9 => h9) rfl dJx4a65c_grow_d5877_2 ?_
  refine lv_iconst (v := 1) hx hb dJx4a65c_grow_d5877_5 (by decide) ?_
  refine lv_iadd hx hb dJx4a65c_grow_d5877_6 ?_
  obtain ⟨v3, w4, e2, h⟩ := oc2 h
  refine g_callVa (n := 1) (As := [.int ((wI w 282 o) + 1)]) (rest := []) hX hw (c_Jx4a65c_grow_92f84 g l hG hst mm o ((wI w 282 o) + 1) w v3 w4 e2) gJx4a65c_grow_d5877_Jx4a65c_grow_92f84 rfl (by decide +kernel) rfl (x_nz hw c1) (c_recv hX hw (ce_7 c1) rfl) hl.1 rfl (Nat.le_of_ble_eq_true rfl) ⟨by decide, by decide⟩ dJx4a65c_grow_d5877_7 (fun H lc cn sn hw => ?_)
  replace h := (Option.some.inj h).symm
  obtain ⟨rfl, rfl⟩ := Prod.mk.inj h
  exact hret _ _ _ _ _ _ _ dJx4a65c_grow_d5877_10 hw rfl

set_option maxHeartbeats 4000000 in
set_option maxRecDepth 100000 in
theorem c_Jx4a65c_add_72be8 (g : GG) (l : Launch) (hG : XG g) (hst : l.stackTraces = false) (mm : MS) (o : Nat) (p0 : Nat) (p1 : Nat) (p2 : Int32) (w : CS) (w' : CS) (h : x_Jx4a65c_add_72be8 o p0 p1 p2 w = some w') : MetG g l yJx4a65c_add_72be8 wsJx4a65c_add_72be8 5 127 [rv o, rv p0, rv p1, .int p2] (w, mm) (none) (w', mm) := by
  refine g_start_v (none) (own := RJx4a65c) (by decide +kernel) rfl rfl (by simp [lg_sl, rv_cat, ct_i, ct_l]) ?_
  intro p e s mi args below meth cd ls Q hX hnm hw hl hret
  have hl : lv_has ls 4 [(0, rv o), (1, rv p0), (2, rv p1), (3, .int p2)] := by simpa [lv_args, rv_cat, ct_i, ct_l] using hl
  obtain ⟨⟨hx, hb, -, hown, hts⟩, -⟩ := id hX
  unfold x_Jx4a65c_add_72be8 at h
  refine lv_iload_n hx hb dJx4a65c_add_72be8_0 rfl (lv_at hl 3 rfl) ?_
  refine t_aload_n hx hb dJx4a65c_add_72be8_1 rfl (lv_at hl 2 rfl) ?_
  obtain ⟨c1, h⟩ := og h
  refine c_alenE hX hG hw c1 dJx4a65c_add_72be8_2 ?_
  obtain ⟨aj15, h1aj15, kaj15⟩ := ob2 h
  have haj15 : ∀ (v7 : Nat) (w8 : CS) (H : Heap) (lc : List Loc) (cn sn : Nat) (ls : Array Slot), aj15 = (v7, w8) → wH g s.heap.size (w8, mm) H lc → lv_has ls 4 [(0, rv o), (1, rv p0), (2, rv v7), (3, .int p2)] → W p l e (rmO g 5 127 s.heap) s mi args below meth cd H lc cn sn Q (F0 mi 11 ls []) := by
    intro v7 w8 H lc cn sn ls h hw hl
    replace h := kaj15 _ _ h
    refine t_aload_n hx hb dJx4a65c_add_72be8_11 rfl (lv_at hl 2 rfl) ?_
    refine lv_iload_n hx hb dJx4a65c_add_72be8_12 rfl (lv_at hl 3 rfl) ?_
    refine t_aload_n hx hb dJx4a65c_add_72be8_13 rfl (lv_at hl 1 rfl) ?_
    obtain ⟨c9, h⟩ := og h
    obtain ⟨c10, h⟩ := og h
    obtain ⟨c11, h⟩ := og h
    obtain ⟨w12, ew12, h⟩ := ol h
    refine c_ast hX hw 4 (ae_12 c9) (ae_12 c9) (by rw [c9]; decide) rfl c10 (c_anyO hX hG hw c11) dJx4a65c_add_72be8_14 (fun H lc hw => ?_)
    have hw := hw_eq ew12 hw
    refine t_aload_n hx hb dJx4a65c_add_72be8_15 rfl (lv_at hl 0 rfl) ?_
    refine lv_iload_n hx hb dJx4a65c_add_72be8_16 rfl (lv_at hl 3 rfl) ?_
    refine lv_iconst (v := 1) hx hb dJx4a65c_add_72be8_17 (by decide) ?_
    refine lv_iadd hx hb dJx4a65c_add_72be8_18 ?_
    obtain ⟨c13, h⟩ := og h
    obtain ⟨w14, ew14, h⟩ := ol h
    refine p_7_2 hX hw c13 (by decide +kernel) (by decide +kernel) dJx4a65c_add_72be8_19 (fun H lc hw => ?_)
    have hw := hw_eq ew14 hw
    replace h := (Option.some.inj h).symm
    subst h
    exact hret _ _ _ _ _ _ dJx4a65c_add_72be8_22 hw rfl
  replace h := h1aj15
  refine lv_icmp_ne (tgt := 11) hx hb dJx4a65c_add_72be8_3 (by decide) (fun c2 => ?_) (fun c2 => ?_)
  · replace h := oe c2 h
    replace h := (Option.some.inj h).symm
    exact haj15 _ _ _ _ _ _ _ h hw (lv_sub hl [0, 1, 2, 3] rfl)
  · replace h := ot c2 h
    refine t_aload_n hx hb dJx4a65c_add_72be8_6 rfl (lv_at hl 0 rfl) ?_
    obtain ⟨c3, h⟩ := og h
    obtain ⟨v5, w6, e4, h⟩ := oc2 h
    refine g_callVa (n := 0) (As := []) (rest := []) hX hw (c_Jx4a65c_grow_d5877 g l hG hst mm o w v5 w6 e4) gJx4a65c_add_72be8_Jx4a65c_grow_d5877 rfl (by decide +kernel) rfl (x_nz hw c3) (c_recv hX hw (ce_7 c3) rfl) hl.1 rfl (Nat.le_of_ble_eq_true rfl) ⟨by decide, by decide⟩ dJx4a65c_add_72be8_7 (fun H lc cn sn hw => ?_)
    refine t_astore_n (lv' := [(2, rv v5), (0, rv o), (1, rv p0), (3, .int p2)]) hx hb dJx4a65c_add_72be8_10 rfl hl (by decide) (by simp [rv_cat, ct_i, ct_l] <;> decide) (fun ls hl => ?_)
    replace h := (Option.some.inj h).symm
    exact haj15 _ _ _ _ _ _ _ h hw (lv_sub hl [1, 2, 0, 3] rfl)

set_option maxHeartbeats 4000000 in
set_option maxRecDepth 100000 in
theorem c_Jx4a65c_add_9ea2d (g : GG) (l : Launch) (hG : XG g) (hst : l.stackTraces = false) (mm : MS) (o : Nat) (p0 : Nat) (w : CS) (r : Int32) (w' : CS) (h : x_Jx4a65c_add_9ea2d o p0 w = some (r, w')) : MetG g l yJx4a65c_add_9ea2d wsJx4a65c_add_9ea2d 6 150 [rv o, rv p0] (w, mm) (some (.int r)) (w', mm) := by
  refine g_start_z (some (.int r)) (own := RJx4a65c) (by decide +kernel) rfl rfl (by simp [lg_sl, rv_cat, ct_i, ct_l]) ?_
  intro p e s mi args below meth cd ls Q hX hnm hw hl hret
  have hl : lv_has ls 2 [(0, rv o), (1, rv p0)] := by simpa [lv_args, rv_cat, ct_i, ct_l] using hl
  obtain ⟨⟨hx, hb, -, hown, hts⟩, -⟩ := id hX
  unfold x_Jx4a65c_add_9ea2d at h
  refine t_aload_n hx hb dJx4a65c_add_9ea2d_0 rfl (lv_at hl 0 rfl) ?_
  refine lv_dup hx hb dJx4a65c_add_9ea2d_1 (rv_cat _) ?_
  obtain ⟨c1, h⟩ := og h
  refine c_gf (C := RJx4a65c) (TT := TJx4a65c) (N := 3) (ref := "java/util/ArrayList") (v := .int (wI w 280 o)) hX hw (ce_7 c1) rfl 0 (by decide +kernel) (by decide) (by decide +kernel) (u_same (hts (.sameField "java/util/ArrayList" "java/util/AbstractList" "modCount" "I") (by decide +kernel))) rfl dJx4a65c_add_9ea2d_2 ?_
  refine lv_iconst (v := 1) hx hb dJx4a65c_add_9ea2d_5 (by decide) ?_
  refine lv_iadd hx hb dJx4a65c_add_9ea2d_6 ?_
  obtain ⟨w2, ew2, h⟩ := ol h
  refine p_7_0 hX hw c1 (u_same (hts (.sameField "java/util/ArrayList" "java/util/AbstractList" "modCount" "I") (by decide +kernel))) (by decide +kernel) (by decide +kernel) dJx4a65c_add_9ea2d_7 (fun H lc hw => ?_)
  have hw := hw_eq ew2 hw
  refine t_aload_n hx hb dJx4a65c_add_9ea2d_10 rfl (lv_at hl 0 rfl) ?_
  refine t_aload_n hx hb dJx4a65c_add_9ea2d_11 rfl (lv_at hl 1 rfl) ?_
  refine t_aload_n hx hb dJx4a65c_add_9ea2d_12 rfl (lv_at hl 0 rfl) ?_
  obtain ⟨c3, h⟩ := og h
  refine c_gf (C := RJx4a65c) (TT := TJx4a65c) (N := 3) (ref := "java/util/ArrayList") (v := rv (wJ w2 281 o)) hX hw (ce_7 c3) rfl 1 (by decide +kernel) (by decide) (by decide +kernel) (fun _ h9 => h9) rfl dJx4a65c_add_9ea2d_13 ?_
  refine t_aload_n hx hb dJx4a65c_add_9ea2d_16 rfl (lv_at hl 0 rfl) ?_
  refine c_gf (C := RJx4a65c) (TT := TJx4a65c) (N := 3) (ref := "java/util/ArrayList") (v := .int (wI w2 282 o)) hX hw (ce_7 c3) rfl 2 (by decide +kernel) (by decide) (by decide +kernel) (fun _ h9 => h9) rfl dJx4a65c_add_9ea2d_17 ?_
  obtain ⟨w5, e4, h⟩ := ob h
  refine g_callVv (n := 3) (As := [rv p0, rv (wJ w2 281 o), .int (wI w2 282 o)]) (rest := []) hX hw (c_Jx4a65c_add_72be8 g l hG hst mm o p0 (wJ w2 281 o) (wI w2 282 o) w2 w5 e4) gJx4a65c_add_9ea2d_Jx4a65c_add_72be8 rfl (by decide +kernel) rfl (x_nz hw c3) (c_recv hX hw (ce_7 c3) rfl) hl.1 rfl (Nat.le_of_ble_eq_true rfl) ⟨by decide, by decide⟩ dJx4a65c_add_9ea2d_20 (fun H lc cn sn hw => ?_)
  refine lv_iconst (v := 1) hx hb dJx4a65c_add_9ea2d_23 (by decide) ?_
  obtain ⟨c6, h⟩ := og h
  replace h := (Option.some.inj h).symm
  obtain ⟨rfl, rfl⟩ := Prod.mk.inj h
  exact hret _ _ _ _ _ _ _ dJx4a65c_add_9ea2d_24 c6 hw rfl

set_option maxHeartbeats 4000000 in
set_option maxRecDepth 100000 in
theorem c_Jx4a65c_set_bcc79 (g : GG) (l : Launch) (hG : XG g) (hst : l.stackTraces = false) (mm : MS) (o : Nat) (p0 : Int32) (p1 : Nat) (w : CS) (r : Nat) (w' : CS) (h : x_Jx4a65c_set_bcc79 o p0 p1 w = some (r, w')) : MetG g l yJx4a65c_set_bcc79 wsJx4a65c_set_bcc79 2 43 [rv o, .int p0, rv p1] (w, mm) (some (rv r)) (w', mm) := by
  refine g_start_a (Or.inl ⟨_, rfl⟩) (some (rv r)) (own := RJx4a65c) (by decide +kernel) rfl rfl (by simp [lg_sl, rv_cat, ct_i, ct_l]) ?_
  intro p e s mi args below meth cd ls Q hX hnm hw hl hret
  have hl : lv_has ls 4 [(0, rv o), (1, .int p0), (2, rv p1)] := by simpa [lv_args, rv_cat, ct_i, ct_l] using hl
  obtain ⟨⟨hx, hb, -, hown, hts⟩, -⟩ := id hX
  unfold x_Jx4a65c_set_bcc79 at h
  refine lv_iload_n hx hb dJx4a65c_set_bcc79_0 rfl (lv_at hl 1 rfl) ?_
  refine t_aload_n hx hb dJx4a65c_set_bcc79_1 rfl (lv_at hl 0 rfl) ?_
  obtain ⟨c1, h⟩ := og h
  refine c_gf (C := RJx4a65c) (TT := TJx4a65c) (N := 3) (ref := "java/util/ArrayList") (v := .int (wI w 282 o)) hX hw (ce_7 c1) rfl 2 (by decide +kernel) (by decide) (by decide +kernel) (fun _ h9 => h9) rfl dJx4a65c_set_bcc79_2 ?_
  obtain ⟨v3, e2, h⟩ := ob h
  refine g_callSi (n := 2) (As := [.int p0, .int (wI w 282 o)]) (rest := []) hX hw (c_J15_checkIndex_7cf53 g l hG hst mm p0 (wI w 282 o) w v3 e2) gJx4a65c_set_bcc79_J15_checkIndex_7cf53 rfl (by decide +kernel) rfl hl.1 rfl (Nat.le_of_ble_eq_true rfl) ⟨by decide, by decide⟩ dJx4a65c_set_bcc79_5 (fun H lc cn sn hw => ?_)
  refine lv_pop hx hb dJx4a65c_set_bcc79_8 rfl ?_
  refine t_aload_n hx hb dJx4a65c_set_bcc79_9 rfl (lv_at hl 0 rfl) ?_
  refine lv_iload_n hx hb dJx4a65c_set_bcc79_10 rfl (lv_at hl 1 rfl) ?_
  obtain ⟨v5, e4, h⟩ := ob h
  refine g_callVa (n := 1) (As := [.int p0]) (rest := []) hX hw (c_Jx4a65c_elementData_915e3 g l hG hst mm o p0 w v5 e4) gJx4a65c_set_bcc79_Jx4a65c_elementData_915e3 rfl (by decide +kernel) rfl (x_nz hw c1) (c_recv hX hw (ce_7 c1) rfl) hl.1 rfl (Nat.le_of_ble_eq_true rfl) ⟨by decide, by decide⟩ dJx4a65c_set_bcc79_11 (fun H lc cn sn hw => ?_)
  refine t_astore_n (lv' := [(3, rv v5), (0, rv o), (1, .int p0), (2, rv p1)]) hx hb dJx4a65c_set_bcc79_14 rfl hl (by decide) (by simp [rv_cat, ct_i, ct_l] <;> decide) (fun ls hl => ?_)
  refine t_aload_n hx hb dJx4a65c_set_bcc79_15 rfl (lv_at hl 1 rfl) ?_
  refine c_gf (C := RJx4a65c) (TT := TJx4a65c) (N := 3) (ref := "java/util/ArrayList") (v := rv (wJ w 281 o)) hX hw (ce_7 c1) rfl 1 (by decide +kernel) (by decide) (by decide +kernel) (fun _ h9 => h9) rfl dJx4a65c_set_bcc79_16 ?_
  refine lv_iload_n hx hb dJx4a65c_set_bcc79_19 rfl (lv_at hl 2 rfl) ?_
  refine t_aload_n hx hb dJx4a65c_set_bcc79_20 rfl (lv_at hl 3 rfl) ?_
  obtain ⟨c6, h⟩ := og h
  obtain ⟨c7, h⟩ := og h
  obtain ⟨c8, h⟩ := og h
  obtain ⟨w9, ew9, h⟩ := ol h
  refine c_ast hX hw 4 (ae_12 c6) (ae_12 c6) (by rw [c6]; decide) rfl c7 (c_anyO hX hG hw c8) dJx4a65c_set_bcc79_21 (fun H lc hw => ?_)
  have hw := hw_eq ew9 hw
  refine t_aload_n hx hb dJx4a65c_set_bcc79_22 rfl (lv_at hl 0 rfl) ?_
  replace h := (Option.some.inj h).symm
  obtain ⟨rfl, rfl⟩ := Prod.mk.inj h
  exact hret _ _ _ _ _ _ _ dJx4a65c_set_bcc79_23 hw rfl

set_option maxHeartbeats 4000000 in
set_option maxRecDepth 100000 in
theorem c_Jx4a65c_clear_da8c8 (g : GG) (l : Launch) (hG : XG g) (hst : l.stackTraces = false) (mm : MS) (o : Nat) (w : CS) (w' : CS) (h : x_Jx4a65c_clear_da8c8 o w = some w') : MetG g l yJx4a65c_clear_da8c8 wsJx4a65c_clear_da8c8 0 0 [rv o] (w, mm) (none) (w', mm) := by
  refine g_start_v (none) (own := RJx4a65c) (by decide +kernel) rfl rfl (by simp [lg_sl, rv_cat, ct_i, ct_l]) ?_
  intro p e s mi args below meth cd ls Q hX hnm hw hl hret
  have hl : lv_has ls 4 [(0, rv o)] := by simpa [lv_args, rv_cat, ct_i, ct_l] using hl
  obtain ⟨⟨hx, hb, -, hown, hts⟩, -⟩ := id hX
  unfold x_Jx4a65c_clear_da8c8 at h
  refine t_aload_n hx hb dJx4a65c_clear_da8c8_0 rfl (lv_at hl 0 rfl) ?_
  refine lv_dup hx hb dJx4a65c_clear_da8c8_1 (rv_cat _) ?_
  obtain ⟨c1, h⟩ := og h
  refine c_gf (C := RJx4a65c) (TT := TJx4a65c) (N := 3) (ref := "java/util/ArrayList") (v := .int (wI w 280 o)) hX hw (ce_7 c1) rfl 0 (by decide +kernel) (by decide) (by decide +kernel) (u_same (hts (.sameField "java/util/ArrayList" "java/util/AbstractList" "modCount" "I") (by decide +kernel))) rfl dJx4a65c_clear_da8c8_2 ?_
  refine lv_iconst (v := 1) hx hb dJx4a65c_clear_da8c8_5 (by decide) ?_
  refine lv_iadd hx hb dJx4a65c_clear_da8c8_6 ?_
  obtain ⟨w2, ew2, h⟩ := ol h
  refine p_7_0 hX hw c1 (u_same (hts (.sameField "java/util/ArrayList" "java/util/AbstractList" "modCount" "I") (by decide +kernel))) (by decide +kernel) (by decide +kernel) dJx4a65c_clear_da8c8_7 (fun H lc hw => ?_)
  have hw := hw_eq ew2 hw
  refine t_aload_n hx hb dJx4a65c_clear_da8c8_10 rfl (lv_at hl 0 rfl) ?_
  obtain ⟨c3, h⟩ := og h
  refine c_gf (C := RJx4a65c) (TT := TJx4a65c) (N := 3) (ref := "java/util/ArrayList") (v := rv (wJ w2 281 o)) hX hw (ce_7 c3) rfl 1 (by decide +kernel) (by decide) (by decide +kernel) (fun _ h9 => h9) rfl dJx4a65c_clear_da8c8_11 ?_
  refine t_astore_n (lv' := [(1, rv (wJ w2 281 o)), (0, rv o)]) hx hb dJx4a65c_clear_da8c8_14 rfl hl (by decide) (by simp [rv_cat, ct_i, ct_l] <;> decide) (fun ls hl => ?_)
  refine t_aload_n hx hb dJx4a65c_clear_da8c8_15 rfl (lv_at hl 1 rfl) ?_
  refine c_gf (C := RJx4a65c) (TT := TJx4a65c) (N := 3) (ref := "java/util/ArrayList") (v := .int (wI w2 282 o)) hX hw (ce_7 c3) rfl 2 (by decide +kernel) (by decide) (by decide +kernel) (fun _ h9 => h9) rfl dJx4a65c_clear_da8c8_16 ?_
  refine lv_istore_n (lv' := [(2, .int (wI w2 282 o)), (1, rv (wJ w2 281 o)), (0, rv o)]) hx hb dJx4a65c_clear_da8c8_19 rfl hl (by decide) (by simp [rv_cat, ct_i, ct_l] <;> decide) (fun ls hl => ?_)
  refine t_aload_n hx hb dJx4a65c_clear_da8c8_20 rfl (lv_at hl 2 rfl) ?_
  refine lv_iconst (v := 0) hx hb dJx4a65c_clear_da8c8_21 (by decide) ?_
  refine lv_dup_x1 hx hb dJx4a65c_clear_da8c8_22 rfl (rv_cat _) ?_
  obtain ⟨w4, ew4, h⟩ := ol h
  refine p_7_2 hX hw c3 (by decide +kernel) (by decide +kernel) dJx4a65c_clear_da8c8_23 (fun H lc hw => ?_)
  have hw := hw_eq ew4 hw
  refine lv_istore_n (lv' := [(3, .int 0), (2, .int (wI w2 282 o)), (1, rv (wJ w2 281 o)), (0, rv o)]) hx hb dJx4a65c_clear_da8c8_26 rfl hl (by decide) rfl (fun ls hl => ?_)
  obtain ⟨aj12, h1aj12, kaj12⟩ := ob1 h
  have haj12 : ∀ (w11 : CS) (H : Heap) (lc : List Loc) (cn sn : Nat) (ls : Array Slot), aj12 = w11 → wH g s.heap.size (w11, mm) H lc → lv_has ls 4 [] → W p l e (rmO g 0 0 s.heap) s mi args below meth cd H lc cn sn Q (F0 mi 42 ls []) := by
    intro w11 H lc cn sn ls h hw hl
    replace h := kaj12 _ h
    replace h := (Option.some.inj h).symm
    subst h
    exact hret _ _ _ _ _ _ dJx4a65c_clear_da8c8_42 hw rfl
  have hkj12 : ∀ (n : Nat) (v5 : Int32) (w6 : CS) (H : Heap) (lc : List Loc) (cn sn : Nat) (ls : Array Slot), x_Jx4a65c_clear_da8c8_L1 o w2 n v5 w6 = some aj12 → wH g s.heap.size (w6, mm) H lc → lv_has ls 4 [(3, .int v5), (2, .int (wI w2 282 o)), (1, rv (wJ w2 281 o))] → W p l e (rmO g 0 0 s.heap) s mi args below meth cd H lc cn sn Q (F0 mi 27 ls []) := by
    intro n
    induction n with
    | zero =>
      intro v5 w6 H lc cn sn ls h
      rw [x_Jx4a65c_clear_da8c8_L1] at h
      cases h
    | succ n ih =>
      intro v5 w6 H lc cn sn ls h hw hl
      rw [x_Jx4a65c_clear_da8c8_L1] at h
      refine lv_iload_n hx hb dJx4a65c_clear_da8c8_27 rfl (lv_at hl 0 rfl) ?_
      refine lv_iload_n hx hb dJx4a65c_clear_da8c8_28 rfl (lv_at hl 1 rfl) ?_
      refine lv_icmp_ge (tgt := 42) hx hb dJx4a65c_clear_da8c8_29 (by decide) (fun c7 => ?_) (fun c7 => ?_)
      · replace h := ot c7 h
        replace h := (Option.some.inj h).symm
        exact haj12 _ _ _ _ _ _ h hw (lv_sub hl [] rfl)
      · replace h := oe c7 h
        refine t_aload_n hx hb dJx4a65c_clear_da8c8_32 rfl (lv_at hl 2 rfl) ?_
        refine lv_iload_n hx hb dJx4a65c_clear_da8c8_33 rfl (lv_at hl 0 rfl) ?_
        refine t_null hx hb dJx4a65c_clear_da8c8_34 ?_
        obtain ⟨c8, h⟩ := og h
        obtain ⟨c9, h⟩ := og h
        obtain ⟨w10, ew10, h⟩ := ol h
        refine c_ast hX hw 4 (ae_12 c8) (ae_12 c8) (by rw [c8]; decide) rfl c9 (Or.inl rfl) dJx4a65c_clear_da8c8_35 (fun H lc hw => ?_)
        have hw := hw_eq ew10 hw
        refine lv_iinc (v := (v5 + 1)) (lv' := [(3, .int (v5 + 1)), (2, .int (wI w2 282 o)), (1, rv (wJ w2 281 o))]) hx hb dJx4a65c_clear_da8c8_36 hl (k := 0) rfl (by rfl) (by decide) rfl (fun ls hl => ?_)
        refine lv_goto (tgt := 27) hx hb dJx4a65c_clear_da8c8_39 (by decide) ?_
        exact ih _ _ _ _ _ _ _ h hw (lv_sub hl [0, 1, 2] rfl)
  exact hkj12 FU 0 w4 _ _ _ _ _ h1aj12 hw (lv_sub hl [0, 1, 2] rfl)

set_option maxHeartbeats 4000000 in
set_option maxRecDepth 100000 in
theorem c_Jx4a65c_fastRemove_b59b0 (g : GG) (l : Launch) (hG : XG g) (hst : l.stackTraces = false) (mm : MS) (o : Nat) (p0 : Nat) (p1 : Int32) (w : CS) (w' : CS) (h : x_Jx4a65c_fastRemove_b59b0 o p0 p1 w = some w') : MetG g l yJx4a65c_fastRemove_b59b0 wsJx4a65c_fastRemove_b59b0 1 40 [rv o, rv p0, .int p1] (w, mm) (none) (w', mm) := by
  refine g_start_v (none) (own := RJx4a65c) (by decide +kernel) rfl rfl (by simp [lg_sl, rv_cat, ct_i, ct_l]) ?_
  intro p e s mi args below meth cd ls Q hX hnm hw hl hret
  have hl : lv_has ls 4 [(0, rv o), (1, rv p0), (2, .int p1)] := by simpa [lv_args, rv_cat, ct_i, ct_l] using hl
  obtain ⟨⟨hx, hb, -, hown, hts⟩, -⟩ := id hX
  unfold x_Jx4a65c_fastRemove_b59b0 at h
  refine t_aload_n hx hb dJx4a65c_fastRemove_b59b0_0 rfl (lv_at hl 0 rfl) ?_
  refine lv_dup hx hb dJx4a65c_fastRemove_b59b0_1 (rv_cat _) ?_
  obtain ⟨c1, h⟩ := og h
  refine c_gf (C := RJx4a65c) (TT := TJx4a65c) (N := 3) (ref := "java/util/ArrayList") (v := .int (wI w 280 o)) hX hw (ce_7 c1) rfl 0 (by decide +kernel) (by decide) (by decide +kernel) (u_same (hts (.sameField "java/util/ArrayList" "java/util/AbstractList" "modCount" "I") (by decide +kernel))) rfl dJx4a65c_fastRemove_b59b0_2 ?_
  refine lv_iconst (v := 1) hx hb dJx4a65c_fastRemove_b59b0_5 (by decide) ?_
  refine lv_iadd hx hb dJx4a65c_fastRemove_b59b0_6 ?_
  obtain ⟨w2, ew2, h⟩ := ol h
  refine p_7_0 hX hw c1 (u_same (hts (.sameField "java/util/ArrayList" "java/util/AbstractList" "modCount" "I") (by decide +kernel))) (by decide +kernel) (by decide +kernel) dJx4a65c_fastRemove_b59b0_7 (fun H lc hw => ?_)
  have hw := hw_eq ew2 hw
  refine t_aload_n hx hb dJx4a65c_fastRemove_b59b0_10 rfl (lv_at hl 0 rfl) ?_
  obtain ⟨c3, h⟩ := og h
  refine c_gf (C := RJx4a65c) (TT := TJx4a65c) (N := 3) (ref := "java/util/ArrayList") (v := .int (wI w2 282 o)) hX hw (ce_7 c3) rfl 2 (by decide +kernel) (by decide) (by decide +kernel) (fun _ h9 => h9) rfl dJx4a65c_fastRemove_b59b0_11 ?_
  refine lv_iconst (v := 1) hx hb dJx4a65c_fastRemove_b59b0_14 (by decide) ?_
  refine lv_isub hx hb dJx4a65c_fastRemove_b59b0_15 ?_
  refine lv_dup hx hb dJx4a65c_fastRemove_b59b0_16 rfl ?_
  refine lv_istore_n (lv' := [(3, .int ((wI w2 282 o) - 1)), (0, rv o), (1, rv p0), (2, .int p1)]) hx hb dJx4a65c_fastRemove_b59b0_17 rfl hl (by decide) rfl (fun ls hl => ?_)
  refine lv_iload_n hx hb dJx4a65c_fastRemove_b59b0_18 rfl (lv_at hl 3 rfl) ?_
  obtain ⟨aj19, h1aj19, kaj19⟩ := ob1 h
  have haj19 : ∀ (w13 : CS) (H : Heap) (lc : List Loc) (cn sn : Nat) (ls : Array Slot), aj19 = w13 → wH g s.heap.size (w13, mm) H lc → lv_has ls 4 [(3, .int ((wI w2 282 o) - 1)), (0, rv o), (1, rv p0)] → W p l e (rmO g 1 40 s.heap) s mi args below meth cd H lc cn sn Q (F0 mi 34 ls []) := by
    intro w13 H lc cn sn ls h hw hl
    replace h := kaj19 _ h
    refine t_aload_n hx hb dJx4a65c_fastRemove_b59b0_34 rfl (lv_at hl 2 rfl) ?_
    refine t_aload_n hx hb dJx4a65c_fastRemove_b59b0_35 rfl (lv_at hl 1 rfl) ?_
    refine lv_iload_n hx hb dJx4a65c_fastRemove_b59b0_36 rfl (lv_at hl 0 rfl) ?_
    refine lv_dup_x1 hx hb dJx4a65c_fastRemove_b59b0_37 rfl (rv_cat _) ?_
    obtain ⟨c14, h⟩ := og h
    obtain ⟨w15, ew15, h⟩ := ol h
    refine p_7_2 hX hw c14 (by decide +kernel) (by decide +kernel) dJx4a65c_fastRemove_b59b0_38 (fun H lc hw => ?_)
    have hw := hw_eq ew15 hw
    refine t_null hx hb dJx4a65c_fastRemove_b59b0_41 ?_
    obtain ⟨c16, h⟩ := og h
    obtain ⟨c17, h⟩ := og h
    obtain ⟨w18, ew18, h⟩ := ol h
    refine c_ast hX hw 4 (ae_12 c16) (ae_12 c16) (by rw [c16]; decide) rfl c17 (Or.inl rfl) dJx4a65c_fastRemove_b59b0_42 (fun H lc hw => ?_)
    have hw := hw_eq ew18 hw
    replace h := (Option.some.inj h).symm
    subst h
    exact hret _ _ _ _ _ _ dJx4a65c_fastRemove_b59b0_43 hw rfl
  replace h := h1aj19
  refine lv_icmp_le (tgt := 34) hx hb dJx4a65c_fastRemove_b59b0_19 (by decide) (fun c4 => ?_) (fun c4 => ?_)
  · replace h := ot c4 h
    replace h := (Option.some.inj h).symm
    exact haj19 _ _ _ _ _ _ h hw (lv_sub hl [0, 1, 2] rfl)
  · replace h := oe c4 h
    refine t_aload_n hx hb dJx4a65c_fastRemove_b59b0_22 rfl (lv_at hl 2 rfl) ?_
    refine lv_iload_n hx hb dJx4a65c_fastRemove_b59b0_23 rfl (lv_at hl 3 rfl) ?_
    refine lv_iconst (v := 1) hx hb dJx4a65c_fastRemove_b59b0_24 (by decide) ?_
    refine lv_iadd hx hb dJx4a65c_fastRemove_b59b0_25 ?_
    refine t_aload_n hx hb dJx4a65c_fastRemove_b59b0_26 rfl (lv_at hl 2 rfl) ?_
    refine lv_iload_n hx hb dJx4a65c_fastRemove_b59b0_27 rfl (lv_at hl 3 rfl) ?_
    refine lv_iload_n hx hb dJx4a65c_fastRemove_b59b0_28 rfl (lv_at hl 0 rfl) ?_
    refine lv_iload_n hx hb dJx4a65c_fastRemove_b59b0_29 rfl (lv_at hl 3 rfl) ?_
    refine lv_isub hx hb dJx4a65c_fastRemove_b59b0_30 ?_
    obtain ⟨c5, h⟩ := og h
    obtain ⟨c6, h⟩ := og h
    obtain ⟨c7, h⟩ := og h
    obtain ⟨c8, h⟩ := og h
    obtain ⟨c9, h⟩ := og h
    obtain ⟨c10, h⟩ := og h
    obtain ⟨c11, h⟩ := og h
    obtain ⟨w12, ew12, h⟩ := ol h
    refine c_copy hX hG hw (Or.inl c5) c5 c6 c7 c8 c9 c10 c11 (by decide +kernel) (by decide +kernel) (by decide +kernel) (by decide +kernel) hl.1 ⟨by decide, by simp [rv_cat, ct_i, ct_l]; decide⟩ dJx4a65c_fastRemove_b59b0_31 (fun H lc hw => ?_)
    have hw := hw_eq ew12 hw
    replace h := (Option.some.inj h).symm
    exact haj19 _ _ _ _ _ _ h hw (lv_sub hl [0, 1, 2] rfl)

set_option maxHeartbeats 4000000 in
set_option maxRecDepth 100000 in
theorem c_Jx4a65c_remove_915e3 (g : GG) (l : Launch) (hG : XG g) (hst : l.stackTraces = false) (mm : MS) (o : Nat) (p0 : Int32) (w : CS) (r : Nat) (w' : CS) (h : x_Jx4a65c_remove_915e3 o p0 w = some (r, w')) : MetG g l yJx4a65c_remove_915e3 wsJx4a65c_remove_915e3 2 63 [rv o, .int p0] (w, mm) (some (rv r)) (w', mm) := by
  refine g_start_a (Or.inl ⟨_, rfl⟩) (some (rv r)) (own := RJx4a65c) (by decide +kernel) rfl rfl (by simp [lg_sl, rv_cat, ct_i, ct_l]) ?_
  intro p e s mi args below meth cd ls Q hX hnm hw hl hret
  have hl : lv_has ls 4 [(0, rv o), (1, .int p0)] := by simpa [lv_args, rv_cat, ct_i, ct_l] using hl
  obtain ⟨⟨hx, hb, -, hown, hts⟩, -⟩ := id hX
  unfold x_Jx4a65c_remove_915e3 at h
  refine lv_iload_n hx hb dJx4a65c_remove_915e3_0 rfl (lv_at hl 1 rfl) ?_
  refine t_aload_n hx hb dJx4a65c_remove_915e3_1 rfl (lv_at hl 0 rfl) ?_
  obtain ⟨c1, h⟩ := og h
  refine c_gf (C := RJx4a65c) (TT := TJx4a65c) (N := 3) (ref := "java/util/ArrayList") (v := .int (wI w 282 o)) hX hw (ce_7 c1) rfl 2 (by decide +kernel) (by decide) (by decide +kernel) (fun _ h9 => h9) rfl dJx4a65c_remove_915e3_2 ?_
  obtain ⟨v3, e2, h⟩ := ob h
  refine g_callSi (n := 2) (As := [.int p0, .int (wI w 282 o)]) (rest := []) hX hw (c_J15_checkIndex_7cf53 g l hG hst mm p0 (wI w 282 o) w v3 e2) gJx4a65c_remove_915e3_J15_checkIndex_7cf53 rfl (by decide +kernel) rfl hl.1 rfl (Nat.le_of_ble_eq_true rfl) ⟨by decide, by decide⟩ dJx4a65c_remove_915e3_5 (fun H lc cn sn hw => ?_)
  refine lv_pop hx hb dJx4a65c_remove_915e3_8 rfl ?_
  refine t_aload_n hx hb dJx4a65c_remove_915e3_9 rfl (lv_at hl 0 rfl) ?_
  refine c_gf (C := RJx4a65c) (TT := TJx4a65c) (N := 3) (ref := "java/util/ArrayList") (v := rv (wJ w 281 o)) hX hw (ce_7 c1) rfl 1 (by decide +kernel) (by decide) (by decide +kernel) (fun _ h9 => h9) rfl dJx4a65c_remove_915e3_10 ?_
  refine t_astore_n (lv' := [(2, rv (wJ w 281 o)), (0, rv o), (1, .int p0)]) hx hb dJx4a65c_remove_915e3_13 rfl hl (by decide) rfl (fun ls hl => ?_)
  refine t_aload_n hx hb dJx4a65c_remove_915e3_14 rfl (lv_at hl 0 rfl) ?_
  refine lv_iload_n hx hb dJx4a65c_remove_915e3_15 rfl (lv_at hl 2 rfl) ?_
  obtain ⟨c4, h⟩ := og h
  obtain ⟨c5, h⟩ := og h
  refine c_ald hX hw 4 (ae_12 c4) rfl c5 dJx4a65c_remove_915e3_16 ?_
  refine t_astore_n (lv' := [(3, rv (wB w (wJ w 281 o) p0.toNatClampNeg)), (2, rv (wJ w 281 o)), (0, rv o), (1, .int p0)]) hx hb dJx4a65c_remove_915e3_17 rfl hl (by decide) (by simp [rv_cat, ct_i, ct_l] <;> decide) (fun ls hl => ?_)
  refine t_aload_n hx hb dJx4a65c_remove_915e3_18 rfl (lv_at hl 2 rfl) ?_
  refine t_aload_n hx hb dJx4a65c_remove_915e3_19 rfl (lv_at hl 1 rfl) ?_
  refine lv_iload_n hx hb dJx4a65c_remove_915e3_20 rfl (lv_at hl 3 rfl) ?_
  obtain ⟨w7, e6, h⟩ := ob h
  refine g_callVv (n := 2) (As := [rv (wJ w 281 o), .int p0]) (rest := []) hX hw (c_Jx4a65c_fastRemove_b59b0 g l hG hst mm o (wJ w 281 o) p0 w w7 e6) gJx4a65c_remove_915e3_Jx4a65c_fastRemove_b59b0 rfl (by decide +kernel) rfl (x_nz hw c1) (c_recv hX hw (ce_7 c1) rfl) hl.1 rfl (Nat.le_of_ble_eq_true rfl) ⟨by decide, by decide⟩ dJx4a65c_remove_915e3_21 (fun H lc cn sn hw => ?_)
  refine t_aload_n hx hb dJx4a65c_remove_915e3_24 rfl (lv_at hl 0 rfl) ?_
  replace h := (Option.some.inj h).symm
  obtain ⟨rfl, rfl⟩ := Prod.mk.inj h
  exact hret _ _ _ _ _ _ _ dJx4a65c_remove_915e3_25 hw rfl
