/-! ===== the class: its methods (printed by gen2.py) ===== -/
set_option maxHeartbeats 4000000 in
set_option maxRecDepth 100000 in
theorem c_X6_tabAt (g : GG) (l : Launch) (hG : XG g) (hst : l.stackTraces = false) (mm : MS) (o : Nat) (p0 : Int32) (w : CS) (r : (Nat × CS) ⊕ (Nat)) (h : x_X6_tabAt o p0 w = some r) : MetX g l yX6_tabAt wsX6_tabAt 6 82 [rv o, .int p0] (w, mm) (oAr r) (wAr w r, mm) := by
  refine x_start_a (Or.inl ⟨_, rfl⟩) (oAr r) (own := RX6) (by decide +kernel) rfl rfl (by simp [lg_sl, rv_cat, ct_i, ct_l]) ?_
  intro p e s mi args below meth cd ls Q hX htab hnm hw hl hret hthr hth2
  have hl : lv_has ls 2 [(0, rv o), (1, .int p0)] := by simpa [lv_args, rv_cat, ct_i, ct_l] using hl
  obtain ⟨⟨hx, hb, -, hown, hts⟩, -⟩ := id hX
  unfold x_X6_tabAt at h
  refine lv_iload_n hx hb dX6_tabAt_0 rfl (lv_at hl 1 rfl) ?_
  obtain ⟨aj7, h1aj7, kaj7, raj7⟩ := ol0 h
  have haj7 : ∀ (H : Heap) (lc : List Loc) (cn sn : Nat) (ls : Array Slot), aj7 = Sum.inl () → wH g s.heap.size (w, mm) H lc → lv_has ls 2 [] → W p l e (rmO g 6 82 s.heap) s mi args below meth cd H lc cn sn Q (F0 mi 13 ls []) := by
    intro H lc cn sn ls h hw hl
    replace h := kaj7 h
    obtain ⟨c6, h⟩ := og h
    replace h := (Option.some.inj h).symm
    subst h
    refine hth2 _ _ _ _ _ _ rfl ?_
    exact x_throwSW hX hG hst hw 1 (text := "there is no such tab") (Or.inl rfl) (by decide +kernel) (by decide +kernel) (by decide +kernel) (by decide +kernel) (by decide +kernel) (by decide +kernel) c6 hl.1 dX6_tabAt_13 dX6_tabAt_16 dX6_tabAt_17 dX6_tabAt_20 dX6_tabAt_23 htab ⟨by decide, by simp [rv_cat, ct_i, ct_l]⟩
  replace h := h1aj7
  refine lv_if_lt (tgt := 13) hx hb dX6_tabAt_1 (by decide) (fun c1 => ?_) (fun c1 => ?_)
  · replace h := ot c1 h
    replace h := (Option.some.inj h).symm
    exact haj7 _ _ _ _ _ h hw (lv_sub hl [] rfl)
  · replace h := oe c1 h
    refine lv_iload_n hx hb dX6_tabAt_4 rfl (lv_at hl 1 rfl) ?_
    refine t_aload_n hx hb dX6_tabAt_5 rfl (lv_at hl 0 rfl) ?_
    obtain ⟨c2, h⟩ := og h
    refine c_gf (C := RX6) (TT := TX6) (N := 8) (ref := "TabStore") (v := rv (wJ w 240 o)) hX hw (ce_6 c2) rfl 0 (by decide +kernel) (by decide) (by decide +kernel) (fun _ h9 => h9) rfl dX6_tabAt_6 ?_
    obtain ⟨c3, h⟩ := og h
    refine c_alen hX hw 3 (ae_11 c3) rfl dX6_tabAt_9 ?_
    refine lv_icmp_lt (tgt := 24) hx hb dX6_tabAt_10 (by decide) (fun c4 => ?_) (fun c4 => ?_)
    · replace h := ot c4 h
      refine t_aload_n hx hb dX6_tabAt_24 rfl (lv_at hl 0 rfl) ?_
      refine c_gf (C := RX6) (TT := TX6) (N := 8) (ref := "TabStore") (v := rv (wJ w 240 o)) hX hw (ce_6 c2) rfl 0 (by decide +kernel) (by decide) (by decide +kernel) (fun _ h9 => h9) rfl dX6_tabAt_25 ?_
      refine lv_iload_n hx hb dX6_tabAt_28 rfl (lv_at hl 1 rfl) ?_
      obtain ⟨c5, h⟩ := og h
      refine c_ald hX hw 3 (ae_11 c3) rfl c5 dX6_tabAt_29 ?_
      replace h := (Option.some.inj h).symm
      replace h := raj7 _ h
      subst h
      exact hret _ _ _ _ _ _ _ dX6_tabAt_30 hw rfl
    · replace h := oe c4 h
      replace h := (Option.some.inj h).symm
      exact haj7 _ _ _ _ _ h hw (lv_sub hl [] rfl)

set_option maxHeartbeats 4000000 in
set_option maxRecDepth 100000 in
theorem c_X6_transactionAt (g : GG) (l : Launch) (hG : XG g) (hst : l.stackTraces = false) (mm : MS) (o : Nat) (p0 : Int32) (w : CS) (r : (Nat × CS) ⊕ (Nat)) (h : x_X6_transactionAt o p0 w = some r) : MetX g l yX6_transactionAt wsX6_transactionAt 6 82 [rv o, .int p0] (w, mm) (oAr r) (wAr w r, mm) := by
  refine x_start_a (Or.inl ⟨_, rfl⟩) (oAr r) (own := RX6) (by decide +kernel) rfl rfl (by simp [lg_sl, rv_cat, ct_i, ct_l]) ?_
  intro p e s mi args below meth cd ls Q hX htab hnm hw hl hret hthr hth2
  have hl : lv_has ls 2 [(0, rv o), (1, .int p0)] := by simpa [lv_args, rv_cat, ct_i, ct_l] using hl
  obtain ⟨⟨hx, hb, -, hown, hts⟩, -⟩ := id hX
  unfold x_X6_transactionAt at h
  refine lv_iload_n hx hb dX6_transactionAt_0 rfl (lv_at hl 1 rfl) ?_
  obtain ⟨aj11, h1aj11, kaj11, raj11⟩ := ol0 h
  have haj11 : ∀ (H : Heap) (lc : List Loc) (cn sn : Nat) (ls : Array Slot), aj11 = Sum.inl () → wH g s.heap.size (w, mm) H lc → lv_has ls 2 [] → W p l e (rmO g 6 82 s.heap) s mi args below meth cd H lc cn sn Q (F0 mi 17 ls []) := by
    intro H lc cn sn ls h hw hl
    replace h := kaj11 h
    obtain ⟨c10, h⟩ := og h
    replace h := (Option.some.inj h).symm
    subst h
    refine hth2 _ _ _ _ _ _ rfl ?_
    exact x_throwSW hX hG hst hw 1 (text := "there is no such transaction") (Or.inl rfl) (by decide +kernel) (by decide +kernel) (by decide +kernel) (by decide +kernel) (by decide +kernel) (by decide +kernel) c10 hl.1 dX6_transactionAt_17 dX6_transactionAt_20 dX6_transactionAt_21 dX6_transactionAt_24 dX6_transactionAt_27 htab ⟨by decide, by simp [rv_cat, ct_i, ct_l]⟩
  replace h := h1aj11
  refine lv_if_lt (tgt := 17) hx hb dX6_transactionAt_1 (by decide) (fun c1 => ?_) (fun c1 => ?_)
  · replace h := ot c1 h
    replace h := (Option.some.inj h).symm
    exact haj11 _ _ _ _ _ h hw (lv_sub hl [] rfl)
  · replace h := oe c1 h
    refine lv_iload_n hx hb dX6_transactionAt_4 rfl (lv_at hl 1 rfl) ?_
    refine t_aload_n hx hb dX6_transactionAt_5 rfl (lv_at hl 0 rfl) ?_
    obtain ⟨c2, h⟩ := og h
    refine c_gf (C := RX6) (TT := TX6) (N := 8) (ref := "TabStore") (v := rv (wJ w 243 o)) hX hw (ce_6 c2) rfl 3 (by decide +kernel) (by decide) (by decide +kernel) (fun _ h9 => h9) rfl dX6_transactionAt_6 ?_
    obtain ⟨c3, h⟩ := og h
    obtain ⟨v5, e4, h⟩ := ob h
    refine g_callFi (n := 0) (As := []) (rest := [.int p0]) hX hw (c_Jx4a65c_size_8abf5 g l hG hst mm (wJ w 243 o) w v5 e4) gX6_transactionAt_Jx4a65c_size_8abf5_f83Jx4a65c rfl (by decide +kernel) rfl (x_nz hw c3) (c_recv hX hw (ce_7 c3) rfl) ((hG s hX.2.1.2.1).2.1.1) (show vwCl[0]? = some (RJx4a65c, TJx4a65c, 3) from rfl) hl.1 rfl (Nat.le_of_ble_eq_true rfl) ⟨by decide, by decide⟩ dX6_transactionAt_9 (fun H lc cn sn hw => ?_)
    refine lv_icmp_lt (tgt := 28) hx hb dX6_transactionAt_14 (by decide) (fun c6 => ?_) (fun c6 => ?_)
    · replace h := ot c6 h
      refine t_aload_n hx hb dX6_transactionAt_28 rfl (lv_at hl 0 rfl) ?_
      refine c_gf (C := RX6) (TT := TX6) (N := 8) (ref := "TabStore") (v := rv (wJ w 243 o)) hX hw (ce_6 c2) rfl 3 (by decide +kernel) (by decide) (by decide +kernel) (fun _ h9 => h9) rfl dX6_transactionAt_29 ?_
      refine lv_iload_n hx hb dX6_transactionAt_32 rfl (lv_at hl 1 rfl) ?_
      obtain ⟨v8, e7, h⟩ := ob h
      refine g_callFa (n := 1) (As := [.int p0]) (rest := []) hX hw (c_Jx4a65c_get_915e3 g l hG hst mm (wJ w 243 o) p0 w v8 e7) gX6_transactionAt_Jx4a65c_get_915e3_f89Jx4a65c rfl (by decide +kernel) rfl (x_nz hw c3) (c_recv hX hw (ce_7 c3) rfl) ((hG s hX.2.1.2.1).2.1.2.1) (show vwCl[0]? = some (RJx4a65c, TJx4a65c, 3) from rfl) hl.1 rfl (Nat.le_of_ble_eq_true rfl) ⟨by decide, by decide⟩ dX6_transactionAt_33 (fun H lc cn sn hw => ?_)
      obtain ⟨c9, h⟩ := og h
      refine c_cast hX hw (c9.imp id ce_2) rfl (by decide +kernel) dX6_transactionAt_38 ?_
      replace h := (Option.some.inj h).symm
      replace h := raj11 _ h
      subst h
      exact hret _ _ _ _ _ _ _ dX6_transactionAt_41 hw rfl
    · replace h := oe c6 h
      replace h := (Option.some.inj h).symm
      exact haj11 _ _ _ _ _ h hw (lv_sub hl [] rfl)

set_option maxHeartbeats 4000000 in
set_option maxRecDepth 100000 in
theorem c_X6_storeAt (g : GG) (l : Launch) (hG : XG g) (hst : l.stackTraces = false) (mm : MS) (o : Nat) (p0 : Int32) (w : CS) (r : (Nat × CS) ⊕ (Nat)) (h : x_X6_storeAt o p0 w = some r) : MetX g l yX6_storeAt wsX6_storeAt 6 82 [rv o, .int p0] (w, mm) (oAr r) (wAr w r, mm) := by
  refine x_start_a (Or.inl ⟨_, rfl⟩) (oAr r) (own := RX6) (by decide +kernel) rfl rfl (by simp [lg_sl, rv_cat, ct_i, ct_l]) ?_
  intro p e s mi args below meth cd ls Q hX htab hnm hw hl hret hthr hth2
  have hl : lv_has ls 2 [(0, rv o), (1, .int p0)] := by simpa [lv_args, rv_cat, ct_i, ct_l] using hl
  obtain ⟨⟨hx, hb, -, hown, hts⟩, -⟩ := id hX
  unfold x_X6_storeAt at h
  refine lv_iload_n hx hb dX6_storeAt_0 rfl (lv_at hl 1 rfl) ?_
  obtain ⟨aj10, h1aj10, kaj10, raj10⟩ := ol0 h
  have haj10 : ∀ (H : Heap) (lc : List Loc) (cn sn : Nat) (ls : Array Slot), aj10 = Sum.inl () → wH g s.heap.size (w, mm) H lc → lv_has ls 2 [] → W p l e (rmO g 6 82 s.heap) s mi args below meth cd H lc cn sn Q (F0 mi 25 ls []) := by
    intro H lc cn sn ls h hw hl
    replace h := kaj10 h
    obtain ⟨c9, h⟩ := og h
    replace h := (Option.some.inj h).symm
    subst h
    refine hth2 _ _ _ _ _ _ rfl ?_
    exact x_throwSW hX hG hst hw 1 (text := "there is no such store") (Or.inl rfl) (by decide +kernel) (by decide +kernel) (by decide +kernel) (by decide +kernel) (by decide +kernel) (by decide +kernel) c9 hl.1 dX6_storeAt_25 dX6_storeAt_28 dX6_storeAt_29 dX6_storeAt_32 dX6_storeAt_35 htab ⟨by decide, by simp [rv_cat, ct_i, ct_l]⟩
  replace h := h1aj10
  refine lv_if_lt (tgt := 25) hx hb dX6_storeAt_1 (by decide) (fun c1 => ?_) (fun c1 => ?_)
  · replace h := ot c1 h
    replace h := (Option.some.inj h).symm
    exact haj10 _ _ _ _ _ h hw (lv_sub hl [] rfl)
  · replace h := oe c1 h
    refine lv_iload_n hx hb dX6_storeAt_4 rfl (lv_at hl 1 rfl) ?_
    refine t_aload_n hx hb dX6_storeAt_5 rfl (lv_at hl 0 rfl) ?_
    obtain ⟨c2, h⟩ := og h
    refine c_gf (C := RX6) (TT := TX6) (N := 8) (ref := "TabStore") (v := rv (wJ w 241 o)) hX hw (ce_6 c2) rfl 1 (by decide +kernel) (by decide) (by decide +kernel) (fun _ h9 => h9) rfl dX6_storeAt_6 ?_
    obtain ⟨c3, h⟩ := og h
    refine c_alen hX hw 2 (ae_10 c3) rfl dX6_storeAt_9 ?_
    refine lv_icmp_ge (tgt := 25) hx hb dX6_storeAt_10 (by decide) (fun c4 => ?_) (fun c4 => ?_)
    · replace h := ot c4 h
      replace h := (Option.some.inj h).symm
      exact haj10 _ _ _ _ _ h hw (lv_sub hl [] rfl)
    · replace h := oe c4 h
      refine t_aload_n hx hb dX6_storeAt_13 rfl (lv_at hl 0 rfl) ?_
      refine c_gf (C := RX6) (TT := TX6) (N := 8) (ref := "TabStore") (v := rv (wJ w 241 o)) hX hw (ce_6 c2) rfl 1 (by decide +kernel) (by decide) (by decide +kernel) (fun _ h9 => h9) rfl dX6_storeAt_14 ?_
      refine lv_iload_n hx hb dX6_storeAt_17 rfl (lv_at hl 1 rfl) ?_
      obtain ⟨c5, h⟩ := og h
      refine c_ald hX hw 2 (ae_10 c3) rfl c5 dX6_storeAt_18 ?_
      obtain ⟨c6, h⟩ := og h
      refine c_gf (C := RX3) (TT := TX3) (N := 3) (ref := "TabStore$Store") (v := .int (wI w 200 (wB w (wJ w 241 o) p0.toNatClampNeg))) hX hw (ce_5 c6) rfl 0 (by decide +kernel) (by decide) (by decide +kernel) (fun _ h9 => h9) rfl dX6_storeAt_19 ?_
      refine lv_if_ne (tgt := 36) hx hb dX6_storeAt_22 (by decide) (fun c7 => ?_) (fun c7 => ?_)
      · replace h := oe c7 h
        refine t_aload_n hx hb dX6_storeAt_36 rfl (lv_at hl 0 rfl) ?_
        refine c_gf (C := RX6) (TT := TX6) (N := 8) (ref := "TabStore") (v := rv (wJ w 241 o)) hX hw (ce_6 c2) rfl 1 (by decide +kernel) (by decide) (by decide +kernel) (fun _ h9 => h9) rfl dX6_storeAt_37 ?_
        refine lv_iload_n hx hb dX6_storeAt_40 rfl (lv_at hl 1 rfl) ?_
        obtain ⟨c8, h⟩ := og h
        refine c_ald hX hw 2 (ae_10 c3) rfl c8 dX6_storeAt_41 ?_
        replace h := (Option.some.inj h).symm
        replace h := raj10 _ h
        subst h
        exact hret _ _ _ _ _ _ _ dX6_storeAt_42 hw rfl
      · replace h := ot c7 h
        replace h := (Option.some.inj h).symm
        exact haj10 _ _ _ _ _ h hw (lv_sub hl [] rfl)

set_option maxHeartbeats 4000000 in
set_option maxRecDepth 100000 in
theorem c_X6_cursorAt (g : GG) (l : Launch) (hG : XG g) (hst : l.stackTraces = false) (mm : MS) (o : Nat) (p0 : Int32) (w : CS) (r : (Nat × CS) ⊕ (Nat)) (h : x_X6_cursorAt o p0 w = some r) : MetX g l yX6_cursorAt wsX6_cursorAt 6 82 [rv o, .int p0] (w, mm) (oAr r) (wAr w r, mm) := by
  refine x_start_a (Or.inl ⟨_, rfl⟩) (oAr r) (own := RX6) (by decide +kernel) rfl rfl (by simp [lg_sl, rv_cat, ct_i, ct_l]) ?_
  intro p e s mi args below meth cd ls Q hX htab hnm hw hl hret hthr hth2
  have hl : lv_has ls 2 [(0, rv o), (1, .int p0)] := by simpa [lv_args, rv_cat, ct_i, ct_l] using hl
  obtain ⟨⟨hx, hb, -, hown, hts⟩, -⟩ := id hX
  unfold x_X6_cursorAt at h
  refine lv_iload_n hx hb dX6_cursorAt_0 rfl (lv_at hl 1 rfl) ?_
  obtain ⟨aj11, h1aj11, kaj11, raj11⟩ := ol0 h
  have haj11 : ∀ (H : Heap) (lc : List Loc) (cn sn : Nat) (ls : Array Slot), aj11 = Sum.inl () → wH g s.heap.size (w, mm) H lc → lv_has ls 2 [] → W p l e (rmO g 6 82 s.heap) s mi args below meth cd H lc cn sn Q (F0 mi 17 ls []) := by
    intro H lc cn sn ls h hw hl
    replace h := kaj11 h
    obtain ⟨c10, h⟩ := og h
    replace h := (Option.some.inj h).symm
    subst h
    refine hth2 _ _ _ _ _ _ rfl ?_
    exact x_throwSW hX hG hst hw 1 (text := "there is no such cursor") (Or.inl rfl) (by decide +kernel) (by decide +kernel) (by decide +kernel) (by decide +kernel) (by decide +kernel) (by decide +kernel) c10 hl.1 dX6_cursorAt_17 dX6_cursorAt_20 dX6_cursorAt_21 dX6_cursorAt_24 dX6_cursorAt_27 htab ⟨by decide, by simp [rv_cat, ct_i, ct_l]⟩
  replace h := h1aj11
  refine lv_if_lt (tgt := 17) hx hb dX6_cursorAt_1 (by decide) (fun c1 => ?_) (fun c1 => ?_)
  · replace h := ot c1 h
    replace h := (Option.some.inj h).symm
    exact haj11 _ _ _ _ _ h hw (lv_sub hl [] rfl)
  · replace h := oe c1 h
    refine lv_iload_n hx hb dX6_cursorAt_4 rfl (lv_at hl 1 rfl) ?_
    refine t_aload_n hx hb dX6_cursorAt_5 rfl (lv_at hl 0 rfl) ?_
    obtain ⟨c2, h⟩ := og h
    refine c_gf (C := RX6) (TT := TX6) (N := 8) (ref := "TabStore") (v := rv (wJ w 244 o)) hX hw (ce_6 c2) rfl 4 (by decide +kernel) (by decide) (by decide +kernel) (fun _ h9 => h9) rfl dX6_cursorAt_6 ?_
    obtain ⟨c3, h⟩ := og h
    obtain ⟨v5, e4, h⟩ := ob h
    refine g_callFi (n := 0) (As := []) (rest := [.int p0]) hX hw (c_Jx4a65c_size_8abf5 g l hG hst mm (wJ w 244 o) w v5 e4) gX6_cursorAt_Jx4a65c_size_8abf5_f83Jx4a65c rfl (by decide +kernel) rfl (x_nz hw c3) (c_recv hX hw (ce_7 c3) rfl) ((hG s hX.2.1.2.1).2.1.1) (show vwCl[0]? = some (RJx4a65c, TJx4a65c, 3) from rfl) hl.1 rfl (Nat.le_of_ble_eq_true rfl) ⟨by decide, by decide⟩ dX6_cursorAt_9 (fun H lc cn sn hw => ?_)
    refine lv_icmp_lt (tgt := 28) hx hb dX6_cursorAt_14 (by decide) (fun c6 => ?_) (fun c6 => ?_)
    · replace h := ot c6 h
      refine t_aload_n hx hb dX6_cursorAt_28 rfl (lv_at hl 0 rfl) ?_
      refine c_gf (C := RX6) (TT := TX6) (N := 8) (ref := "TabStore") (v := rv (wJ w 244 o)) hX hw (ce_6 c2) rfl 4 (by decide +kernel) (by decide) (by decide +kernel) (fun _ h9 => h9) rfl dX6_cursorAt_29 ?_
      refine lv_iload_n hx hb dX6_cursorAt_32 rfl (lv_at hl 1 rfl) ?_
      obtain ⟨v8, e7, h⟩ := ob h
      refine g_callFa (n := 1) (As := [.int p0]) (rest := []) hX hw (c_Jx4a65c_get_915e3 g l hG hst mm (wJ w 244 o) p0 w v8 e7) gX6_cursorAt_Jx4a65c_get_915e3_f89Jx4a65c rfl (by decide +kernel) rfl (x_nz hw c3) (c_recv hX hw (ce_7 c3) rfl) ((hG s hX.2.1.2.1).2.1.2.1) (show vwCl[0]? = some (RJx4a65c, TJx4a65c, 3) from rfl) hl.1 rfl (Nat.le_of_ble_eq_true rfl) ⟨by decide, by decide⟩ dX6_cursorAt_33 (fun H lc cn sn hw => ?_)
      obtain ⟨c9, h⟩ := og h
      refine c_cast hX hw (c9.imp id ce_3) rfl (by decide +kernel) dX6_cursorAt_38 ?_
      replace h := (Option.some.inj h).symm
      replace h := raj11 _ h
      subst h
      exact hret _ _ _ _ _ _ _ dX6_cursorAt_41 hw rfl
    · replace h := oe c6 h
      replace h := (Option.some.inj h).symm
      exact haj11 _ _ _ _ _ h hw (lv_sub hl [] rfl)

set_option maxHeartbeats 4000000 in
set_option maxRecDepth 100000 in
theorem c_X6_requireInRange (g : GG) (l : Launch) (hG : XG g) (hst : l.stackTraces = false) (mm : MS) (p0 : Int32) (p1 : Int32) (p2 : Int32) (w : CS) (r : (Nat × CS) ⊕ (Unit)) (h : x_X6_requireInRange p0 p1 p2 w = some r) : MetX g l yX6_requireInRange wsX6_requireInRange 6 82 [.int p0, .int p1, .int p2] (w, mm) (oUr r) (wUr w r, mm) := by
  refine x_start_v (oUr r) (own := RX6) (by decide +kernel) rfl rfl (by simp [lg_sl, rv_cat, ct_i, ct_l]) ?_
  intro p e s mi args below meth cd ls Q hX htab hnm hw hl hret hthr hth2
  have hl : lv_has ls 3 [(0, .int p0), (1, .int p1), (2, .int p2)] := by simpa [lv_args, rv_cat, ct_i, ct_l] using hl
  obtain ⟨⟨hx, hb, -, hown, hts⟩, -⟩ := id hX
  unfold x_X6_requireInRange at h
  refine lv_iload_n hx hb dX6_requireInRange_0 rfl (lv_at hl 0 rfl) ?_
  refine lv_iload_n hx hb dX6_requireInRange_1 rfl (lv_at hl 1 rfl) ?_
  obtain ⟨aj4, h1aj4, kaj4, raj4⟩ := ol0 h
  have haj4 : ∀ (H : Heap) (lc : List Loc) (cn sn : Nat) (ls : Array Slot), aj4 = Sum.inl () → wH g s.heap.size (w, mm) H lc → lv_has ls 3 [] → W p l e (rmO g 6 82 s.heap) s mi args below meth cd H lc cn sn Q (F0 mi 10 ls []) := by
    intro H lc cn sn ls h hw hl
    replace h := kaj4 h
    obtain ⟨c3, h⟩ := og h
    replace h := (Option.some.inj h).symm
    subst h
    refine hth2 _ _ _ _ _ _ rfl ?_
    exact x_throwSW hX hG hst hw 2 (text := "an argument is out of range") (Or.inr (Or.inl rfl)) (by decide +kernel) (by decide +kernel) (by decide +kernel) (by decide +kernel) (by decide +kernel) (by decide +kernel) c3 hl.1 dX6_requireInRange_10 dX6_requireInRange_13 dX6_requireInRange_14 dX6_requireInRange_17 dX6_requireInRange_20 htab ⟨by decide, by simp [rv_cat, ct_i, ct_l]⟩
  replace h := h1aj4
  refine lv_icmp_lt (tgt := 10) hx hb dX6_requireInRange_2 (by decide) (fun c1 => ?_) (fun c1 => ?_)
  · replace h := ot c1 h
    replace h := (Option.some.inj h).symm
    exact haj4 _ _ _ _ _ h hw (lv_sub hl [] rfl)
  · replace h := oe c1 h
    refine lv_iload_n hx hb dX6_requireInRange_5 rfl (lv_at hl 0 rfl) ?_
    refine lv_iload_n hx hb dX6_requireInRange_6 rfl (lv_at hl 2 rfl) ?_
    refine lv_icmp_le (tgt := 21) hx hb dX6_requireInRange_7 (by decide) (fun c2 => ?_) (fun c2 => ?_)
    · replace h := ot c2 h
      replace h := (Option.some.inj h).symm
      replace h := raj4 _ h
      subst h
      exact hret _ _ _ _ _ _ dX6_requireInRange_21 hw rfl
    · replace h := oe c2 h
      replace h := (Option.some.inj h).symm
      exact haj4 _ _ _ _ _ h hw (lv_sub hl [] rfl)

set_option maxHeartbeats 4000000 in
set_option maxRecDepth 100000 in
theorem c_X6_requireKey (g : GG) (l : Launch) (hG : XG g) (hst : l.stackTraces = false) (mm : MS) (p0 : Int32) (w : CS) (r : (Nat × CS) ⊕ (Unit)) (h : x_X6_requireKey p0 w = some r) : MetX g l yX6_requireKey wsX6_requireKey 6 82 [.int p0] (w, mm) (oUr r) (wUr w r, mm) := by
  refine x_start_v (oUr r) (own := RX6) (by decide +kernel) rfl rfl (by simp [lg_sl, rv_cat, ct_i, ct_l]) ?_
  intro p e s mi args below meth cd ls Q hX htab hnm hw hl hret hthr hth2
  have hl : lv_has ls 1 [(0, .int p0)] := by simpa [lv_args, rv_cat, ct_i, ct_l] using hl
  obtain ⟨⟨hx, hb, -, hown, hts⟩, -⟩ := id hX
  unfold x_X6_requireKey at h
  refine lv_iload_n hx hb dX6_requireKey_0 rfl (lv_at hl 0 rfl) ?_
  obtain ⟨v2, e1, h⟩ := ob h
  refine g_callSi (n := 1) (As := [.int p0]) (rest := []) hX hw (c_X1_isKey g l hG hst mm p0 w v2 e1) gX6_requireKey_X1_isKey rfl (by decide +kernel) rfl hl.1 rfl (Nat.le_of_ble_eq_true rfl) ⟨by decide, by decide⟩ dX6_requireKey_1 (fun H lc cn sn hw => ?_)
  refine lv_if_ne (tgt := 18) hx hb dX6_requireKey_4 (by decide) (fun c3 => ?_) (fun c3 => ?_)
  · replace h := oe c3 h
    replace h := (Option.some.inj h).symm
    subst h
    exact hret _ _ _ _ _ _ dX6_requireKey_18 hw rfl
  · replace h := ot c3 h
    obtain ⟨c4, h⟩ := og h
    replace h := (Option.some.inj h).symm
    subst h
    refine hth2 _ _ _ _ _ _ rfl ?_
    exact x_throwSW hX hG hst hw 2 (text := "this number tells no key") (Or.inr (Or.inl rfl)) (by decide +kernel) (by decide +kernel) (by decide +kernel) (by decide +kernel) (by decide +kernel) (by decide +kernel) c4 hl.1 dX6_requireKey_7 dX6_requireKey_10 dX6_requireKey_11 dX6_requireKey_14 dX6_requireKey_17 htab ⟨by decide, by simp [rv_cat, ct_i, ct_l]⟩

set_option maxHeartbeats 4000000 in
set_option maxRecDepth 100000 in
theorem c_X6_requireUpgrade (g : GG) (l : Launch) (hG : XG g) (hst : l.stackTraces = false) (mm : MS) (o : Nat) (p0 : Int32) (w : CS) (r : (Nat × CS) ⊕ (Unit)) (h : x_X6_requireUpgrade o p0 w = some r) : MetX g l yX6_requireUpgrade wsX6_requireUpgrade 6 82 [rv o, .int p0] (w, mm) (oUr r) (wUr w r, mm) := by
  refine x_start_v (oUr r) (own := RX6) (by decide +kernel) rfl rfl (by simp [lg_sl, rv_cat, ct_i, ct_l]) ?_
  intro p e s mi args below meth cd ls Q hX htab hnm hw hl hret hthr hth2
  have hl : lv_has ls 2 [(0, rv o), (1, .int p0)] := by simpa [lv_args, rv_cat, ct_i, ct_l] using hl
  obtain ⟨⟨hx, hb, -, hown, hts⟩, -⟩ := id hX
  unfold x_X6_requireUpgrade at h
  refine lv_iload_n hx hb dX6_requireUpgrade_0 rfl (lv_at hl 1 rfl) ?_
  refine t_aload_n hx hb dX6_requireUpgrade_1 rfl (lv_at hl 0 rfl) ?_
  obtain ⟨c1, h⟩ := og h
  refine c_gf (C := RX6) (TT := TX6) (N := 8) (ref := "TabStore") (v := .int (wI w 246 o)) hX hw (ce_6 c1) rfl 6 (by decide +kernel) (by decide) (by decide +kernel) (fun _ h9 => h9) rfl dX6_requireUpgrade_2 ?_
  refine lv_icmp_eq (tgt := 19) hx hb dX6_requireUpgrade_5 (by decide) (fun c2 => ?_) (fun c2 => ?_)
  · replace h := ot c2 h
    replace h := (Option.some.inj h).symm
    subst h
    exact hret _ _ _ _ _ _ dX6_requireUpgrade_19 hw rfl
  · replace h := oe c2 h
    obtain ⟨c3, h⟩ := og h
    replace h := (Option.some.inj h).symm
    subst h
    refine hth2 _ _ _ _ _ _ rfl ?_
    exact x_throwSW hX hG hst hw 3 (text := "the transaction is not the upgrade that is running") (Or.inr (Or.inr rfl)) (by decide +kernel) (by decide +kernel) (by decide +kernel) (by decide +kernel) (by decide +kernel) (by decide +kernel) c3 hl.1 dX6_requireUpgrade_8 dX6_requireUpgrade_11 dX6_requireUpgrade_12 dX6_requireUpgrade_15 dX6_requireUpgrade_18 htab ⟨by decide, by simp [rv_cat, ct_i, ct_l]⟩

set_option maxHeartbeats 4000000 in
set_option maxRecDepth 100000 in
theorem c_X6_requireRunning (g : GG) (l : Launch) (hG : XG g) (hst : l.stackTraces = false) (mm : MS) (p0 : Nat) (w : CS) (r : (Nat × CS) ⊕ (Unit)) (h : x_X6_requireRunning p0 w = some r) : MetX g l yX6_requireRunning wsX6_requireRunning 6 82 [rv p0] (w, mm) (oUr r) (wUr w r, mm) := by
  refine x_start_v (oUr r) (own := RX6) (by decide +kernel) rfl rfl (by simp [lg_sl, rv_cat, ct_i, ct_l]) ?_
  intro p e s mi args below meth cd ls Q hX htab hnm hw hl hret hthr hth2
  have hl : lv_has ls 1 [(0, rv p0)] := by simpa [lv_args, rv_cat, ct_i, ct_l] using hl
  obtain ⟨⟨hx, hb, -, hown, hts⟩, -⟩ := id hX
  unfold x_X6_requireRunning at h
  refine t_aload_n hx hb dX6_requireRunning_0 rfl (lv_at hl 0 rfl) ?_
  obtain ⟨c1, h⟩ := og h
  refine c_gf (C := RX5) (TT := TX5) (N := 4) (ref := "TabStore$Transaction") (v := .int (wI w 83 p0)) hX hw (ce_2 c1) rfl 3 (by decide +kernel) (by decide) (by decide +kernel) (fun _ h9 => h9) rfl dX6_requireRunning_1 ?_
  refine lv_iconst (v := 1) hx hb dX6_requireRunning_4 (by decide) ?_
  refine lv_icmp_eq (tgt := 19) hx hb dX6_requireRunning_5 (by decide) (fun c2 => ?_) (fun c2 => ?_)
  · replace h := ot c2 h
    replace h := (Option.some.inj h).symm
    subst h
    exact hret _ _ _ _ _ _ dX6_requireRunning_19 hw rfl
  · replace h := oe c2 h
    obtain ⟨c3, h⟩ := og h
    replace h := (Option.some.inj h).symm
    subst h
    refine hth2 _ _ _ _ _ _ rfl ?_
    exact x_throwSW hX hG hst hw 3 (text := "the transaction is not running") (Or.inr (Or.inr rfl)) (by decide +kernel) (by decide +kernel) (by decide +kernel) (by decide +kernel) (by decide +kernel) (by decide +kernel) c3 hl.1 dX6_requireRunning_8 dX6_requireRunning_11 dX6_requireRunning_12 dX6_requireRunning_15 dX6_requireRunning_18 htab ⟨by decide, by simp [rv_cat, ct_i, ct_l]⟩

set_option maxHeartbeats 4000000 in
set_option maxRecDepth 100000 in
theorem c_X6_requireReading (g : GG) (l : Launch) (hG : XG g) (hst : l.stackTraces = false) (mm : MS) (p0 : Nat) (p1 : Int32) (w : CS) (r : (Nat × CS) ⊕ (Unit)) (h : x_X6_requireReading p0 p1 w = some r) : MetX g l yX6_requireReading wsX6_requireReading 7 102 [rv p0, .int p1] (w, mm) (oUr r) (wUr w r, mm) := by
  refine x_start_v (oUr r) (own := RX6) (by decide +kernel) rfl rfl (by simp [lg_sl, rv_cat, ct_i, ct_l]) ?_
  intro p e s mi args below meth cd ls Q hX htab hnm hw hl hret hthr hth2
  have hl : lv_has ls 2 [(0, rv p0), (1, .int p1)] := by simpa [lv_args, rv_cat, ct_i, ct_l] using hl
  obtain ⟨⟨hx, hb, -, hown, hts⟩, -⟩ := id hX
  unfold x_X6_requireReading at h
  refine t_aload_n hx hb dX6_requireReading_0 rfl (lv_at hl 0 rfl) ?_
  rcases obx1 h with ⟨k2, w3, e1, h⟩ | ⟨_, e1, h⟩
  · subst h
    exact x_callSE (n := 1) (As := [rv p0]) (rest := []) hX hw (c_X6_requireRunning g l hG hst mm p0 w _ e1) gX6_requireReading_X6_requireRunning rfl (by decide +kernel) rfl hl.1 rfl (Nat.le_of_ble_eq_true rfl) ⟨by decide, by decide⟩ dX6_requireReading_1 (fun H lc cn sn q ce hw h1 h2 h3 => hthr _ _ _ _ _ _ _ _ _ _ hw h1 h2 h3 rfl)
  · refine x_callSNv (n := 1) (As := [rv p0]) (rest := []) hX hw (c_X6_requireRunning g l hG hst mm p0 w _ e1) gX6_requireReading_X6_requireRunning rfl (by decide +kernel) rfl hl.1 rfl (Nat.le_of_ble_eq_true rfl) ⟨by decide, by decide⟩ dX6_requireReading_1 (fun H lc cn sn hw => ?_)
    have hw : wH g s.heap.size (w, mm) H lc := hw
    refine t_aload_n hx hb dX6_requireReading_4 rfl (lv_at hl 0 rfl) ?_
    refine lv_iload_n hx hb dX6_requireReading_5 rfl (lv_at hl 1 rfl) ?_
    obtain ⟨c4, h⟩ := og h
    obtain ⟨v6, e5, h⟩ := ob h
    refine g_callVi (n := 1) (As := [.int p1]) (rest := []) hX hw (c_X5_hasInScope g l hG hst mm p0 p1 w v6 e5) gX6_requireReading_X5_hasInScope rfl (by decide +kernel) rfl (x_nz hw c4) (c_recv hX hw (ce_2 c4) rfl) hl.1 rfl (Nat.le_of_ble_eq_true rfl) ⟨by decide, by decide⟩ dX6_requireReading_6 (fun H lc cn sn hw => ?_)
    refine lv_if_ne (tgt := 23) hx hb dX6_requireReading_9 (by decide) (fun c7 => ?_) (fun c7 => ?_)
    · replace h := oe c7 h
      replace h := (Option.some.inj h).symm
      subst h
      exact hret _ _ _ _ _ _ dX6_requireReading_23 hw rfl
    · replace h := ot c7 h
      obtain ⟨c8, h⟩ := og h
      replace h := (Option.some.inj h).symm
      subst h
      refine hth2 _ _ _ _ _ _ rfl ?_
      exact x_throwSW hX hG hst hw 3 (text := "the store is not in the scope") (Or.inr (Or.inr rfl)) (by decide +kernel) (by decide +kernel) (by decide +kernel) (by decide +kernel) (by decide +kernel) (by decide +kernel) c8 hl.1 dX6_requireReading_12 dX6_requireReading_15 dX6_requireReading_16 dX6_requireReading_19 dX6_requireReading_22 htab ⟨by decide, by simp [rv_cat, ct_i, ct_l]⟩

set_option maxHeartbeats 4000000 in
set_option maxRecDepth 100000 in
theorem c_X6_requireWriting (g : GG) (l : Launch) (hG : XG g) (hst : l.stackTraces = false) (mm : MS) (p0 : Nat) (p1 : Int32) (w : CS) (r : (Nat × CS) ⊕ (Unit)) (h : x_X6_requireWriting p0 p1 w = some r) : MetX g l yX6_requireWriting wsX6_requireWriting 8 123 [rv p0, .int p1] (w, mm) (oUr r) (wUr w r, mm) := by
  refine x_start_v (oUr r) (own := RX6) (by decide +kernel) rfl rfl (by simp [lg_sl, rv_cat, ct_i, ct_l]) ?_
  intro p e s mi args below meth cd ls Q hX htab hnm hw hl hret hthr hth2
  have hl : lv_has ls 2 [(0, rv p0), (1, .int p1)] := by simpa [lv_args, rv_cat, ct_i, ct_l] using hl
  obtain ⟨⟨hx, hb, -, hown, hts⟩, -⟩ := id hX
  unfold x_X6_requireWriting at h
  refine t_aload_n hx hb dX6_requireWriting_0 rfl (lv_at hl 0 rfl) ?_
  refine lv_iload_n hx hb dX6_requireWriting_1 rfl (lv_at hl 1 rfl) ?_
  rcases obx1 h with ⟨k2, w3, e1, h⟩ | ⟨_, e1, h⟩
  · subst h
    exact x_callSE (n := 2) (As := [rv p0, .int p1]) (rest := []) hX hw (c_X6_requireReading g l hG hst mm p0 p1 w _ e1) gX6_requireWriting_X6_requireReading rfl (by decide +kernel) rfl hl.1 rfl (Nat.le_of_ble_eq_true rfl) ⟨by decide, by decide⟩ dX6_requireWriting_2 (fun H lc cn sn q ce hw h1 h2 h3 => hthr _ _ _ _ _ _ _ _ _ _ hw h1 h2 h3 rfl)
  · refine x_callSNv (n := 2) (As := [rv p0, .int p1]) (rest := []) hX hw (c_X6_requireReading g l hG hst mm p0 p1 w _ e1) gX6_requireWriting_X6_requireReading rfl (by decide +kernel) rfl hl.1 rfl (Nat.le_of_ble_eq_true rfl) ⟨by decide, by decide⟩ dX6_requireWriting_2 (fun H lc cn sn hw => ?_)
    have hw : wH g s.heap.size (w, mm) H lc := hw
    refine t_aload_n hx hb dX6_requireWriting_5 rfl (lv_at hl 0 rfl) ?_
    obtain ⟨c4, h⟩ := og h
    refine c_gf (C := RX5) (TT := TX5) (N := 4) (ref := "TabStore$Transaction") (v := .int (wI w 81 p0)) hX hw (ce_2 c4) rfl 1 (by decide +kernel) (by decide) (by decide +kernel) (fun _ h9 => h9) rfl dX6_requireWriting_6 ?_
    refine lv_if_ne (tgt := 23) hx hb dX6_requireWriting_9 (by decide) (fun c5 => ?_) (fun c5 => ?_)
    · replace h := oe c5 h
      replace h := (Option.some.inj h).symm
      subst h
      exact hret _ _ _ _ _ _ dX6_requireWriting_23 hw rfl
    · replace h := ot c5 h
      obtain ⟨c6, h⟩ := og h
      replace h := (Option.some.inj h).symm
      subst h
      refine hth2 _ _ _ _ _ _ rfl ?_
      exact x_throwSW hX hG hst hw 3 (text := "the transaction does not write") (Or.inr (Or.inr rfl)) (by decide +kernel) (by decide +kernel) (by decide +kernel) (by decide +kernel) (by decide +kernel) (by decide +kernel) c6 hl.1 dX6_requireWriting_12 dX6_requireWriting_15 dX6_requireWriting_16 dX6_requireWriting_19 dX6_requireWriting_22 htab ⟨by decide, by simp [rv_cat, ct_i, ct_l]⟩

set_option maxHeartbeats 4000000 in
set_option maxRecDepth 100000 in
theorem c_X6_upgradesMustWait (g : GG) (l : Launch) (hG : XG g) (hst : l.stackTraces = false) (mm : MS) (o : Nat) (w : CS) (r : Int32) (h : x_X6_upgradesMustWait o w = some r) : MetG g l yX6_upgradesMustWait wsX6_upgradesMustWait 1 20 [rv o] (w, mm) (some (.int r)) (w, mm) := by
  refine g_start_z (some (.int r)) (own := RX6) (by decide +kernel) rfl rfl (by simp [lg_sl, rv_cat, ct_i, ct_l]) ?_
  intro p e s mi args below meth cd ls Q hX hnm hw hl hret
  have hl : lv_has ls 2 [(0, rv o)] := by simpa [lv_args, rv_cat, ct_i, ct_l] using hl
  obtain ⟨⟨hx, hb, -, hown, hts⟩, -⟩ := id hX
  unfold x_X6_upgradesMustWait at h
  refine lv_iconst (v := 0) hx hb dX6_upgradesMustWait_0 (by decide) ?_
  refine lv_istore_n (lv' := [(1, .int 0), (0, rv o)]) hx hb dX6_upgradesMustWait_1 rfl hl (by decide) (by simp [rv_cat, ct_i, ct_l] <;> decide) (fun ls hl => ?_)
  obtain ⟨aj12, h1aj12, kaj12, raj12⟩ := ol0 h
  have haj12 : ∀ (H : Heap) (lc : List Loc) (cn sn : Nat) (ls : Array Slot), aj12 = Sum.inl () → wH g s.heap.size (w, mm) H lc → lv_has ls 2 [] → W p l e (rmO g 1 20 s.heap) s mi args below meth cd H lc cn sn Q (F0 mi 31 ls []) := by
    intro H lc cn sn ls h hw hl
    replace h := kaj12 h
    refine lv_iconst (v := 0) hx hb dX6_upgradesMustWait_31 (by decide) ?_
    obtain ⟨c11, h⟩ := og h
    replace h := (Option.some.inj h).symm
    subst h
    exact hret _ _ _ _ _ _ _ dX6_upgradesMustWait_32 c11 hw rfl
  have hkj12 : ∀ (n : Nat) (v1 : Int32) (H : Heap) (lc : List Loc) (cn sn : Nat) (ls : Array Slot), x_X6_upgradesMustWait_L1 o w n v1 = some aj12 → wH g s.heap.size (w, mm) H lc → lv_has ls 2 [(1, .int v1), (0, rv o)] → W p l e (rmO g 1 20 s.heap) s mi args below meth cd H lc cn sn Q (F0 mi 2 ls []) := by
    intro n
    induction n with
    | zero =>
      intro v1 H lc cn sn ls h
      rw [x_X6_upgradesMustWait_L1] at h
      cases h
    | succ n ih =>
      intro v1 H lc cn sn ls h hw hl
      rw [x_X6_upgradesMustWait_L1] at h
      refine lv_iload_n hx hb dX6_upgradesMustWait_2 rfl (lv_at hl 0 rfl) ?_
      refine t_aload_n hx hb dX6_upgradesMustWait_3 rfl (lv_at hl 1 rfl) ?_
      obtain ⟨c2, h⟩ := og h
      refine c_gf (C := RX6) (TT := TX6) (N := 8) (ref := "TabStore") (v := rv (wJ w 240 o)) hX hw (ce_6 c2) rfl 0 (by decide +kernel) (by decide) (by decide +kernel) (fun _ h9 => h9) rfl dX6_upgradesMustWait_4 ?_
      obtain ⟨c3, h⟩ := og h
      refine c_alen hX hw 3 (ae_11 c3) rfl dX6_upgradesMustWait_7 ?_
      refine lv_icmp_ge (tgt := 31) hx hb dX6_upgradesMustWait_8 (by decide) (fun c4 => ?_) (fun c4 => ?_)
      · replace h := ot c4 h
        replace h := (Option.some.inj h).symm
        exact haj12 _ _ _ _ _ h hw (lv_sub hl [] rfl)
      · replace h := oe c4 h
        refine t_aload_n hx hb dX6_upgradesMustWait_11 rfl (lv_at hl 1 rfl) ?_
        refine c_gf (C := RX6) (TT := TX6) (N := 8) (ref := "TabStore") (v := rv (wJ w 240 o)) hX hw (ce_6 c2) rfl 0 (by decide +kernel) (by decide) (by decide +kernel) (fun _ h9 => h9) rfl dX6_upgradesMustWait_12 ?_
        refine lv_iload_n hx hb dX6_upgradesMustWait_15 rfl (lv_at hl 0 rfl) ?_
        obtain ⟨c5, h⟩ := og h
        refine c_ald hX hw 3 (ae_11 c3) rfl c5 dX6_upgradesMustWait_16 ?_
        obtain ⟨c6, h⟩ := og h
        obtain ⟨v8, e7, h⟩ := ob h
        refine g_callVi (n := 0) (As := []) (rest := []) hX hw (c_X4_isInside g l hG hst mm (wB w (wJ w 240 o) v1.toNatClampNeg) w v8 e7) gX6_upgradesMustWait_X4_isInside rfl (by decide +kernel) rfl (x_nz hw c6) (c_recv hX hw (ce_4 c6) rfl) hl.1 rfl (Nat.le_of_ble_eq_true rfl) ⟨by decide, by decide⟩ dX6_upgradesMustWait_17 (fun H lc cn sn hw => ?_)
        refine lv_if_eq (tgt := 25) hx hb dX6_upgradesMustWait_20 (by decide) (fun c9 => ?_) (fun c9 => ?_)
        · replace h := ot c9 h
          refine lv_iinc (v := (v1 + 1)) (lv' := [(1, .int (v1 + 1)), (0, rv o)]) hx hb dX6_upgradesMustWait_25 hl (k := 0) rfl (by rfl) (by decide) (by simp [rv_cat, ct_i, ct_l] <;> decide) (fun ls hl => ?_)
          refine lv_goto (tgt := 2) hx hb dX6_upgradesMustWait_28 (by decide) ?_
          exact ih _ _ _ _ _ _ h hw (lv_sub hl [0, 1] rfl)
        · replace h := oe c9 h
          refine lv_iconst (v := 1) hx hb dX6_upgradesMustWait_23 (by decide) ?_
          obtain ⟨c10, h⟩ := og h
          replace h := (Option.some.inj h).symm
          replace h := raj12 _ h
          subst h
          exact hret _ _ _ _ _ _ _ dX6_upgradesMustWait_24 c10 hw rfl
  exact hkj12 FU 0 _ _ _ _ _ h1aj12 hw (lv_sub hl [0, 1] rfl)

set_option maxHeartbeats 4000000 in
set_option maxRecDepth 100000 in
theorem c_X6_hasRoom (g : GG) (l : Launch) (hG : XG g) (hst : l.stackTraces = false) (mm : MS) (o : Nat) (w : CS) (r : Int32) (h : x_X6_hasRoom o w = some r) : MetG g l yX6_hasRoom wsX6_hasRoom 1 20 [rv o] (w, mm) (some (.int r)) (w, mm) := by
  refine g_start_z (some (.int r)) (own := RX6) (by decide +kernel) rfl rfl (by simp [lg_sl, rv_cat, ct_i, ct_l]) ?_
  intro p e s mi args below meth cd ls Q hX hnm hw hl hret
  have hl : lv_has ls 1 [(0, rv o)] := by simpa [lv_args, rv_cat, ct_i, ct_l] using hl
  obtain ⟨⟨hx, hb, -, hown, hts⟩, -⟩ := id hX
  unfold x_X6_hasRoom at h
  refine t_aload_n hx hb dX6_hasRoom_0 rfl (lv_at hl 0 rfl) ?_
  obtain ⟨c1, h⟩ := og h
  refine c_gf (C := RX6) (TT := TX6) (N := 8) (ref := "TabStore") (v := rv (wJ w 243 o)) hX hw (ce_6 c1) rfl 3 (by decide +kernel) (by decide) (by decide +kernel) (fun _ h9 => h9) rfl dX6_hasRoom_1 ?_
  obtain ⟨c2, h⟩ := og h
  obtain ⟨v4, e3, h⟩ := ob h
  refine g_callFi (n := 0) (As := []) (rest := []) hX hw (c_Jx4a65c_size_8abf5 g l hG hst mm (wJ w 243 o) w v4 e3) gX6_hasRoom_Jx4a65c_size_8abf5_f83Jx4a65c rfl (by decide +kernel) rfl (x_nz hw c2) (c_recv hX hw (ce_7 c2) rfl) ((hG s hX.2.1.2.1).2.1.1) (show vwCl[0]? = some (RJx4a65c, TJx4a65c, 3) from rfl) hl.1 rfl (Nat.le_of_ble_eq_true rfl) ⟨by decide, by decide⟩ dX6_hasRoom_4 (fun H lc cn sn hw => ?_)
  refine lv_bipush (v := 60) hx hb dX6_hasRoom_9 (by decide) ?_
  obtain ⟨aj8, h1aj8, kaj8⟩ := ob1 h
  have haj8 : ∀ (v6 : Int32) (H : Heap) (lc : List Loc) (cn sn : Nat) (ls : Array Slot), aj8 = v6 → wH g s.heap.size (w, mm) H lc → lv_has ls 1 [] → W p l e (rmO g 1 20 s.heap) s mi args below meth cd H lc cn sn Q (F0 mi 19 ls [.int v6]) := by
    intro v6 H lc cn sn ls h hw hl
    replace h := kaj8 _ h
    obtain ⟨c7, h⟩ := og h
    replace h := (Option.some.inj h).symm
    subst h
    exact hret _ _ _ _ _ _ _ dX6_hasRoom_19 c7 hw rfl
  replace h := h1aj8
  refine lv_icmp_ge (tgt := 18) hx hb dX6_hasRoom_11 (by decide) (fun c5 => ?_) (fun c5 => ?_)
  · replace h := ot c5 h
    refine lv_iconst (v := 0) hx hb dX6_hasRoom_18 (by decide) ?_
    replace h := (Option.some.inj h).symm
    exact haj8 _ _ _ _ _ _ h hw (lv_sub hl [] rfl)
  · replace h := oe c5 h
    refine lv_iconst (v := 1) hx hb dX6_hasRoom_14 (by decide) ?_
    refine lv_goto (tgt := 19) hx hb dX6_hasRoom_15 (by decide) ?_
    replace h := (Option.some.inj h).symm
    exact haj8 _ _ _ _ _ _ h hw (lv_sub hl [] rfl)

set_option maxHeartbeats 4000000 in
set_option maxRecDepth 100000 in
theorem c_X6_canOpen (g : GG) (l : Launch) (hG : XG g) (hst : l.stackTraces = false) (mm : MS) (o : Nat) (p0 : Nat) (p1 : Int32) (w : CS) (r : Int32) (h : x_X6_canOpen o p0 p1 w = some r) : MetG g l yX6_canOpen wsX6_canOpen 2 41 [rv o, rv p0, .int p1] (w, mm) (some (.int r)) (w, mm) := by
  refine g_start_z (some (.int r)) (own := RX6) (by decide +kernel) rfl rfl (by simp [lg_sl, rv_cat, ct_i, ct_l]) ?_
  intro p e s mi args below meth cd ls Q hX hnm hw hl hret
  have hl : lv_has ls 3 [(0, rv o), (1, rv p0), (2, .int p1)] := by simpa [lv_args, rv_cat, ct_i, ct_l] using hl
  obtain ⟨⟨hx, hb, -, hown, hts⟩, -⟩ := id hX
  unfold x_X6_canOpen at h
  refine t_aload_n hx hb dX6_canOpen_0 rfl (lv_at hl 1 rfl) ?_
  obtain ⟨c1, h⟩ := og h
  refine c_gf (C := RX4) (TT := TX4) (N := 3) (ref := "TabStore$Tab") (v := .int (wI w 160 p0)) hX hw (ce_4 c1) rfl 0 (by decide +kernel) (by decide) (by decide +kernel) (fun _ h9 => h9) rfl dX6_canOpen_1 ?_
  obtain ⟨aj21, h1aj21, kaj21, raj21⟩ := ol0 h
  have haj21 : ∀ (H : Heap) (lc : List Loc) (cn sn : Nat) (ls : Array Slot), aj21 = Sum.inl () → wH g s.heap.size (w, mm) H lc → lv_has ls 3 [] → W p l e (rmO g 2 41 s.heap) s mi args below meth cd H lc cn sn Q (F0 mi 15 ls []) := by
    intro H lc cn sn ls h hw hl
    replace h := kaj21 h
    refine lv_iconst (v := 0) hx hb dX6_canOpen_15 (by decide) ?_
    obtain ⟨c20, h⟩ := og h
    replace h := (Option.some.inj h).symm
    subst h
    exact hret _ _ _ _ _ _ _ dX6_canOpen_16 c20 hw rfl
  replace h := h1aj21
  refine lv_if_ne (tgt := 15) hx hb dX6_canOpen_4 (by decide) (fun c2 => ?_) (fun c2 => ?_)
  · replace h := oe c2 h
    replace h := (Option.some.inj h).symm
    exact haj21 _ _ _ _ _ h hw (lv_sub hl [] rfl)
  · replace h := ot c2 h
    refine lv_iload_n hx hb dX6_canOpen_7 rfl (lv_at hl 2 rfl) ?_
    refine t_aload_n hx hb dX6_canOpen_8 rfl (lv_at hl 0 rfl) ?_
    obtain ⟨c3, h⟩ := og h
    refine c_gf (C := RX6) (TT := TX6) (N := 8) (ref := "TabStore") (v := .int (wI w 245 o)) hX hw (ce_6 c3) rfl 5 (by decide +kernel) (by decide) (by decide +kernel) (fun _ h9 => h9) rfl dX6_canOpen_9 ?_
    refine lv_icmp_ge (tgt := 17) hx hb dX6_canOpen_12 (by decide) (fun c4 => ?_) (fun c4 => ?_)
    · replace h := ot c4 h
      refine lv_iload_n hx hb dX6_canOpen_17 rfl (lv_at hl 2 rfl) ?_
      refine t_aload_n hx hb dX6_canOpen_18 rfl (lv_at hl 0 rfl) ?_
      refine c_gf (C := RX6) (TT := TX6) (N := 8) (ref := "TabStore") (v := .int (wI w 245 o)) hX hw (ce_6 c3) rfl 5 (by decide +kernel) (by decide) (by decide +kernel) (fun _ h9 => h9) rfl dX6_canOpen_19 ?_
      refine lv_icmp_ne (tgt := 39) hx hb dX6_canOpen_22 (by decide) (fun c5 => ?_) (fun c5 => ?_)
      · replace h := oe c5 h
        refine t_aload_n hx hb dX6_canOpen_39 rfl (lv_at hl 0 rfl) ?_
        obtain ⟨v7, e6, h⟩ := ob h
        refine g_callVi (n := 0) (As := []) (rest := []) hX hw (c_X6_hasRoom g l hG hst mm o w v7 e6) gX6_canOpen_X6_hasRoom rfl (by decide +kernel) rfl (x_nz hw c3) (c_recv hX hw (ce_6 c3) rfl) hl.1 rfl (Nat.le_of_ble_eq_true rfl) ⟨by decide, by decide⟩ dX6_canOpen_40 (fun H lc cn sn hw => ?_)
        obtain ⟨aj15, h1aj15, kaj15⟩ := ob1 h
        have haj15 : ∀ (v13 : Int32) (H : Heap) (lc : List Loc) (cn sn : Nat) (ls : Array Slot), aj15 = v13 → wH g s.heap.size (w, mm) H lc → lv_has ls 3 [] → W p l e (rmO g 2 41 s.heap) s mi args below meth cd H lc cn sn Q (F0 mi 58 ls [.int v13]) := by
          intro v13 H lc cn sn ls h hw hl
          replace h := kaj15 _ h
          obtain ⟨c14, h⟩ := og h
          replace h := (Option.some.inj h).symm
          replace h := raj21 _ h
          subst h
          exact hret _ _ _ _ _ _ _ dX6_canOpen_58 c14 hw rfl
        replace h := h1aj15
        obtain ⟨aj12, h1aj12, kaj12, raj12⟩ := ol0 h
        have haj12 : ∀ (H : Heap) (lc : List Loc) (cn sn : Nat) (ls : Array Slot), aj12 = Sum.inl () → wH g s.heap.size (w, mm) H lc → lv_has ls 3 [] → W p l e (rmO g 2 41 s.heap) s mi args below meth cd H lc cn sn Q (F0 mi 53 ls []) := by
          intro H lc cn sn ls h hw hl
          replace h := kaj12 h
          refine lv_iconst (v := 1) hx hb dX6_canOpen_53 (by decide) ?_
          refine lv_goto (tgt := 58) hx hb dX6_canOpen_54 (by decide) ?_
          replace h := (Option.some.inj h).symm
          exact haj15 _ _ _ _ _ _ h hw (lv_sub hl [] rfl)
        replace h := h1aj12
        refine lv_if_ne (tgt := 53) hx hb dX6_canOpen_43 (by decide) (fun c8 => ?_) (fun c8 => ?_)
        · replace h := oe c8 h
          replace h := (Option.some.inj h).symm
          exact haj12 _ _ _ _ _ h hw (lv_sub hl [] rfl)
        · replace h := ot c8 h
          refine t_aload_n hx hb dX6_canOpen_46 rfl (lv_at hl 0 rfl) ?_
          obtain ⟨v10, e9, h⟩ := ob h
          refine g_callVi (n := 0) (As := []) (rest := []) hX hw (c_X6_upgradesMustWait g l hG hst mm o w v10 e9) gX6_canOpen_X6_upgradesMustWait rfl (by decide +kernel) rfl (x_nz hw c3) (c_recv hX hw (ce_6 c3) rfl) hl.1 rfl (Nat.le_of_ble_eq_true rfl) ⟨by decide, by decide⟩ dX6_canOpen_47 (fun H lc cn sn hw => ?_)
          refine lv_if_eq (tgt := 57) hx hb dX6_canOpen_50 (by decide) (fun c11 => ?_) (fun c11 => ?_)
          · replace h := ot c11 h
            refine lv_iconst (v := 0) hx hb dX6_canOpen_57 (by decide) ?_
            replace h := (Option.some.inj h).symm
            replace h := raj12 _ h
            exact haj15 _ _ _ _ _ _ h hw (lv_sub hl [] rfl)
          · replace h := oe c11 h
            replace h := (Option.some.inj h).symm
            exact haj12 _ _ _ _ _ h hw (lv_sub hl [] rfl)
      · replace h := ot c5 h
        refine t_aload_n hx hb dX6_canOpen_25 rfl (lv_at hl 0 rfl) ?_
        refine c_gf (C := RX6) (TT := TX6) (N := 8) (ref := "TabStore") (v := .int (wI w 246 o)) hX hw (ce_6 c3) rfl 6 (by decide +kernel) (by decide) (by decide +kernel) (fun _ h9 => h9) rfl dX6_canOpen_26 ?_
        refine lv_iconst (v := (-1)) hx hb dX6_canOpen_29 (by decide) ?_
        obtain ⟨aj19, h1aj19, kaj19⟩ := ob1 h
        have haj19 : ∀ (v17 : Int32) (H : Heap) (lc : List Loc) (cn sn : Nat) (ls : Array Slot), aj19 = v17 → wH g s.heap.size (w, mm) H lc → lv_has ls 3 [] → W p l e (rmO g 2 41 s.heap) s mi args below meth cd H lc cn sn Q (F0 mi 38 ls [.int v17]) := by
          intro v17 H lc cn sn ls h hw hl
          replace h := kaj19 _ h
          obtain ⟨c18, h⟩ := og h
          replace h := (Option.some.inj h).symm
          replace h := raj21 _ h
          subst h
          exact hret _ _ _ _ _ _ _ dX6_canOpen_38 c18 hw rfl
        replace h := h1aj19
        refine lv_icmp_ne (tgt := 37) hx hb dX6_canOpen_30 (by decide) (fun c16 => ?_) (fun c16 => ?_)
        · replace h := oe c16 h
          refine lv_iconst (v := 0) hx hb dX6_canOpen_37 (by decide) ?_
          replace h := (Option.some.inj h).symm
          exact haj19 _ _ _ _ _ _ h hw (lv_sub hl [] rfl)
        · replace h := ot c16 h
          refine lv_iconst (v := 1) hx hb dX6_canOpen_33 (by decide) ?_
          refine lv_goto (tgt := 38) hx hb dX6_canOpen_34 (by decide) ?_
          replace h := (Option.some.inj h).symm
          exact haj19 _ _ _ _ _ _ h hw (lv_sub hl [] rfl)
    · replace h := oe c4 h
      replace h := (Option.some.inj h).symm
      exact haj21 _ _ _ _ _ h hw (lv_sub hl [] rfl)

set_option maxHeartbeats 4000000 in
set_option maxRecDepth 100000 in
theorem c_X6_upgradeFollows (g : GG) (l : Launch) (hG : XG g) (hst : l.stackTraces = false) (mm : MS) (o : Nat) (p0 : Nat) (w : CS) (r : Int32) (h : x_X6_upgradeFollows o p0 w = some r) : MetG g l yX6_upgradeFollows wsX6_upgradeFollows 1 20 [rv o, rv p0] (w, mm) (some (.int r)) (w, mm) := by
  refine g_start_z (some (.int r)) (own := RX6) (by decide +kernel) rfl rfl (by simp [lg_sl, rv_cat, ct_i, ct_l]) ?_
  intro p e s mi args below meth cd ls Q hX hnm hw hl hret
  have hl : lv_has ls 5 [(0, rv o), (1, rv p0)] := by simpa [lv_args, rv_cat, ct_i, ct_l] using hl
  obtain ⟨⟨hx, hb, -, hown, hts⟩, -⟩ := id hX
  unfold x_X6_upgradeFollows at h
  refine lv_iconst (v := 0) hx hb dX6_upgradeFollows_0 (by decide) ?_
  refine lv_istore_n (lv' := [(2, .int 0), (0, rv o), (1, rv p0)]) hx hb dX6_upgradeFollows_1 rfl hl (by decide) (by simp [rv_cat, ct_i, ct_l] <;> decide) (fun ls hl => ?_)
  refine lv_iconst (v := 0) hx hb dX6_upgradeFollows_2 (by decide) ?_
  refine lv_istore_n (lv' := [(3, .int 0), (2, .int 0), (0, rv o), (1, rv p0)]) hx hb dX6_upgradeFollows_3 rfl hl (by decide) rfl (fun ls hl => ?_)
  obtain ⟨aj22, h1aj22, kaj22, raj22⟩ := ol1 h
  have haj22 : ∀ (v20 : Int32) (H : Heap) (lc : List Loc) (cn sn : Nat) (ls : Array Slot), aj22 = Sum.inl v20 → wH g s.heap.size (w, mm) H lc → lv_has ls 5 [(2, .int v20)] → W p l e (rmO g 1 20 s.heap) s mi args below meth cd H lc cn sn Q (F0 mi 72 ls []) := by
    intro v20 H lc cn sn ls h hw hl
    replace h := kaj22 _ h
    refine lv_iload_n hx hb dX6_upgradeFollows_72 rfl (lv_at hl 0 rfl) ?_
    obtain ⟨c21, h⟩ := og h
    replace h := (Option.some.inj h).symm
    subst h
    exact hret _ _ _ _ _ _ _ dX6_upgradeFollows_73 c21 hw rfl
  have hkj22 : ∀ (n : Nat) (v1 : Int32) (v2 : Int32) (H : Heap) (lc : List Loc) (cn sn : Nat) (ls : Array Slot), x_X6_upgradeFollows_L1 o p0 w n v1 v2 = some aj22 → wH g s.heap.size (w, mm) H lc → lv_has ls 5 [(3, .int v1), (2, .int v2), (0, rv o), (1, rv p0)] → W p l e (rmO g 1 20 s.heap) s mi args below meth cd H lc cn sn Q (F0 mi 4 ls []) := by
    intro n
    induction n with
    | zero =>
      intro v1 v2 H lc cn sn ls h
      rw [x_X6_upgradeFollows_L1] at h
      cases h
    | succ n ih =>
      intro v1 v2 H lc cn sn ls h hw hl
      rw [x_X6_upgradeFollows_L1] at h
      refine lv_iload_n hx hb dX6_upgradeFollows_4 rfl (lv_at hl 0 rfl) ?_
      refine t_aload_n hx hb dX6_upgradeFollows_5 rfl (lv_at hl 2 rfl) ?_
      obtain ⟨c3, h⟩ := og h
      refine c_gf (C := RX6) (TT := TX6) (N := 8) (ref := "TabStore") (v := rv (wJ w 240 o)) hX hw (ce_6 c3) rfl 0 (by decide +kernel) (by decide) (by decide +kernel) (fun _ h9 => h9) rfl dX6_upgradeFollows_6 ?_
      obtain ⟨c4, h⟩ := og h
      refine c_alen hX hw 3 (ae_11 c4) rfl dX6_upgradeFollows_9 ?_
      refine lv_icmp_ge (tgt := 72) hx hb dX6_upgradeFollows_10 (by decide) (fun c5 => ?_) (fun c5 => ?_)
      · replace h := ot c5 h
        replace h := (Option.some.inj h).symm
        exact haj22 _ _ _ _ _ _ h hw (lv_sub hl [1] rfl)
      · replace h := oe c5 h
        refine t_aload_n hx hb dX6_upgradeFollows_13 rfl (lv_at hl 2 rfl) ?_
        refine c_gf (C := RX6) (TT := TX6) (N := 8) (ref := "TabStore") (v := rv (wJ w 240 o)) hX hw (ce_6 c3) rfl 0 (by decide +kernel) (by decide) (by decide +kernel) (fun _ h9 => h9) rfl dX6_upgradeFollows_14 ?_
        refine lv_iload_n hx hb dX6_upgradeFollows_17 rfl (lv_at hl 0 rfl) ?_
        obtain ⟨c6, h⟩ := og h
        refine c_ald hX hw 3 (ae_11 c4) rfl c6 dX6_upgradeFollows_18 ?_
        refine t_astore (lv' := [(4, rv (wB w (wJ w 240 o) v1.toNatClampNeg)), (3, .int v1), (2, .int v2), (0, rv o), (1, rv p0)]) hx hb dX6_upgradeFollows_19 hl (by decide) rfl (fun ls hl => ?_)
        refine t_aload hx hb dX6_upgradeFollows_21 (lv_at hl 0 rfl) ?_
        refine t_aload_n hx hb dX6_upgradeFollows_23 rfl (lv_at hl 4 rfl) ?_
        obtain ⟨aj19, h1aj19, kaj19, raj19⟩ := ol0 h
        have haj19 : ∀ (H : Heap) (lc : List Loc) (cn sn : Nat) (ls : Array Slot), aj19 = Sum.inl () → wH g s.heap.size (w, mm) H lc → lv_has ls 5 [(4, rv (wB w (wJ w 240 o) v1.toNatClampNeg)), (3, .int v1), (2, .int v2), (0, rv o), (1, rv p0)] → W p l e (rmO g 1 20 s.heap) s mi args below meth cd H lc cn sn Q (F0 mi 37 ls []) := by
          intro H lc cn sn ls h hw hl
          replace h := kaj19 h
          refine t_aload hx hb dX6_upgradeFollows_37 (lv_at hl 0 rfl) ?_
          refine t_aload_n hx hb dX6_upgradeFollows_39 rfl (lv_at hl 4 rfl) ?_
          obtain ⟨aj18, h1aj18, kaj18⟩ := ob1 h
          have haj18 : ∀ (v17 : Int32) (H : Heap) (lc : List Loc) (cn sn : Nat) (ls : Array Slot), aj18 = v17 → wH g s.heap.size (w, mm) H lc → lv_has ls 5 [(3, .int v1), (2, .int v17), (0, rv o), (1, rv p0)] → W p l e (rmO g 1 20 s.heap) s mi args below meth cd H lc cn sn Q (F0 mi 66 ls []) := by
            intro v17 H lc cn sn ls h hw hl
            replace h := kaj18 _ h
            refine lv_iinc (v := (v1 + 1)) (lv' := [(3, .int (v1 + 1)), (2, .int v17), (0, rv o), (1, rv p0)]) hx hb dX6_upgradeFollows_66 hl (k := 0) rfl (by rfl) (by decide) rfl (fun ls hl => ?_)
            refine lv_goto (tgt := 4) hx hb dX6_upgradeFollows_69 (by decide) ?_
            exact ih _ _ _ _ _ _ _ h hw (lv_sub hl [0, 1, 2, 3] rfl)
          replace h := h1aj18
          refine t_acmp_eq (tgt := 66) hx hb dX6_upgradeFollows_40 (by decide) (fun c13 => ?_) (fun c13 => ?_)
          · replace h := ot c13 h
            replace h := (Option.some.inj h).symm
            exact haj18 _ _ _ _ _ _ h hw (lv_sub hl [1, 2, 3, 4] rfl)
          · replace h := oe c13 h
            refine t_aload hx hb dX6_upgradeFollows_43 (lv_at hl 0 rfl) ?_
            obtain ⟨c14, h⟩ := og h
            refine c_gf (C := RX4) (TT := TX4) (N := 3) (ref := "TabStore$Tab") (v := .int (wI w 160 (wB w (wJ w 240 o) v1.toNatClampNeg))) hX hw (ce_4 c14) rfl 0 (by decide +kernel) (by decide) (by decide +kernel) (fun _ h9 => h9) rfl dX6_upgradeFollows_45 ?_
            refine lv_iconst (v := 3) hx hb dX6_upgradeFollows_48 (by decide) ?_
            refine lv_icmp_ne (tgt := 66) hx hb dX6_upgradeFollows_49 (by decide) (fun c15 => ?_) (fun c15 => ?_)
            · replace h := oe c15 h
              replace h := (Option.some.inj h).symm
              exact haj18 _ _ _ _ _ _ h hw (lv_sub hl [1, 2, 3, 4] rfl)
            · replace h := ot c15 h
              refine t_aload hx hb dX6_upgradeFollows_52 (lv_at hl 0 rfl) ?_
              refine c_gf (C := RX4) (TT := TX4) (N := 3) (ref := "TabStore$Tab") (v := .int (wI w 161 (wB w (wJ w 240 o) v1.toNatClampNeg))) hX hw (ce_4 c14) rfl 1 (by decide +kernel) (by decide) (by decide +kernel) (fun _ h9 => h9) rfl dX6_upgradeFollows_54 ?_
              refine t_aload_n hx hb dX6_upgradeFollows_57 rfl (lv_at hl 3 rfl) ?_
              refine c_gf (C := RX6) (TT := TX6) (N := 8) (ref := "TabStore") (v := .int (wI w 245 o)) hX hw (ce_6 c3) rfl 5 (by decide +kernel) (by decide) (by decide +kernel) (fun _ h9 => h9) rfl dX6_upgradeFollows_58 ?_
              refine lv_icmp_le (tgt := 66) hx hb dX6_upgradeFollows_61 (by decide) (fun c16 => ?_) (fun c16 => ?_)
              · replace h := ot c16 h
                replace h := (Option.some.inj h).symm
                exact haj18 _ _ _ _ _ _ h hw (lv_sub hl [1, 2, 3, 4] rfl)
              · replace h := oe c16 h
                refine lv_iconst (v := 1) hx hb dX6_upgradeFollows_64 (by decide) ?_
                refine lv_istore_n (lv' := [(2, .int 1), (4, rv (wB w (wJ w 240 o) v1.toNatClampNeg)), (3, .int v1), (0, rv o), (1, rv p0)]) hx hb dX6_upgradeFollows_65 rfl hl (by decide) (by simp [rv_cat, ct_i, ct_l] <;> decide) (fun ls hl => ?_)
                replace h := (Option.some.inj h).symm
                exact haj18 _ _ _ _ _ _ h hw (lv_sub hl [2, 0, 3, 4] rfl)
        replace h := h1aj19
        refine t_acmp_eq (tgt := 37) hx hb dX6_upgradeFollows_24 (by decide) (fun c7 => ?_) (fun c7 => ?_)
        · replace h := ot c7 h
          replace h := (Option.some.inj h).symm
          exact haj19 _ _ _ _ _ h hw (lv_sub hl [0, 1, 2, 3, 4] rfl)
        · replace h := oe c7 h
          refine t_aload hx hb dX6_upgradeFollows_27 (lv_at hl 0 rfl) ?_
          obtain ⟨c8, h⟩ := og h
          obtain ⟨v10, e9, h⟩ := ob h
          refine g_callVi (n := 0) (As := []) (rest := []) hX hw (c_X4_isInside g l hG hst mm (wB w (wJ w 240 o) v1.toNatClampNeg) w v10 e9) gX6_upgradeFollows_X4_isInside rfl (by decide +kernel) rfl (x_nz hw c8) (c_recv hX hw (ce_4 c8) rfl) hl.1 rfl (Nat.le_of_ble_eq_true rfl) ⟨by decide, by decide⟩ dX6_upgradeFollows_29 (fun H lc cn sn hw => ?_)
          refine lv_if_eq (tgt := 37) hx hb dX6_upgradeFollows_32 (by decide) (fun c11 => ?_) (fun c11 => ?_)
          · replace h := ot c11 h
            replace h := (Option.some.inj h).symm
            exact haj19 _ _ _ _ _ h hw (lv_sub hl [0, 1, 2, 3, 4] rfl)
          · replace h := oe c11 h
            refine lv_iconst (v := 0) hx hb dX6_upgradeFollows_35 (by decide) ?_
            obtain ⟨c12, h⟩ := og h
            replace h := (Option.some.inj h).symm
            replace h := raj19 _ h
            replace h := raj22 _ h
            subst h
            exact hret _ _ _ _ _ _ _ dX6_upgradeFollows_36 c12 hw rfl
  exact hkj22 FU 0 0 _ _ _ _ _ h1aj22 hw (lv_sub hl [0, 1, 2, 3] rfl)

set_option maxHeartbeats 4000000 in
set_option maxRecDepth 100000 in
theorem c_X6_hasRoomAfter (g : GG) (l : Launch) (hG : XG g) (hst : l.stackTraces = false) (mm : MS) (o : Nat) (p0 : Nat) (w : CS) (r : Int32) (h : x_X6_hasRoomAfter o p0 w = some r) : MetG g l yX6_hasRoomAfter wsX6_hasRoomAfter 2 44 [rv o, rv p0] (w, mm) (some (.int r)) (w, mm) := by
  refine g_start_z (some (.int r)) (own := RX6) (by decide +kernel) rfl rfl (by simp [lg_sl, rv_cat, ct_i, ct_l]) ?_
  intro p e s mi args below meth cd ls Q hX hnm hw hl hret
  have hl : lv_has ls 2 [(0, rv o), (1, rv p0)] := by simpa [lv_args, rv_cat, ct_i, ct_l] using hl
  obtain ⟨⟨hx, hb, -, hown, hts⟩, -⟩ := id hX
  unfold x_X6_hasRoomAfter at h
  refine t_aload_n hx hb dX6_hasRoomAfter_0 rfl (lv_at hl 0 rfl) ?_
  obtain ⟨c1, h⟩ := og h
  obtain ⟨v3, e2, h⟩ := ob h
  refine g_callVi (n := 0) (As := []) (rest := []) hX hw (c_X6_hasRoom g l hG hst mm o w v3 e2) gX6_hasRoomAfter_X6_hasRoom rfl (by decide +kernel) rfl (x_nz hw c1) (c_recv hX hw (ce_6 c1) rfl) hl.1 rfl (Nat.le_of_ble_eq_true rfl) ⟨by decide, by decide⟩ dX6_hasRoomAfter_1 (fun H lc cn sn hw => ?_)
  obtain ⟨aj11, h1aj11, kaj11⟩ := ob1 h
  have haj11 : ∀ (v9 : Int32) (H : Heap) (lc : List Loc) (cn sn : Nat) (ls : Array Slot), aj11 = v9 → wH g s.heap.size (w, mm) H lc → lv_has ls 2 [] → W p l e (rmO g 2 44 s.heap) s mi args below meth cd H lc cn sn Q (F0 mi 20 ls [.int v9]) := by
    intro v9 H lc cn sn ls h hw hl
    replace h := kaj11 _ h
    obtain ⟨c10, h⟩ := og h
    replace h := (Option.some.inj h).symm
    subst h
    exact hret _ _ _ _ _ _ _ dX6_hasRoomAfter_20 c10 hw rfl
  replace h := h1aj11
  obtain ⟨aj8, h1aj8, kaj8, raj8⟩ := ol0 h
  have haj8 : ∀ (H : Heap) (lc : List Loc) (cn sn : Nat) (ls : Array Slot), aj8 = Sum.inl () → wH g s.heap.size (w, mm) H lc → lv_has ls 2 [] → W p l e (rmO g 2 44 s.heap) s mi args below meth cd H lc cn sn Q (F0 mi 15 ls []) := by
    intro H lc cn sn ls h hw hl
    replace h := kaj8 h
    refine lv_iconst (v := 1) hx hb dX6_hasRoomAfter_15 (by decide) ?_
    refine lv_goto (tgt := 20) hx hb dX6_hasRoomAfter_16 (by decide) ?_
    replace h := (Option.some.inj h).symm
    exact haj11 _ _ _ _ _ _ h hw (lv_sub hl [] rfl)
  replace h := h1aj8
  refine lv_if_ne (tgt := 15) hx hb dX6_hasRoomAfter_4 (by decide) (fun c4 => ?_) (fun c4 => ?_)
  · replace h := oe c4 h
    replace h := (Option.some.inj h).symm
    exact haj8 _ _ _ _ _ h hw (lv_sub hl [] rfl)
  · replace h := ot c4 h
    refine t_aload_n hx hb dX6_hasRoomAfter_7 rfl (lv_at hl 0 rfl) ?_
    refine t_aload_n hx hb dX6_hasRoomAfter_8 rfl (lv_at hl 1 rfl) ?_
    obtain ⟨v6, e5, h⟩ := ob h
    refine g_callVi (n := 1) (As := [rv p0]) (rest := []) hX hw (c_X6_upgradeFollows g l hG hst mm o p0 w v6 e5) gX6_hasRoomAfter_X6_upgradeFollows rfl (by decide +kernel) rfl (x_nz hw c1) (c_recv hX hw (ce_6 c1) rfl) hl.1 rfl (Nat.le_of_ble_eq_true rfl) ⟨by decide, by decide⟩ dX6_hasRoomAfter_9 (fun H lc cn sn hw => ?_)
    refine lv_if_ne (tgt := 19) hx hb dX6_hasRoomAfter_12 (by decide) (fun c7 => ?_) (fun c7 => ?_)
    · replace h := oe c7 h
      refine lv_iconst (v := 0) hx hb dX6_hasRoomAfter_19 (by decide) ?_
      replace h := (Option.some.inj h).symm
      replace h := raj8 _ h
      exact haj11 _ _ _ _ _ _ h hw (lv_sub hl [] rfl)
    · replace h := ot c7 h
      replace h := (Option.some.inj h).symm
      exact haj8 _ _ _ _ _ h hw (lv_sub hl [] rfl)

set_option maxHeartbeats 4000000 in
set_option maxRecDepth 100000 in
theorem c_X6_mustWait (g : GG) (l : Launch) (hG : XG g) (hst : l.stackTraces = false) (mm : MS) (o : Nat) (p0 : Nat) (w : CS) (r : Int32) (h : x_X6_mustWait o p0 w = some r) : MetG g l yX6_mustWait wsX6_mustWait 3 64 [rv o, rv p0] (w, mm) (some (.int r)) (w, mm) := by
  refine g_start_z (some (.int r)) (own := RX6) (by decide +kernel) rfl rfl (by simp [lg_sl, rv_cat, ct_i, ct_l]) ?_
  intro p e s mi args below meth cd ls Q hX hnm hw hl hret
  have hl : lv_has ls 4 [(0, rv o), (1, rv p0)] := by simpa [lv_args, rv_cat, ct_i, ct_l] using hl
  obtain ⟨⟨hx, hb, -, hown, hts⟩, -⟩ := id hX
  unfold x_X6_mustWait at h
  refine lv_iconst (v := 0) hx hb dX6_mustWait_0 (by decide) ?_
  refine lv_istore_n (lv' := [(2, .int 0), (0, rv o), (1, rv p0)]) hx hb dX6_mustWait_1 rfl hl (by decide) (by simp [rv_cat, ct_i, ct_l] <;> decide) (fun ls hl => ?_)
  obtain ⟨aj22, h1aj22, kaj22, raj22⟩ := ol0 h
  have haj22 : ∀ (H : Heap) (lc : List Loc) (cn sn : Nat) (ls : Array Slot), aj22 = Sum.inl () → wH g s.heap.size (w, mm) H lc → lv_has ls 4 [] → W p l e (rmO g 3 64 s.heap) s mi args below meth cd H lc cn sn Q (F0 mi 59 ls []) := by
    intro H lc cn sn ls h hw hl
    replace h := kaj22 h
    refine lv_iconst (v := 0) hx hb dX6_mustWait_59 (by decide) ?_
    obtain ⟨c21, h⟩ := og h
    replace h := (Option.some.inj h).symm
    subst h
    exact hret _ _ _ _ _ _ _ dX6_mustWait_60 c21 hw rfl
  have hkj22 : ∀ (n : Nat) (v1 : Int32) (H : Heap) (lc : List Loc) (cn sn : Nat) (ls : Array Slot), x_X6_mustWait_L1 o p0 w n v1 = some aj22 → wH g s.heap.size (w, mm) H lc → lv_has ls 4 [(2, .int v1), (0, rv o), (1, rv p0)] → W p l e (rmO g 3 64 s.heap) s mi args below meth cd H lc cn sn Q (F0 mi 2 ls []) := by
    intro n
    induction n with
    | zero =>
      intro v1 H lc cn sn ls h
      rw [x_X6_mustWait_L1] at h
      cases h
    | succ n ih =>
      intro v1 H lc cn sn ls h hw hl
      rw [x_X6_mustWait_L1] at h
      refine lv_iload_n hx hb dX6_mustWait_2 rfl (lv_at hl 0 rfl) ?_
      refine t_aload_n hx hb dX6_mustWait_3 rfl (lv_at hl 1 rfl) ?_
      obtain ⟨c2, h⟩ := og h
      refine c_gf (C := RX6) (TT := TX6) (N := 8) (ref := "TabStore") (v := rv (wJ w 243 o)) hX hw (ce_6 c2) rfl 3 (by decide +kernel) (by decide) (by decide +kernel) (fun _ h9 => h9) rfl dX6_mustWait_4 ?_
      obtain ⟨c3, h⟩ := og h
      obtain ⟨v5, e4, h⟩ := ob h
      refine g_callFi (n := 0) (As := []) (rest := [.int v1]) hX hw (c_Jx4a65c_size_8abf5 g l hG hst mm (wJ w 243 o) w v5 e4) gX6_mustWait_Jx4a65c_size_8abf5_f83Jx4a65c rfl (by decide +kernel) rfl (x_nz hw c3) (c_recv hX hw (ce_7 c3) rfl) ((hG s hX.2.1.2.1).2.1.1) (show vwCl[0]? = some (RJx4a65c, TJx4a65c, 3) from rfl) hl.1 rfl (Nat.le_of_ble_eq_true rfl) ⟨by decide, by decide⟩ dX6_mustWait_7 (fun H lc cn sn hw => ?_)
      refine lv_icmp_ge (tgt := 59) hx hb dX6_mustWait_12 (by decide) (fun c6 => ?_) (fun c6 => ?_)
      · replace h := ot c6 h
        replace h := (Option.some.inj h).symm
        exact haj22 _ _ _ _ _ h hw (lv_sub hl [] rfl)
      · replace h := oe c6 h
        refine t_aload_n hx hb dX6_mustWait_15 rfl (lv_at hl 1 rfl) ?_
        refine c_gf (C := RX6) (TT := TX6) (N := 8) (ref := "TabStore") (v := rv (wJ w 243 o)) hX hw (ce_6 c2) rfl 3 (by decide +kernel) (by decide) (by decide +kernel) (fun _ h9 => h9) rfl dX6_mustWait_16 ?_
        refine lv_iload_n hx hb dX6_mustWait_19 rfl (lv_at hl 0 rfl) ?_
        obtain ⟨v8, e7, h⟩ := ob h
        refine g_callFa (n := 1) (As := [.int v1]) (rest := []) hX hw (c_Jx4a65c_get_915e3 g l hG hst mm (wJ w 243 o) v1 w v8 e7) gX6_mustWait_Jx4a65c_get_915e3_f89Jx4a65c rfl (by decide +kernel) rfl (x_nz hw c3) (c_recv hX hw (ce_7 c3) rfl) ((hG s hX.2.1.2.1).2.1.2.1) (show vwCl[0]? = some (RJx4a65c, TJx4a65c, 3) from rfl) hl.1 rfl (Nat.le_of_ble_eq_true rfl) ⟨by decide, by decide⟩ dX6_mustWait_20 (fun H lc cn sn hw => ?_)
        obtain ⟨c9, h⟩ := og h
        refine c_cast hX hw (c9.imp id ce_2) rfl (by decide +kernel) dX6_mustWait_25 ?_
        refine t_astore_n (lv' := [(3, rv v8), (2, .int v1), (0, rv o), (1, rv p0)]) hx hb dX6_mustWait_28 rfl hl (by decide) rfl (fun ls hl => ?_)
        refine t_aload_n hx hb dX6_mustWait_29 rfl (lv_at hl 0 rfl) ?_
        refine t_aload_n hx hb dX6_mustWait_30 rfl (lv_at hl 3 rfl) ?_
        refine t_acmp_ne (tgt := 36) hx hb dX6_mustWait_31 (by decide) (fun c10 => ?_) (fun c10 => ?_)
        · replace h := oe c10 h
          refine t_aload_n hx hb dX6_mustWait_36 rfl (lv_at hl 0 rfl) ?_
          obtain ⟨c11, h⟩ := og h
          obtain ⟨v13, e12, h⟩ := ob h
          refine g_callVi (n := 0) (As := []) (rest := []) hX hw (c_X5_isPending g l hG hst mm v8 w v13 e12) gX6_mustWait_X5_isPending rfl (by decide +kernel) rfl (x_nz hw c11) (c_recv hX hw (ce_2 c11) rfl) hl.1 rfl (Nat.le_of_ble_eq_true rfl) ⟨by decide, by decide⟩ dX6_mustWait_37 (fun H lc cn sn hw => ?_)
          obtain ⟨aj19, h1aj19, kaj19, raj19⟩ := ol0 h
          have haj19 : ∀ (H : Heap) (lc : List Loc) (cn sn : Nat) (ls : Array Slot), aj19 = Sum.inl () → wH g s.heap.size (w, mm) H lc → lv_has ls 4 [(2, .int v1), (0, rv o), (1, rv p0)] → W p l e (rmO g 3 64 s.heap) s mi args below meth cd H lc cn sn Q (F0 mi 53 ls []) := by
            intro H lc cn sn ls h hw hl
            replace h := kaj19 h
            refine lv_iinc (v := (v1 + 1)) (lv' := [(2, .int (v1 + 1)), (0, rv o), (1, rv p0)]) hx hb dX6_mustWait_53 hl (k := 0) rfl (by rfl) (by decide) (by simp [rv_cat, ct_i, ct_l] <;> decide) (fun ls hl => ?_)
            refine lv_goto (tgt := 2) hx hb dX6_mustWait_56 (by decide) ?_
            exact ih _ _ _ _ _ _ h hw (lv_sub hl [0, 1, 2] rfl)
          replace h := h1aj19
          refine lv_if_eq (tgt := 53) hx hb dX6_mustWait_40 (by decide) (fun c14 => ?_) (fun c14 => ?_)
          · replace h := ot c14 h
            replace h := (Option.some.inj h).symm
            exact haj19 _ _ _ _ _ h hw (lv_sub hl [1, 2, 3] rfl)
          · replace h := oe c14 h
            refine t_aload_n hx hb dX6_mustWait_43 rfl (lv_at hl 0 rfl) ?_
            refine t_aload_n hx hb dX6_mustWait_44 rfl (lv_at hl 3 rfl) ?_
            obtain ⟨v16, e15, h⟩ := ob h
            refine g_callVi (n := 1) (As := [rv p0]) (rest := []) hX hw (c_X5_conflictsWith g l hG hst mm v8 p0 w v16 e15) gX6_mustWait_X5_conflictsWith rfl (by decide +kernel) rfl (x_nz hw c11) (c_recv hX hw (ce_2 c11) rfl) hl.1 rfl (Nat.le_of_ble_eq_true rfl) ⟨by decide, by decide⟩ dX6_mustWait_45 (fun H lc cn sn hw => ?_)
            refine lv_if_eq (tgt := 53) hx hb dX6_mustWait_48 (by decide) (fun c17 => ?_) (fun c17 => ?_)
            · replace h := ot c17 h
              replace h := (Option.some.inj h).symm
              exact haj19 _ _ _ _ _ h hw (lv_sub hl [1, 2, 3] rfl)
            · replace h := oe c17 h
              refine lv_iconst (v := 1) hx hb dX6_mustWait_51 (by decide) ?_
              obtain ⟨c18, h⟩ := og h
              replace h := (Option.some.inj h).symm
              replace h := raj19 _ h
              replace h := raj22 _ h
              subst h
              exact hret _ _ _ _ _ _ _ dX6_mustWait_52 c18 hw rfl
        · replace h := ot c10 h
          refine lv_iconst (v := 0) hx hb dX6_mustWait_34 (by decide) ?_
          obtain ⟨c20, h⟩ := og h
          replace h := (Option.some.inj h).symm
          replace h := raj22 _ h
          subst h
          exact hret _ _ _ _ _ _ _ dX6_mustWait_35 c20 hw rfl
  exact hkj22 FU 0 _ _ _ _ _ h1aj22 hw (lv_sub hl [0, 1, 2] rfl)

set_option maxHeartbeats 4000000 in
set_option maxRecDepth 100000 in
theorem c_X6_copyScope (g : GG) (l : Launch) (hG : XG g) (hst : l.stackTraces = false) (mm : MS) (p0 : Nat) (p1 : Nat) (p2 : Nat) (w : CS) (w' : CS) (h : x_X6_copyScope p0 p1 p2 w = some w') : MetG g l yX6_copyScope wsX6_copyScope 8 193 [rv p0, rv p1, rv p2] (w, mm) (none) (w', mm) := by
  refine g_start_v (none) (own := RX6) (by decide +kernel) rfl rfl (by simp [lg_sl, rv_cat, ct_i, ct_l]) ?_
  intro p e s mi args below meth cd ls Q hX hnm hw hl hret
  have hl : lv_has ls 4 [(0, rv p0), (1, rv p1), (2, rv p2)] := by simpa [lv_args, rv_cat, ct_i, ct_l] using hl
  obtain ⟨⟨hx, hb, -, hown, hts⟩, -⟩ := id hX
  unfold x_X6_copyScope at h
  refine lv_iconst (v := 0) hx hb dX6_copyScope_0 (by decide) ?_
  refine lv_istore_n (lv' := [(3, .int 0), (0, rv p0), (1, rv p1), (2, rv p2)]) hx hb dX6_copyScope_1 rfl hl (by decide) (by simp [rv_cat, ct_i, ct_l] <;> decide) (fun ls hl => ?_)
  obtain ⟨aj19, h1aj19, kaj19⟩ := ob1 h
  have haj19 : ∀ (w18 : CS) (H : Heap) (lc : List Loc) (cn sn : Nat) (ls : Array Slot), aj19 = w18 → wH g s.heap.size (w18, mm) H lc → lv_has ls 4 [] → W p l e (rmO g 8 193 s.heap) s mi args below meth cd H lc cn sn Q (F0 mi 37 ls []) := by
    intro w18 H lc cn sn ls h hw hl
    replace h := kaj19 _ h
    replace h := (Option.some.inj h).symm
    subst h
    exact hret _ _ _ _ _ _ dX6_copyScope_37 hw rfl
  have hkj19 : ∀ (n : Nat) (v1 : Int32) (w2 : CS) (H : Heap) (lc : List Loc) (cn sn : Nat) (ls : Array Slot), x_X6_copyScope_L1 p0 p1 p2 n v1 w2 = some aj19 → wH g s.heap.size (w2, mm) H lc → lv_has ls 4 [(3, .int v1), (0, rv p0), (1, rv p1), (2, rv p2)] → W p l e (rmO g 8 193 s.heap) s mi args below meth cd H lc cn sn Q (F0 mi 2 ls []) := by
    intro n
    induction n with
    | zero =>
      intro v1 w2 H lc cn sn ls h
      rw [x_X6_copyScope_L1] at h
      cases h
    | succ n ih =>
      intro v1 w2 H lc cn sn ls h hw hl
      rw [x_X6_copyScope_L1] at h
      refine lv_iload_n hx hb dX6_copyScope_2 rfl (lv_at hl 0 rfl) ?_
      refine t_aload_n hx hb dX6_copyScope_3 rfl (lv_at hl 2 rfl) ?_
      obtain ⟨c3, h⟩ := og h
      refine c_alen hX hw 2 (ae_10 c3) rfl dX6_copyScope_4 ?_
      refine lv_icmp_ge (tgt := 37) hx hb dX6_copyScope_5 (by decide) (fun c4 => ?_) (fun c4 => ?_)
      · replace h := ot c4 h
        replace h := (Option.some.inj h).symm
        exact haj19 _ _ _ _ _ _ h hw (lv_sub hl [] rfl)
      · replace h := oe c4 h
        refine lv_iload_n hx hb dX6_copyScope_8 rfl (lv_at hl 0 rfl) ?_
        refine t_aload_n hx hb dX6_copyScope_9 rfl (lv_at hl 3 rfl) ?_
        obtain ⟨c5, h⟩ := og h
        refine c_alen hX hw 2 (ae_10 c5) rfl dX6_copyScope_10 ?_
        refine lv_icmp_ge (tgt := 37) hx hb dX6_copyScope_11 (by decide) (fun c6 => ?_) (fun c6 => ?_)
        · replace h := ot c6 h
          replace h := (Option.some.inj h).symm
          exact haj19 _ _ _ _ _ _ h hw (lv_sub hl [] rfl)
        · replace h := oe c6 h
          refine t_aload_n hx hb dX6_copyScope_14 rfl (lv_at hl 1 rfl) ?_
          refine lv_iload_n hx hb dX6_copyScope_15 rfl (lv_at hl 0 rfl) ?_
          obtain ⟨c7, h⟩ := og h
          obtain ⟨v9, e8, h⟩ := ob h
          refine g_callVi (n := 1) (As := [.int v1]) (rest := []) hX hw (c_X5_hasInScope g l hG hst mm p0 v1 w2 v9 e8) gX6_copyScope_X5_hasInScope rfl (by decide +kernel) rfl (x_nz hw c7) (c_recv hX hw (ce_2 c7) rfl) hl.1 rfl (Nat.le_of_ble_eq_true rfl) ⟨by decide, by decide⟩ dX6_copyScope_16 (fun H lc cn sn hw => ?_)
          obtain ⟨aj17, h1aj17, kaj17⟩ := ob1 h
          have haj17 : ∀ (w16 : CS) (H : Heap) (lc : List Loc) (cn sn : Nat) (ls : Array Slot), aj17 = w16 → wH g s.heap.size (w16, mm) H lc → lv_has ls 4 [(3, .int v1), (0, rv p0), (1, rv p1), (2, rv p2)] → W p l e (rmO g 8 193 s.heap) s mi args below meth cd H lc cn sn Q (F0 mi 31 ls []) := by
            intro w16 H lc cn sn ls h hw hl
            replace h := kaj17 _ h
            refine lv_iinc (v := (v1 + 1)) (lv' := [(3, .int (v1 + 1)), (0, rv p0), (1, rv p1), (2, rv p2)]) hx hb dX6_copyScope_31 hl (k := 0) rfl (by rfl) (by decide) (by simp [rv_cat, ct_i, ct_l] <;> decide) (fun ls hl => ?_)
            refine lv_goto (tgt := 2) hx hb dX6_copyScope_34 (by decide) ?_
            exact ih _ _ _ _ _ _ _ h hw (lv_sub hl [0, 1, 2, 3] rfl)
          replace h := h1aj17
          refine lv_if_eq (tgt := 31) hx hb dX6_copyScope_19 (by decide) (fun c10 => ?_) (fun c10 => ?_)
          · replace h := ot c10 h
            replace h := (Option.some.inj h).symm
            exact haj17 _ _ _ _ _ _ h hw (lv_sub hl [0, 1, 2, 3] rfl)
          · replace h := oe c10 h
            refine t_aload_n hx hb dX6_copyScope_22 rfl (lv_at hl 3 rfl) ?_
            refine lv_iload_n hx hb dX6_copyScope_23 rfl (lv_at hl 0 rfl) ?_
            obtain ⟨c11, h⟩ := og h
            refine c_ald hX hw 2 (ae_10 c5) rfl c11 dX6_copyScope_24 ?_
            refine t_aload_n hx hb dX6_copyScope_25 rfl (lv_at hl 2 rfl) ?_
            refine lv_iload_n hx hb dX6_copyScope_26 rfl (lv_at hl 0 rfl) ?_
            obtain ⟨c12, h⟩ := og h
            refine c_ald hX hw 2 (ae_10 c3) rfl c12 dX6_copyScope_27 ?_
            obtain ⟨c13, h⟩ := og h
            obtain ⟨w15, e14, h⟩ := ob h
            refine g_callVv (n := 1) (As := [rv (wB w2 p1 v1.toNatClampNeg)]) (rest := []) hX hw (c_X3_takeOver g l hG hst mm (wB w2 p2 v1.toNatClampNeg) (wB w2 p1 v1.toNatClampNeg) w2 w15 e14) gX6_copyScope_X3_takeOver rfl (by decide +kernel) rfl (x_nz hw c13) (c_recv hX hw (ce_5 c13) rfl) hl.1 rfl (Nat.le_of_ble_eq_true rfl) ⟨by decide, by decide⟩ dX6_copyScope_28 (fun H lc cn sn hw => ?_)
            replace h := (Option.some.inj h).symm
            exact haj17 _ _ _ _ _ _ h hw (lv_sub hl [0, 1, 2, 3] rfl)
  exact hkj19 FU 0 w _ _ _ _ _ h1aj19 hw (lv_sub hl [0, 1, 2, 3] rfl)

set_option maxHeartbeats 4000000 in
set_option maxRecDepth 100000 in
theorem c_X6_run (g : GG) (l : Launch) (hG : XG g) (hst : l.stackTraces = false) (mm : MS) (o : Nat) (p0 : Nat) (w : CS) (w' : CS) (h : x_X6_run o p0 w = some w') : MetG g l yX6_run wsX6_run 9 216 [rv o, rv p0] (w, mm) (none) (w', mm) := by
  refine g_start_v (none) (own := RX6) (by decide +kernel) rfl rfl (by simp [lg_sl, rv_cat, ct_i, ct_l]) ?_
  intro p e s mi args below meth cd ls Q hX hnm hw hl hret
  have hl : lv_has ls 2 [(0, rv o), (1, rv p0)] := by simpa [lv_args, rv_cat, ct_i, ct_l] using hl
  obtain ⟨⟨hx, hb, -, hown, hts⟩, -⟩ := id hX
  unfold x_X6_run at h
  refine t_aload_n hx hb dX6_run_0 rfl (lv_at hl 1 rfl) ?_
  refine lv_iconst (v := 1) hx hb dX6_run_1 (by decide) ?_
  obtain ⟨c1, h⟩ := og h
  obtain ⟨w2, ew2, h⟩ := ol h
  refine p_2_3 hX hw c1 (by decide +kernel) (by decide +kernel) dX6_run_2 (fun H lc hw => ?_)
  have hw := hw_eq ew2 hw
  refine t_aload_n hx hb dX6_run_5 rfl (lv_at hl 1 rfl) ?_
  obtain ⟨c3, h⟩ := og h
  refine c_gf (C := RX5) (TT := TX5) (N := 4) (ref := "TabStore$Transaction") (v := .int (wI w2 81 p0)) hX hw (ce_2 c3) rfl 1 (by decide +kernel) (by decide) (by decide +kernel) (fun _ h9 => h9) rfl dX6_run_6 ?_
  obtain ⟨aj9, h1aj9, kaj9⟩ := ob1 h
  have haj9 : ∀ (w8 : CS) (H : Heap) (lc : List Loc) (cn sn : Nat) (ls : Array Slot), aj9 = w8 → wH g s.heap.size (w8, mm) H lc → lv_has ls 2 [] → W p l e (rmO g 9 216 s.heap) s mi args below meth cd H lc cn sn Q (F0 mi 24 ls []) := by
    intro w8 H lc cn sn ls h hw hl
    replace h := kaj9 _ h
    replace h := (Option.some.inj h).symm
    subst h
    exact hret _ _ _ _ _ _ dX6_run_24 hw rfl
  replace h := h1aj9
  refine lv_if_eq (tgt := 24) hx hb dX6_run_9 (by decide) (fun c4 => ?_) (fun c4 => ?_)
  · replace h := ot c4 h
    replace h := (Option.some.inj h).symm
    exact haj9 _ _ _ _ _ _ h hw (lv_sub hl [] rfl)
  · replace h := oe c4 h
    refine t_aload_n hx hb dX6_run_12 rfl (lv_at hl 1 rfl) ?_
    refine t_aload_n hx hb dX6_run_13 rfl (lv_at hl 0 rfl) ?_
    obtain ⟨c5, h⟩ := og h
    refine c_gf (C := RX6) (TT := TX6) (N := 8) (ref := "TabStore") (v := rv (wJ w2 241 o)) hX hw (ce_6 c5) rfl 1 (by decide +kernel) (by decide) (by decide +kernel) (fun _ h9 => h9) rfl dX6_run_14 ?_
    refine t_aload_n hx hb dX6_run_17 rfl (lv_at hl 0 rfl) ?_
    refine c_gf (C := RX6) (TT := TX6) (N := 8) (ref := "TabStore") (v := rv (wJ w2 242 o)) hX hw (ce_6 c5) rfl 2 (by decide +kernel) (by decide) (by decide +kernel) (fun _ h9 => h9) rfl dX6_run_18 ?_
    obtain ⟨w7, e6, h⟩ := ob h
    refine g_callSv (n := 3) (As := [rv p0, rv (wJ w2 241 o), rv (wJ w2 242 o)]) (rest := []) hX hw (c_X6_copyScope g l hG hst mm p0 (wJ w2 241 o) (wJ w2 242 o) w2 w7 e6) gX6_run_X6_copyScope rfl (by decide +kernel) rfl hl.1 rfl (Nat.le_of_ble_eq_true rfl) ⟨by decide, by decide⟩ dX6_run_21 (fun H lc cn sn hw => ?_)
    replace h := (Option.some.inj h).symm
    exact haj9 _ _ _ _ _ _ h hw (lv_sub hl [] rfl)

set_option maxHeartbeats 4000000 in
set_option maxRecDepth 100000 in
theorem c_X6_giveUp (g : GG) (l : Launch) (hG : XG g) (hst : l.stackTraces = false) (mm : MS) (o : Nat) (p0 : Nat) (w : CS) (w' : CS) (h : x_X6_giveUp o p0 w = some w') : MetG g l yX6_giveUp wsX6_giveUp 9 216 [rv o, rv p0] (w, mm) (none) (w', mm) := by
  refine g_start_v (none) (own := RX6) (by decide +kernel) rfl rfl (by simp [lg_sl, rv_cat, ct_i, ct_l]) ?_
  intro p e s mi args below meth cd ls Q hX hnm hw hl hret
  have hl : lv_has ls 2 [(0, rv o), (1, rv p0)] := by simpa [lv_args, rv_cat, ct_i, ct_l] using hl
  obtain ⟨⟨hx, hb, -, hown, hts⟩, -⟩ := id hX
  unfold x_X6_giveUp at h
  refine t_aload_n hx hb dX6_giveUp_0 rfl (lv_at hl 1 rfl) ?_
  obtain ⟨c1, h⟩ := og h
  refine c_gf (C := RX5) (TT := TX5) (N := 4) (ref := "TabStore$Transaction") (v := .int (wI w 83 p0)) hX hw (ce_2 c1) rfl 3 (by decide +kernel) (by decide) (by decide +kernel) (fun _ h9 => h9) rfl dX6_giveUp_1 ?_
  refine lv_iconst (v := 1) hx hb dX6_giveUp_4 (by decide) ?_
  obtain ⟨aj10, h1aj10, kaj10⟩ := ob1 h
  have haj10 : ∀ (w7 : CS) (H : Heap) (lc : List Loc) (cn sn : Nat) (ls : Array Slot), aj10 = w7 → wH g s.heap.size (w7, mm) H lc → lv_has ls 2 [(1, rv p0)] → W p l e (rmO g 9 216 s.heap) s mi args below meth cd H lc cn sn Q (F0 mi 27 ls []) := by
    intro w7 H lc cn sn ls h hw hl
    replace h := kaj10 _ h
    refine t_aload_n hx hb dX6_giveUp_27 rfl (lv_at hl 0 rfl) ?_
    refine lv_iconst (v := 3) hx hb dX6_giveUp_28 (by decide) ?_
    obtain ⟨c8, h⟩ := og h
    obtain ⟨w9, ew9, h⟩ := ol h
    refine p_2_3 hX hw c8 (by decide +kernel) (by decide +kernel) dX6_giveUp_29 (fun H lc hw => ?_)
    have hw := hw_eq ew9 hw
    replace h := (Option.some.inj h).symm
    subst h
    exact hret _ _ _ _ _ _ dX6_giveUp_32 hw rfl
  replace h := h1aj10
  refine lv_icmp_ne (tgt := 27) hx hb dX6_giveUp_5 (by decide) (fun c2 => ?_) (fun c2 => ?_)
  · replace h := oe c2 h
    replace h := (Option.some.inj h).symm
    exact haj10 _ _ _ _ _ _ h hw (lv_sub hl [1] rfl)
  · replace h := ot c2 h
    refine t_aload_n hx hb dX6_giveUp_8 rfl (lv_at hl 1 rfl) ?_
    refine c_gf (C := RX5) (TT := TX5) (N := 4) (ref := "TabStore$Transaction") (v := .int (wI w 81 p0)) hX hw (ce_2 c1) rfl 1 (by decide +kernel) (by decide) (by decide +kernel) (fun _ h9 => h9) rfl dX6_giveUp_9 ?_
    refine lv_if_eq (tgt := 27) hx hb dX6_giveUp_12 (by decide) (fun c3 => ?_) (fun c3 => ?_)
    · replace h := ot c3 h
      replace h := (Option.some.inj h).symm
      exact haj10 _ _ _ _ _ _ h hw (lv_sub hl [1] rfl)
    · replace h := oe c3 h
      refine t_aload_n hx hb dX6_giveUp_15 rfl (lv_at hl 1 rfl) ?_
      refine t_aload_n hx hb dX6_giveUp_16 rfl (lv_at hl 0 rfl) ?_
      obtain ⟨c4, h⟩ := og h
      refine c_gf (C := RX6) (TT := TX6) (N := 8) (ref := "TabStore") (v := rv (wJ w 242 o)) hX hw (ce_6 c4) rfl 2 (by decide +kernel) (by decide) (by decide +kernel) (fun _ h9 => h9) rfl dX6_giveUp_17 ?_
      refine t_aload_n hx hb dX6_giveUp_20 rfl (lv_at hl 0 rfl) ?_
      refine c_gf (C := RX6) (TT := TX6) (N := 8) (ref := "TabStore") (v := rv (wJ w 241 o)) hX hw (ce_6 c4) rfl 1 (by decide +kernel) (by decide) (by decide +kernel) (fun _ h9 => h9) rfl dX6_giveUp_21 ?_
      obtain ⟨w6, e5, h⟩ := ob h
      refine g_callSv (n := 3) (As := [rv p0, rv (wJ w 242 o), rv (wJ w 241 o)]) (rest := []) hX hw (c_X6_copyScope g l hG hst mm p0 (wJ w 242 o) (wJ w 241 o) w w6 e5) gX6_giveUp_X6_copyScope rfl (by decide +kernel) rfl hl.1 rfl (Nat.le_of_ble_eq_true rfl) ⟨by decide, by decide⟩ dX6_giveUp_24 (fun H lc cn sn hw => ?_)
      replace h := (Option.some.inj h).symm
      exact haj10 _ _ _ _ _ _ h hw (lv_sub hl [1] rfl)

set_option maxHeartbeats 4000000 in
set_option maxRecDepth 100000 in
theorem c_X6_runFreed (g : GG) (l : Launch) (hG : XG g) (hst : l.stackTraces = false) (mm : MS) (o : Nat) (w : CS) (r : Int32) (w' : CS) (h : x_X6_runFreed o w = some (r, w')) : MetG g l yX6_runFreed wsX6_runFreed 10 237 [rv o] (w, mm) (some (.int r)) (w', mm) := by
  refine g_start_i (some (.int r)) (own := RX6) (by decide +kernel) rfl rfl (by simp [lg_sl, rv_cat, ct_i, ct_l]) ?_
  intro p e s mi args below meth cd ls Q hX hnm hw hl hret
  have hl : lv_has ls 4 [(0, rv o)] := by simpa [lv_args, rv_cat, ct_i, ct_l] using hl
  obtain ⟨⟨hx, hb, -, hown, hts⟩, -⟩ := id hX
  unfold x_X6_runFreed at h
  refine lv_iconst (v := 0) hx hb dX6_runFreed_0 (by decide) ?_
  refine lv_istore_n (lv' := [(1, .int 0), (0, rv o)]) hx hb dX6_runFreed_1 rfl hl (by decide) (by simp [rv_cat, ct_i, ct_l] <;> decide) (fun ls hl => ?_)
  refine lv_iconst (v := 0) hx hb dX6_runFreed_2 (by decide) ?_
  refine lv_istore_n (lv' := [(2, .int 0), (1, .int 0), (0, rv o)]) hx hb dX6_runFreed_3 rfl hl (by decide) rfl (fun ls hl => ?_)
  obtain ⟨aj24, h1aj24, kaj24⟩ := ob2 h
  have haj24 : ∀ (v22 : Int32) (w23 : CS) (H : Heap) (lc : List Loc) (cn sn : Nat) (ls : Array Slot), aj24 = (v22, w23) → wH g s.heap.size (w23, mm) H lc → lv_has ls 4 [(1, .int v22)] → W p l e (rmO g 10 237 s.heap) s mi args below meth cd H lc cn sn Q (F0 mi 60 ls []) := by
    intro v22 w23 H lc cn sn ls h hw hl
    replace h := kaj24 _ _ h
    refine lv_iload_n hx hb dX6_runFreed_60 rfl (lv_at hl 0 rfl) ?_
    replace h := (Option.some.inj h).symm
    obtain ⟨rfl, rfl⟩ := Prod.mk.inj h
    exact hret _ _ _ _ _ _ _ dX6_runFreed_61 hw rfl
  have hkj24 : ∀ (n : Nat) (v1 : Int32) (v2 : Int32) (w3 : CS) (H : Heap) (lc : List Loc) (cn sn : Nat) (ls : Array Slot), x_X6_runFreed_L1 o n v1 v2 w3 = some aj24 → wH g s.heap.size (w3, mm) H lc → lv_has ls 4 [(2, .int v1), (1, .int v2), (0, rv o)] → W p l e (rmO g 10 237 s.heap) s mi args below meth cd H lc cn sn Q (F0 mi 4 ls []) := by
    intro n
    induction n with
    | zero =>
      intro v1 v2 w3 H lc cn sn ls h
      rw [x_X6_runFreed_L1] at h
      cases h
    | succ n ih =>
      intro v1 v2 w3 H lc cn sn ls h hw hl
      rw [x_X6_runFreed_L1] at h
      refine lv_iload_n hx hb dX6_runFreed_4 rfl (lv_at hl 0 rfl) ?_
      refine t_aload_n hx hb dX6_runFreed_5 rfl (lv_at hl 2 rfl) ?_
      obtain ⟨c4, h⟩ := og h
      refine c_gf (C := RX6) (TT := TX6) (N := 8) (ref := "TabStore") (v := rv (wJ w3 243 o)) hX hw (ce_6 c4) rfl 3 (by decide +kernel) (by decide) (by decide +kernel) (fun _ h9 => h9) rfl dX6_runFreed_6 ?_
      obtain ⟨c5, h⟩ := og h
      obtain ⟨v7, e6, h⟩ := ob h
      refine g_callFi (n := 0) (As := []) (rest := [.int v1]) hX hw (c_Jx4a65c_size_8abf5 g l hG hst mm (wJ w3 243 o) w3 v7 e6) gX6_runFreed_Jx4a65c_size_8abf5_f83Jx4a65c rfl (by decide +kernel) rfl (x_nz hw c5) (c_recv hX hw (ce_7 c5) rfl) ((hG s hX.2.1.2.1).2.1.1) (show vwCl[0]? = some (RJx4a65c, TJx4a65c, 3) from rfl) hl.1 rfl (Nat.le_of_ble_eq_true rfl) ⟨by decide, by decide⟩ dX6_runFreed_9 (fun H lc cn sn hw => ?_)
      refine lv_icmp_ge (tgt := 60) hx hb dX6_runFreed_14 (by decide) (fun c8 => ?_) (fun c8 => ?_)
      · replace h := ot c8 h
        replace h := (Option.some.inj h).symm
        exact haj24 _ _ _ _ _ _ _ h hw (lv_sub hl [1] rfl)
      · replace h := oe c8 h
        refine t_aload_n hx hb dX6_runFreed_17 rfl (lv_at hl 2 rfl) ?_
        refine c_gf (C := RX6) (TT := TX6) (N := 8) (ref := "TabStore") (v := rv (wJ w3 243 o)) hX hw (ce_6 c4) rfl 3 (by decide +kernel) (by decide) (by decide +kernel) (fun _ h9 => h9) rfl dX6_runFreed_18 ?_
        refine lv_iload_n hx hb dX6_runFreed_21 rfl (lv_at hl 0 rfl) ?_
        obtain ⟨v10, e9, h⟩ := ob h
        refine g_callFa (n := 1) (As := [.int v1]) (rest := []) hX hw (c_Jx4a65c_get_915e3 g l hG hst mm (wJ w3 243 o) v1 w3 v10 e9) gX6_runFreed_Jx4a65c_get_915e3_f89Jx4a65c rfl (by decide +kernel) rfl (x_nz hw c5) (c_recv hX hw (ce_7 c5) rfl) ((hG s hX.2.1.2.1).2.1.2.1) (show vwCl[0]? = some (RJx4a65c, TJx4a65c, 3) from rfl) hl.1 rfl (Nat.le_of_ble_eq_true rfl) ⟨by decide, by decide⟩ dX6_runFreed_22 (fun H lc cn sn hw => ?_)
        obtain ⟨c11, h⟩ := og h
        refine c_cast hX hw (c11.imp id ce_2) rfl (by decide +kernel) dX6_runFreed_27 ?_
        refine t_astore_n (lv' := [(3, rv v10), (2, .int v1), (1, .int v2), (0, rv o)]) hx hb dX6_runFreed_30 rfl hl (by decide) rfl (fun ls hl => ?_)
        refine t_aload_n hx hb dX6_runFreed_31 rfl (lv_at hl 0 rfl) ?_
        obtain ⟨c12, h⟩ := og h
        refine c_gf (C := RX5) (TT := TX5) (N := 4) (ref := "TabStore$Transaction") (v := .int (wI w3 83 v10)) hX hw (ce_2 c12) rfl 3 (by decide +kernel) (by decide) (by decide +kernel) (fun _ h9 => h9) rfl dX6_runFreed_32 ?_
        obtain ⟨aj21, h1aj21, kaj21⟩ := ob2 h
        have haj21 : ∀ (v19 : Int32) (w20 : CS) (H : Heap) (lc : List Loc) (cn sn : Nat) (ls : Array Slot), aj21 = (v19, w20) → wH g s.heap.size (w20, mm) H lc → lv_has ls 4 [(2, .int v1), (1, .int v19), (0, rv o)] → W p l e (rmO g 10 237 s.heap) s mi args below meth cd H lc cn sn Q (F0 mi 54 ls []) := by
          intro v19 w20 H lc cn sn ls h hw hl
          replace h := kaj21 _ _ h
          refine lv_iinc (v := (v1 + 1)) (lv' := [(2, .int (v1 + 1)), (1, .int v19), (0, rv o)]) hx hb dX6_runFreed_54 hl (k := 0) rfl (by rfl) (by decide) rfl (fun ls hl => ?_)
          refine lv_goto (tgt := 4) hx hb dX6_runFreed_57 (by decide) ?_
          exact ih _ _ _ _ _ _ _ _ h hw (lv_sub hl [0, 1, 2] rfl)
        replace h := h1aj21
        refine lv_if_ne (tgt := 54) hx hb dX6_runFreed_35 (by decide) (fun c13 => ?_) (fun c13 => ?_)
        · replace h := oe c13 h
          replace h := (Option.some.inj h).symm
          exact haj21 _ _ _ _ _ _ _ h hw (lv_sub hl [1, 2, 3] rfl)
        · replace h := ot c13 h
          refine t_aload_n hx hb dX6_runFreed_38 rfl (lv_at hl 3 rfl) ?_
          refine t_aload_n hx hb dX6_runFreed_39 rfl (lv_at hl 0 rfl) ?_
          obtain ⟨v15, e14, h⟩ := ob h
          refine g_callVi (n := 1) (As := [rv v10]) (rest := []) hX hw (c_X6_mustWait g l hG hst mm o v10 w3 v15 e14) gX6_runFreed_X6_mustWait rfl (by decide +kernel) rfl (x_nz hw c4) (c_recv hX hw (ce_6 c4) rfl) hl.1 rfl (Nat.le_of_ble_eq_true rfl) ⟨by decide, by decide⟩ dX6_runFreed_40 (fun H lc cn sn hw => ?_)
          refine lv_if_ne (tgt := 54) hx hb dX6_runFreed_43 (by decide) (fun c16 => ?_) (fun c16 => ?_)
          · replace h := oe c16 h
            replace h := (Option.some.inj h).symm
            exact haj21 _ _ _ _ _ _ _ h hw (lv_sub hl [1, 2, 3] rfl)
          · replace h := ot c16 h
            refine t_aload_n hx hb dX6_runFreed_46 rfl (lv_at hl 3 rfl) ?_
            refine t_aload_n hx hb dX6_runFreed_47 rfl (lv_at hl 0 rfl) ?_
            obtain ⟨w18, e17, h⟩ := ob h
            refine g_callVv (n := 1) (As := [rv v10]) (rest := []) hX hw (c_X6_run g l hG hst mm o v10 w3 w18 e17) gX6_runFreed_X6_run rfl (by decide +kernel) rfl (x_nz hw c4) (c_recv hX hw (ce_6 c4) rfl) hl.1 rfl (Nat.le_of_ble_eq_true rfl) ⟨by decide, by decide⟩ dX6_runFreed_48 (fun H lc cn sn hw => ?_)
            refine lv_iinc (v := (v2 + 1)) (lv' := [(1, .int (v2 + 1)), (3, rv v10), (2, .int v1), (0, rv o)]) hx hb dX6_runFreed_51 hl (k := 2) rfl (by rfl) (by decide) (by simp [rv_cat, ct_i, ct_l] <;> decide) (fun ls hl => ?_)
            replace h := (Option.some.inj h).symm
            exact haj21 _ _ _ _ _ _ _ h hw (lv_sub hl [2, 0, 3] rfl)
  exact hkj24 FU 0 0 w _ _ _ _ _ h1aj24 hw (lv_sub hl [0, 1, 2] rfl)

set_option maxHeartbeats 4000000 in
set_option maxRecDepth 100000 in
theorem c_X6_areThere (g : GG) (l : Launch) (hG : XG g) (hst : l.stackTraces = false) (mm : MS) (o : Nat) (p0 : Int32) (w : CS) (r : Int32) (h : x_X6_areThere o p0 w = some r) : MetG g l yX6_areThere wsX6_areThere 0 0 [rv o, .int p0] (w, mm) (some (.int r)) (w, mm) := by
  refine g_start_z (some (.int r)) (own := RX6) (by decide +kernel) rfl rfl (by simp [lg_sl, rv_cat, ct_i, ct_l]) ?_
  intro p e s mi args below meth cd ls Q hX hnm hw hl hret
  have hl : lv_has ls 3 [(0, rv o), (1, .int p0)] := by simpa [lv_args, rv_cat, ct_i, ct_l] using hl
  obtain ⟨⟨hx, hb, -, hown, hts⟩, -⟩ := id hX
  unfold x_X6_areThere at h
  refine lv_iconst (v := 0) hx hb dX6_areThere_0 (by decide) ?_
  refine lv_istore_n (lv' := [(2, .int 0), (0, rv o), (1, .int p0)]) hx hb dX6_areThere_1 rfl hl (by decide) rfl (fun ls hl => ?_)
  obtain ⟨aj12, h1aj12, kaj12, raj12⟩ := ol0 h
  have haj12 : ∀ (H : Heap) (lc : List Loc) (cn sn : Nat) (ls : Array Slot), aj12 = Sum.inl () → wH g s.heap.size (w, mm) H lc → lv_has ls 3 [] → W p l e (rmO g 0 0 s.heap) s mi args below meth cd H lc cn sn Q (F0 mi 40 ls []) := by
    intro H lc cn sn ls h hw hl
    replace h := kaj12 h
    refine lv_iconst (v := 1) hx hb dX6_areThere_40 (by decide) ?_
    obtain ⟨c11, h⟩ := og h
    replace h := (Option.some.inj h).symm
    subst h
    exact hret _ _ _ _ _ _ _ dX6_areThere_41 c11 hw rfl
  have hkj12 : ∀ (n : Nat) (v1 : Int32) (H : Heap) (lc : List Loc) (cn sn : Nat) (ls : Array Slot), x_X6_areThere_L1 o p0 w n v1 = some aj12 → wH g s.heap.size (w, mm) H lc → lv_has ls 3 [(2, .int v1), (0, rv o), (1, .int p0)] → W p l e (rmO g 0 0 s.heap) s mi args below meth cd H lc cn sn Q (F0 mi 2 ls []) := by
    intro n
    induction n with
    | zero =>
      intro v1 H lc cn sn ls h
      rw [x_X6_areThere_L1] at h
      cases h
    | succ n ih =>
      intro v1 H lc cn sn ls h hw hl
      rw [x_X6_areThere_L1] at h
      refine lv_iload_n hx hb dX6_areThere_2 rfl (lv_at hl 0 rfl) ?_
      refine t_aload_n hx hb dX6_areThere_3 rfl (lv_at hl 1 rfl) ?_
      obtain ⟨c2, h⟩ := og h
      refine c_gf (C := RX6) (TT := TX6) (N := 8) (ref := "TabStore") (v := rv (wJ w 241 o)) hX hw (ce_6 c2) rfl 1 (by decide +kernel) (by decide) (by decide +kernel) (fun _ h9 => h9) rfl dX6_areThere_4 ?_
      obtain ⟨c3, h⟩ := og h
      refine c_alen hX hw 2 (ae_10 c3) rfl dX6_areThere_7 ?_
      refine lv_icmp_ge (tgt := 40) hx hb dX6_areThere_8 (by decide) (fun c4 => ?_) (fun c4 => ?_)
      · replace h := ot c4 h
        replace h := (Option.some.inj h).symm
        exact haj12 _ _ _ _ _ h hw (lv_sub hl [] rfl)
      · replace h := oe c4 h
        refine lv_iload_n hx hb dX6_areThere_11 rfl (lv_at hl 2 rfl) ?_
        refine lv_iload_n hx hb dX6_areThere_12 rfl (lv_at hl 0 rfl) ?_
        refine lv_ishr hx hb dX6_areThere_13 ?_
        refine lv_iconst (v := 1) hx hb dX6_areThere_14 (by decide) ?_
        refine lv_iand hx hb dX6_areThere_15 ?_
        refine lv_iconst (v := 1) hx hb dX6_areThere_16 (by decide) ?_
        obtain ⟨aj10, h1aj10, kaj10, raj10⟩ := ol0 h
        have haj10 : ∀ (H : Heap) (lc : List Loc) (cn sn : Nat) (ls : Array Slot), aj10 = Sum.inl () → wH g s.heap.size (w, mm) H lc → lv_has ls 3 [(2, .int v1), (0, rv o), (1, .int p0)] → W p l e (rmO g 0 0 s.heap) s mi args below meth cd H lc cn sn Q (F0 mi 34 ls []) := by
          intro H lc cn sn ls h hw hl
          replace h := kaj10 h
          refine lv_iinc (v := (v1 + 1)) (lv' := [(2, .int (v1 + 1)), (0, rv o), (1, .int p0)]) hx hb dX6_areThere_34 hl (k := 0) rfl (by rfl) (by decide) rfl (fun ls hl => ?_)
          refine lv_goto (tgt := 2) hx hb dX6_areThere_37 (by decide) ?_
          exact ih _ _ _ _ _ _ h hw (lv_sub hl [0, 1, 2] rfl)
        replace h := h1aj10
        refine lv_icmp_ne (tgt := 34) hx hb dX6_areThere_17 (by decide) (fun c5 => ?_) (fun c5 => ?_)
        · replace h := oe c5 h
          replace h := (Option.some.inj h).symm
          exact haj10 _ _ _ _ _ h hw (lv_sub hl [0, 1, 2] rfl)
        · replace h := ot c5 h
          refine t_aload_n hx hb dX6_areThere_20 rfl (lv_at hl 1 rfl) ?_
          refine c_gf (C := RX6) (TT := TX6) (N := 8) (ref := "TabStore") (v := rv (wJ w 241 o)) hX hw (ce_6 c2) rfl 1 (by decide +kernel) (by decide) (by decide +kernel) (fun _ h9 => h9) rfl dX6_areThere_21 ?_
          refine lv_iload_n hx hb dX6_areThere_24 rfl (lv_at hl 0 rfl) ?_
          obtain ⟨c6, h⟩ := og h
          refine c_ald hX hw 2 (ae_10 c3) rfl c6 dX6_areThere_25 ?_
          obtain ⟨c7, h⟩ := og h
          refine c_gf (C := RX3) (TT := TX3) (N := 3) (ref := "TabStore$Store") (v := .int (wI w 200 (wB w (wJ w 241 o) v1.toNatClampNeg))) hX hw (ce_5 c7) rfl 0 (by decide +kernel) (by decide) (by decide +kernel) (fun _ h9 => h9) rfl dX6_areThere_26 ?_
          refine lv_if_ne (tgt := 34) hx hb dX6_areThere_29 (by decide) (fun c8 => ?_) (fun c8 => ?_)
          · replace h := oe c8 h
            replace h := (Option.some.inj h).symm
            exact haj10 _ _ _ _ _ h hw (lv_sub hl [0, 1, 2] rfl)
          · replace h := ot c8 h
            refine lv_iconst (v := 0) hx hb dX6_areThere_32 (by decide) ?_
            obtain ⟨c9, h⟩ := og h
            replace h := (Option.some.inj h).symm
            replace h := raj10 _ h
            replace h := raj12 _ h
            subst h
            exact hret _ _ _ _ _ _ _ dX6_areThere_33 c9 hw rfl
  exact hkj12 FU 0 _ _ _ _ _ h1aj12 hw (lv_sub hl [0, 1, 2] rfl)

set_option maxHeartbeats 4000000 in
set_option maxRecDepth 100000 in
theorem c_X6_rowsInAll (g : GG) (l : Launch) (hG : XG g) (hst : l.stackTraces = false) (mm : MS) (o : Nat) (w : CS) (r : Int32) (h : x_X6_rowsInAll o w = some r) : MetG g l yX6_rowsInAll wsX6_rowsInAll 2 40 [rv o] (w, mm) (some (.int r)) (w, mm) := by
  refine g_start_i (some (.int r)) (own := RX6) (by decide +kernel) rfl rfl (by simp [lg_sl, rv_cat, ct_i, ct_l]) ?_
  intro p e s mi args below meth cd ls Q hX hnm hw hl hret
  have hl : lv_has ls 3 [(0, rv o)] := by simpa [lv_args, rv_cat, ct_i, ct_l] using hl
  obtain ⟨⟨hx, hb, -, hown, hts⟩, -⟩ := id hX
  unfold x_X6_rowsInAll at h
  refine lv_iconst (v := 0) hx hb dX6_rowsInAll_0 (by decide) ?_
  refine lv_istore_n (lv' := [(1, .int 0), (0, rv o)]) hx hb dX6_rowsInAll_1 rfl hl (by decide) (by simp [rv_cat, ct_i, ct_l] <;> decide) (fun ls hl => ?_)
  refine lv_iconst (v := 0) hx hb dX6_rowsInAll_2 (by decide) ?_
  refine lv_istore_n (lv' := [(2, .int 0), (1, .int 0), (0, rv o)]) hx hb dX6_rowsInAll_3 rfl hl (by decide) rfl (fun ls hl => ?_)
  obtain ⟨aj11, h1aj11, kaj11⟩ := ob1 h
  have haj11 : ∀ (v10 : Int32) (H : Heap) (lc : List Loc) (cn sn : Nat) (ls : Array Slot), aj11 = v10 → wH g s.heap.size (w, mm) H lc → lv_has ls 3 [(1, .int v10)] → W p l e (rmO g 2 40 s.heap) s mi args below meth cd H lc cn sn Q (F0 mi 31 ls []) := by
    intro v10 H lc cn sn ls h hw hl
    replace h := kaj11 _ h
    refine lv_iload_n hx hb dX6_rowsInAll_31 rfl (lv_at hl 0 rfl) ?_
    replace h := (Option.some.inj h).symm
    subst h
    exact hret _ _ _ _ _ _ _ dX6_rowsInAll_32 hw rfl
  have hkj11 : ∀ (n : Nat) (v1 : Int32) (v2 : Int32) (H : Heap) (lc : List Loc) (cn sn : Nat) (ls : Array Slot), x_X6_rowsInAll_L1 o w n v1 v2 = some aj11 → wH g s.heap.size (w, mm) H lc → lv_has ls 3 [(2, .int v1), (1, .int v2), (0, rv o)] → W p l e (rmO g 2 40 s.heap) s mi args below meth cd H lc cn sn Q (F0 mi 4 ls []) := by
    intro n
    induction n with
    | zero =>
      intro v1 v2 H lc cn sn ls h
      rw [x_X6_rowsInAll_L1] at h
      cases h
    | succ n ih =>
      intro v1 v2 H lc cn sn ls h hw hl
      rw [x_X6_rowsInAll_L1] at h
      refine lv_iload_n hx hb dX6_rowsInAll_4 rfl (lv_at hl 0 rfl) ?_
      refine t_aload_n hx hb dX6_rowsInAll_5 rfl (lv_at hl 2 rfl) ?_
      obtain ⟨c3, h⟩ := og h
      refine c_gf (C := RX6) (TT := TX6) (N := 8) (ref := "TabStore") (v := rv (wJ w 241 o)) hX hw (ce_6 c3) rfl 1 (by decide +kernel) (by decide) (by decide +kernel) (fun _ h9 => h9) rfl dX6_rowsInAll_6 ?_
      obtain ⟨c4, h⟩ := og h
      refine c_alen hX hw 2 (ae_10 c4) rfl dX6_rowsInAll_9 ?_
      refine lv_icmp_ge (tgt := 31) hx hb dX6_rowsInAll_10 (by decide) (fun c5 => ?_) (fun c5 => ?_)
      · replace h := ot c5 h
        replace h := (Option.some.inj h).symm
        exact haj11 _ _ _ _ _ _ h hw (lv_sub hl [1] rfl)
      · replace h := oe c5 h
        refine lv_iload_n hx hb dX6_rowsInAll_13 rfl (lv_at hl 1 rfl) ?_
        refine t_aload_n hx hb dX6_rowsInAll_14 rfl (lv_at hl 2 rfl) ?_
        refine c_gf (C := RX6) (TT := TX6) (N := 8) (ref := "TabStore") (v := rv (wJ w 241 o)) hX hw (ce_6 c3) rfl 1 (by decide +kernel) (by decide) (by decide +kernel) (fun _ h9 => h9) rfl dX6_rowsInAll_15 ?_
        refine lv_iload_n hx hb dX6_rowsInAll_18 rfl (lv_at hl 0 rfl) ?_
        obtain ⟨c6, h⟩ := og h
        refine c_ald hX hw 2 (ae_10 c4) rfl c6 dX6_rowsInAll_19 ?_
        obtain ⟨c7, h⟩ := og h
        obtain ⟨v9, e8, h⟩ := ob h
        refine g_callVi (n := 0) (As := []) (rest := [.int v2]) hX hw (c_X3_size g l hG hst mm (wB w (wJ w 241 o) v1.toNatClampNeg) w v9 e8) gX6_rowsInAll_X3_size rfl (by decide +kernel) rfl (x_nz hw c7) (c_recv hX hw (ce_5 c7) rfl) hl.1 rfl (Nat.le_of_ble_eq_true rfl) ⟨by decide, by decide⟩ dX6_rowsInAll_20 (fun H lc cn sn hw => ?_)
        refine lv_iadd hx hb dX6_rowsInAll_23 ?_
        refine lv_istore_n (lv' := [(1, .int (v2 + v9)), (2, .int v1), (0, rv o)]) hx hb dX6_rowsInAll_24 rfl hl (by decide) (by simp [rv_cat, ct_i, ct_l] <;> decide) (fun ls hl => ?_)
        refine lv_iinc (v := (v1 + 1)) (lv' := [(2, .int (v1 + 1)), (1, .int (v2 + v9)), (0, rv o)]) hx hb dX6_rowsInAll_25 hl (k := 1) rfl (by rfl) (by decide) rfl (fun ls hl => ?_)
        refine lv_goto (tgt := 4) hx hb dX6_rowsInAll_28 (by decide) ?_
        exact ih _ _ _ _ _ _ _ h hw (lv_sub hl [0, 1, 2] rfl)
  exact hkj11 FU 0 0 _ _ _ _ _ h1aj11 hw (lv_sub hl [0, 1, 2] rfl)

set_option maxHeartbeats 4000000 in
set_option maxRecDepth 100000 in
theorem c_X6_firstBlocked (g : GG) (l : Launch) (hG : XG g) (hst : l.stackTraces = false) (mm : MS) (o : Nat) (w : CS) (r : Nat) (h : x_X6_firstBlocked o w = some r) : MetG g l yX6_firstBlocked wsX6_firstBlocked 0 0 [rv o] (w, mm) (some (rv r)) (w, mm) := by
  refine g_start_a (Or.inl ⟨_, rfl⟩) (some (rv r)) (own := RX6) (by decide +kernel) rfl rfl (by simp [lg_sl, rv_cat, ct_i, ct_l]) ?_
  intro p e s mi args below meth cd ls Q hX hnm hw hl hret
  have hl : lv_has ls 4 [(0, rv o)] := by simpa [lv_args, rv_cat, ct_i, ct_l] using hl
  obtain ⟨⟨hx, hb, -, hown, hts⟩, -⟩ := id hX
  unfold x_X6_firstBlocked at h
  refine t_null hx hb dX6_firstBlocked_0 ?_
  refine t_astore_n (lv' := [(1, rv 0), (0, rv o)]) hx hb dX6_firstBlocked_1 rfl hl (by decide) (by simp [rv_cat, ct_i, ct_l] <;> decide) (fun ls hl => ?_)
  refine lv_iconst (v := 0) hx hb dX6_firstBlocked_2 (by decide) ?_
  refine lv_istore_n (lv' := [(2, .int 0), (1, rv 0), (0, rv o)]) hx hb dX6_firstBlocked_3 rfl hl (by decide) (by simp [rv_cat, ct_i, ct_l] <;> decide) (fun ls hl => ?_)
  obtain ⟨aj16, h1aj16, kaj16⟩ := ob1 h
  have haj16 : ∀ (v15 : Nat) (H : Heap) (lc : List Loc) (cn sn : Nat) (ls : Array Slot), aj16 = v15 → wH g s.heap.size (w, mm) H lc → lv_has ls 4 [(1, rv v15)] → W p l e (rmO g 0 0 s.heap) s mi args below meth cd H lc cn sn Q (F0 mi 51 ls []) := by
    intro v15 H lc cn sn ls h hw hl
    replace h := kaj16 _ h
    refine t_aload_n hx hb dX6_firstBlocked_51 rfl (lv_at hl 0 rfl) ?_
    replace h := (Option.some.inj h).symm
    subst h
    exact hret _ _ _ _ _ _ _ dX6_firstBlocked_52 hw rfl
  have hkj16 : ∀ (n : Nat) (v1 : Int32) (v2 : Nat) (H : Heap) (lc : List Loc) (cn sn : Nat) (ls : Array Slot), x_X6_firstBlocked_L1 o w n v1 v2 = some aj16 → wH g s.heap.size (w, mm) H lc → lv_has ls 4 [(2, .int v1), (1, rv v2), (0, rv o)] → W p l e (rmO g 0 0 s.heap) s mi args below meth cd H lc cn sn Q (F0 mi 4 ls []) := by
    intro n
    induction n with
    | zero =>
      intro v1 v2 H lc cn sn ls h
      rw [x_X6_firstBlocked_L1] at h
      cases h
    | succ n ih =>
      intro v1 v2 H lc cn sn ls h hw hl
      rw [x_X6_firstBlocked_L1] at h
      refine lv_iload_n hx hb dX6_firstBlocked_4 rfl (lv_at hl 0 rfl) ?_
      refine t_aload_n hx hb dX6_firstBlocked_5 rfl (lv_at hl 2 rfl) ?_
      obtain ⟨c3, h⟩ := og h
      refine c_gf (C := RX6) (TT := TX6) (N := 8) (ref := "TabStore") (v := rv (wJ w 240 o)) hX hw (ce_6 c3) rfl 0 (by decide +kernel) (by decide) (by decide +kernel) (fun _ h9 => h9) rfl dX6_firstBlocked_6 ?_
      obtain ⟨c4, h⟩ := og h
      refine c_alen hX hw 3 (ae_11 c4) rfl dX6_firstBlocked_9 ?_
      refine lv_icmp_ge (tgt := 51) hx hb dX6_firstBlocked_10 (by decide) (fun c5 => ?_) (fun c5 => ?_)
      · replace h := ot c5 h
        replace h := (Option.some.inj h).symm
        exact haj16 _ _ _ _ _ _ h hw (lv_sub hl [1] rfl)
      · replace h := oe c5 h
        refine t_aload_n hx hb dX6_firstBlocked_13 rfl (lv_at hl 2 rfl) ?_
        refine c_gf (C := RX6) (TT := TX6) (N := 8) (ref := "TabStore") (v := rv (wJ w 240 o)) hX hw (ce_6 c3) rfl 0 (by decide +kernel) (by decide) (by decide +kernel) (fun _ h9 => h9) rfl dX6_firstBlocked_14 ?_
        refine lv_iload_n hx hb dX6_firstBlocked_17 rfl (lv_at hl 0 rfl) ?_
        obtain ⟨c6, h⟩ := og h
        refine c_ald hX hw 3 (ae_11 c4) rfl c6 dX6_firstBlocked_18 ?_
        refine t_astore_n (lv' := [(3, rv (wB w (wJ w 240 o) v1.toNatClampNeg)), (2, .int v1), (1, rv v2), (0, rv o)]) hx hb dX6_firstBlocked_19 rfl hl (by decide) rfl (fun ls hl => ?_)
        refine t_aload_n hx hb dX6_firstBlocked_20 rfl (lv_at hl 0 rfl) ?_
        obtain ⟨c7, h⟩ := og h
        refine c_gf (C := RX4) (TT := TX4) (N := 3) (ref := "TabStore$Tab") (v := .int (wI w 160 (wB w (wJ w 240 o) v1.toNatClampNeg))) hX hw (ce_4 c7) rfl 0 (by decide +kernel) (by decide) (by decide +kernel) (fun _ h9 => h9) rfl dX6_firstBlocked_21 ?_
        refine lv_iconst (v := 3) hx hb dX6_firstBlocked_24 (by decide) ?_
        obtain ⟨aj14, h1aj14, kaj14⟩ := ob1 h
        have haj14 : ∀ (v13 : Nat) (H : Heap) (lc : List Loc) (cn sn : Nat) (ls : Array Slot), aj14 = v13 → wH g s.heap.size (w, mm) H lc → lv_has ls 4 [(2, .int v1), (1, rv v13), (0, rv o)] → W p l e (rmO g 0 0 s.heap) s mi args below meth cd H lc cn sn Q (F0 mi 45 ls []) := by
          intro v13 H lc cn sn ls h hw hl
          replace h := kaj14 _ h
          refine lv_iinc (v := (v1 + 1)) (lv' := [(2, .int (v1 + 1)), (1, rv v13), (0, rv o)]) hx hb dX6_firstBlocked_45 hl (k := 0) rfl (by rfl) (by decide) (by simp [rv_cat, ct_i, ct_l] <;> decide) (fun ls hl => ?_)
          refine lv_goto (tgt := 4) hx hb dX6_firstBlocked_48 (by decide) ?_
          exact ih _ _ _ _ _ _ _ h hw (lv_sub hl [0, 1, 2] rfl)
        replace h := h1aj14
        refine lv_icmp_ne (tgt := 45) hx hb dX6_firstBlocked_25 (by decide) (fun c8 => ?_) (fun c8 => ?_)
        · replace h := oe c8 h
          replace h := (Option.some.inj h).symm
          exact haj14 _ _ _ _ _ _ h hw (lv_sub hl [1, 2, 3] rfl)
        · replace h := ot c8 h
          refine t_aload_n hx hb dX6_firstBlocked_28 rfl (lv_at hl 2 rfl) ?_
          obtain ⟨aj12, h1aj12, kaj12, raj12⟩ := ol0 h
          have haj12 : ∀ (H : Heap) (lc : List Loc) (cn sn : Nat) (ls : Array Slot), aj12 = Sum.inl () → wH g s.heap.size (w, mm) H lc → lv_has ls 4 [(3, rv (wB w (wJ w 240 o) v1.toNatClampNeg)), (2, .int v1), (0, rv o)] → W p l e (rmO g 0 0 s.heap) s mi args below meth cd H lc cn sn Q (F0 mi 43 ls []) := by
            intro H lc cn sn ls h hw hl
            replace h := kaj12 h
            refine t_aload_n hx hb dX6_firstBlocked_43 rfl (lv_at hl 0 rfl) ?_
            refine t_astore_n (lv' := [(1, rv (wB w (wJ w 240 o) v1.toNatClampNeg)), (3, rv (wB w (wJ w 240 o) v1.toNatClampNeg)), (2, .int v1), (0, rv o)]) hx hb dX6_firstBlocked_44 rfl hl (by decide) (by simp [rv_cat, ct_i, ct_l] <;> decide) (fun ls hl => ?_)
            replace h := (Option.some.inj h).symm
            exact haj14 _ _ _ _ _ _ h hw (lv_sub hl [2, 0, 3] rfl)
          replace h := h1aj12
          refine t_ifnull (tgt := 43) hx hb dX6_firstBlocked_29 (by decide) (fun c9 => ?_) (fun c9 => ?_)
          · replace h := ot c9 h
            replace h := (Option.some.inj h).symm
            exact haj12 _ _ _ _ _ h hw (lv_sub hl [0, 1, 3] rfl)
          · replace h := oe c9 h
            refine t_aload_n hx hb dX6_firstBlocked_32 rfl (lv_at hl 0 rfl) ?_
            refine c_gf (C := RX4) (TT := TX4) (N := 3) (ref := "TabStore$Tab") (v := .int (wI w 162 (wB w (wJ w 240 o) v1.toNatClampNeg))) hX hw (ce_4 c7) rfl 2 (by decide +kernel) (by decide) (by decide +kernel) (fun _ h9 => h9) rfl dX6_firstBlocked_33 ?_
            refine t_aload_n hx hb dX6_firstBlocked_36 rfl (lv_at hl 2 rfl) ?_
            obtain ⟨c10, h⟩ := og h
            refine c_gf (C := RX4) (TT := TX4) (N := 3) (ref := "TabStore$Tab") (v := .int (wI w 162 v2)) hX hw (ce_4 c10) rfl 2 (by decide +kernel) (by decide) (by decide +kernel) (fun _ h9 => h9) rfl dX6_firstBlocked_37 ?_
            refine lv_icmp_ge (tgt := 45) hx hb dX6_firstBlocked_40 (by decide) (fun c11 => ?_) (fun c11 => ?_)
            · replace h := ot c11 h
              replace h := (Option.some.inj h).symm
              replace h := raj12 _ h
              exact haj14 _ _ _ _ _ _ h hw (lv_sub hl [1, 2, 3] rfl)
            · replace h := oe c11 h
              replace h := (Option.some.inj h).symm
              exact haj12 _ _ _ _ _ h hw (lv_sub hl [0, 1, 3] rfl)
  exact hkj16 FU 0 0 _ _ _ _ _ h1aj16 hw (lv_sub hl [0, 1, 2] rfl)

set_option maxHeartbeats 4000000 in
set_option maxRecDepth 100000 in
theorem c_X6_beginUpgrade (g : GG) (l : Launch) (hG : XG g) (hst : l.stackTraces = false) (mm : MS) (o : Nat) (p0 : Nat) (w : CS) (w' : CS) (h : x_X6_beginUpgrade o p0 w = some w') : MetG g l yX6_beginUpgrade wsX6_beginUpgrade 10 237 [rv o, rv p0] (w, mm) (none) (w', mm) := by
  refine g_start_v (none) (own := RX6) (by decide +kernel) rfl rfl (by simp [lg_sl, rv_cat, ct_i, ct_l]) ?_
  intro p e s mi args below meth cd ls Q hX hnm hw hl hret
  have hl : lv_has ls 3 [(0, rv o), (1, rv p0)] := by simpa [lv_args, rv_cat, ct_i, ct_l] using hl
  obtain ⟨⟨hx, hb, -, hown, hts⟩, -⟩ := id hX
  unfold x_X6_beginUpgrade at h
  refine t_aload_n hx hb dX6_beginUpgrade_0 rfl (lv_at hl 1 rfl) ?_
  refine lv_iconst (v := 2) hx hb dX6_beginUpgrade_1 (by decide) ?_
  obtain ⟨c1, h⟩ := og h
  obtain ⟨w2, ew2, h⟩ := ol h
  refine p_4_0 hX hw c1 (by decide +kernel) (by decide +kernel) dX6_beginUpgrade_2 (fun H lc hw => ?_)
  have hw := hw_eq ew2 hw
  refine t_aload_n hx hb dX6_beginUpgrade_5 rfl (lv_at hl 0 rfl) ?_
  refine t_aload_n hx hb dX6_beginUpgrade_6 rfl (lv_at hl 0 rfl) ?_
  obtain ⟨c3, h⟩ := og h
  refine c_gf (C := RX6) (TT := TX6) (N := 8) (ref := "TabStore") (v := rv (wJ w2 243 o)) hX hw (ce_6 c3) rfl 3 (by decide +kernel) (by decide) (by decide +kernel) (fun _ h9 => h9) rfl dX6_beginUpgrade_7 ?_
  obtain ⟨c4, h⟩ := og h
  obtain ⟨v6, e5, h⟩ := ob h
  refine g_callFi (n := 0) (As := []) (rest := [rv o]) hX hw (c_Jx4a65c_size_8abf5 g l hG hst mm (wJ w2 243 o) w2 v6 e5) gX6_beginUpgrade_Jx4a65c_size_8abf5_f83Jx4a65c rfl (by decide +kernel) rfl (x_nz hw c4) (c_recv hX hw (ce_7 c4) rfl) ((hG s hX.2.1.2.1).2.1.1) (show vwCl[0]? = some (RJx4a65c, TJx4a65c, 3) from rfl) hl.1 rfl (by simp [rv_cat, ct_i, ct_l]) ⟨by decide, by decide⟩ dX6_beginUpgrade_10 (fun H lc cn sn hw => ?_)
  obtain ⟨w7, ew7, h⟩ := ol h
  refine p_6_6 hX hw c3 (by decide +kernel) (by decide +kernel) dX6_beginUpgrade_15 (fun H lc hw => ?_)
  have hw := hw_eq ew7 hw
  obtain ⟨c8, h⟩ := og h
  obtain ⟨w9, ew9, h⟩ := ol h
  refine n_2 hX hw (by decide +kernel) (by decide +kernel) (by decide +kernel) (by decide +kernel) c8 dX6_beginUpgrade_18 (fun H cn sn hw => ?_)
  have hw := hw_eq ew9 hw
  refine lv_dup hx hb dX6_beginUpgrade_21 (rv_cat _) ?_
  refine t_aload_n hx hb dX6_beginUpgrade_22 rfl (lv_at hl 1 rfl) ?_
  refine lv_bipush (v := 7) hx hb dX6_beginUpgrade_23 (by decide) ?_
  refine lv_iconst (v := 1) hx hb dX6_beginUpgrade_25 (by decide) ?_
  obtain ⟨c10, h⟩ := og h
  obtain ⟨w12, e11, h⟩ := ob h
  refine g_callI (n := 3) (As := [rv p0, .int 7, .int 1]) (rest := [rv (wz w7 + 1)]) hX hw (c_X5_init g l hG hst mm (wz w7 + 1) p0 7 1 w9 w12 e11) gX6_beginUpgrade_X5_init rfl (by decide +kernel) rfl (x_nz hw c10) (by decide +kernel) (by decide +kernel) (by decide +kernel) rfl hl.1 rfl (by simp [rv_cat, ct_i, ct_l]) ⟨by decide, by decide⟩ dX6_beginUpgrade_26 (fun H lc cn sn hw => ?_)
  refine t_astore_n (lv' := [(2, rv (wz w7 + 1)), (0, rv o), (1, rv p0)]) hx hb dX6_beginUpgrade_29 rfl hl (by decide) (by simp [rv_cat, ct_i, ct_l] <;> decide) (fun ls hl => ?_)
  refine t_aload_n hx hb dX6_beginUpgrade_30 rfl (lv_at hl 1 rfl) ?_
  obtain ⟨c13, h⟩ := og h
  refine c_gf (C := RX6) (TT := TX6) (N := 8) (ref := "TabStore") (v := rv (wJ w12 243 o)) hX hw (ce_6 c13) rfl 3 (by decide +kernel) (by decide) (by decide +kernel) (fun _ h9 => h9) rfl dX6_beginUpgrade_31 ?_
  refine t_aload_n hx hb dX6_beginUpgrade_34 rfl (lv_at hl 0 rfl) ?_
  obtain ⟨c14, h⟩ := og h
  obtain ⟨v16, w17, e15, h⟩ := oc2 h
  refine g_callFi (n := 1) (As := [rv (wz w7 + 1)]) (rest := []) hX hw (c_Jx4a65c_add_9ea2d g l hG hst mm (wJ w12 243 o) (wz w7 + 1) w12 v16 w17 e15) gX6_beginUpgrade_Jx4a65c_add_9ea2d_f169Jx4a65c rfl (by decide +kernel) rfl (x_nz hw c14) (c_recv hX hw (ce_7 c14) rfl) ((hG s hX.2.1.2.1).2.1.2.2.2.1) (show vwCl[0]? = some (RJx4a65c, TJx4a65c, 3) from rfl) hl.1 rfl (Nat.le_of_ble_eq_true rfl) ⟨by decide, by decide⟩ dX6_beginUpgrade_35 (fun H lc cn sn hw => ?_)
  refine lv_pop hx hb dX6_beginUpgrade_40 rfl ?_
  refine t_aload_n hx hb dX6_beginUpgrade_41 rfl (lv_at hl 1 rfl) ?_
  refine t_aload_n hx hb dX6_beginUpgrade_42 rfl (lv_at hl 0 rfl) ?_
  obtain ⟨c18, h⟩ := og h
  obtain ⟨w20, e19, h⟩ := ob h
  refine g_callVv (n := 1) (As := [rv (wz w7 + 1)]) (rest := []) hX hw (c_X6_run g l hG hst mm o (wz w7 + 1) w17 w20 e19) gX6_beginUpgrade_X6_run rfl (by decide +kernel) rfl (x_nz hw c18) (c_recv hX hw (ce_6 c18) rfl) hl.1 rfl (Nat.le_of_ble_eq_true rfl) ⟨by decide, by decide⟩ dX6_beginUpgrade_43 (fun H lc cn sn hw => ?_)
  replace h := (Option.some.inj h).symm
  subst h
  exact hret _ _ _ _ _ _ dX6_beginUpgrade_46 hw rfl

set_option maxHeartbeats 4000000 in
set_option maxRecDepth 100000 in
theorem c_X6_beginDueUpgrade (g : GG) (l : Launch) (hG : XG g) (hst : l.stackTraces = false) (mm : MS) (o : Nat) (w : CS) (w' : CS) (h : x_X6_beginDueUpgrade o w = some w') : MetG g l yX6_beginDueUpgrade wsX6_beginDueUpgrade 11 259 [rv o] (w, mm) (none) (w', mm) := by
  refine g_start_v (none) (own := RX6) (by decide +kernel) rfl rfl (by simp [lg_sl, rv_cat, ct_i, ct_l]) ?_
  intro p e s mi args below meth cd ls Q hX hnm hw hl hret
  have hl : lv_has ls 3 [(0, rv o)] := by simpa [lv_args, rv_cat, ct_i, ct_l] using hl
  obtain ⟨⟨hx, hb, -, hown, hts⟩, -⟩ := id hX
  unfold x_X6_beginDueUpgrade at h
  refine lv_iconst (v := 0) hx hb dX6_beginDueUpgrade_0 (by decide) ?_
  refine lv_istore_n (lv' := [(1, .int 0), (0, rv o)]) hx hb dX6_beginDueUpgrade_1 rfl hl (by decide) (by simp [rv_cat, ct_i, ct_l] <;> decide) (fun ls hl => ?_)
  obtain ⟨aj20, h1aj20, kaj20, raj20⟩ := ol1 h
  have haj20 : ∀ (w19 : CS) (H : Heap) (lc : List Loc) (cn sn : Nat) (ls : Array Slot), aj20 = Sum.inl w19 → wH g s.heap.size (w19, mm) H lc → lv_has ls 3 [] → W p l e (rmO g 11 259 s.heap) s mi args below meth cd H lc cn sn Q (F0 mi 58 ls []) := by
    intro w19 H lc cn sn ls h hw hl
    replace h := kaj20 _ h
    replace h := (Option.some.inj h).symm
    subst h
    exact hret _ _ _ _ _ _ dX6_beginDueUpgrade_58 hw rfl
  have hkj20 : ∀ (n : Nat) (v1 : Int32) (w2 : CS) (H : Heap) (lc : List Loc) (cn sn : Nat) (ls : Array Slot), x_X6_beginDueUpgrade_L1 o n v1 w2 = some aj20 → wH g s.heap.size (w2, mm) H lc → lv_has ls 3 [(1, .int v1), (0, rv o)] → W p l e (rmO g 11 259 s.heap) s mi args below meth cd H lc cn sn Q (F0 mi 2 ls []) := by
    intro n
    induction n with
    | zero =>
      intro v1 w2 H lc cn sn ls h
      rw [x_X6_beginDueUpgrade_L1] at h
      cases h
    | succ n ih =>
      intro v1 w2 H lc cn sn ls h hw hl
      rw [x_X6_beginDueUpgrade_L1] at h
      refine lv_iload_n hx hb dX6_beginDueUpgrade_2 rfl (lv_at hl 0 rfl) ?_
      refine t_aload_n hx hb dX6_beginDueUpgrade_3 rfl (lv_at hl 1 rfl) ?_
      obtain ⟨c3, h⟩ := og h
      refine c_gf (C := RX6) (TT := TX6) (N := 8) (ref := "TabStore") (v := rv (wJ w2 240 o)) hX hw (ce_6 c3) rfl 0 (by decide +kernel) (by decide) (by decide +kernel) (fun _ h9 => h9) rfl dX6_beginDueUpgrade_4 ?_
      obtain ⟨c4, h⟩ := og h
      refine c_alen hX hw 3 (ae_11 c4) rfl dX6_beginDueUpgrade_7 ?_
      refine lv_icmp_ge (tgt := 58) hx hb dX6_beginDueUpgrade_8 (by decide) (fun c5 => ?_) (fun c5 => ?_)
      · replace h := ot c5 h
        replace h := (Option.some.inj h).symm
        exact haj20 _ _ _ _ _ _ h hw (lv_sub hl [] rfl)
      · replace h := oe c5 h
        refine t_aload_n hx hb dX6_beginDueUpgrade_11 rfl (lv_at hl 1 rfl) ?_
        obtain ⟨v7, e6, h⟩ := ob h
        refine g_callVi (n := 0) (As := []) (rest := []) hX hw (c_X6_upgradesMustWait g l hG hst mm o w2 v7 e6) gX6_beginDueUpgrade_X6_upgradesMustWait rfl (by decide +kernel) rfl (x_nz hw c3) (c_recv hX hw (ce_6 c3) rfl) hl.1 rfl (Nat.le_of_ble_eq_true rfl) ⟨by decide, by decide⟩ dX6_beginDueUpgrade_12 (fun H lc cn sn hw => ?_)
        refine lv_if_ne (tgt := 58) hx hb dX6_beginDueUpgrade_15 (by decide) (fun c8 => ?_) (fun c8 => ?_)
        · replace h := oe c8 h
          replace h := (Option.some.inj h).symm
          exact haj20 _ _ _ _ _ _ h hw (lv_sub hl [] rfl)
        · replace h := ot c8 h
          refine t_aload_n hx hb dX6_beginDueUpgrade_18 rfl (lv_at hl 1 rfl) ?_
          obtain ⟨v10, e9, h⟩ := ob h
          refine g_callVa (n := 0) (As := []) (rest := []) hX hw (c_X6_firstBlocked g l hG hst mm o w2 v10 e9) gX6_beginDueUpgrade_X6_firstBlocked rfl (by decide +kernel) rfl (x_nz hw c3) (c_recv hX hw (ce_6 c3) rfl) hl.1 rfl (Nat.le_of_ble_eq_true rfl) ⟨by decide, by decide⟩ dX6_beginDueUpgrade_19 (fun H lc cn sn hw => ?_)
          refine t_astore_n (lv' := [(2, rv v10), (1, .int v1), (0, rv o)]) hx hb dX6_beginDueUpgrade_22 rfl hl (by decide) rfl (fun ls hl => ?_)
          refine t_aload_n hx hb dX6_beginDueUpgrade_23 rfl (lv_at hl 0 rfl) ?_
          refine t_ifnonnull (tgt := 28) hx hb dX6_beginDueUpgrade_24 (by decide) (fun c11 => ?_) (fun c11 => ?_)
          · replace h := oe c11 h
            refine t_aload_n hx hb dX6_beginDueUpgrade_28 rfl (lv_at hl 0 rfl) ?_
            obtain ⟨c12, h⟩ := og h
            refine c_gf (C := RX4) (TT := TX4) (N := 3) (ref := "TabStore$Tab") (v := .int (wI w2 161 v10)) hX hw (ce_4 c12) rfl 1 (by decide +kernel) (by decide) (by decide +kernel) (fun _ h9 => h9) rfl dX6_beginDueUpgrade_29 ?_
            refine t_aload_n hx hb dX6_beginDueUpgrade_32 rfl (lv_at hl 2 rfl) ?_
            refine c_gf (C := RX6) (TT := TX6) (N := 8) (ref := "TabStore") (v := .int (wI w2 245 o)) hX hw (ce_6 c3) rfl 5 (by decide +kernel) (by decide) (by decide +kernel) (fun _ h9 => h9) rfl dX6_beginDueUpgrade_33 ?_
            obtain ⟨aj18, h1aj18, kaj18⟩ := ob1 h
            have haj18 : ∀ (w17 : CS) (H : Heap) (lc : List Loc) (cn sn : Nat) (ls : Array Slot), aj18 = w17 → wH g s.heap.size (w17, mm) H lc → lv_has ls 3 [(1, .int v1), (0, rv o)] → W p l e (rmO g 11 259 s.heap) s mi args below meth cd H lc cn sn Q (F0 mi 52 ls []) := by
              intro w17 H lc cn sn ls h hw hl
              replace h := kaj18 _ h
              refine lv_iinc (v := (v1 + 1)) (lv' := [(1, .int (v1 + 1)), (0, rv o)]) hx hb dX6_beginDueUpgrade_52 hl (k := 0) rfl (by rfl) (by decide) (by simp [rv_cat, ct_i, ct_l] <;> decide) (fun ls hl => ?_)
              refine lv_goto (tgt := 2) hx hb dX6_beginDueUpgrade_55 (by decide) ?_
              exact ih _ _ _ _ _ _ _ h hw (lv_sub hl [0, 1] rfl)
            replace h := h1aj18
            refine lv_icmp_le (tgt := 47) hx hb dX6_beginDueUpgrade_36 (by decide) (fun c13 => ?_) (fun c13 => ?_)
            · replace h := ot c13 h
              refine t_aload_n hx hb dX6_beginDueUpgrade_47 rfl (lv_at hl 0 rfl) ?_
              refine lv_iconst (v := 0) hx hb dX6_beginDueUpgrade_48 (by decide) ?_
              obtain ⟨w14, ew14, h⟩ := ol h
              refine p_4_0 hX hw c12 (by decide +kernel) (by decide +kernel) dX6_beginDueUpgrade_49 (fun H lc hw => ?_)
              have hw := hw_eq ew14 hw
              replace h := (Option.some.inj h).symm
              exact haj18 _ _ _ _ _ _ h hw (lv_sub hl [1, 2] rfl)
            · replace h := oe c13 h
              refine t_aload_n hx hb dX6_beginDueUpgrade_39 rfl (lv_at hl 2 rfl) ?_
              refine t_aload_n hx hb dX6_beginDueUpgrade_40 rfl (lv_at hl 0 rfl) ?_
              obtain ⟨w16, e15, h⟩ := ob h
              refine g_callVv (n := 1) (As := [rv v10]) (rest := []) hX hw (c_X6_beginUpgrade g l hG hst mm o v10 w2 w16 e15) gX6_beginDueUpgrade_X6_beginUpgrade rfl (by decide +kernel) rfl (x_nz hw c3) (c_recv hX hw (ce_6 c3) rfl) hl.1 rfl (Nat.le_of_ble_eq_true rfl) ⟨by decide, by decide⟩ dX6_beginDueUpgrade_41 (fun H lc cn sn hw => ?_)
              refine lv_goto (tgt := 52) hx hb dX6_beginDueUpgrade_44 (by decide) ?_
              replace h := (Option.some.inj h).symm
              exact haj18 _ _ _ _ _ _ h hw (lv_sub hl [1, 2] rfl)
          · replace h := ot c11 h
            replace h := (Option.some.inj h).symm
            replace h := raj20 _ h
            subst h
            exact hret _ _ _ _ _ _ dX6_beginDueUpgrade_27 hw rfl
  exact hkj20 FU 0 w _ _ _ _ _ h1aj20 hw (lv_sub hl [0, 1] rfl)

set_option maxHeartbeats 4000000 in
set_option maxRecDepth 100000 in
theorem c_X6_leave (g : GG) (l : Launch) (hG : XG g) (hst : l.stackTraces = false) (mm : MS) (o : Nat) (p0 : Nat) (w : CS) (w' : CS) (h : x_X6_leave o p0 w = some w') : MetG g l yX6_leave wsX6_leave 12 281 [rv o, rv p0] (w, mm) (none) (w', mm) := by
  refine g_start_v (none) (own := RX6) (by decide +kernel) rfl rfl (by simp [lg_sl, rv_cat, ct_i, ct_l]) ?_
  intro p e s mi args below meth cd ls Q hX hnm hw hl hret
  have hl : lv_has ls 2 [(0, rv o), (1, rv p0)] := by simpa [lv_args, rv_cat, ct_i, ct_l] using hl
  obtain ⟨⟨hx, hb, -, hown, hts⟩, -⟩ := id hX
  unfold x_X6_leave at h
  refine t_aload_n hx hb dX6_leave_0 rfl (lv_at hl 1 rfl) ?_
  obtain ⟨c1, h⟩ := og h
  refine c_gf (C := RX4) (TT := TX4) (N := 3) (ref := "TabStore$Tab") (v := .int (wI w 160 p0)) hX hw (ce_4 c1) rfl 0 (by decide +kernel) (by decide) (by decide +kernel) (fun _ h9 => h9) rfl dX6_leave_1 ?_
  refine lv_iconst (v := 2) hx hb dX6_leave_4 (by decide) ?_
  obtain ⟨aj11, h1aj11, kaj11⟩ := ob1 h
  have haj11 : ∀ (w5 : CS) (H : Heap) (lc : List Loc) (cn sn : Nat) (ls : Array Slot), aj11 = w5 → wH g s.heap.size (w5, mm) H lc → lv_has ls 2 [(0, rv o), (1, rv p0)] → W p l e (rmO g 12 281 s.heap) s mi args below meth cd H lc cn sn Q (F0 mi 13 ls []) := by
    intro w5 H lc cn sn ls h hw hl
    replace h := kaj11 _ h
    refine t_aload_n hx hb dX6_leave_13 rfl (lv_at hl 1 rfl) ?_
    refine lv_iconst (v := 0) hx hb dX6_leave_14 (by decide) ?_
    obtain ⟨c6, h⟩ := og h
    obtain ⟨w7, ew7, h⟩ := ol h
    refine p_4_0 hX hw c6 (by decide +kernel) (by decide +kernel) dX6_leave_15 (fun H lc hw => ?_)
    have hw := hw_eq ew7 hw
    refine t_aload_n hx hb dX6_leave_18 rfl (lv_at hl 0 rfl) ?_
    obtain ⟨c8, h⟩ := og h
    obtain ⟨w10, e9, h⟩ := ob h
    refine g_callVv (n := 0) (As := []) (rest := []) hX hw (c_X6_beginDueUpgrade g l hG hst mm o w7 w10 e9) gX6_leave_X6_beginDueUpgrade rfl (by decide +kernel) rfl (x_nz hw c8) (c_recv hX hw (ce_6 c8) rfl) hl.1 rfl (Nat.le_of_ble_eq_true rfl) ⟨by decide, by decide⟩ dX6_leave_19 (fun H lc cn sn hw => ?_)
    replace h := (Option.some.inj h).symm
    subst h
    exact hret _ _ _ _ _ _ dX6_leave_22 hw rfl
  replace h := h1aj11
  refine lv_icmp_ne (tgt := 13) hx hb dX6_leave_5 (by decide) (fun c2 => ?_) (fun c2 => ?_)
  · replace h := oe c2 h
    replace h := (Option.some.inj h).symm
    exact haj11 _ _ _ _ _ _ h hw (lv_sub hl [0, 1] rfl)
  · replace h := ot c2 h
    refine t_aload_n hx hb dX6_leave_8 rfl (lv_at hl 0 rfl) ?_
    refine lv_iconst (v := (-1)) hx hb dX6_leave_9 (by decide) ?_
    obtain ⟨c3, h⟩ := og h
    obtain ⟨w4, ew4, h⟩ := ol h
    refine p_6_6 hX hw c3 (by decide +kernel) (by decide +kernel) dX6_leave_10 (fun H lc hw => ?_)
    have hw := hw_eq ew4 hw
    replace h := (Option.some.inj h).symm
    exact haj11 _ _ _ _ _ _ h hw (lv_sub hl [0, 1] rfl)

set_option maxHeartbeats 4000000 in
set_option maxRecDepth 100000 in
theorem c_X6_open (g : GG) (l : Launch) (hG : XG g) (hst : l.stackTraces = false) (mm : MS) (o : Nat) (p0 : Int32) (p1 : Int32) (w : CS) (r : (Nat × CS) ⊕ (Int32 × CS)) (h : x_X6_open o p0 p1 w = some r) : MetX g l yX6_open wsX6_open 12 281 [rv o, .int p0, .int p1] (w, mm) (oIw r) (wIw w r, mm) := by
  refine x_start_i (oIw r) (own := RX6) (by decide +kernel) rfl rfl (by simp [lg_sl, rv_cat, ct_i, ct_l]) ?_
  intro p e s mi args below meth cd ls Q hX htab hnm hw hl hret hthr hth2
  have hl : lv_has ls 4 [(0, rv o), (1, .int p0), (2, .int p1)] := by simpa [lv_args, rv_cat, ct_i, ct_l] using hl
  obtain ⟨⟨hx, hb, -, hown, hts⟩, -⟩ := id hX
  unfold x_X6_open at h
  refine t_aload_n hx hb dX6_open_0 rfl (lv_at hl 0 rfl) ?_
  refine lv_iload_n hx hb dX6_open_1 rfl (lv_at hl 1 rfl) ?_
  obtain ⟨c1, h⟩ := og h
  rcases obx1 h with ⟨k4, w5, e2, h⟩ | ⟨v3, e2, h⟩
  · subst h
    exact x_callVE (n := 1) (As := [.int p0]) (rest := []) hX hw (c_X6_tabAt g l hG hst mm o p0 w _ e2) gX6_open_X6_tabAt rfl (by decide +kernel) rfl (x_nz hw c1) (c_recv hX hw (ce_6 c1) rfl) hl.1 rfl (Nat.le_of_ble_eq_true rfl) ⟨by decide, by decide⟩ dX6_open_2 (fun H lc cn sn q ce hw h1 h2 h3 => hthr _ _ _ _ _ _ _ _ _ _ hw h1 h2 h3 rfl)
  · refine x_callVNa (n := 1) (As := [.int p0]) (rest := []) hX hw (c_X6_tabAt g l hG hst mm o p0 w _ e2) gX6_open_X6_tabAt rfl (by decide +kernel) rfl (x_nz hw c1) (c_recv hX hw (ce_6 c1) rfl) hl.1 rfl (Nat.le_of_ble_eq_true rfl) ⟨by decide, by decide⟩ dX6_open_2 (fun H lc cn sn hw => ?_)
    have hw : wH g s.heap.size (w, mm) H lc := hw
    refine t_astore_n (lv' := [(3, rv v3), (0, rv o), (1, .int p0), (2, .int p1)]) hx hb dX6_open_5 rfl hl (by decide) rfl (fun ls hl => ?_)
    refine lv_iload_n hx hb dX6_open_6 rfl (lv_at hl 3 rfl) ?_
    refine lv_iconst (v := 1) hx hb dX6_open_7 (by decide) ?_
    refine lv_bipush (v := 100) hx hb dX6_open_8 (by decide) ?_
    rcases obx1 h with ⟨k7, w8, e6, h⟩ | ⟨_, e6, h⟩
    · subst h
      exact x_callSE (n := 3) (As := [.int p1, .int 1, .int 100]) (rest := []) hX hw (c_X6_requireInRange g l hG hst mm p1 1 100 w _ e6) gX6_open_X6_requireInRange rfl (by decide +kernel) rfl hl.1 rfl (Nat.le_of_ble_eq_true rfl) ⟨by decide, by decide⟩ dX6_open_10 (fun H lc cn sn q ce hw h1 h2 h3 => hthr _ _ _ _ _ _ _ _ _ _ hw h1 h2 h3 rfl)
    · refine x_callSNv (n := 3) (As := [.int p1, .int 1, .int 100]) (rest := []) hX hw (c_X6_requireInRange g l hG hst mm p1 1 100 w _ e6) gX6_open_X6_requireInRange rfl (by decide +kernel) rfl hl.1 rfl (Nat.le_of_ble_eq_true rfl) ⟨by decide, by decide⟩ dX6_open_10 (fun H lc cn sn hw => ?_)
      have hw : wH g s.heap.size (w, mm) H lc := hw
      refine t_aload_n hx hb dX6_open_13 rfl (lv_at hl 1 rfl) ?_
      refine t_aload_n hx hb dX6_open_14 rfl (lv_at hl 0 rfl) ?_
      refine lv_iload_n hx hb dX6_open_15 rfl (lv_at hl 3 rfl) ?_
      obtain ⟨v10, e9, h⟩ := ob h
      refine g_callVi (n := 2) (As := [rv v3, .int p1]) (rest := []) hX hw (c_X6_canOpen g l hG hst mm o v3 p1 w v10 e9) gX6_open_X6_canOpen rfl (by decide +kernel) rfl (x_nz hw c1) (c_recv hX hw (ce_6 c1) rfl) hl.1 rfl (Nat.le_of_ble_eq_true rfl) ⟨by decide, by decide⟩ dX6_open_16 (fun H lc cn sn hw => ?_)
      refine lv_if_ne (tgt := 32) hx hb dX6_open_19 (by decide) (fun c11 => ?_) (fun c11 => ?_)
      · replace h := oe c11 h
        refine lv_iload_n hx hb dX6_open_32 rfl (lv_at hl 3 rfl) ?_
        refine t_aload_n hx hb dX6_open_33 rfl (lv_at hl 1 rfl) ?_
        refine c_gf (C := RX6) (TT := TX6) (N := 8) (ref := "TabStore") (v := .int (wI w 245 o)) hX hw (ce_6 c1) rfl 5 (by decide +kernel) (by decide) (by decide +kernel) (fun _ h9 => h9) rfl dX6_open_34 ?_
        obtain ⟨aj29, h1aj29, kaj29⟩ := ob1 h
        have haj29 : ∀ (w27 : CS) (H : Heap) (lc : List Loc) (cn sn : Nat) (ls : Array Slot), aj29 = w27 → wH g s.heap.size (w27, mm) H lc → lv_has ls 4 [(3, rv v3)] → W p l e (rmO g 12 281 s.heap) s mi args below meth cd H lc cn sn Q (F0 mi 80 ls []) := by
          intro w27 H lc cn sn ls h hw hl
          replace h := kaj29 _ h
          refine t_aload_n hx hb dX6_open_80 rfl (lv_at hl 0 rfl) ?_
          obtain ⟨c28, h⟩ := og h
          refine c_gf (C := RX4) (TT := TX4) (N := 3) (ref := "TabStore$Tab") (v := .int (wI w27 160 v3)) hX hw (ce_4 c28) rfl 0 (by decide +kernel) (by decide) (by decide +kernel) (fun _ h9 => h9) rfl dX6_open_81 ?_
          replace h := (Option.some.inj h).symm
          subst h
          exact hret _ _ _ _ _ _ _ dX6_open_84 hw rfl
        replace h := h1aj29
        refine lv_icmp_ne (tgt := 48) hx hb dX6_open_37 (by decide) (fun c12 => ?_) (fun c12 => ?_)
        · replace h := oe c12 h
          refine t_aload_n hx hb dX6_open_48 rfl (lv_at hl 0 rfl) ?_
          refine lv_iconst (v := 3) hx hb dX6_open_49 (by decide) ?_
          obtain ⟨c13, h⟩ := og h
          obtain ⟨w14, ew14, h⟩ := ol h
          refine p_4_0 hX hw c13 (by decide +kernel) (by decide +kernel) dX6_open_50 (fun H lc hw => ?_)
          have hw := hw_eq ew14 hw
          refine t_aload_n hx hb dX6_open_53 rfl (lv_at hl 0 rfl) ?_
          refine lv_iload_n hx hb dX6_open_54 rfl (lv_at hl 3 rfl) ?_
          obtain ⟨c15, h⟩ := og h
          obtain ⟨w16, ew16, h⟩ := ol h
          refine p_4_1 hX hw c15 (by decide +kernel) (by decide +kernel) dX6_open_55 (fun H lc hw => ?_)
          have hw := hw_eq ew16 hw
          refine t_aload_n hx hb dX6_open_58 rfl (lv_at hl 0 rfl) ?_
          refine t_aload_n hx hb dX6_open_59 rfl (lv_at hl 1 rfl) ?_
          obtain ⟨c17, h⟩ := og h
          refine c_gf (C := RX6) (TT := TX6) (N := 8) (ref := "TabStore") (v := .int (wI w16 247 o)) hX hw (ce_6 c17) rfl 7 (by decide +kernel) (by decide) (by decide +kernel) (fun _ h9 => h9) rfl dX6_open_60 ?_
          obtain ⟨c18, h⟩ := og h
          obtain ⟨w19, ew19, h⟩ := ol h
          refine p_4_2 hX hw c18 (by decide +kernel) (by decide +kernel) dX6_open_63 (fun H lc hw => ?_)
          have hw := hw_eq ew19 hw
          refine t_aload_n hx hb dX6_open_66 rfl (lv_at hl 1 rfl) ?_
          refine lv_dup hx hb dX6_open_67 (rv_cat _) ?_
          obtain ⟨c20, h⟩ := og h
          refine c_gf (C := RX6) (TT := TX6) (N := 8) (ref := "TabStore") (v := .int (wI w19 247 o)) hX hw (ce_6 c20) rfl 7 (by decide +kernel) (by decide) (by decide +kernel) (fun _ h9 => h9) rfl dX6_open_68 ?_
          refine lv_iconst (v := 1) hx hb dX6_open_71 (by decide) ?_
          refine lv_iadd hx hb dX6_open_72 ?_
          obtain ⟨w21, ew21, h⟩ := ol h
          refine p_6_7 hX hw c20 (by decide +kernel) (by decide +kernel) dX6_open_73 (fun H lc hw => ?_)
          have hw := hw_eq ew21 hw
          refine t_aload_n hx hb dX6_open_76 rfl (lv_at hl 1 rfl) ?_
          obtain ⟨c22, h⟩ := og h
          obtain ⟨w24, e23, h⟩ := ob h
          refine g_callVv (n := 0) (As := []) (rest := []) hX hw (c_X6_beginDueUpgrade g l hG hst mm o w21 w24 e23) gX6_open_X6_beginDueUpgrade rfl (by decide +kernel) rfl (x_nz hw c22) (c_recv hX hw (ce_6 c22) rfl) hl.1 rfl (Nat.le_of_ble_eq_true rfl) ⟨by decide, by decide⟩ dX6_open_77 (fun H lc cn sn hw => ?_)
          replace h := (Option.some.inj h).symm
          exact haj29 _ _ _ _ _ _ h hw (lv_sub hl [0] rfl)
        · replace h := ot c12 h
          refine t_aload_n hx hb dX6_open_40 rfl (lv_at hl 0 rfl) ?_
          refine lv_iconst (v := 1) hx hb dX6_open_41 (by decide) ?_
          obtain ⟨c25, h⟩ := og h
          obtain ⟨w26, ew26, h⟩ := ol h
          refine p_4_0 hX hw c25 (by decide +kernel) (by decide +kernel) dX6_open_42 (fun H lc hw => ?_)
          have hw := hw_eq ew26 hw
          refine lv_goto (tgt := 80) hx hb dX6_open_45 (by decide) ?_
          replace h := (Option.some.inj h).symm
          exact haj29 _ _ _ _ _ _ h hw (lv_sub hl [0] rfl)
      · replace h := ot c11 h
        obtain ⟨c30, h⟩ := og h
        replace h := (Option.some.inj h).symm
        subst h
        refine hth2 _ _ _ _ _ _ rfl ?_
        exact x_throwS hX hG hst hw 3 (text := "the tab cannot open at this version now") (Or.inr (Or.inr rfl)) (by decide +kernel) (by decide +kernel) (by decide +kernel) (by decide +kernel) (by decide +kernel) (by decide +kernel) c30 hl.1 dX6_open_22 dX6_open_25 dX6_open_26 dX6_open_28 dX6_open_31 htab ⟨by decide, by simp [rv_cat, ct_i, ct_l]⟩

set_option maxHeartbeats 4000000 in
set_option maxRecDepth 100000 in
theorem c_X6_close (g : GG) (l : Launch) (hG : XG g) (hst : l.stackTraces = false) (mm : MS) (o : Nat) (p0 : Int32) (w : CS) (r : (Nat × CS) ⊕ (Int32 × CS)) (h : x_X6_close o p0 w = some r) : MetX g l yX6_close wsX6_close 13 302 [rv o, .int p0] (w, mm) (oIw r) (wIw w r, mm) := by
  refine x_start_i (oIw r) (own := RX6) (by decide +kernel) rfl rfl (by simp [lg_sl, rv_cat, ct_i, ct_l]) ?_
  intro p e s mi args below meth cd ls Q hX htab hnm hw hl hret hthr hth2
  have hl : lv_has ls 6 [(0, rv o), (1, .int p0)] := by simpa [lv_args, rv_cat, ct_i, ct_l] using hl
  obtain ⟨⟨hx, hb, -, hown, hts⟩, -⟩ := id hX
  unfold x_X6_close at h
  refine t_aload_n hx hb dX6_close_0 rfl (lv_at hl 0 rfl) ?_
  refine lv_iload_n hx hb dX6_close_1 rfl (lv_at hl 1 rfl) ?_
  obtain ⟨c1, h⟩ := og h
  rcases obx1 h with ⟨k4, w5, e2, h⟩ | ⟨v3, e2, h⟩
  · subst h
    exact x_callVE (n := 1) (As := [.int p0]) (rest := []) hX hw (c_X6_tabAt g l hG hst mm o p0 w _ e2) gX6_close_X6_tabAt rfl (by decide +kernel) rfl (x_nz hw c1) (c_recv hX hw (ce_6 c1) rfl) hl.1 rfl (Nat.le_of_ble_eq_true rfl) ⟨by decide, by decide⟩ dX6_close_2 (fun H lc cn sn q ce hw h1 h2 h3 => hthr _ _ _ _ _ _ _ _ _ _ hw h1 h2 h3 rfl)
  · refine x_callVNa (n := 1) (As := [.int p0]) (rest := []) hX hw (c_X6_tabAt g l hG hst mm o p0 w _ e2) gX6_close_X6_tabAt rfl (by decide +kernel) rfl (x_nz hw c1) (c_recv hX hw (ce_6 c1) rfl) hl.1 rfl (Nat.le_of_ble_eq_true rfl) ⟨by decide, by decide⟩ dX6_close_2 (fun H lc cn sn hw => ?_)
    have hw : wH g s.heap.size (w, mm) H lc := hw
    refine t_astore_n (lv' := [(2, rv v3), (0, rv o), (1, .int p0)]) hx hb dX6_close_5 rfl hl (by decide) rfl (fun ls hl => ?_)
    refine t_aload_n hx hb dX6_close_6 rfl (lv_at hl 0 rfl) ?_
    obtain ⟨c6, h⟩ := og h
    refine c_gf (C := RX4) (TT := TX4) (N := 3) (ref := "TabStore$Tab") (v := .int (wI w 160 v3)) hX hw (ce_4 c6) rfl 0 (by decide +kernel) (by decide) (by decide +kernel) (fun _ h9 => h9) rfl dX6_close_7 ?_
    obtain ⟨aj41, h1aj41, kaj41, raj41⟩ := ol0 h
    have haj41 : ∀ (H : Heap) (lc : List Loc) (cn sn : Nat) (ls : Array Slot), aj41 = Sum.inl () → wH g s.heap.size (w, mm) H lc → lv_has ls 6 [] → W p l e (rmO g 13 302 s.heap) s mi args below meth cd H lc cn sn Q (F0 mi 21 ls []) := by
      intro H lc cn sn ls h hw hl
      replace h := kaj41 h
      obtain ⟨c40, h⟩ := og h
      replace h := (Option.some.inj h).symm
      subst h
      refine hth2 _ _ _ _ _ _ rfl ?_
      exact x_throwS hX hG hst hw 3 (text := "the tab cannot be closed now") (Or.inr (Or.inr rfl)) (by decide +kernel) (by decide +kernel) (by decide +kernel) (by decide +kernel) (by decide +kernel) (by decide +kernel) c40 hl.1 dX6_close_21 dX6_close_24 dX6_close_25 dX6_close_27 dX6_close_30 htab ⟨by decide, by simp [rv_cat, ct_i, ct_l]⟩
    replace h := h1aj41
    refine lv_if_eq (tgt := 21) hx hb dX6_close_10 (by decide) (fun c7 => ?_) (fun c7 => ?_)
    · replace h := ot c7 h
      replace h := (Option.some.inj h).symm
      exact haj41 _ _ _ _ _ h hw (lv_sub hl [] rfl)
    · replace h := oe c7 h
      refine t_aload_n hx hb dX6_close_13 rfl (lv_at hl 1 rfl) ?_
      refine t_aload_n hx hb dX6_close_14 rfl (lv_at hl 0 rfl) ?_
      obtain ⟨v9, e8, h⟩ := ob h
      refine g_callVi (n := 1) (As := [rv v3]) (rest := []) hX hw (c_X6_hasRoomAfter g l hG hst mm o v3 w v9 e8) gX6_close_X6_hasRoomAfter rfl (by decide +kernel) rfl (x_nz hw c1) (c_recv hX hw (ce_6 c1) rfl) hl.1 rfl (Nat.le_of_ble_eq_true rfl) ⟨by decide, by decide⟩ dX6_close_15 (fun H lc cn sn hw => ?_)
      refine lv_if_ne (tgt := 31) hx hb dX6_close_18 (by decide) (fun c10 => ?_) (fun c10 => ?_)
      · replace h := oe c10 h
        refine t_aload_n hx hb dX6_close_31 rfl (lv_at hl 0 rfl) ?_
        refine c_gf (C := RX4) (TT := TX4) (N := 3) (ref := "TabStore$Tab") (v := .int (wI w 160 v3)) hX hw (ce_4 c6) rfl 0 (by decide +kernel) (by decide) (by decide +kernel) (fun _ h9 => h9) rfl dX6_close_32 ?_
        refine lv_istore_n (lv' := [(3, .int (wI w 160 v3)), (2, rv v3), (0, rv o), (1, .int p0)]) hx hb dX6_close_35 rfl hl (by decide) (by simp [rv_cat, ct_i, ct_l] <;> decide) (fun ls hl => ?_)
        refine t_aload_n hx hb dX6_close_36 rfl (lv_at hl 2 rfl) ?_
        refine c_gf (C := RX6) (TT := TX6) (N := 8) (ref := "TabStore") (v := rv (wJ w 243 o)) hX hw (ce_6 c1) rfl 3 (by decide +kernel) (by decide) (by decide +kernel) (fun _ h9 => h9) rfl dX6_close_37 ?_
        obtain ⟨c11, h⟩ := og h
        obtain ⟨v13, e12, h⟩ := ob h
        refine g_callFi (n := 0) (As := []) (rest := []) hX hw (c_Jx4a65c_size_8abf5 g l hG hst mm (wJ w 243 o) w v13 e12) gX6_close_Jx4a65c_size_8abf5_f83Jx4a65c rfl (by decide +kernel) rfl (x_nz hw c11) (c_recv hX hw (ce_7 c11) rfl) ((hG s hX.2.1.2.1).2.1.1) (show vwCl[0]? = some (RJx4a65c, TJx4a65c, 3) from rfl) hl.1 rfl (Nat.le_of_ble_eq_true rfl) ⟨by decide, by decide⟩ dX6_close_40 (fun H lc cn sn hw => ?_)
        refine lv_iconst (v := 1) hx hb dX6_close_45 (by decide) ?_
        refine lv_isub hx hb dX6_close_46 ?_
        refine lv_istore (lv' := [(4, .int (v13 - 1)), (3, .int (wI w 160 v3)), (2, rv v3), (0, rv o), (1, .int p0)]) hx hb dX6_close_47 hl (by decide) rfl (fun ls hl => ?_)
        obtain ⟨aj39, h1aj39, kaj39⟩ := ob1 h
        have haj39 : ∀ (w31 : CS) (H : Heap) (lc : List Loc) (cn sn : Nat) (ls : Array Slot), aj39 = w31 → wH g s.heap.size (w31, mm) H lc → lv_has ls 6 [(3, .int (wI w 160 v3)), (2, rv v3), (0, rv o)] → W p l e (rmO g 13 302 s.heap) s mi args below meth cd H lc cn sn Q (F0 mi 99 ls []) := by
          intro w31 H lc cn sn ls h hw hl
          replace h := kaj39 _ h
          refine t_aload_n hx hb dX6_close_99 rfl (lv_at hl 2 rfl) ?_
          obtain ⟨c32, h⟩ := og h
          obtain ⟨v34, w35, e33, h⟩ := oc2 h
          refine g_callVi (n := 0) (As := []) (rest := []) hX hw (c_X6_runFreed g l hG hst mm o w31 v34 w35 e33) gX6_close_X6_runFreed rfl (by decide +kernel) rfl (x_nz hw c32) (c_recv hX hw (ce_6 c32) rfl) hl.1 rfl (Nat.le_of_ble_eq_true rfl) ⟨by decide, by decide⟩ dX6_close_100 (fun H lc cn sn hw => ?_)
          refine lv_pop hx hb dX6_close_103 rfl ?_
          refine t_aload_n hx hb dX6_close_104 rfl (lv_at hl 2 rfl) ?_
          refine t_aload_n hx hb dX6_close_105 rfl (lv_at hl 1 rfl) ?_
          obtain ⟨c36, h⟩ := og h
          obtain ⟨w38, e37, h⟩ := ob h
          refine g_callVv (n := 1) (As := [rv v3]) (rest := []) hX hw (c_X6_leave g l hG hst mm o v3 w35 w38 e37) gX6_close_X6_leave rfl (by decide +kernel) rfl (x_nz hw c36) (c_recv hX hw (ce_6 c36) rfl) hl.1 rfl (Nat.le_of_ble_eq_true rfl) ⟨by decide, by decide⟩ dX6_close_106 (fun H lc cn sn hw => ?_)
          refine lv_iload_n hx hb dX6_close_109 rfl (lv_at hl 0 rfl) ?_
          replace h := (Option.some.inj h).symm
          replace h := raj41 _ h
          subst h
          exact hret _ _ _ _ _ _ _ dX6_close_110 hw rfl
        have hkj39 : ∀ (n : Nat) (v14 : Int32) (w15 : CS) (H : Heap) (lc : List Loc) (cn sn : Nat) (ls : Array Slot), x_X6_close_L1 o v3 n v14 w15 = some aj39 → wH g s.heap.size (w15, mm) H lc → lv_has ls 6 [(4, .int v14), (3, .int (wI w 160 v3)), (2, rv v3), (0, rv o)] → W p l e (rmO g 13 302 s.heap) s mi args below meth cd H lc cn sn Q (F0 mi 49 ls []) := by
          intro n
          induction n with
          | zero =>
            intro v14 w15 H lc cn sn ls h
            rw [x_X6_close_L1] at h
            cases h
          | succ n ih =>
            intro v14 w15 H lc cn sn ls h hw hl
            rw [x_X6_close_L1] at h
            refine lv_iload hx hb dX6_close_49 (lv_at hl 0 rfl) ?_
            refine lv_if_lt (tgt := 99) hx hb dX6_close_51 (by decide) (fun c16 => ?_) (fun c16 => ?_)
            · replace h := ot c16 h
              replace h := (Option.some.inj h).symm
              exact haj39 _ _ _ _ _ _ h hw (lv_sub hl [1, 2, 3] rfl)
            · replace h := oe c16 h
              refine t_aload_n hx hb dX6_close_54 rfl (lv_at hl 3 rfl) ?_
              obtain ⟨c17, h⟩ := og h
              refine c_gf (C := RX6) (TT := TX6) (N := 8) (ref := "TabStore") (v := rv (wJ w15 243 o)) hX hw (ce_6 c17) rfl 3 (by decide +kernel) (by decide) (by decide +kernel) (fun _ h9 => h9) rfl dX6_close_55 ?_
              refine lv_iload hx hb dX6_close_58 (lv_at hl 0 rfl) ?_
              obtain ⟨c18, h⟩ := og h
              obtain ⟨v20, e19, h⟩ := ob h
              refine g_callFa (n := 1) (As := [.int v14]) (rest := []) hX hw (c_Jx4a65c_get_915e3 g l hG hst mm (wJ w15 243 o) v14 w15 v20 e19) gX6_close_Jx4a65c_get_915e3_f89Jx4a65c rfl (by decide +kernel) rfl (x_nz hw c18) (c_recv hX hw (ce_7 c18) rfl) ((hG s hX.2.1.2.1).2.1.2.1) (show vwCl[0]? = some (RJx4a65c, TJx4a65c, 3) from rfl) hl.1 rfl (Nat.le_of_ble_eq_true rfl) ⟨by decide, by decide⟩ dX6_close_60 (fun H lc cn sn hw => ?_)
              obtain ⟨c21, h⟩ := og h
              refine c_cast hX hw (c21.imp id ce_2) rfl (by decide +kernel) dX6_close_65 ?_
              refine t_astore (lv' := [(5, rv v20), (4, .int v14), (3, .int (wI w 160 v3)), (2, rv v3), (0, rv o)]) hx hb dX6_close_68 hl (by decide) rfl (fun ls hl => ?_)
              refine t_aload hx hb dX6_close_70 (lv_at hl 0 rfl) ?_
              obtain ⟨c22, h⟩ := og h
              refine c_gf (C := RX5) (TT := TX5) (N := 4) (ref := "TabStore$Transaction") (v := rv (wJ w15 80 v20)) hX hw (ce_2 c22) rfl 0 (by decide +kernel) (by decide) (by decide +kernel) (fun _ h9 => h9) rfl dX6_close_72 ?_
              refine t_aload_n hx hb dX6_close_75 rfl (lv_at hl 3 rfl) ?_
              obtain ⟨aj30, h1aj30, kaj30⟩ := ob1 h
              have haj30 : ∀ (w29 : CS) (H : Heap) (lc : List Loc) (cn sn : Nat) (ls : Array Slot), aj30 = w29 → wH g s.heap.size (w29, mm) H lc → lv_has ls 6 [(4, .int v14), (3, .int (wI w 160 v3)), (2, rv v3), (0, rv o)] → W p l e (rmO g 13 302 s.heap) s mi args below meth cd H lc cn sn Q (F0 mi 93 ls []) := by
                intro w29 H lc cn sn ls h hw hl
                replace h := kaj30 _ h
                refine lv_iinc (v := (v14 + (-1))) (lv' := [(4, .int (v14 + (-1))), (3, .int (wI w 160 v3)), (2, rv v3), (0, rv o)]) hx hb dX6_close_93 hl (k := 0) rfl (by rfl) (by decide) rfl (fun ls hl => ?_)
                refine lv_goto (tgt := 49) hx hb dX6_close_96 (by decide) ?_
                exact ih _ _ _ _ _ _ _ h hw (lv_sub hl [0, 1, 2, 3] rfl)
              replace h := h1aj30
              refine t_acmp_ne (tgt := 93) hx hb dX6_close_76 (by decide) (fun c23 => ?_) (fun c23 => ?_)
              · replace h := oe c23 h
                replace h := (Option.some.inj h).symm
                exact haj30 _ _ _ _ _ _ h hw (lv_sub hl [1, 2, 3, 4] rfl)
              · replace h := ot c23 h
                refine t_aload hx hb dX6_close_79 (lv_at hl 0 rfl) ?_
                obtain ⟨v25, e24, h⟩ := ob h
                refine g_callVi (n := 0) (As := []) (rest := []) hX hw (c_X5_isPending g l hG hst mm v20 w15 v25 e24) gX6_close_X5_isPending rfl (by decide +kernel) rfl (x_nz hw c22) (c_recv hX hw (ce_2 c22) rfl) hl.1 rfl (Nat.le_of_ble_eq_true rfl) ⟨by decide, by decide⟩ dX6_close_81 (fun H lc cn sn hw => ?_)
                refine lv_if_eq (tgt := 93) hx hb dX6_close_84 (by decide) (fun c26 => ?_) (fun c26 => ?_)
                · replace h := ot c26 h
                  replace h := (Option.some.inj h).symm
                  exact haj30 _ _ _ _ _ _ h hw (lv_sub hl [1, 2, 3, 4] rfl)
                · replace h := oe c26 h
                  refine t_aload_n hx hb dX6_close_87 rfl (lv_at hl 4 rfl) ?_
                  refine t_aload hx hb dX6_close_88 (lv_at hl 0 rfl) ?_
                  obtain ⟨w28, e27, h⟩ := ob h
                  refine g_callVv (n := 1) (As := [rv v20]) (rest := []) hX hw (c_X6_giveUp g l hG hst mm o v20 w15 w28 e27) gX6_close_X6_giveUp rfl (by decide +kernel) rfl (x_nz hw c17) (c_recv hX hw (ce_6 c17) rfl) hl.1 rfl (Nat.le_of_ble_eq_true rfl) ⟨by decide, by decide⟩ dX6_close_90 (fun H lc cn sn hw => ?_)
                  replace h := (Option.some.inj h).symm
                  exact haj30 _ _ _ _ _ _ h hw (lv_sub hl [1, 2, 3, 4] rfl)
        exact hkj39 FU (v13 - 1) w _ _ _ _ _ h1aj39 hw (lv_sub hl [0, 1, 2, 3] rfl)
      · replace h := ot c10 h
        replace h := (Option.some.inj h).symm
        exact haj41 _ _ _ _ _ h hw (lv_sub hl [] rfl)

set_option maxHeartbeats 4000000 in
set_option maxRecDepth 100000 in
theorem c_X6_state (g : GG) (l : Launch) (hG : XG g) (hst : l.stackTraces = false) (mm : MS) (o : Nat) (p0 : Int32) (w : CS) (r : (Nat × CS) ⊕ (Int32)) (h : x_X6_state o p0 w = some r) : MetX g l yX6_state wsX6_state 7 103 [rv o, .int p0] (w, mm) (oIr r) (wIr w r, mm) := by
  refine x_start_i (oIr r) (own := RX6) (by decide +kernel) rfl rfl (by simp [lg_sl, rv_cat, ct_i, ct_l]) ?_
  intro p e s mi args below meth cd ls Q hX htab hnm hw hl hret hthr hth2
  have hl : lv_has ls 2 [(0, rv o), (1, .int p0)] := by simpa [lv_args, rv_cat, ct_i, ct_l] using hl
  obtain ⟨⟨hx, hb, -, hown, hts⟩, -⟩ := id hX
  unfold x_X6_state at h
  refine t_aload_n hx hb dX6_state_0 rfl (lv_at hl 0 rfl) ?_
  refine lv_iload_n hx hb dX6_state_1 rfl (lv_at hl 1 rfl) ?_
  obtain ⟨c1, h⟩ := og h
  rcases obx1 h with ⟨k4, w5, e2, h⟩ | ⟨v3, e2, h⟩
  · subst h
    exact x_callVE (n := 1) (As := [.int p0]) (rest := []) hX hw (c_X6_tabAt g l hG hst mm o p0 w _ e2) gX6_state_X6_tabAt rfl (by decide +kernel) rfl (x_nz hw c1) (c_recv hX hw (ce_6 c1) rfl) hl.1 rfl (Nat.le_of_ble_eq_true rfl) ⟨by decide, by decide⟩ dX6_state_2 (fun H lc cn sn q ce hw h1 h2 h3 => hthr _ _ _ _ _ _ _ _ _ _ hw h1 h2 h3 rfl)
  · refine x_callVNa (n := 1) (As := [.int p0]) (rest := []) hX hw (c_X6_tabAt g l hG hst mm o p0 w _ e2) gX6_state_X6_tabAt rfl (by decide +kernel) rfl (x_nz hw c1) (c_recv hX hw (ce_6 c1) rfl) hl.1 rfl (Nat.le_of_ble_eq_true rfl) ⟨by decide, by decide⟩ dX6_state_2 (fun H lc cn sn hw => ?_)
    have hw : wH g s.heap.size (w, mm) H lc := hw
    obtain ⟨c6, h⟩ := og h
    refine c_gf (C := RX4) (TT := TX4) (N := 3) (ref := "TabStore$Tab") (v := .int (wI w 160 v3)) hX hw (ce_4 c6) rfl 0 (by decide +kernel) (by decide) (by decide +kernel) (fun _ h9 => h9) rfl dX6_state_5 ?_
    replace h := (Option.some.inj h).symm
    subst h
    exact hret _ _ _ _ _ _ _ dX6_state_8 hw rfl

set_option maxHeartbeats 4000000 in
set_option maxRecDepth 100000 in
theorem c_X6_version (g : GG) (l : Launch) (hG : XG g) (hst : l.stackTraces = false) (mm : MS) (o : Nat) (w : CS) (r : Int32) (h : x_X6_version o w = some r) : MetG g l yX6_version wsX6_version 0 0 [rv o] (w, mm) (some (.int r)) (w, mm) := by
  refine g_start_i (some (.int r)) (own := RX6) (by decide +kernel) rfl rfl (by simp [lg_sl, rv_cat, ct_i, ct_l]) ?_
  intro p e s mi args below meth cd ls Q hX hnm hw hl hret
  have hl : lv_has ls 1 [(0, rv o)] := by simpa [lv_args, rv_cat, ct_i, ct_l] using hl
  obtain ⟨⟨hx, hb, -, hown, hts⟩, -⟩ := id hX
  unfold x_X6_version at h
  refine t_aload_n hx hb dX6_version_0 rfl (lv_at hl 0 rfl) ?_
  obtain ⟨c1, h⟩ := og h
  refine c_gf (C := RX6) (TT := TX6) (N := 8) (ref := "TabStore") (v := .int (wI w 245 o)) hX hw (ce_6 c1) rfl 5 (by decide +kernel) (by decide) (by decide +kernel) (fun _ h9 => h9) rfl dX6_version_1 ?_
  replace h := (Option.some.inj h).symm
  subst h
  exact hret _ _ _ _ _ _ _ dX6_version_4 hw rfl

set_option maxHeartbeats 4000000 in
set_option maxRecDepth 100000 in
theorem c_X6_upgrade (g : GG) (l : Launch) (hG : XG g) (hst : l.stackTraces = false) (mm : MS) (o : Nat) (w : CS) (r : Int32) (h : x_X6_upgrade o w = some r) : MetG g l yX6_upgrade wsX6_upgrade 0 0 [rv o] (w, mm) (some (.int r)) (w, mm) := by
  refine g_start_i (some (.int r)) (own := RX6) (by decide +kernel) rfl rfl (by simp [lg_sl, rv_cat, ct_i, ct_l]) ?_
  intro p e s mi args below meth cd ls Q hX hnm hw hl hret
  have hl : lv_has ls 1 [(0, rv o)] := by simpa [lv_args, rv_cat, ct_i, ct_l] using hl
  obtain ⟨⟨hx, hb, -, hown, hts⟩, -⟩ := id hX
  unfold x_X6_upgrade at h
  refine t_aload_n hx hb dX6_upgrade_0 rfl (lv_at hl 0 rfl) ?_
  obtain ⟨c1, h⟩ := og h
  refine c_gf (C := RX6) (TT := TX6) (N := 8) (ref := "TabStore") (v := .int (wI w 246 o)) hX hw (ce_6 c1) rfl 6 (by decide +kernel) (by decide) (by decide +kernel) (fun _ h9 => h9) rfl dX6_upgrade_1 ?_
  replace h := (Option.some.inj h).symm
  subst h
  exact hret _ _ _ _ _ _ _ dX6_upgrade_4 hw rfl

set_option maxHeartbeats 4000000 in
set_option maxRecDepth 100000 in
theorem c_X6_makeStore (g : GG) (l : Launch) (hG : XG g) (hst : l.stackTraces = false) (mm : MS) (o : Nat) (p0 : Int32) (p1 : Int32) (w : CS) (r : (Nat × CS) ⊕ (CS)) (h : x_X6_makeStore o p0 p1 w = some r) : MetX g l yX6_makeStore wsX6_makeStore 7 103 [rv o, .int p0, .int p1] (w, mm) (oUw r) (wUw w r, mm) := by
  refine x_start_v (oUw r) (own := RX6) (by decide +kernel) rfl rfl (by simp [lg_sl, rv_cat, ct_i, ct_l]) ?_
  intro p e s mi args below meth cd ls Q hX htab hnm hw hl hret hthr hth2
  have hl : lv_has ls 4 [(0, rv o), (1, .int p0), (2, .int p1)] := by simpa [lv_args, rv_cat, ct_i, ct_l] using hl
  obtain ⟨⟨hx, hb, -, hown, hts⟩, -⟩ := id hX
  unfold x_X6_makeStore at h
  refine t_aload_n hx hb dX6_makeStore_0 rfl (lv_at hl 0 rfl) ?_
  refine lv_iload_n hx hb dX6_makeStore_1 rfl (lv_at hl 1 rfl) ?_
  obtain ⟨c1, h⟩ := og h
  rcases obx1 h with ⟨k4, w5, e2, h⟩ | ⟨v3, e2, h⟩
  · subst h
    exact x_callVE (n := 1) (As := [.int p0]) (rest := []) hX hw (c_X6_transactionAt g l hG hst mm o p0 w _ e2) gX6_makeStore_X6_transactionAt rfl (by decide +kernel) rfl (x_nz hw c1) (c_recv hX hw (ce_6 c1) rfl) hl.1 rfl (Nat.le_of_ble_eq_true rfl) ⟨by decide, by decide⟩ dX6_makeStore_2 (fun H lc cn sn q ce hw h1 h2 h3 => hthr _ _ _ _ _ _ _ _ _ _ hw h1 h2 h3 rfl)
  · refine x_callVNa (n := 1) (As := [.int p0]) (rest := []) hX hw (c_X6_transactionAt g l hG hst mm o p0 w _ e2) gX6_makeStore_X6_transactionAt rfl (by decide +kernel) rfl (x_nz hw c1) (c_recv hX hw (ce_6 c1) rfl) hl.1 rfl (Nat.le_of_ble_eq_true rfl) ⟨by decide, by decide⟩ dX6_makeStore_2 (fun H lc cn sn hw => ?_)
    have hw : wH g s.heap.size (w, mm) H lc := hw
    refine lv_pop hx hb dX6_makeStore_5 (rv_cat _) ?_
    refine lv_iload_n hx hb dX6_makeStore_6 rfl (lv_at hl 2 rfl) ?_
    obtain ⟨aj19, h1aj19, kaj19, raj19⟩ := ol0 h
    have haj19 : ∀ (H : Heap) (lc : List Loc) (cn sn : Nat) (ls : Array Slot), aj19 = Sum.inl () → wH g s.heap.size (w, mm) H lc → lv_has ls 4 [] → W p l e (rmO g 7 103 s.heap) s mi args below meth cd H lc cn sn Q (F0 mi 19 ls []) := by
      intro H lc cn sn ls h hw hl
      replace h := kaj19 h
      obtain ⟨c18, h⟩ := og h
      replace h := (Option.some.inj h).symm
      subst h
      refine hth2 _ _ _ _ _ _ rfl ?_
      exact x_throwS hX hG hst hw 1 (text := "there is no place for such a store") (Or.inl rfl) (by decide +kernel) (by decide +kernel) (by decide +kernel) (by decide +kernel) (by decide +kernel) (by decide +kernel) c18 hl.1 dX6_makeStore_19 dX6_makeStore_22 dX6_makeStore_23 dX6_makeStore_25 dX6_makeStore_28 htab ⟨by decide, by simp [rv_cat, ct_i, ct_l]⟩
    replace h := h1aj19
    refine lv_if_lt (tgt := 19) hx hb dX6_makeStore_7 (by decide) (fun c6 => ?_) (fun c6 => ?_)
    · replace h := ot c6 h
      replace h := (Option.some.inj h).symm
      exact haj19 _ _ _ _ _ h hw (lv_sub hl [] rfl)
    · replace h := oe c6 h
      refine lv_iload_n hx hb dX6_makeStore_10 rfl (lv_at hl 2 rfl) ?_
      refine t_aload_n hx hb dX6_makeStore_11 rfl (lv_at hl 0 rfl) ?_
      refine c_gf (C := RX6) (TT := TX6) (N := 8) (ref := "TabStore") (v := rv (wJ w 241 o)) hX hw (ce_6 c1) rfl 1 (by decide +kernel) (by decide) (by decide +kernel) (fun _ h9 => h9) rfl dX6_makeStore_12 ?_
      obtain ⟨c7, h⟩ := og h
      refine c_alen hX hw 2 (ae_10 c7) rfl dX6_makeStore_15 ?_
      refine lv_icmp_lt (tgt := 29) hx hb dX6_makeStore_16 (by decide) (fun c8 => ?_) (fun c8 => ?_)
      · replace h := ot c8 h
        refine t_aload_n hx hb dX6_makeStore_29 rfl (lv_at hl 0 rfl) ?_
        refine lv_iload_n hx hb dX6_makeStore_30 rfl (lv_at hl 1 rfl) ?_
        rcases obx1 h with ⟨k10, w11, e9, h⟩ | ⟨_, e9, h⟩
        · replace h := raj19 _ h
          subst h
          exact x_callVE (n := 1) (As := [.int p0]) (rest := []) hX hw (c_X6_requireUpgrade g l hG hst mm o p0 w _ e9) gX6_makeStore_X6_requireUpgrade rfl (by decide +kernel) rfl (x_nz hw c1) (c_recv hX hw (ce_6 c1) rfl) hl.1 rfl (Nat.le_of_ble_eq_true rfl) ⟨by decide, by decide⟩ dX6_makeStore_31 (fun H lc cn sn q ce hw h1 h2 h3 => hthr _ _ _ _ _ _ _ _ _ _ hw h1 h2 h3 rfl)
        · refine x_callVNv (n := 1) (As := [.int p0]) (rest := []) hX hw (c_X6_requireUpgrade g l hG hst mm o p0 w _ e9) gX6_makeStore_X6_requireUpgrade rfl (by decide +kernel) rfl (x_nz hw c1) (c_recv hX hw (ce_6 c1) rfl) hl.1 rfl (Nat.le_of_ble_eq_true rfl) ⟨by decide, by decide⟩ dX6_makeStore_31 (fun H lc cn sn hw => ?_)
          have hw : wH g s.heap.size (w, mm) H lc := hw
          refine t_aload_n hx hb dX6_makeStore_34 rfl (lv_at hl 0 rfl) ?_
          refine c_gf (C := RX6) (TT := TX6) (N := 8) (ref := "TabStore") (v := rv (wJ w 241 o)) hX hw (ce_6 c1) rfl 1 (by decide +kernel) (by decide) (by decide +kernel) (fun _ h9 => h9) rfl dX6_makeStore_35 ?_
          refine lv_iload_n hx hb dX6_makeStore_38 rfl (lv_at hl 2 rfl) ?_
          obtain ⟨c12, h⟩ := og h
          refine c_ald hX hw 2 (ae_10 c7) rfl c12 dX6_makeStore_39 ?_
          refine t_astore_n (lv' := [(3, rv (wB w (wJ w 241 o) p1.toNatClampNeg)), (0, rv o), (1, .int p0), (2, .int p1)]) hx hb dX6_makeStore_40 rfl hl (by decide) rfl (fun ls hl => ?_)
          refine t_aload_n hx hb dX6_makeStore_41 rfl (lv_at hl 0 rfl) ?_
          obtain ⟨c13, h⟩ := og h
          refine c_gf (C := RX3) (TT := TX3) (N := 3) (ref := "TabStore$Store") (v := .int (wI w 200 (wB w (wJ w 241 o) p1.toNatClampNeg))) hX hw (ce_5 c13) rfl 0 (by decide +kernel) (by decide) (by decide +kernel) (fun _ h9 => h9) rfl dX6_makeStore_42 ?_
          refine lv_if_eq (tgt := 58) hx hb dX6_makeStore_45 (by decide) (fun c14 => ?_) (fun c14 => ?_)
          · replace h := ot c14 h
            refine t_aload_n hx hb dX6_makeStore_58 rfl (lv_at hl 0 rfl) ?_
            refine lv_iconst (v := 1) hx hb dX6_makeStore_59 (by decide) ?_
            obtain ⟨c15, h⟩ := og h
            obtain ⟨w16, ew16, h⟩ := ol h
            refine p_5_0 hX hw c13 c15 (by decide +kernel) (by decide +kernel) dX6_makeStore_60 (fun H lc hw => ?_)
            have hw := hw_eq ew16 hw
            replace h := (Option.some.inj h).symm
            replace h := raj19 _ h
            subst h
            exact hret _ _ _ _ _ _ dX6_makeStore_63 hw rfl
          · replace h := oe c14 h
            obtain ⟨c17, h⟩ := og h
            replace h := (Option.some.inj h).symm
            replace h := raj19 _ h
            subst h
            refine hth2 _ _ _ _ _ _ rfl ?_
            exact x_throwS hX hG hst hw 3 (text := "the store is there") (Or.inr (Or.inr rfl)) (by decide +kernel) (by decide +kernel) (by decide +kernel) (by decide +kernel) (by decide +kernel) (by decide +kernel) c17 hl.1 dX6_makeStore_48 dX6_makeStore_51 dX6_makeStore_52 dX6_makeStore_54 dX6_makeStore_57 htab ⟨by decide, by simp [rv_cat, ct_i, ct_l]⟩
      · replace h := oe c8 h
        replace h := (Option.some.inj h).symm
        exact haj19 _ _ _ _ _ h hw (lv_sub hl [] rfl)

set_option maxHeartbeats 4000000 in
set_option maxRecDepth 100000 in
theorem c_X6_deleteStore (g : GG) (l : Launch) (hG : XG g) (hst : l.stackTraces = false) (mm : MS) (o : Nat) (p0 : Int32) (p1 : Int32) (w : CS) (r : (Nat × CS) ⊕ (Int32 × CS)) (h : x_X6_deleteStore o p0 p1 w = some r) : MetX g l yX6_deleteStore wsX6_deleteStore 7 103 [rv o, .int p0, .int p1] (w, mm) (oIw r) (wIw w r, mm) := by
  refine x_start_i (oIw r) (own := RX6) (by decide +kernel) rfl rfl (by simp [lg_sl, rv_cat, ct_i, ct_l]) ?_
  intro p e s mi args below meth cd ls Q hX htab hnm hw hl hret hthr hth2
  have hl : lv_has ls 5 [(0, rv o), (1, .int p0), (2, .int p1)] := by simpa [lv_args, rv_cat, ct_i, ct_l] using hl
  obtain ⟨⟨hx, hb, -, hown, hts⟩, -⟩ := id hX
  unfold x_X6_deleteStore at h
  refine t_aload_n hx hb dX6_deleteStore_0 rfl (lv_at hl 0 rfl) ?_
  refine lv_iload_n hx hb dX6_deleteStore_1 rfl (lv_at hl 1 rfl) ?_
  obtain ⟨c1, h⟩ := og h
  rcases obx1 h with ⟨k4, w5, e2, h⟩ | ⟨v3, e2, h⟩
  · subst h
    exact x_callVE (n := 1) (As := [.int p0]) (rest := []) hX hw (c_X6_transactionAt g l hG hst mm o p0 w _ e2) gX6_deleteStore_X6_transactionAt rfl (by decide +kernel) rfl (x_nz hw c1) (c_recv hX hw (ce_6 c1) rfl) hl.1 rfl (Nat.le_of_ble_eq_true rfl) ⟨by decide, by decide⟩ dX6_deleteStore_2 (fun H lc cn sn q ce hw h1 h2 h3 => hthr _ _ _ _ _ _ _ _ _ _ hw h1 h2 h3 rfl)
  · refine x_callVNa (n := 1) (As := [.int p0]) (rest := []) hX hw (c_X6_transactionAt g l hG hst mm o p0 w _ e2) gX6_deleteStore_X6_transactionAt rfl (by decide +kernel) rfl (x_nz hw c1) (c_recv hX hw (ce_6 c1) rfl) hl.1 rfl (Nat.le_of_ble_eq_true rfl) ⟨by decide, by decide⟩ dX6_deleteStore_2 (fun H lc cn sn hw => ?_)
    have hw : wH g s.heap.size (w, mm) H lc := hw
    refine lv_pop hx hb dX6_deleteStore_5 (rv_cat _) ?_
    refine t_aload_n hx hb dX6_deleteStore_6 rfl (lv_at hl 0 rfl) ?_
    refine lv_iload_n hx hb dX6_deleteStore_7 rfl (lv_at hl 2 rfl) ?_
    rcases obx1 h with ⟨k8, w9, e6, h⟩ | ⟨v7, e6, h⟩
    · subst h
      exact x_callVE (n := 1) (As := [.int p1]) (rest := []) hX hw (c_X6_storeAt g l hG hst mm o p1 w _ e6) gX6_deleteStore_X6_storeAt rfl (by decide +kernel) rfl (x_nz hw c1) (c_recv hX hw (ce_6 c1) rfl) hl.1 rfl (Nat.le_of_ble_eq_true rfl) ⟨by decide, by decide⟩ dX6_deleteStore_8 (fun H lc cn sn q ce hw h1 h2 h3 => hthr _ _ _ _ _ _ _ _ _ _ hw h1 h2 h3 rfl)
    · refine x_callVNa (n := 1) (As := [.int p1]) (rest := []) hX hw (c_X6_storeAt g l hG hst mm o p1 w _ e6) gX6_deleteStore_X6_storeAt rfl (by decide +kernel) rfl (x_nz hw c1) (c_recv hX hw (ce_6 c1) rfl) hl.1 rfl (Nat.le_of_ble_eq_true rfl) ⟨by decide, by decide⟩ dX6_deleteStore_8 (fun H lc cn sn hw => ?_)
      have hw : wH g s.heap.size (w, mm) H lc := hw
      refine t_astore_n (lv' := [(3, rv v7), (0, rv o), (1, .int p0), (2, .int p1)]) hx hb dX6_deleteStore_11 rfl hl (by decide) rfl (fun ls hl => ?_)
      refine t_aload_n hx hb dX6_deleteStore_12 rfl (lv_at hl 1 rfl) ?_
      refine lv_iload_n hx hb dX6_deleteStore_13 rfl (lv_at hl 2 rfl) ?_
      rcases obx1 h with ⟨k11, w12, e10, h⟩ | ⟨_, e10, h⟩
      · subst h
        exact x_callVE (n := 1) (As := [.int p0]) (rest := []) hX hw (c_X6_requireUpgrade g l hG hst mm o p0 w _ e10) gX6_deleteStore_X6_requireUpgrade rfl (by decide +kernel) rfl (x_nz hw c1) (c_recv hX hw (ce_6 c1) rfl) hl.1 rfl (Nat.le_of_ble_eq_true rfl) ⟨by decide, by decide⟩ dX6_deleteStore_14 (fun H lc cn sn q ce hw h1 h2 h3 => hthr _ _ _ _ _ _ _ _ _ _ hw h1 h2 h3 rfl)
      · refine x_callVNv (n := 1) (As := [.int p0]) (rest := []) hX hw (c_X6_requireUpgrade g l hG hst mm o p0 w _ e10) gX6_deleteStore_X6_requireUpgrade rfl (by decide +kernel) rfl (x_nz hw c1) (c_recv hX hw (ce_6 c1) rfl) hl.1 rfl (Nat.le_of_ble_eq_true rfl) ⟨by decide, by decide⟩ dX6_deleteStore_14 (fun H lc cn sn hw => ?_)
        have hw : wH g s.heap.size (w, mm) H lc := hw
        refine t_aload_n hx hb dX6_deleteStore_17 rfl (lv_at hl 0 rfl) ?_
        obtain ⟨c13, h⟩ := og h
        obtain ⟨v15, e14, h⟩ := ob h
        refine g_callVi (n := 0) (As := []) (rest := []) hX hw (c_X3_size g l hG hst mm v7 w v15 e14) gX6_deleteStore_X3_size rfl (by decide +kernel) rfl (x_nz hw c13) (c_recv hX hw (ce_5 c13) rfl) hl.1 rfl (Nat.le_of_ble_eq_true rfl) ⟨by decide, by decide⟩ dX6_deleteStore_18 (fun H lc cn sn hw => ?_)
        refine lv_istore (lv' := [(4, .int v15), (3, rv v7), (0, rv o), (1, .int p0), (2, .int p1)]) hx hb dX6_deleteStore_21 hl (by decide) (by simp [rv_cat, ct_i, ct_l] <;> decide) (fun ls hl => ?_)
        refine t_aload_n hx hb dX6_deleteStore_23 rfl (lv_at hl 1 rfl) ?_
        obtain ⟨w17, e16, h⟩ := ob h
        refine g_callVv (n := 0) (As := []) (rest := []) hX hw (c_X3_wipe g l hG hst mm v7 w w17 e16) gX6_deleteStore_X3_wipe rfl (by decide +kernel) rfl (x_nz hw c13) (c_recv hX hw (ce_5 c13) rfl) hl.1 rfl (Nat.le_of_ble_eq_true rfl) ⟨by decide, by decide⟩ dX6_deleteStore_24 (fun H lc cn sn hw => ?_)
        refine lv_iload hx hb dX6_deleteStore_27 (lv_at hl 0 rfl) ?_
        replace h := (Option.some.inj h).symm
        subst h
        exact hret _ _ _ _ _ _ _ dX6_deleteStore_29 hw rfl

set_option maxHeartbeats 4000000 in
set_option maxRecDepth 100000 in
theorem c_X6_makeIndex (g : GG) (l : Launch) (hG : XG g) (hst : l.stackTraces = false) (mm : MS) (o : Nat) (p0 : Int32) (p1 : Int32) (p2 : Int32) (p3 : Int32) (w : CS) (r : (Nat × CS) ⊕ (CS)) (h : x_X6_makeIndex o p0 p1 p2 p3 w = some r) : MetX g l yX6_makeIndex wsX6_makeIndex 7 111 [rv o, .int p0, .int p1, .int p2, .int p3] (w, mm) (oUw r) (wUw w r, mm) := by
  refine x_start_v (oUw r) (own := RX6) (by decide +kernel) rfl rfl (by simp [lg_sl, rv_cat, ct_i, ct_l]) ?_
  intro p e s mi args below meth cd ls Q hX htab hnm hw hl hret hthr hth2
  have hl : lv_has ls 6 [(0, rv o), (1, .int p0), (2, .int p1), (3, .int p2), (4, .int p3)] := by simpa [lv_args, rv_cat, ct_i, ct_l] using hl
  obtain ⟨⟨hx, hb, -, hown, hts⟩, -⟩ := id hX
  unfold x_X6_makeIndex at h
  refine t_aload_n hx hb dX6_makeIndex_0 rfl (lv_at hl 0 rfl) ?_
  refine lv_iload_n hx hb dX6_makeIndex_1 rfl (lv_at hl 1 rfl) ?_
  obtain ⟨c1, h⟩ := og h
  rcases obx1 h with ⟨k4, w5, e2, h⟩ | ⟨v3, e2, h⟩
  · subst h
    exact x_callVE (n := 1) (As := [.int p0]) (rest := []) hX hw (c_X6_transactionAt g l hG hst mm o p0 w _ e2) gX6_makeIndex_X6_transactionAt rfl (by decide +kernel) rfl (x_nz hw c1) (c_recv hX hw (ce_6 c1) rfl) hl.1 rfl (Nat.le_of_ble_eq_true rfl) ⟨by decide, by decide⟩ dX6_makeIndex_2 (fun H lc cn sn q ce hw h1 h2 h3 => hthr _ _ _ _ _ _ _ _ _ _ hw h1 h2 h3 rfl)
  · refine x_callVNa (n := 1) (As := [.int p0]) (rest := []) hX hw (c_X6_transactionAt g l hG hst mm o p0 w _ e2) gX6_makeIndex_X6_transactionAt rfl (by decide +kernel) rfl (x_nz hw c1) (c_recv hX hw (ce_6 c1) rfl) hl.1 rfl (Nat.le_of_ble_eq_true rfl) ⟨by decide, by decide⟩ dX6_makeIndex_2 (fun H lc cn sn hw => ?_)
    have hw : wH g s.heap.size (w, mm) H lc := hw
    refine lv_pop hx hb dX6_makeIndex_5 (rv_cat _) ?_
    refine t_aload_n hx hb dX6_makeIndex_6 rfl (lv_at hl 0 rfl) ?_
    refine lv_iload_n hx hb dX6_makeIndex_7 rfl (lv_at hl 2 rfl) ?_
    rcases obx1 h with ⟨k8, w9, e6, h⟩ | ⟨v7, e6, h⟩
    · subst h
      exact x_callVE (n := 1) (As := [.int p1]) (rest := []) hX hw (c_X6_storeAt g l hG hst mm o p1 w _ e6) gX6_makeIndex_X6_storeAt rfl (by decide +kernel) rfl (x_nz hw c1) (c_recv hX hw (ce_6 c1) rfl) hl.1 rfl (Nat.le_of_ble_eq_true rfl) ⟨by decide, by decide⟩ dX6_makeIndex_8 (fun H lc cn sn q ce hw h1 h2 h3 => hthr _ _ _ _ _ _ _ _ _ _ hw h1 h2 h3 rfl)
    · refine x_callVNa (n := 1) (As := [.int p1]) (rest := []) hX hw (c_X6_storeAt g l hG hst mm o p1 w _ e6) gX6_makeIndex_X6_storeAt rfl (by decide +kernel) rfl (x_nz hw c1) (c_recv hX hw (ce_6 c1) rfl) hl.1 rfl (Nat.le_of_ble_eq_true rfl) ⟨by decide, by decide⟩ dX6_makeIndex_8 (fun H lc cn sn hw => ?_)
      have hw : wH g s.heap.size (w, mm) H lc := hw
      refine t_astore (lv' := [(5, rv v7), (0, rv o), (1, .int p0), (2, .int p1), (3, .int p2), (4, .int p3)]) hx hb dX6_makeIndex_11 hl (by decide) rfl (fun ls hl => ?_)
      refine lv_iload_n hx hb dX6_makeIndex_13 rfl (lv_at hl 4 rfl) ?_
      obtain ⟨aj29, h1aj29, kaj29, raj29⟩ := ol0 h
      have haj29 : ∀ (H : Heap) (lc : List Loc) (cn sn : Nat) (ls : Array Slot), aj29 = Sum.inl () → wH g s.heap.size (w, mm) H lc → lv_has ls 6 [] → W p l e (rmO g 7 111 s.heap) s mi args below meth cd H lc cn sn Q (F0 mi 22 ls []) := by
        intro H lc cn sn ls h hw hl
        replace h := kaj29 h
        obtain ⟨c28, h⟩ := og h
        replace h := (Option.some.inj h).symm
        subst h
        refine hth2 _ _ _ _ _ _ rfl ?_
        exact x_throwS hX hG hst hw 1 (text := "there is no such field") (Or.inl rfl) (by decide +kernel) (by decide +kernel) (by decide +kernel) (by decide +kernel) (by decide +kernel) (by decide +kernel) c28 hl.1 dX6_makeIndex_22 dX6_makeIndex_25 dX6_makeIndex_26 dX6_makeIndex_28 dX6_makeIndex_31 htab ⟨by decide, by simp [rv_cat, ct_i, ct_l]⟩
      replace h := h1aj29
      refine lv_if_lt (tgt := 22) hx hb dX6_makeIndex_14 (by decide) (fun c10 => ?_) (fun c10 => ?_)
      · replace h := ot c10 h
        replace h := (Option.some.inj h).symm
        exact haj29 _ _ _ _ _ h hw (lv_sub hl [] rfl)
      · replace h := oe c10 h
        refine lv_iload_n hx hb dX6_makeIndex_17 rfl (lv_at hl 4 rfl) ?_
        refine lv_iconst (v := 2) hx hb dX6_makeIndex_18 (by decide) ?_
        refine lv_icmp_lt (tgt := 32) hx hb dX6_makeIndex_19 (by decide) (fun c11 => ?_) (fun c11 => ?_)
        · replace h := ot c11 h
          refine t_aload_n hx hb dX6_makeIndex_32 rfl (lv_at hl 1 rfl) ?_
          refine lv_iload_n hx hb dX6_makeIndex_33 rfl (lv_at hl 2 rfl) ?_
          rcases obx1 h with ⟨k13, w14, e12, h⟩ | ⟨_, e12, h⟩
          · replace h := raj29 _ h
            subst h
            exact x_callVE (n := 1) (As := [.int p0]) (rest := []) hX hw (c_X6_requireUpgrade g l hG hst mm o p0 w _ e12) gX6_makeIndex_X6_requireUpgrade rfl (by decide +kernel) rfl (x_nz hw c1) (c_recv hX hw (ce_6 c1) rfl) hl.1 rfl (Nat.le_of_ble_eq_true rfl) ⟨by decide, by decide⟩ dX6_makeIndex_34 (fun H lc cn sn q ce hw h1 h2 h3 => hthr _ _ _ _ _ _ _ _ _ _ hw h1 h2 h3 rfl)
          · refine x_callVNv (n := 1) (As := [.int p0]) (rest := []) hX hw (c_X6_requireUpgrade g l hG hst mm o p0 w _ e12) gX6_makeIndex_X6_requireUpgrade rfl (by decide +kernel) rfl (x_nz hw c1) (c_recv hX hw (ce_6 c1) rfl) hl.1 rfl (Nat.le_of_ble_eq_true rfl) ⟨by decide, by decide⟩ dX6_makeIndex_34 (fun H lc cn sn hw => ?_)
            have hw : wH g s.heap.size (w, mm) H lc := hw
            refine t_aload hx hb dX6_makeIndex_37 (lv_at hl 0 rfl) ?_
            refine lv_iload_n hx hb dX6_makeIndex_39 rfl (lv_at hl 4 rfl) ?_
            obtain ⟨c15, h⟩ := og h
            obtain ⟨v17, e16, h⟩ := ob h
            refine g_callVi (n := 1) (As := [.int p2]) (rest := []) hX hw (c_X3_hasIndex g l hG hst mm v7 p2 w v17 e16) gX6_makeIndex_X3_hasIndex rfl (by decide +kernel) rfl (x_nz hw c15) (c_recv hX hw (ce_5 c15) rfl) hl.1 rfl (Nat.le_of_ble_eq_true rfl) ⟨by decide, by decide⟩ dX6_makeIndex_40 (fun H lc cn sn hw => ?_)
            obtain ⟨aj27, h1aj27, kaj27, raj27⟩ := ol0 h
            have haj27 : ∀ (H : Heap) (lc : List Loc) (cn sn : Nat) (ls : Array Slot), aj27 = Sum.inl () → wH g s.heap.size (w, mm) H lc → lv_has ls 6 [] → W p l e (rmO g 7 111 s.heap) s mi args below meth cd H lc cn sn Q (F0 mi 60 ls []) := by
              intro H lc cn sn ls h hw hl
              replace h := kaj27 h
              obtain ⟨c26, h⟩ := og h
              replace h := (Option.some.inj h).symm
              replace h := raj29 _ h
              subst h
              refine hth2 _ _ _ _ _ _ rfl ?_
              exact x_throwS hX hG hst hw 3 (text := "the index cannot be made") (Or.inr (Or.inr rfl)) (by decide +kernel) (by decide +kernel) (by decide +kernel) (by decide +kernel) (by decide +kernel) (by decide +kernel) c26 hl.1 dX6_makeIndex_60 dX6_makeIndex_63 dX6_makeIndex_64 dX6_makeIndex_66 dX6_makeIndex_69 htab ⟨by decide, by simp [rv_cat, ct_i, ct_l]⟩
            replace h := h1aj27
            refine lv_if_ne (tgt := 60) hx hb dX6_makeIndex_43 (by decide) (fun c18 => ?_) (fun c18 => ?_)
            · replace h := oe c18 h
              replace h := (Option.some.inj h).symm
              exact haj27 _ _ _ _ _ h hw (lv_sub hl [] rfl)
            · replace h := ot c18 h
              refine lv_iload hx hb dX6_makeIndex_46 (lv_at hl 5 rfl) ?_
              obtain ⟨aj25, h1aj25, kaj25, raj25⟩ := ol0 h
              have haj25 : ∀ (H : Heap) (lc : List Loc) (cn sn : Nat) (ls : Array Slot), aj25 = Sum.inl () → wH g s.heap.size (w, mm) H lc → lv_has ls 6 [(5, rv v7), (3, .int p2), (4, .int p3)] → W p l e (rmO g 7 111 s.heap) s mi args below meth cd H lc cn sn Q (F0 mi 70 ls []) := by
                intro H lc cn sn ls h hw hl
                replace h := kaj25 h
                refine t_aload hx hb dX6_makeIndex_70 (lv_at hl 0 rfl) ?_
                refine lv_iload_n hx hb dX6_makeIndex_72 rfl (lv_at hl 1 rfl) ?_
                refine lv_iload hx hb dX6_makeIndex_73 (lv_at hl 2 rfl) ?_
                obtain ⟨w24, e23, h⟩ := ob h
                refine g_callVv (n := 2) (As := [.int p2, .int p3]) (rest := []) hX hw (c_X3_addIndex g l hG hst mm v7 p2 p3 w w24 e23) gX6_makeIndex_X3_addIndex rfl (by decide +kernel) rfl (x_nz hw c15) (c_recv hX hw (ce_5 c15) rfl) hl.1 rfl (Nat.le_of_ble_eq_true rfl) ⟨by decide, by decide⟩ dX6_makeIndex_75 (fun H lc cn sn hw => ?_)
                replace h := (Option.some.inj h).symm
                replace h := raj27 _ h
                replace h := raj29 _ h
                subst h
                exact hret _ _ _ _ _ _ dX6_makeIndex_78 hw rfl
              replace h := h1aj25
              refine lv_if_eq (tgt := 70) hx hb dX6_makeIndex_48 (by decide) (fun c19 => ?_) (fun c19 => ?_)
              · replace h := ot c19 h
                replace h := (Option.some.inj h).symm
                exact haj25 _ _ _ _ _ h hw (lv_sub hl [0, 4, 5] rfl)
              · replace h := oe c19 h
                refine t_aload hx hb dX6_makeIndex_51 (lv_at hl 0 rfl) ?_
                refine lv_iload_n hx hb dX6_makeIndex_53 rfl (lv_at hl 4 rfl) ?_
                obtain ⟨v21, e20, h⟩ := ob h
                refine g_callVi (n := 1) (As := [.int p2]) (rest := []) hX hw (c_X3_hasDoubles g l hG hst mm v7 p2 w v21 e20) gX6_makeIndex_X3_hasDoubles rfl (by decide +kernel) rfl (x_nz hw c15) (c_recv hX hw (ce_5 c15) rfl) hl.1 rfl (Nat.le_of_ble_eq_true rfl) ⟨by decide, by decide⟩ dX6_makeIndex_54 (fun H lc cn sn hw => ?_)
                refine lv_if_eq (tgt := 70) hx hb dX6_makeIndex_57 (by decide) (fun c22 => ?_) (fun c22 => ?_)
                · replace h := ot c22 h
                  replace h := (Option.some.inj h).symm
                  exact haj25 _ _ _ _ _ h hw (lv_sub hl [0, 4, 5] rfl)
                · replace h := oe c22 h
                  replace h := (Option.some.inj h).symm
                  replace h := raj25 _ h
                  exact haj27 _ _ _ _ _ h hw (lv_sub hl [] rfl)
        · replace h := oe c11 h
          replace h := (Option.some.inj h).symm
          exact haj29 _ _ _ _ _ h hw (lv_sub hl [] rfl)

set_option maxHeartbeats 4000000 in
set_option maxRecDepth 100000 in
theorem c_X6_begin (g : GG) (l : Launch) (hG : XG g) (hst : l.stackTraces = false) (mm : MS) (o : Nat) (p0 : Int32) (p1 : Int32) (p2 : Int32) (w : CS) (r : (Nat × CS) ⊕ (Int32 × CS)) (h : x_X6_begin o p0 p1 p2 w = some r) : MetX g l yX6_begin wsX6_begin 11 260 [rv o, .int p0, .int p1, .int p2] (w, mm) (oIw r) (wIw w r, mm) := by
  refine x_start_i (oIw r) (own := RX6) (by decide +kernel) rfl rfl (by simp [lg_sl, rv_cat, ct_i, ct_l]) ?_
  intro p e s mi args below meth cd ls Q hX htab hnm hw hl hret hthr hth2
  have hl : lv_has ls 6 [(0, rv o), (1, .int p0), (2, .int p1), (3, .int p2)] := by simpa [lv_args, rv_cat, ct_i, ct_l] using hl
  obtain ⟨⟨hx, hb, -, hown, hts⟩, -⟩ := id hX
  unfold x_X6_begin at h
  refine t_aload_n hx hb dX6_begin_0 rfl (lv_at hl 0 rfl) ?_
  refine lv_iload_n hx hb dX6_begin_1 rfl (lv_at hl 1 rfl) ?_
  obtain ⟨c1, h⟩ := og h
  rcases obx1 h with ⟨k4, w5, e2, h⟩ | ⟨v3, e2, h⟩
  · subst h
    exact x_callVE (n := 1) (As := [.int p0]) (rest := []) hX hw (c_X6_tabAt g l hG hst mm o p0 w _ e2) gX6_begin_X6_tabAt rfl (by decide +kernel) rfl (x_nz hw c1) (c_recv hX hw (ce_6 c1) rfl) hl.1 rfl (Nat.le_of_ble_eq_true rfl) ⟨by decide, by decide⟩ dX6_begin_2 (fun H lc cn sn q ce hw h1 h2 h3 => hthr _ _ _ _ _ _ _ _ _ _ hw h1 h2 h3 rfl)
  · refine x_callVNa (n := 1) (As := [.int p0]) (rest := []) hX hw (c_X6_tabAt g l hG hst mm o p0 w _ e2) gX6_begin_X6_tabAt rfl (by decide +kernel) rfl (x_nz hw c1) (c_recv hX hw (ce_6 c1) rfl) hl.1 rfl (Nat.le_of_ble_eq_true rfl) ⟨by decide, by decide⟩ dX6_begin_2 (fun H lc cn sn hw => ?_)
    have hw : wH g s.heap.size (w, mm) H lc := hw
    refine t_astore (lv' := [(4, rv v3), (0, rv o), (1, .int p0), (2, .int p1), (3, .int p2)]) hx hb dX6_begin_5 hl (by decide) rfl (fun ls hl => ?_)
    refine lv_iload_n hx hb dX6_begin_7 rfl (lv_at hl 3 rfl) ?_
    refine lv_iconst (v := 1) hx hb dX6_begin_8 (by decide) ?_
    obtain ⟨aj38, h1aj38, kaj38, raj38⟩ := ol0 h
    have haj38 : ∀ (H : Heap) (lc : List Loc) (cn sn : Nat) (ls : Array Slot), aj38 = Sum.inl () → wH g s.heap.size (w, mm) H lc → lv_has ls 6 [(4, rv v3), (0, rv o), (2, .int p1), (3, .int p2)] → W p l e (rmO g 11 260 s.heap) s mi args below meth cd H lc cn sn Q (F0 mi 36 ls []) := by
      intro H lc cn sn ls h hw hl
      replace h := kaj38 h
      refine lv_iload_n hx hb dX6_begin_36 rfl (lv_at hl 2 rfl) ?_
      refine lv_iconst (v := 1) hx hb dX6_begin_37 (by decide) ?_
      refine lv_bipush (v := 7) hx hb dX6_begin_38 (by decide) ?_
      rcases obx1 h with ⟨k13, w14, e12, h⟩ | ⟨_, e12, h⟩
      · subst h
        exact x_callSE (n := 3) (As := [.int p1, .int 1, .int 7]) (rest := []) hX hw (c_X6_requireInRange g l hG hst mm p1 1 7 w _ e12) gX6_begin_X6_requireInRange rfl (by decide +kernel) rfl hl.1 rfl (Nat.le_of_ble_eq_true rfl) ⟨by decide, by decide⟩ dX6_begin_40 (fun H lc cn sn q ce hw h1 h2 h3 => hthr _ _ _ _ _ _ _ _ _ _ hw h1 h2 h3 rfl)
      · refine x_callSNv (n := 3) (As := [.int p1, .int 1, .int 7]) (rest := []) hX hw (c_X6_requireInRange g l hG hst mm p1 1 7 w _ e12) gX6_begin_X6_requireInRange rfl (by decide +kernel) rfl hl.1 rfl (Nat.le_of_ble_eq_true rfl) ⟨by decide, by decide⟩ dX6_begin_40 (fun H lc cn sn hw => ?_)
        have hw : wH g s.heap.size (w, mm) H lc := hw
        refine t_aload hx hb dX6_begin_43 (lv_at hl 0 rfl) ?_
        obtain ⟨c15, h⟩ := og h
        refine c_gf (C := RX4) (TT := TX4) (N := 3) (ref := "TabStore$Tab") (v := .int (wI w 160 v3)) hX hw (ce_4 c15) rfl 0 (by decide +kernel) (by decide) (by decide +kernel) (fun _ h9 => h9) rfl dX6_begin_45 ?_
        refine lv_iconst (v := 1) hx hb dX6_begin_48 (by decide) ?_
        obtain ⟨aj37, h1aj37, kaj37, raj37⟩ := ol0 h
        have haj37 : ∀ (H : Heap) (lc : List Loc) (cn sn : Nat) (ls : Array Slot), aj37 = Sum.inl () → wH g s.heap.size (w, mm) H lc → lv_has ls 6 [] → W p l e (rmO g 11 260 s.heap) s mi args below meth cd H lc cn sn Q (F0 mi 59 ls []) := by
          intro H lc cn sn ls h hw hl
          replace h := kaj37 h
          obtain ⟨c36, h⟩ := og h
          replace h := (Option.some.inj h).symm
          subst h
          refine hth2 _ _ _ _ _ _ rfl ?_
          exact x_throwS hX hG hst hw 3 (text := "no transaction can begin now") (Or.inr (Or.inr rfl)) (by decide +kernel) (by decide +kernel) (by decide +kernel) (by decide +kernel) (by decide +kernel) (by decide +kernel) c36 hl.1 dX6_begin_59 dX6_begin_62 dX6_begin_63 dX6_begin_65 dX6_begin_68 htab ⟨by decide, by simp [rv_cat, ct_i, ct_l]⟩
        replace h := h1aj37
        refine lv_icmp_ne (tgt := 59) hx hb dX6_begin_49 (by decide) (fun c16 => ?_) (fun c16 => ?_)
        · replace h := oe c16 h
          replace h := (Option.some.inj h).symm
          exact haj37 _ _ _ _ _ h hw (lv_sub hl [] rfl)
        · replace h := ot c16 h
          refine t_aload_n hx hb dX6_begin_52 rfl (lv_at hl 1 rfl) ?_
          obtain ⟨v18, e17, h⟩ := ob h
          refine g_callVi (n := 0) (As := []) (rest := []) hX hw (c_X6_hasRoom g l hG hst mm o w v18 e17) gX6_begin_X6_hasRoom rfl (by decide +kernel) rfl (x_nz hw c1) (c_recv hX hw (ce_6 c1) rfl) hl.1 rfl (Nat.le_of_ble_eq_true rfl) ⟨by decide, by decide⟩ dX6_begin_53 (fun H lc cn sn hw => ?_)
          refine lv_if_ne (tgt := 69) hx hb dX6_begin_56 (by decide) (fun c19 => ?_) (fun c19 => ?_)
          · replace h := oe c19 h
            refine t_aload_n hx hb dX6_begin_69 rfl (lv_at hl 1 rfl) ?_
            refine c_gf (C := RX6) (TT := TX6) (N := 8) (ref := "TabStore") (v := rv (wJ w 243 o)) hX hw (ce_6 c1) rfl 3 (by decide +kernel) (by decide) (by decide +kernel) (fun _ h9 => h9) rfl dX6_begin_70 ?_
            obtain ⟨c20, h⟩ := og h
            obtain ⟨v22, e21, h⟩ := ob h
            refine g_callFi (n := 0) (As := []) (rest := []) hX hw (c_Jx4a65c_size_8abf5 g l hG hst mm (wJ w 243 o) w v22 e21) gX6_begin_Jx4a65c_size_8abf5_f83Jx4a65c rfl (by decide +kernel) rfl (x_nz hw c20) (c_recv hX hw (ce_7 c20) rfl) ((hG s hX.2.1.2.1).2.1.1) (show vwCl[0]? = some (RJx4a65c, TJx4a65c, 3) from rfl) hl.1 rfl (Nat.le_of_ble_eq_true rfl) ⟨by decide, by decide⟩ dX6_begin_73 (fun H lc cn sn hw => ?_)
            refine lv_istore (lv' := [(5, .int v22), (4, rv v3), (0, rv o), (2, .int p1), (3, .int p2)]) hx hb dX6_begin_78 hl (by decide) (by simp [rv_cat, ct_i, ct_l] <;> decide) (fun ls hl => ?_)
            refine t_aload_n hx hb dX6_begin_80 rfl (lv_at hl 2 rfl) ?_
            refine c_gf (C := RX6) (TT := TX6) (N := 8) (ref := "TabStore") (v := rv (wJ w 243 o)) hX hw (ce_6 c1) rfl 3 (by decide +kernel) (by decide) (by decide +kernel) (fun _ h9 => h9) rfl dX6_begin_81 ?_
            obtain ⟨c23, h⟩ := og h
            obtain ⟨w24, ew24, h⟩ := ol h
            refine n_2 hX hw (by decide +kernel) (by decide +kernel) (by decide +kernel) (by decide +kernel) c23 dX6_begin_84 (fun H cn sn hw => ?_)
            have hw := hw_eq ew24 hw
            refine lv_dup hx hb dX6_begin_87 (rv_cat _) ?_
            refine t_aload hx hb dX6_begin_88 (lv_at hl 1 rfl) ?_
            refine lv_iload_n hx hb dX6_begin_90 rfl (lv_at hl 3 rfl) ?_
            refine lv_iload_n hx hb dX6_begin_91 rfl (lv_at hl 4 rfl) ?_
            obtain ⟨c25, h⟩ := og h
            obtain ⟨w27, e26, h⟩ := ob h
            refine g_callI (n := 3) (As := [rv v3, .int p1, .int p2]) (rest := [rv (wz w + 1), rv (wJ w 243 o)]) hX hw (c_X5_init g l hG hst mm (wz w + 1) v3 p1 p2 w24 w27 e26) gX6_begin_X5_init rfl (by decide +kernel) rfl (x_nz hw c25) (by decide +kernel) (by decide +kernel) (by decide +kernel) rfl hl.1 rfl (by simp [rv_cat, ct_i, ct_l]) ⟨by decide, by decide⟩ dX6_begin_92 (fun H lc cn sn hw => ?_)
            obtain ⟨c28, h⟩ := og h
            obtain ⟨v30, w31, e29, h⟩ := oc2 h
            refine g_callFi (n := 1) (As := [rv (wz w + 1)]) (rest := []) hX hw (c_Jx4a65c_add_9ea2d g l hG hst mm (wJ w 243 o) (wz w + 1) w27 v30 w31 e29) gX6_begin_Jx4a65c_add_9ea2d_f169Jx4a65c rfl (by decide +kernel) rfl (x_nz hw c28) (c_recv hX hw (ce_7 c28) rfl) ((hG s hX.2.1.2.1).2.1.2.2.2.1) (show vwCl[0]? = some (RJx4a65c, TJx4a65c, 3) from rfl) hl.1 rfl (Nat.le_of_ble_eq_true rfl) ⟨by decide, by decide⟩ dX6_begin_95 (fun H lc cn sn hw => ?_)
            refine lv_pop hx hb dX6_begin_100 rfl ?_
            refine t_aload_n hx hb dX6_begin_101 rfl (lv_at hl 2 rfl) ?_
            obtain ⟨c32, h⟩ := og h
            obtain ⟨v34, w35, e33, h⟩ := oc2 h
            refine g_callVi (n := 0) (As := []) (rest := []) hX hw (c_X6_runFreed g l hG hst mm o w31 v34 w35 e33) gX6_begin_X6_runFreed rfl (by decide +kernel) rfl (x_nz hw c32) (c_recv hX hw (ce_6 c32) rfl) hl.1 rfl (Nat.le_of_ble_eq_true rfl) ⟨by decide, by decide⟩ dX6_begin_102 (fun H lc cn sn hw => ?_)
            refine lv_pop hx hb dX6_begin_105 rfl ?_
            refine lv_iload hx hb dX6_begin_106 (lv_at hl 0 rfl) ?_
            replace h := (Option.some.inj h).symm
            replace h := raj37 _ h
            subst h
            exact hret _ _ _ _ _ _ _ dX6_begin_108 hw rfl
          · replace h := ot c19 h
            replace h := (Option.some.inj h).symm
            exact haj37 _ _ _ _ _ h hw (lv_sub hl [] rfl)
    replace h := h1aj38
    refine lv_icmp_lt (tgt := 36) hx hb dX6_begin_9 (by decide) (fun c6 => ?_) (fun c6 => ?_)
    · replace h := ot c6 h
      replace h := (Option.some.inj h).symm
      exact haj38 _ _ _ _ _ h hw (lv_sub hl [0, 1, 3, 4] rfl)
    · replace h := oe c6 h
      refine lv_iload_n hx hb dX6_begin_12 rfl (lv_at hl 3 rfl) ?_
      refine lv_bipush (v := 7) hx hb dX6_begin_13 (by decide) ?_
      refine lv_icmp_gt (tgt := 36) hx hb dX6_begin_15 (by decide) (fun c7 => ?_) (fun c7 => ?_)
      · replace h := ot c7 h
        replace h := (Option.some.inj h).symm
        exact haj38 _ _ _ _ _ h hw (lv_sub hl [0, 1, 3, 4] rfl)
      · replace h := oe c7 h
        refine t_aload_n hx hb dX6_begin_18 rfl (lv_at hl 1 rfl) ?_
        refine lv_iload_n hx hb dX6_begin_19 rfl (lv_at hl 3 rfl) ?_
        obtain ⟨v9, e8, h⟩ := ob h
        refine g_callVi (n := 1) (As := [.int p1]) (rest := []) hX hw (c_X6_areThere g l hG hst mm o p1 w v9 e8) gX6_begin_X6_areThere rfl (by decide +kernel) rfl (x_nz hw c1) (c_recv hX hw (ce_6 c1) rfl) hl.1 rfl (Nat.le_of_ble_eq_true rfl) ⟨by decide, by decide⟩ dX6_begin_20 (fun H lc cn sn hw => ?_)
        refine lv_if_ne (tgt := 36) hx hb dX6_begin_23 (by decide) (fun c10 => ?_) (fun c10 => ?_)
        · replace h := oe c10 h
          replace h := (Option.some.inj h).symm
          exact haj38 _ _ _ _ _ h hw (lv_sub hl [0, 1, 3, 4] rfl)
        · replace h := ot c10 h
          obtain ⟨c11, h⟩ := og h
          replace h := (Option.some.inj h).symm
          replace h := raj38 _ h
          subst h
          refine hth2 _ _ _ _ _ _ rfl ?_
          exact x_throwS hX hG hst hw 1 (text := "a store of the scope is not there") (Or.inl rfl) (by decide +kernel) (by decide +kernel) (by decide +kernel) (by decide +kernel) (by decide +kernel) (by decide +kernel) c11 hl.1 dX6_begin_26 dX6_begin_29 dX6_begin_30 dX6_begin_32 dX6_begin_35 htab ⟨by decide, by simp [rv_cat, ct_i, ct_l]⟩

set_option maxHeartbeats 4000000 in
set_option maxRecDepth 100000 in
theorem c_X6_standing (g : GG) (l : Launch) (hG : XG g) (hst : l.stackTraces = false) (mm : MS) (o : Nat) (p0 : Int32) (w : CS) (r : (Nat × CS) ⊕ (Int32)) (h : x_X6_standing o p0 w = some r) : MetX g l yX6_standing wsX6_standing 7 103 [rv o, .int p0] (w, mm) (oIr r) (wIr w r, mm) := by
  refine x_start_i (oIr r) (own := RX6) (by decide +kernel) rfl rfl (by simp [lg_sl, rv_cat, ct_i, ct_l]) ?_
  intro p e s mi args below meth cd ls Q hX htab hnm hw hl hret hthr hth2
  have hl : lv_has ls 2 [(0, rv o), (1, .int p0)] := by simpa [lv_args, rv_cat, ct_i, ct_l] using hl
  obtain ⟨⟨hx, hb, -, hown, hts⟩, -⟩ := id hX
  unfold x_X6_standing at h
  refine t_aload_n hx hb dX6_standing_0 rfl (lv_at hl 0 rfl) ?_
  refine lv_iload_n hx hb dX6_standing_1 rfl (lv_at hl 1 rfl) ?_
  obtain ⟨c1, h⟩ := og h
  rcases obx1 h with ⟨k4, w5, e2, h⟩ | ⟨v3, e2, h⟩
  · subst h
    exact x_callVE (n := 1) (As := [.int p0]) (rest := []) hX hw (c_X6_transactionAt g l hG hst mm o p0 w _ e2) gX6_standing_X6_transactionAt rfl (by decide +kernel) rfl (x_nz hw c1) (c_recv hX hw (ce_6 c1) rfl) hl.1 rfl (Nat.le_of_ble_eq_true rfl) ⟨by decide, by decide⟩ dX6_standing_2 (fun H lc cn sn q ce hw h1 h2 h3 => hthr _ _ _ _ _ _ _ _ _ _ hw h1 h2 h3 rfl)
  · refine x_callVNa (n := 1) (As := [.int p0]) (rest := []) hX hw (c_X6_transactionAt g l hG hst mm o p0 w _ e2) gX6_standing_X6_transactionAt rfl (by decide +kernel) rfl (x_nz hw c1) (c_recv hX hw (ce_6 c1) rfl) hl.1 rfl (Nat.le_of_ble_eq_true rfl) ⟨by decide, by decide⟩ dX6_standing_2 (fun H lc cn sn hw => ?_)
    have hw : wH g s.heap.size (w, mm) H lc := hw
    obtain ⟨c6, h⟩ := og h
    refine c_gf (C := RX5) (TT := TX5) (N := 4) (ref := "TabStore$Transaction") (v := .int (wI w 83 v3)) hX hw (ce_2 c6) rfl 3 (by decide +kernel) (by decide) (by decide +kernel) (fun _ h9 => h9) rfl dX6_standing_5 ?_
    replace h := (Option.some.inj h).symm
    subst h
    exact hret _ _ _ _ _ _ _ dX6_standing_8 hw rfl

set_option maxHeartbeats 4000000 in
set_option maxRecDepth 100000 in
theorem c_X6_commit (g : GG) (l : Launch) (hG : XG g) (hst : l.stackTraces = false) (mm : MS) (o : Nat) (p0 : Int32) (w : CS) (r : (Nat × CS) ⊕ (Int32 × CS)) (h : x_X6_commit o p0 w = some r) : MetX g l yX6_commit wsX6_commit 11 260 [rv o, .int p0] (w, mm) (oIw r) (wIw w r, mm) := by
  refine x_start_i (oIw r) (own := RX6) (by decide +kernel) rfl rfl (by simp [lg_sl, rv_cat, ct_i, ct_l]) ?_
  intro p e s mi args below meth cd ls Q hX htab hnm hw hl hret hthr hth2
  have hl : lv_has ls 3 [(0, rv o), (1, .int p0)] := by simpa [lv_args, rv_cat, ct_i, ct_l] using hl
  obtain ⟨⟨hx, hb, -, hown, hts⟩, -⟩ := id hX
  unfold x_X6_commit at h
  refine t_aload_n hx hb dX6_commit_0 rfl (lv_at hl 0 rfl) ?_
  refine lv_iload_n hx hb dX6_commit_1 rfl (lv_at hl 1 rfl) ?_
  obtain ⟨c1, h⟩ := og h
  rcases obx1 h with ⟨k4, w5, e2, h⟩ | ⟨v3, e2, h⟩
  · subst h
    exact x_callVE (n := 1) (As := [.int p0]) (rest := []) hX hw (c_X6_transactionAt g l hG hst mm o p0 w _ e2) gX6_commit_X6_transactionAt rfl (by decide +kernel) rfl (x_nz hw c1) (c_recv hX hw (ce_6 c1) rfl) hl.1 rfl (Nat.le_of_ble_eq_true rfl) ⟨by decide, by decide⟩ dX6_commit_2 (fun H lc cn sn q ce hw h1 h2 h3 => hthr _ _ _ _ _ _ _ _ _ _ hw h1 h2 h3 rfl)
  · refine x_callVNa (n := 1) (As := [.int p0]) (rest := []) hX hw (c_X6_transactionAt g l hG hst mm o p0 w _ e2) gX6_commit_X6_transactionAt rfl (by decide +kernel) rfl (x_nz hw c1) (c_recv hX hw (ce_6 c1) rfl) hl.1 rfl (Nat.le_of_ble_eq_true rfl) ⟨by decide, by decide⟩ dX6_commit_2 (fun H lc cn sn hw => ?_)
    have hw : wH g s.heap.size (w, mm) H lc := hw
    refine t_astore_n (lv' := [(2, rv v3), (0, rv o), (1, .int p0)]) hx hb dX6_commit_5 rfl hl (by decide) rfl (fun ls hl => ?_)
    refine t_aload_n hx hb dX6_commit_6 rfl (lv_at hl 0 rfl) ?_
    rcases obx1 h with ⟨k7, w8, e6, h⟩ | ⟨_, e6, h⟩
    · subst h
      exact x_callSE (n := 1) (As := [rv v3]) (rest := []) hX hw (c_X6_requireRunning g l hG hst mm v3 w _ e6) gX6_commit_X6_requireRunning rfl (by decide +kernel) rfl hl.1 rfl (Nat.le_of_ble_eq_true rfl) ⟨by decide, by decide⟩ dX6_commit_7 (fun H lc cn sn q ce hw h1 h2 h3 => hthr _ _ _ _ _ _ _ _ _ _ hw h1 h2 h3 rfl)
    · refine x_callSNv (n := 1) (As := [rv v3]) (rest := []) hX hw (c_X6_requireRunning g l hG hst mm v3 w _ e6) gX6_commit_X6_requireRunning rfl (by decide +kernel) rfl hl.1 rfl (Nat.le_of_ble_eq_true rfl) ⟨by decide, by decide⟩ dX6_commit_7 (fun H lc cn sn hw => ?_)
      have hw : wH g s.heap.size (w, mm) H lc := hw
      refine t_aload_n hx hb dX6_commit_10 rfl (lv_at hl 0 rfl) ?_
      refine lv_iconst (v := 2) hx hb dX6_commit_11 (by decide) ?_
      obtain ⟨c9, h⟩ := og h
      obtain ⟨w10, ew10, h⟩ := ol h
      refine p_2_3 hX hw c9 (by decide +kernel) (by decide +kernel) dX6_commit_12 (fun H lc hw => ?_)
      have hw := hw_eq ew10 hw
      refine lv_iload_n hx hb dX6_commit_15 rfl (lv_at hl 2 rfl) ?_
      refine t_aload_n hx hb dX6_commit_16 rfl (lv_at hl 1 rfl) ?_
      obtain ⟨c11, h⟩ := og h
      refine c_gf (C := RX6) (TT := TX6) (N := 8) (ref := "TabStore") (v := .int (wI w10 246 o)) hX hw (ce_6 c11) rfl 6 (by decide +kernel) (by decide) (by decide +kernel) (fun _ h9 => h9) rfl dX6_commit_17 ?_
      obtain ⟨aj26, h1aj26, kaj26⟩ := ob1 h
      have haj26 : ∀ (w21 : CS) (H : Heap) (lc : List Loc) (cn sn : Nat) (ls : Array Slot), aj26 = w21 → wH g s.heap.size (w21, mm) H lc → lv_has ls 3 [(0, rv o)] → W p l e (rmO g 11 260 s.heap) s mi args below meth cd H lc cn sn Q (F0 mi 47 ls []) := by
        intro w21 H lc cn sn ls h hw hl
        replace h := kaj26 _ h
        refine t_aload_n hx hb dX6_commit_47 rfl (lv_at hl 0 rfl) ?_
        obtain ⟨c22, h⟩ := og h
        obtain ⟨v24, w25, e23, h⟩ := oc2 h
        refine g_callVi (n := 0) (As := []) (rest := []) hX hw (c_X6_runFreed g l hG hst mm o w21 v24 w25 e23) gX6_commit_X6_runFreed rfl (by decide +kernel) rfl (x_nz hw c22) (c_recv hX hw (ce_6 c22) rfl) hl.1 rfl (Nat.le_of_ble_eq_true rfl) ⟨by decide, by decide⟩ dX6_commit_48 (fun H lc cn sn hw => ?_)
        replace h := (Option.some.inj h).symm
        subst h
        exact hret _ _ _ _ _ _ _ dX6_commit_51 hw rfl
      replace h := h1aj26
      refine lv_icmp_ne (tgt := 47) hx hb dX6_commit_20 (by decide) (fun c12 => ?_) (fun c12 => ?_)
      · replace h := oe c12 h
        replace h := (Option.some.inj h).symm
        exact haj26 _ _ _ _ _ _ h hw (lv_sub hl [1] rfl)
      · replace h := ot c12 h
        refine t_aload_n hx hb dX6_commit_23 rfl (lv_at hl 1 rfl) ?_
        refine lv_iconst (v := (-1)) hx hb dX6_commit_24 (by decide) ?_
        obtain ⟨w13, ew13, h⟩ := ol h
        refine p_6_6 hX hw c11 (by decide +kernel) (by decide +kernel) dX6_commit_25 (fun H lc hw => ?_)
        have hw := hw_eq ew13 hw
        refine t_aload_n hx hb dX6_commit_28 rfl (lv_at hl 1 rfl) ?_
        refine t_aload_n hx hb dX6_commit_29 rfl (lv_at hl 0 rfl) ?_
        obtain ⟨c14, h⟩ := og h
        refine c_gf (C := RX5) (TT := TX5) (N := 4) (ref := "TabStore$Transaction") (v := rv (wJ w13 80 v3)) hX hw (ce_2 c14) rfl 0 (by decide +kernel) (by decide) (by decide +kernel) (fun _ h9 => h9) rfl dX6_commit_30 ?_
        obtain ⟨c15, h⟩ := og h
        refine c_gf (C := RX4) (TT := TX4) (N := 3) (ref := "TabStore$Tab") (v := .int (wI w13 161 (wJ w13 80 v3))) hX hw (ce_4 c15) rfl 1 (by decide +kernel) (by decide) (by decide +kernel) (fun _ h9 => h9) rfl dX6_commit_33 ?_
        obtain ⟨c16, h⟩ := og h
        obtain ⟨w17, ew17, h⟩ := ol h
        refine p_6_5 hX hw c16 (by decide +kernel) (by decide +kernel) dX6_commit_36 (fun H lc hw => ?_)
        have hw := hw_eq ew17 hw
        refine t_aload_n hx hb dX6_commit_39 rfl (lv_at hl 0 rfl) ?_
        obtain ⟨c18, h⟩ := og h
        refine c_gf (C := RX5) (TT := TX5) (N := 4) (ref := "TabStore$Transaction") (v := rv (wJ w17 80 v3)) hX hw (ce_2 c18) rfl 0 (by decide +kernel) (by decide) (by decide +kernel) (fun _ h9 => h9) rfl dX6_commit_40 ?_
        refine lv_iconst (v := 1) hx hb dX6_commit_43 (by decide) ?_
        obtain ⟨c19, h⟩ := og h
        obtain ⟨w20, ew20, h⟩ := ol h
        refine p_4_0 hX hw c19 (by decide +kernel) (by decide +kernel) dX6_commit_44 (fun H lc hw => ?_)
        have hw := hw_eq ew20 hw
        replace h := (Option.some.inj h).symm
        exact haj26 _ _ _ _ _ _ h hw (lv_sub hl [1] rfl)

set_option maxHeartbeats 4000000 in
set_option maxRecDepth 100000 in
theorem c_X6_abort (g : GG) (l : Launch) (hG : XG g) (hst : l.stackTraces = false) (mm : MS) (o : Nat) (p0 : Int32) (w : CS) (r : (Nat × CS) ⊕ (Int32 × CS)) (h : x_X6_abort o p0 w = some r) : MetX g l yX6_abort wsX6_abort 13 302 [rv o, .int p0] (w, mm) (oIw r) (wIw w r, mm) := by
  refine x_start_i (oIw r) (own := RX6) (by decide +kernel) rfl rfl (by simp [lg_sl, rv_cat, ct_i, ct_l]) ?_
  intro p e s mi args below meth cd ls Q hX htab hnm hw hl hret hthr hth2
  have hl : lv_has ls 5 [(0, rv o), (1, .int p0)] := by simpa [lv_args, rv_cat, ct_i, ct_l] using hl
  obtain ⟨⟨hx, hb, -, hown, hts⟩, -⟩ := id hX
  unfold x_X6_abort at h
  refine t_aload_n hx hb dX6_abort_0 rfl (lv_at hl 0 rfl) ?_
  refine lv_iload_n hx hb dX6_abort_1 rfl (lv_at hl 1 rfl) ?_
  obtain ⟨c1, h⟩ := og h
  rcases obx1 h with ⟨k4, w5, e2, h⟩ | ⟨v3, e2, h⟩
  · subst h
    exact x_callVE (n := 1) (As := [.int p0]) (rest := []) hX hw (c_X6_transactionAt g l hG hst mm o p0 w _ e2) gX6_abort_X6_transactionAt rfl (by decide +kernel) rfl (x_nz hw c1) (c_recv hX hw (ce_6 c1) rfl) hl.1 rfl (Nat.le_of_ble_eq_true rfl) ⟨by decide, by decide⟩ dX6_abort_2 (fun H lc cn sn q ce hw h1 h2 h3 => hthr _ _ _ _ _ _ _ _ _ _ hw h1 h2 h3 rfl)
  · refine x_callVNa (n := 1) (As := [.int p0]) (rest := []) hX hw (c_X6_transactionAt g l hG hst mm o p0 w _ e2) gX6_abort_X6_transactionAt rfl (by decide +kernel) rfl (x_nz hw c1) (c_recv hX hw (ce_6 c1) rfl) hl.1 rfl (Nat.le_of_ble_eq_true rfl) ⟨by decide, by decide⟩ dX6_abort_2 (fun H lc cn sn hw => ?_)
    have hw : wH g s.heap.size (w, mm) H lc := hw
    refine t_astore_n (lv' := [(2, rv v3), (0, rv o), (1, .int p0)]) hx hb dX6_abort_5 rfl hl (by decide) rfl (fun ls hl => ?_)
    refine lv_iload_n hx hb dX6_abort_6 rfl (lv_at hl 2 rfl) ?_
    refine t_aload_n hx hb dX6_abort_7 rfl (lv_at hl 1 rfl) ?_
    refine c_gf (C := RX6) (TT := TX6) (N := 8) (ref := "TabStore") (v := .int (wI w 246 o)) hX hw (ce_6 c1) rfl 6 (by decide +kernel) (by decide) (by decide +kernel) (fun _ h9 => h9) rfl dX6_abort_8 ?_
    obtain ⟨aj32, h1aj32, kaj32⟩ := ob1 h
    have haj32 : ∀ (v7 : Int32) (H : Heap) (lc : List Loc) (cn sn : Nat) (ls : Array Slot), aj32 = v7 → wH g s.heap.size (w, mm) H lc → lv_has ls 5 [(2, rv v3), (0, rv o)] → W p l e (rmO g 13 302 s.heap) s mi args below meth cd H lc cn sn Q (F0 mi 19 ls [.int v7]) := by
      intro v7 H lc cn sn ls h hw hl
      replace h := kaj32 _ h
      refine lv_istore_n (lv' := [(3, .int v7), (2, rv v3), (0, rv o)]) hx hb dX6_abort_19 rfl hl (by decide) (by simp [rv_cat, ct_i, ct_l] <;> decide) (fun ls hl => ?_)
      refine t_aload_n hx hb dX6_abort_20 rfl (lv_at hl 1 rfl) ?_
      obtain ⟨c8, h⟩ := og h
      obtain ⟨v10, e9, h⟩ := ob h
      refine g_callVi (n := 0) (As := []) (rest := []) hX hw (c_X5_isPending g l hG hst mm v3 w v10 e9) gX6_abort_X5_isPending rfl (by decide +kernel) rfl (x_nz hw c8) (c_recv hX hw (ce_2 c8) rfl) hl.1 rfl (Nat.le_of_ble_eq_true rfl) ⟨by decide, by decide⟩ dX6_abort_21 (fun H lc cn sn hw => ?_)
      obtain ⟨aj31, h1aj31, kaj31, raj31⟩ := ol0 h
      have haj31 : ∀ (H : Heap) (lc : List Loc) (cn sn : Nat) (ls : Array Slot), aj31 = Sum.inl () → wH g s.heap.size (w, mm) H lc → lv_has ls 5 [] → W p l e (rmO g 13 302 s.heap) s mi args below meth cd H lc cn sn Q (F0 mi 42 ls []) := by
        intro H lc cn sn ls h hw hl
        replace h := kaj31 h
        obtain ⟨c30, h⟩ := og h
        replace h := (Option.some.inj h).symm
        subst h
        refine hth2 _ _ _ _ _ _ rfl ?_
        exact x_throwS hX hG hst hw 3 (text := "the transaction cannot be aborted now") (Or.inr (Or.inr rfl)) (by decide +kernel) (by decide +kernel) (by decide +kernel) (by decide +kernel) (by decide +kernel) (by decide +kernel) c30 hl.1 dX6_abort_42 dX6_abort_45 dX6_abort_46 dX6_abort_48 dX6_abort_51 htab ⟨by decide, by simp [rv_cat, ct_i, ct_l]⟩
      replace h := h1aj31
      refine lv_if_eq (tgt := 42) hx hb dX6_abort_24 (by decide) (fun c11 => ?_) (fun c11 => ?_)
      · replace h := ot c11 h
        replace h := (Option.some.inj h).symm
        exact haj31 _ _ _ _ _ h hw (lv_sub hl [] rfl)
      · replace h := oe c11 h
        refine lv_iload_n hx hb dX6_abort_27 rfl (lv_at hl 0 rfl) ?_
        obtain ⟨aj29, h1aj29, kaj29, raj29⟩ := ol0 h
        have haj29 : ∀ (H : Heap) (lc : List Loc) (cn sn : Nat) (ls : Array Slot), aj29 = Sum.inl () → wH g s.heap.size (w, mm) H lc → lv_has ls 5 [(3, .int v7), (2, rv v3), (0, rv o)] → W p l e (rmO g 13 302 s.heap) s mi args below meth cd H lc cn sn Q (F0 mi 52 ls []) := by
          intro H lc cn sn ls h hw hl
          replace h := kaj29 h
          refine t_aload_n hx hb dX6_abort_52 rfl (lv_at hl 2 rfl) ?_
          refine t_aload_n hx hb dX6_abort_53 rfl (lv_at hl 1 rfl) ?_
          obtain ⟨w17, e16, h⟩ := ob h
          refine g_callVv (n := 1) (As := [rv v3]) (rest := []) hX hw (c_X6_giveUp g l hG hst mm o v3 w w17 e16) gX6_abort_X6_giveUp rfl (by decide +kernel) rfl (x_nz hw c1) (c_recv hX hw (ce_6 c1) rfl) hl.1 rfl (Nat.le_of_ble_eq_true rfl) ⟨by decide, by decide⟩ dX6_abort_54 (fun H lc cn sn hw => ?_)
          refine t_aload_n hx hb dX6_abort_57 rfl (lv_at hl 2 rfl) ?_
          obtain ⟨c18, h⟩ := og h
          obtain ⟨v20, w21, e19, h⟩ := oc2 h
          refine g_callVi (n := 0) (As := []) (rest := []) hX hw (c_X6_runFreed g l hG hst mm o w17 v20 w21 e19) gX6_abort_X6_runFreed rfl (by decide +kernel) rfl (x_nz hw c18) (c_recv hX hw (ce_6 c18) rfl) hl.1 rfl (Nat.le_of_ble_eq_true rfl) ⟨by decide, by decide⟩ dX6_abort_58 (fun H lc cn sn hw => ?_)
          refine lv_istore (lv' := [(4, .int v20), (3, .int v7), (2, rv v3), (0, rv o)]) hx hb dX6_abort_61 hl (by decide) rfl (fun ls hl => ?_)
          refine lv_iload_n hx hb dX6_abort_63 rfl (lv_at hl 1 rfl) ?_
          obtain ⟨aj28, h1aj28, kaj28⟩ := ob1 h
          have haj28 : ∀ (w27 : CS) (H : Heap) (lc : List Loc) (cn sn : Nat) (ls : Array Slot), aj28 = w27 → wH g s.heap.size (w27, mm) H lc → lv_has ls 5 [(4, .int v20)] → W p l e (rmO g 13 302 s.heap) s mi args below meth cd H lc cn sn Q (F0 mi 75 ls []) := by
            intro w27 H lc cn sn ls h hw hl
            replace h := kaj28 _ h
            refine lv_iload hx hb dX6_abort_75 (lv_at hl 0 rfl) ?_
            replace h := (Option.some.inj h).symm
            replace h := raj31 _ h
            subst h
            exact hret _ _ _ _ _ _ _ dX6_abort_77 hw rfl
          replace h := h1aj28
          refine lv_if_eq (tgt := 75) hx hb dX6_abort_64 (by decide) (fun c22 => ?_) (fun c22 => ?_)
          · replace h := ot c22 h
            replace h := (Option.some.inj h).symm
            exact haj28 _ _ _ _ _ _ h hw (lv_sub hl [0] rfl)
          · replace h := oe c22 h
            refine t_aload_n hx hb dX6_abort_67 rfl (lv_at hl 3 rfl) ?_
            refine t_aload_n hx hb dX6_abort_68 rfl (lv_at hl 2 rfl) ?_
            obtain ⟨c23, h⟩ := og h
            refine c_gf (C := RX5) (TT := TX5) (N := 4) (ref := "TabStore$Transaction") (v := rv (wJ w21 80 v3)) hX hw (ce_2 c23) rfl 0 (by decide +kernel) (by decide) (by decide +kernel) (fun _ h9 => h9) rfl dX6_abort_69 ?_
            obtain ⟨c24, h⟩ := og h
            obtain ⟨w26, e25, h⟩ := ob h
            refine g_callVv (n := 1) (As := [rv (wJ w21 80 v3)]) (rest := []) hX hw (c_X6_leave g l hG hst mm o (wJ w21 80 v3) w21 w26 e25) gX6_abort_X6_leave rfl (by decide +kernel) rfl (x_nz hw c24) (c_recv hX hw (ce_6 c24) rfl) hl.1 rfl (Nat.le_of_ble_eq_true rfl) ⟨by decide, by decide⟩ dX6_abort_72 (fun H lc cn sn hw => ?_)
            replace h := (Option.some.inj h).symm
            exact haj28 _ _ _ _ _ _ h hw (lv_sub hl [0] rfl)
        replace h := h1aj29
        refine lv_if_eq (tgt := 52) hx hb dX6_abort_28 (by decide) (fun c12 => ?_) (fun c12 => ?_)
        · replace h := ot c12 h
          replace h := (Option.some.inj h).symm
          exact haj29 _ _ _ _ _ h hw (lv_sub hl [0, 1, 2] rfl)
        · replace h := oe c12 h
          refine t_aload_n hx hb dX6_abort_31 rfl (lv_at hl 2 rfl) ?_
          refine t_aload_n hx hb dX6_abort_32 rfl (lv_at hl 1 rfl) ?_
          refine c_gf (C := RX5) (TT := TX5) (N := 4) (ref := "TabStore$Transaction") (v := rv (wJ w 80 v3)) hX hw (ce_2 c8) rfl 0 (by decide +kernel) (by decide) (by decide +kernel) (fun _ h9 => h9) rfl dX6_abort_33 ?_
          obtain ⟨v14, e13, h⟩ := ob h
          refine g_callVi (n := 1) (As := [rv (wJ w 80 v3)]) (rest := []) hX hw (c_X6_hasRoomAfter g l hG hst mm o (wJ w 80 v3) w v14 e13) gX6_abort_X6_hasRoomAfter rfl (by decide +kernel) rfl (x_nz hw c1) (c_recv hX hw (ce_6 c1) rfl) hl.1 rfl (Nat.le_of_ble_eq_true rfl) ⟨by decide, by decide⟩ dX6_abort_36 (fun H lc cn sn hw => ?_)
          refine lv_if_ne (tgt := 52) hx hb dX6_abort_39 (by decide) (fun c15 => ?_) (fun c15 => ?_)
          · replace h := oe c15 h
            replace h := (Option.some.inj h).symm
            exact haj29 _ _ _ _ _ h hw (lv_sub hl [0, 1, 2] rfl)
          · replace h := ot c15 h
            replace h := (Option.some.inj h).symm
            replace h := raj29 _ h
            exact haj31 _ _ _ _ _ h hw (lv_sub hl [] rfl)
    replace h := h1aj32
    refine lv_icmp_ne (tgt := 18) hx hb dX6_abort_11 (by decide) (fun c6 => ?_) (fun c6 => ?_)
    · replace h := oe c6 h
      refine lv_iconst (v := 0) hx hb dX6_abort_18 (by decide) ?_
      replace h := (Option.some.inj h).symm
      exact haj32 _ _ _ _ _ _ h hw (lv_sub hl [0, 1] rfl)
    · replace h := ot c6 h
      refine lv_iconst (v := 1) hx hb dX6_abort_14 (by decide) ?_
      refine lv_goto (tgt := 19) hx hb dX6_abort_15 (by decide) ?_
      replace h := (Option.some.inj h).symm
      exact haj32 _ _ _ _ _ _ h hw (lv_sub hl [0, 1] rfl)

set_option maxHeartbeats 4000000 in
set_option maxRecDepth 100000 in
theorem c_X6_put (g : GG) (l : Launch) (hG : XG g) (hst : l.stackTraces = false) (mm : MS) (o : Nat) (p0 : Int32) (p1 : Int32) (p2 : Int32) (p3 : Int32) (p4 : Int32) (p5 : Int32) (w : CS) (r : (Nat × CS) ⊕ (Int32 × CS)) (h : x_X6_put o p0 p1 p2 p3 p4 p5 w = some r) : MetX g l yX6_put wsX6_put 9 193 [rv o, .int p0, .int p1, .int p2, .int p3, .int p4, .int p5] (w, mm) (oIw r) (wIw w r, mm) := by
  refine x_start_z (oIw r) (own := RX6) (by decide +kernel) rfl rfl (by simp [lg_sl, rv_cat, ct_i, ct_l]) ?_
  intro p e s mi args below meth cd ls Q hX htab hnm hw hl hret hthr hth2
  have hl : lv_has ls 11 [(0, rv o), (1, .int p0), (2, .int p1), (3, .int p2), (4, .int p3), (5, .int p4), (6, .int p5)] := by simpa [lv_args, rv_cat, ct_i, ct_l] using hl
  obtain ⟨⟨hx, hb, -, hown, hts⟩, -⟩ := id hX
  unfold x_X6_put at h
  refine t_aload_n hx hb dX6_put_0 rfl (lv_at hl 0 rfl) ?_
  refine lv_iload_n hx hb dX6_put_1 rfl (lv_at hl 1 rfl) ?_
  obtain ⟨c1, h⟩ := og h
  rcases obx1 h with ⟨k4, w5, e2, h⟩ | ⟨v3, e2, h⟩
  · subst h
    exact x_callVE (n := 1) (As := [.int p0]) (rest := []) hX hw (c_X6_transactionAt g l hG hst mm o p0 w _ e2) gX6_put_X6_transactionAt rfl (by decide +kernel) rfl (x_nz hw c1) (c_recv hX hw (ce_6 c1) rfl) hl.1 rfl (Nat.le_of_ble_eq_true rfl) ⟨by decide, by decide⟩ dX6_put_2 (fun H lc cn sn q ce hw h1 h2 h3 => hthr _ _ _ _ _ _ _ _ _ _ hw h1 h2 h3 rfl)
  · refine x_callVNa (n := 1) (As := [.int p0]) (rest := []) hX hw (c_X6_transactionAt g l hG hst mm o p0 w _ e2) gX6_put_X6_transactionAt rfl (by decide +kernel) rfl (x_nz hw c1) (c_recv hX hw (ce_6 c1) rfl) hl.1 rfl (Nat.le_of_ble_eq_true rfl) ⟨by decide, by decide⟩ dX6_put_2 (fun H lc cn sn hw => ?_)
    have hw : wH g s.heap.size (w, mm) H lc := hw
    refine t_astore (lv' := [(7, rv v3), (0, rv o), (1, .int p0), (2, .int p1), (3, .int p2), (4, .int p3), (5, .int p4), (6, .int p5)]) hx hb dX6_put_5 hl (by decide) rfl (fun ls hl => ?_)
    refine t_aload_n hx hb dX6_put_7 rfl (lv_at hl 1 rfl) ?_
    refine lv_iload_n hx hb dX6_put_8 rfl (lv_at hl 3 rfl) ?_
    rcases obx1 h with ⟨k8, w9, e6, h⟩ | ⟨v7, e6, h⟩
    · subst h
      exact x_callVE (n := 1) (As := [.int p1]) (rest := []) hX hw (c_X6_storeAt g l hG hst mm o p1 w _ e6) gX6_put_X6_storeAt rfl (by decide +kernel) rfl (x_nz hw c1) (c_recv hX hw (ce_6 c1) rfl) hl.1 rfl (Nat.le_of_ble_eq_true rfl) ⟨by decide, by decide⟩ dX6_put_9 (fun H lc cn sn q ce hw h1 h2 h3 => hthr _ _ _ _ _ _ _ _ _ _ hw h1 h2 h3 rfl)
    · refine x_callVNa (n := 1) (As := [.int p1]) (rest := []) hX hw (c_X6_storeAt g l hG hst mm o p1 w _ e6) gX6_put_X6_storeAt rfl (by decide +kernel) rfl (x_nz hw c1) (c_recv hX hw (ce_6 c1) rfl) hl.1 rfl (Nat.le_of_ble_eq_true rfl) ⟨by decide, by decide⟩ dX6_put_9 (fun H lc cn sn hw => ?_)
      have hw : wH g s.heap.size (w, mm) H lc := hw
      refine t_astore (lv' := [(8, rv v7), (7, rv v3), (0, rv o), (1, .int p0), (2, .int p1), (3, .int p2), (4, .int p3), (5, .int p4), (6, .int p5)]) hx hb dX6_put_12 hl (by decide) (by simp [rv_cat, ct_i, ct_l] <;> decide) (fun ls hl => ?_)
      refine lv_iload_n hx hb dX6_put_14 rfl (lv_at hl 5 rfl) ?_
      rcases obx1 h with ⟨k11, w12, e10, h⟩ | ⟨_, e10, h⟩
      · subst h
        exact x_callSE (n := 1) (As := [.int p2]) (rest := []) hX hw (c_X6_requireKey g l hG hst mm p2 w _ e10) gX6_put_X6_requireKey rfl (by decide +kernel) rfl hl.1 rfl (Nat.le_of_ble_eq_true rfl) ⟨by decide, by decide⟩ dX6_put_15 (fun H lc cn sn q ce hw h1 h2 h3 => hthr _ _ _ _ _ _ _ _ _ _ hw h1 h2 h3 rfl)
      · refine x_callSNv (n := 1) (As := [.int p2]) (rest := []) hX hw (c_X6_requireKey g l hG hst mm p2 w _ e10) gX6_put_X6_requireKey rfl (by decide +kernel) rfl hl.1 rfl (Nat.le_of_ble_eq_true rfl) ⟨by decide, by decide⟩ dX6_put_15 (fun H lc cn sn hw => ?_)
        have hw : wH g s.heap.size (w, mm) H lc := hw
        refine lv_iload hx hb dX6_put_18 (lv_at hl 6 rfl) ?_
        refine lv_iconst (v := 0) hx hb dX6_put_20 (by decide) ?_
        refine lv_sipush (v := 9999) hx hb dX6_put_21 (by decide) ?_
        rcases obx1 h with ⟨k14, w15, e13, h⟩ | ⟨_, e13, h⟩
        · subst h
          exact x_callSE (n := 3) (As := [.int p3, .int 0, .int 9999]) (rest := []) hX hw (c_X6_requireInRange g l hG hst mm p3 0 9999 w _ e13) gX6_put_X6_requireInRange rfl (by decide +kernel) rfl hl.1 rfl (Nat.le_of_ble_eq_true rfl) ⟨by decide, by decide⟩ dX6_put_24 (fun H lc cn sn q ce hw h1 h2 h3 => hthr _ _ _ _ _ _ _ _ _ _ hw h1 h2 h3 rfl)
        · refine x_callSNv (n := 3) (As := [.int p3, .int 0, .int 9999]) (rest := []) hX hw (c_X6_requireInRange g l hG hst mm p3 0 9999 w _ e13) gX6_put_X6_requireInRange rfl (by decide +kernel) rfl hl.1 rfl (Nat.le_of_ble_eq_true rfl) ⟨by decide, by decide⟩ dX6_put_24 (fun H lc cn sn hw => ?_)
          have hw : wH g s.heap.size (w, mm) H lc := hw
          refine lv_iload hx hb dX6_put_27 (lv_at hl 7 rfl) ?_
          refine lv_iconst (v := (-1)) hx hb dX6_put_29 (by decide) ?_
          refine lv_sipush (v := 999) hx hb dX6_put_30 (by decide) ?_
          rcases obx1 h with ⟨k17, w18, e16, h⟩ | ⟨_, e16, h⟩
          · subst h
            exact x_callSE (n := 3) (As := [.int p4, .int (-1), .int 999]) (rest := []) hX hw (c_X6_requireInRange g l hG hst mm p4 (-1) 999 w _ e16) gX6_put_X6_requireInRange rfl (by decide +kernel) rfl hl.1 rfl (Nat.le_of_ble_eq_true rfl) ⟨by decide, by decide⟩ dX6_put_33 (fun H lc cn sn q ce hw h1 h2 h3 => hthr _ _ _ _ _ _ _ _ _ _ hw h1 h2 h3 rfl)
          · refine x_callSNv (n := 3) (As := [.int p4, .int (-1), .int 999]) (rest := []) hX hw (c_X6_requireInRange g l hG hst mm p4 (-1) 999 w _ e16) gX6_put_X6_requireInRange rfl (by decide +kernel) rfl hl.1 rfl (Nat.le_of_ble_eq_true rfl) ⟨by decide, by decide⟩ dX6_put_33 (fun H lc cn sn hw => ?_)
            have hw : wH g s.heap.size (w, mm) H lc := hw
            refine lv_iload hx hb dX6_put_36 (lv_at hl 8 rfl) ?_
            refine lv_iconst (v := (-1)) hx hb dX6_put_38 (by decide) ?_
            refine lv_sipush (v := 999) hx hb dX6_put_39 (by decide) ?_
            rcases obx1 h with ⟨k20, w21, e19, h⟩ | ⟨_, e19, h⟩
            · subst h
              exact x_callSE (n := 3) (As := [.int p5, .int (-1), .int 999]) (rest := []) hX hw (c_X6_requireInRange g l hG hst mm p5 (-1) 999 w _ e19) gX6_put_X6_requireInRange rfl (by decide +kernel) rfl hl.1 rfl (Nat.le_of_ble_eq_true rfl) ⟨by decide, by decide⟩ dX6_put_42 (fun H lc cn sn q ce hw h1 h2 h3 => hthr _ _ _ _ _ _ _ _ _ _ hw h1 h2 h3 rfl)
            · refine x_callSNv (n := 3) (As := [.int p5, .int (-1), .int 999]) (rest := []) hX hw (c_X6_requireInRange g l hG hst mm p5 (-1) 999 w _ e19) gX6_put_X6_requireInRange rfl (by decide +kernel) rfl hl.1 rfl (Nat.le_of_ble_eq_true rfl) ⟨by decide, by decide⟩ dX6_put_42 (fun H lc cn sn hw => ?_)
              have hw : wH g s.heap.size (w, mm) H lc := hw
              refine t_aload hx hb dX6_put_45 (lv_at hl 1 rfl) ?_
              refine lv_iload_n hx hb dX6_put_47 rfl (lv_at hl 4 rfl) ?_
              rcases obx1 h with ⟨k23, w24, e22, h⟩ | ⟨_, e22, h⟩
              · subst h
                exact x_callSE (n := 2) (As := [rv v3, .int p1]) (rest := []) hX hw (c_X6_requireWriting g l hG hst mm v3 p1 w _ e22) gX6_put_X6_requireWriting rfl (by decide +kernel) rfl hl.1 rfl (Nat.le_of_ble_eq_true rfl) ⟨by decide, by decide⟩ dX6_put_48 (fun H lc cn sn q ce hw h1 h2 h3 => hthr _ _ _ _ _ _ _ _ _ _ hw h1 h2 h3 rfl)
              · refine x_callSNv (n := 2) (As := [rv v3, .int p1]) (rest := []) hX hw (c_X6_requireWriting g l hG hst mm v3 p1 w _ e22) gX6_put_X6_requireWriting rfl (by decide +kernel) rfl hl.1 rfl (Nat.le_of_ble_eq_true rfl) ⟨by decide, by decide⟩ dX6_put_48 (fun H lc cn sn hw => ?_)
                have hw : wH g s.heap.size (w, mm) H lc := hw
                obtain ⟨c25, h⟩ := og h
                obtain ⟨w26, ew26, h⟩ := ol h
                refine n_1 hX hw (by decide +kernel) (by decide +kernel) (by decide +kernel) (by decide +kernel) c25 dX6_put_51 (fun H cn sn hw => ?_)
                have hw := hw_eq ew26 hw
                refine lv_dup hx hb dX6_put_54 (rv_cat _) ?_
                refine lv_iload_n hx hb dX6_put_55 rfl (lv_at hl 5 rfl) ?_
                refine lv_iload hx hb dX6_put_56 (lv_at hl 6 rfl) ?_
                refine lv_iload hx hb dX6_put_58 (lv_at hl 7 rfl) ?_
                refine lv_iload hx hb dX6_put_60 (lv_at hl 8 rfl) ?_
                obtain ⟨c27, h⟩ := og h
                obtain ⟨w29, e28, h⟩ := ob h
                refine g_callI (n := 4) (As := [.int p2, .int p3, .int p4, .int p5]) (rest := [rv (wz w + 1)]) hX hw (c_X2_init g l hG hst mm (wz w + 1) p2 p3 p4 p5 w26 w29 e28) gX6_put_X2_init rfl (by decide +kernel) rfl (x_nz hw c27) (by decide +kernel) (by decide +kernel) (by decide +kernel) rfl hl.1 rfl (by simp [rv_cat, ct_i, ct_l]) ⟨by decide, by decide⟩ dX6_put_62 (fun H lc cn sn hw => ?_)
                refine t_astore (lv' := [(9, rv (wz w + 1)), (8, rv v7), (7, rv v3), (0, rv o), (1, .int p0), (2, .int p1), (3, .int p2), (4, .int p3), (5, .int p4), (6, .int p5)]) hx hb dX6_put_65 hl (by decide) (by simp [rv_cat, ct_i, ct_l] <;> decide) (fun ls hl => ?_)
                refine t_aload hx hb dX6_put_67 (lv_at hl 1 rfl) ?_
                refine lv_iload_n hx hb dX6_put_69 rfl (lv_at hl 6 rfl) ?_
                obtain ⟨c30, h⟩ := og h
                obtain ⟨v32, e31, h⟩ := ob h
                refine g_callVa (n := 1) (As := [.int p2]) (rest := []) hX hw (c_X3_find g l hG hst mm v7 p2 w29 v32 e31) gX6_put_X3_find rfl (by decide +kernel) rfl (x_nz hw c30) (c_recv hX hw (ce_5 c30) rfl) hl.1 rfl (Nat.le_of_ble_eq_true rfl) ⟨by decide, by decide⟩ dX6_put_70 (fun H lc cn sn hw => ?_)
                obtain ⟨aj49, h1aj49, kaj49⟩ := ob1 h
                have haj49 : ∀ (v34 : Int32) (H : Heap) (lc : List Loc) (cn sn : Nat) (ls : Array Slot), aj49 = v34 → wH g s.heap.size (w29, mm) H lc → lv_has ls 11 [(9, rv (wz w + 1)), (8, rv v7), (0, rv o)] → W p l e (rmO g 9 193 s.heap) s mi args below meth cd H lc cn sn Q (F0 mi 81 ls [.int v34]) := by
                  intro v34 H lc cn sn ls h hw hl
                  replace h := kaj49 _ h
                  refine lv_istore (lv' := [(10, .int v34), (9, rv (wz w + 1)), (8, rv v7), (0, rv o)]) hx hb dX6_put_81 hl (by decide) (by simp [rv_cat, ct_i, ct_l] <;> decide) (fun ls hl => ?_)
                  refine t_aload hx hb dX6_put_83 (lv_at hl 2 rfl) ?_
                  refine t_aload hx hb dX6_put_85 (lv_at hl 1 rfl) ?_
                  obtain ⟨v36, e35, h⟩ := ob h
                  refine g_callVi (n := 1) (As := [rv (wz w + 1)]) (rest := []) hX hw (c_X3_clashes g l hG hst mm v7 (wz w + 1) w29 v36 e35) gX6_put_X3_clashes rfl (by decide +kernel) rfl (x_nz hw c30) (c_recv hX hw (ce_5 c30) rfl) hl.1 rfl (Nat.le_of_ble_eq_true rfl) ⟨by decide, by decide⟩ dX6_put_87 (fun H lc cn sn hw => ?_)
                  obtain ⟨aj48, h1aj48, kaj48, raj48⟩ := ol0 h
                  have haj48 : ∀ (H : Heap) (lc : List Loc) (cn sn : Nat) (ls : Array Slot), aj48 = Sum.inl () → wH g s.heap.size (w29, mm) H lc → lv_has ls 11 [] → W p l e (rmO g 9 193 s.heap) s mi args below meth cd H lc cn sn Q (F0 mi 107 ls []) := by
                    intro H lc cn sn ls h hw hl
                    replace h := kaj48 h
                    obtain ⟨c47, h⟩ := og h
                    replace h := (Option.some.inj h).symm
                    subst h
                    refine hth2 _ _ _ _ _ _ rfl ?_
                    exact x_throwS hX hG hst hw 3 (text := "the row cannot be put") (Or.inr (Or.inr rfl)) (by decide +kernel) (by decide +kernel) (by decide +kernel) (by decide +kernel) (by decide +kernel) (by decide +kernel) c47 hl.1 dX6_put_107 dX6_put_110 dX6_put_111 dX6_put_113 dX6_put_116 htab ⟨by decide, by simp [rv_cat, ct_i, ct_l]⟩
                  replace h := h1aj48
                  refine lv_if_ne (tgt := 107) hx hb dX6_put_90 (by decide) (fun c37 => ?_) (fun c37 => ?_)
                  · replace h := oe c37 h
                    replace h := (Option.some.inj h).symm
                    exact haj48 _ _ _ _ _ h hw (lv_sub hl [] rfl)
                  · replace h := ot c37 h
                    refine lv_iload hx hb dX6_put_93 (lv_at hl 0 rfl) ?_
                    obtain ⟨aj46, h1aj46, kaj46, raj46⟩ := ol0 h
                    have haj46 : ∀ (H : Heap) (lc : List Loc) (cn sn : Nat) (ls : Array Slot), aj46 = Sum.inl () → wH g s.heap.size (w29, mm) H lc → lv_has ls 11 [(10, .int v34), (9, rv (wz w + 1)), (8, rv v7)] → W p l e (rmO g 9 193 s.heap) s mi args below meth cd H lc cn sn Q (F0 mi 117 ls []) := by
                      intro H lc cn sn ls h hw hl
                      replace h := kaj46 h
                      refine t_aload hx hb dX6_put_117 (lv_at hl 2 rfl) ?_
                      refine t_aload hx hb dX6_put_119 (lv_at hl 1 rfl) ?_
                      obtain ⟨w44, e43, h⟩ := ob h
                      refine g_callVv (n := 1) (As := [rv (wz w + 1)]) (rest := []) hX hw (c_X3_set g l hG hst mm v7 (wz w + 1) w29 w44 e43) gX6_put_X3_set rfl (by decide +kernel) rfl (x_nz hw c30) (c_recv hX hw (ce_5 c30) rfl) hl.1 rfl (Nat.le_of_ble_eq_true rfl) ⟨by decide, by decide⟩ dX6_put_121 (fun H lc cn sn hw => ?_)
                      refine lv_iload hx hb dX6_put_124 (lv_at hl 0 rfl) ?_
                      obtain ⟨c45, h⟩ := og h
                      replace h := (Option.some.inj h).symm
                      replace h := raj48 _ h
                      subst h
                      exact hret _ _ _ _ _ _ _ dX6_put_126 c45 hw rfl
                    replace h := h1aj46
                    refine lv_if_eq (tgt := 117) hx hb dX6_put_95 (by decide) (fun c38 => ?_) (fun c38 => ?_)
                    · replace h := ot c38 h
                      replace h := (Option.some.inj h).symm
                      exact haj46 _ _ _ _ _ h hw (lv_sub hl [0, 1, 2] rfl)
                    · replace h := oe c38 h
                      refine t_aload_n hx hb dX6_put_98 rfl (lv_at hl 3 rfl) ?_
                      obtain ⟨c39, h⟩ := og h
                      obtain ⟨v41, e40, h⟩ := ob h
                      refine g_callVi (n := 0) (As := []) (rest := []) hX hw (c_X6_rowsInAll g l hG hst mm o w29 v41 e40) gX6_put_X6_rowsInAll rfl (by decide +kernel) rfl (x_nz hw c39) (c_recv hX hw (ce_6 c39) rfl) hl.1 rfl (Nat.le_of_ble_eq_true rfl) ⟨by decide, by decide⟩ dX6_put_99 (fun H lc cn sn hw => ?_)
                      refine lv_bipush (v := 40) hx hb dX6_put_102 (by decide) ?_
                      refine lv_icmp_lt (tgt := 117) hx hb dX6_put_104 (by decide) (fun c42 => ?_) (fun c42 => ?_)
                      · replace h := ot c42 h
                        replace h := (Option.some.inj h).symm
                        exact haj46 _ _ _ _ _ h hw (lv_sub hl [0, 1, 2] rfl)
                      · replace h := oe c42 h
                        replace h := (Option.some.inj h).symm
                        replace h := raj46 _ h
                        exact haj48 _ _ _ _ _ h hw (lv_sub hl [] rfl)
                replace h := h1aj49
                refine t_ifnonnull (tgt := 80) hx hb dX6_put_73 (by decide) (fun c33 => ?_) (fun c33 => ?_)
                · replace h := oe c33 h
                  refine lv_iconst (v := 0) hx hb dX6_put_80 (by decide) ?_
                  replace h := (Option.some.inj h).symm
                  exact haj49 _ _ _ _ _ _ h hw (lv_sub hl [0, 1, 3] rfl)
                · replace h := ot c33 h
                  refine lv_iconst (v := 1) hx hb dX6_put_76 (by decide) ?_
                  refine lv_goto (tgt := 81) hx hb dX6_put_77 (by decide) ?_
                  replace h := (Option.some.inj h).symm
                  exact haj49 _ _ _ _ _ _ h hw (lv_sub hl [0, 1, 3] rfl)

set_option maxHeartbeats 4000000 in
set_option maxRecDepth 100000 in
theorem c_X6_remove (g : GG) (l : Launch) (hG : XG g) (hst : l.stackTraces = false) (mm : MS) (o : Nat) (p0 : Int32) (p1 : Int32) (p2 : Int32) (p3 : Int32) (w : CS) (r : (Nat × CS) ⊕ (Int32 × CS)) (h : x_X6_remove o p0 p1 p2 p3 w = some r) : MetX g l yX6_remove wsX6_remove 9 144 [rv o, .int p0, .int p1, .int p2, .int p3] (w, mm) (oIw r) (wIw w r, mm) := by
  refine x_start_i (oIw r) (own := RX6) (by decide +kernel) rfl rfl (by simp [lg_sl, rv_cat, ct_i, ct_l]) ?_
  intro p e s mi args below meth cd ls Q hX htab hnm hw hl hret hthr hth2
  have hl : lv_has ls 7 [(0, rv o), (1, .int p0), (2, .int p1), (3, .int p2), (4, .int p3)] := by simpa [lv_args, rv_cat, ct_i, ct_l] using hl
  obtain ⟨⟨hx, hb, -, hown, hts⟩, -⟩ := id hX
  unfold x_X6_remove at h
  refine t_aload_n hx hb dX6_remove_0 rfl (lv_at hl 0 rfl) ?_
  refine lv_iload_n hx hb dX6_remove_1 rfl (lv_at hl 1 rfl) ?_
  obtain ⟨c1, h⟩ := og h
  rcases obx1 h with ⟨k4, w5, e2, h⟩ | ⟨v3, e2, h⟩
  · subst h
    exact x_callVE (n := 1) (As := [.int p0]) (rest := []) hX hw (c_X6_transactionAt g l hG hst mm o p0 w _ e2) gX6_remove_X6_transactionAt rfl (by decide +kernel) rfl (x_nz hw c1) (c_recv hX hw (ce_6 c1) rfl) hl.1 rfl (Nat.le_of_ble_eq_true rfl) ⟨by decide, by decide⟩ dX6_remove_2 (fun H lc cn sn q ce hw h1 h2 h3 => hthr _ _ _ _ _ _ _ _ _ _ hw h1 h2 h3 rfl)
  · refine x_callVNa (n := 1) (As := [.int p0]) (rest := []) hX hw (c_X6_transactionAt g l hG hst mm o p0 w _ e2) gX6_remove_X6_transactionAt rfl (by decide +kernel) rfl (x_nz hw c1) (c_recv hX hw (ce_6 c1) rfl) hl.1 rfl (Nat.le_of_ble_eq_true rfl) ⟨by decide, by decide⟩ dX6_remove_2 (fun H lc cn sn hw => ?_)
    have hw : wH g s.heap.size (w, mm) H lc := hw
    refine t_astore (lv' := [(5, rv v3), (0, rv o), (1, .int p0), (2, .int p1), (3, .int p2), (4, .int p3)]) hx hb dX6_remove_5 hl (by decide) rfl (fun ls hl => ?_)
    refine t_aload_n hx hb dX6_remove_7 rfl (lv_at hl 1 rfl) ?_
    refine lv_iload_n hx hb dX6_remove_8 rfl (lv_at hl 3 rfl) ?_
    rcases obx1 h with ⟨k8, w9, e6, h⟩ | ⟨v7, e6, h⟩
    · subst h
      exact x_callVE (n := 1) (As := [.int p1]) (rest := []) hX hw (c_X6_storeAt g l hG hst mm o p1 w _ e6) gX6_remove_X6_storeAt rfl (by decide +kernel) rfl (x_nz hw c1) (c_recv hX hw (ce_6 c1) rfl) hl.1 rfl (Nat.le_of_ble_eq_true rfl) ⟨by decide, by decide⟩ dX6_remove_9 (fun H lc cn sn q ce hw h1 h2 h3 => hthr _ _ _ _ _ _ _ _ _ _ hw h1 h2 h3 rfl)
    · refine x_callVNa (n := 1) (As := [.int p1]) (rest := []) hX hw (c_X6_storeAt g l hG hst mm o p1 w _ e6) gX6_remove_X6_storeAt rfl (by decide +kernel) rfl (x_nz hw c1) (c_recv hX hw (ce_6 c1) rfl) hl.1 rfl (Nat.le_of_ble_eq_true rfl) ⟨by decide, by decide⟩ dX6_remove_9 (fun H lc cn sn hw => ?_)
      have hw : wH g s.heap.size (w, mm) H lc := hw
      refine t_astore (lv' := [(6, rv v7), (5, rv v3), (0, rv o), (1, .int p0), (2, .int p1), (3, .int p2), (4, .int p3)]) hx hb dX6_remove_12 hl (by decide) (by simp [rv_cat, ct_i, ct_l] <;> decide) (fun ls hl => ?_)
      refine lv_iload_n hx hb dX6_remove_14 rfl (lv_at hl 5 rfl) ?_
      rcases obx1 h with ⟨k11, w12, e10, h⟩ | ⟨_, e10, h⟩
      · subst h
        exact x_callSE (n := 1) (As := [.int p2]) (rest := []) hX hw (c_X6_requireKey g l hG hst mm p2 w _ e10) gX6_remove_X6_requireKey rfl (by decide +kernel) rfl hl.1 rfl (Nat.le_of_ble_eq_true rfl) ⟨by decide, by decide⟩ dX6_remove_15 (fun H lc cn sn q ce hw h1 h2 h3 => hthr _ _ _ _ _ _ _ _ _ _ hw h1 h2 h3 rfl)
      · refine x_callSNv (n := 1) (As := [.int p2]) (rest := []) hX hw (c_X6_requireKey g l hG hst mm p2 w _ e10) gX6_remove_X6_requireKey rfl (by decide +kernel) rfl hl.1 rfl (Nat.le_of_ble_eq_true rfl) ⟨by decide, by decide⟩ dX6_remove_15 (fun H lc cn sn hw => ?_)
        have hw : wH g s.heap.size (w, mm) H lc := hw
        refine lv_iload hx hb dX6_remove_18 (lv_at hl 6 rfl) ?_
        rcases obx1 h with ⟨k14, w15, e13, h⟩ | ⟨_, e13, h⟩
        · subst h
          exact x_callSE (n := 1) (As := [.int p3]) (rest := []) hX hw (c_X6_requireKey g l hG hst mm p3 w _ e13) gX6_remove_X6_requireKey rfl (by decide +kernel) rfl hl.1 rfl (Nat.le_of_ble_eq_true rfl) ⟨by decide, by decide⟩ dX6_remove_20 (fun H lc cn sn q ce hw h1 h2 h3 => hthr _ _ _ _ _ _ _ _ _ _ hw h1 h2 h3 rfl)
        · refine x_callSNv (n := 1) (As := [.int p3]) (rest := []) hX hw (c_X6_requireKey g l hG hst mm p3 w _ e13) gX6_remove_X6_requireKey rfl (by decide +kernel) rfl hl.1 rfl (Nat.le_of_ble_eq_true rfl) ⟨by decide, by decide⟩ dX6_remove_20 (fun H lc cn sn hw => ?_)
          have hw : wH g s.heap.size (w, mm) H lc := hw
          refine t_aload hx hb dX6_remove_23 (lv_at hl 1 rfl) ?_
          refine lv_iload_n hx hb dX6_remove_25 rfl (lv_at hl 4 rfl) ?_
          rcases obx1 h with ⟨k17, w18, e16, h⟩ | ⟨_, e16, h⟩
          · subst h
            exact x_callSE (n := 2) (As := [rv v3, .int p1]) (rest := []) hX hw (c_X6_requireWriting g l hG hst mm v3 p1 w _ e16) gX6_remove_X6_requireWriting rfl (by decide +kernel) rfl hl.1 rfl (Nat.le_of_ble_eq_true rfl) ⟨by decide, by decide⟩ dX6_remove_26 (fun H lc cn sn q ce hw h1 h2 h3 => hthr _ _ _ _ _ _ _ _ _ _ hw h1 h2 h3 rfl)
          · refine x_callSNv (n := 2) (As := [rv v3, .int p1]) (rest := []) hX hw (c_X6_requireWriting g l hG hst mm v3 p1 w _ e16) gX6_remove_X6_requireWriting rfl (by decide +kernel) rfl hl.1 rfl (Nat.le_of_ble_eq_true rfl) ⟨by decide, by decide⟩ dX6_remove_26 (fun H lc cn sn hw => ?_)
            have hw : wH g s.heap.size (w, mm) H lc := hw
            refine t_aload hx hb dX6_remove_29 (lv_at hl 0 rfl) ?_
            refine lv_iload_n hx hb dX6_remove_31 rfl (lv_at hl 5 rfl) ?_
            refine lv_iload hx hb dX6_remove_32 (lv_at hl 6 rfl) ?_
            obtain ⟨c19, h⟩ := og h
            obtain ⟨v21, w22, e20, h⟩ := oc2 h
            refine g_callVi (n := 2) (As := [.int p2, .int p3]) (rest := []) hX hw (c_X3_removeBetween g l hG hst mm v7 p2 p3 w v21 w22 e20) gX6_remove_X3_removeBetween rfl (by decide +kernel) rfl (x_nz hw c19) (c_recv hX hw (ce_5 c19) rfl) hl.1 rfl (Nat.le_of_ble_eq_true rfl) ⟨by decide, by decide⟩ dX6_remove_34 (fun H lc cn sn hw => ?_)
            replace h := (Option.some.inj h).symm
            subst h
            exact hret _ _ _ _ _ _ _ dX6_remove_37 hw rfl

set_option maxHeartbeats 4000000 in
set_option maxRecDepth 100000 in
theorem c_X6_get (g : GG) (l : Launch) (hG : XG g) (hst : l.stackTraces = false) (mm : MS) (o : Nat) (p0 : Int32) (p1 : Int32) (p2 : Int32) (w : CS) (r : (Nat × CS) ⊕ (Int32)) (h : x_X6_get o p0 p1 p2 w = some r) : MetX g l yX6_get wsX6_get 8 123 [rv o, .int p0, .int p1, .int p2] (w, mm) (oIr r) (wIr w r, mm) := by
  refine x_start_i (oIr r) (own := RX6) (by decide +kernel) rfl rfl (by simp [lg_sl, rv_cat, ct_i, ct_l]) ?_
  intro p e s mi args below meth cd ls Q hX htab hnm hw hl hret hthr hth2
  have hl : lv_has ls 7 [(0, rv o), (1, .int p0), (2, .int p1), (3, .int p2)] := by simpa [lv_args, rv_cat, ct_i, ct_l] using hl
  obtain ⟨⟨hx, hb, -, hown, hts⟩, -⟩ := id hX
  unfold x_X6_get at h
  refine t_aload_n hx hb dX6_get_0 rfl (lv_at hl 0 rfl) ?_
  refine lv_iload_n hx hb dX6_get_1 rfl (lv_at hl 1 rfl) ?_
  obtain ⟨c1, h⟩ := og h
  rcases obx1 h with ⟨k4, w5, e2, h⟩ | ⟨v3, e2, h⟩
  · subst h
    exact x_callVE (n := 1) (As := [.int p0]) (rest := []) hX hw (c_X6_transactionAt g l hG hst mm o p0 w _ e2) gX6_get_X6_transactionAt rfl (by decide +kernel) rfl (x_nz hw c1) (c_recv hX hw (ce_6 c1) rfl) hl.1 rfl (Nat.le_of_ble_eq_true rfl) ⟨by decide, by decide⟩ dX6_get_2 (fun H lc cn sn q ce hw h1 h2 h3 => hthr _ _ _ _ _ _ _ _ _ _ hw h1 h2 h3 rfl)
  · refine x_callVNa (n := 1) (As := [.int p0]) (rest := []) hX hw (c_X6_transactionAt g l hG hst mm o p0 w _ e2) gX6_get_X6_transactionAt rfl (by decide +kernel) rfl (x_nz hw c1) (c_recv hX hw (ce_6 c1) rfl) hl.1 rfl (Nat.le_of_ble_eq_true rfl) ⟨by decide, by decide⟩ dX6_get_2 (fun H lc cn sn hw => ?_)
    have hw : wH g s.heap.size (w, mm) H lc := hw
    refine t_astore (lv' := [(4, rv v3), (0, rv o), (1, .int p0), (2, .int p1), (3, .int p2)]) hx hb dX6_get_5 hl (by decide) rfl (fun ls hl => ?_)
    refine t_aload_n hx hb dX6_get_7 rfl (lv_at hl 1 rfl) ?_
    refine lv_iload_n hx hb dX6_get_8 rfl (lv_at hl 3 rfl) ?_
    rcases obx1 h with ⟨k8, w9, e6, h⟩ | ⟨v7, e6, h⟩
    · subst h
      exact x_callVE (n := 1) (As := [.int p1]) (rest := []) hX hw (c_X6_storeAt g l hG hst mm o p1 w _ e6) gX6_get_X6_storeAt rfl (by decide +kernel) rfl (x_nz hw c1) (c_recv hX hw (ce_6 c1) rfl) hl.1 rfl (Nat.le_of_ble_eq_true rfl) ⟨by decide, by decide⟩ dX6_get_9 (fun H lc cn sn q ce hw h1 h2 h3 => hthr _ _ _ _ _ _ _ _ _ _ hw h1 h2 h3 rfl)
    · refine x_callVNa (n := 1) (As := [.int p1]) (rest := []) hX hw (c_X6_storeAt g l hG hst mm o p1 w _ e6) gX6_get_X6_storeAt rfl (by decide +kernel) rfl (x_nz hw c1) (c_recv hX hw (ce_6 c1) rfl) hl.1 rfl (Nat.le_of_ble_eq_true rfl) ⟨by decide, by decide⟩ dX6_get_9 (fun H lc cn sn hw => ?_)
      have hw : wH g s.heap.size (w, mm) H lc := hw
      refine t_astore (lv' := [(5, rv v7), (4, rv v3), (0, rv o), (1, .int p0), (2, .int p1), (3, .int p2)]) hx hb dX6_get_12 hl (by decide) (by simp [rv_cat, ct_i, ct_l] <;> decide) (fun ls hl => ?_)
      refine lv_iload_n hx hb dX6_get_14 rfl (lv_at hl 5 rfl) ?_
      rcases obx1 h with ⟨k11, w12, e10, h⟩ | ⟨_, e10, h⟩
      · subst h
        exact x_callSE (n := 1) (As := [.int p2]) (rest := []) hX hw (c_X6_requireKey g l hG hst mm p2 w _ e10) gX6_get_X6_requireKey rfl (by decide +kernel) rfl hl.1 rfl (Nat.le_of_ble_eq_true rfl) ⟨by decide, by decide⟩ dX6_get_15 (fun H lc cn sn q ce hw h1 h2 h3 => hthr _ _ _ _ _ _ _ _ _ _ hw h1 h2 h3 rfl)
      · refine x_callSNv (n := 1) (As := [.int p2]) (rest := []) hX hw (c_X6_requireKey g l hG hst mm p2 w _ e10) gX6_get_X6_requireKey rfl (by decide +kernel) rfl hl.1 rfl (Nat.le_of_ble_eq_true rfl) ⟨by decide, by decide⟩ dX6_get_15 (fun H lc cn sn hw => ?_)
        have hw : wH g s.heap.size (w, mm) H lc := hw
        refine t_aload hx hb dX6_get_18 (lv_at hl 1 rfl) ?_
        refine lv_iload_n hx hb dX6_get_20 rfl (lv_at hl 4 rfl) ?_
        rcases obx1 h with ⟨k14, w15, e13, h⟩ | ⟨_, e13, h⟩
        · subst h
          exact x_callSE (n := 2) (As := [rv v3, .int p1]) (rest := []) hX hw (c_X6_requireReading g l hG hst mm v3 p1 w _ e13) gX6_get_X6_requireReading rfl (by decide +kernel) rfl hl.1 rfl (Nat.le_of_ble_eq_true rfl) ⟨by decide, by decide⟩ dX6_get_21 (fun H lc cn sn q ce hw h1 h2 h3 => hthr _ _ _ _ _ _ _ _ _ _ hw h1 h2 h3 rfl)
        · refine x_callSNv (n := 2) (As := [rv v3, .int p1]) (rest := []) hX hw (c_X6_requireReading g l hG hst mm v3 p1 w _ e13) gX6_get_X6_requireReading rfl (by decide +kernel) rfl hl.1 rfl (Nat.le_of_ble_eq_true rfl) ⟨by decide, by decide⟩ dX6_get_21 (fun H lc cn sn hw => ?_)
          have hw : wH g s.heap.size (w, mm) H lc := hw
          refine t_aload hx hb dX6_get_24 (lv_at hl 0 rfl) ?_
          refine lv_iload_n hx hb dX6_get_26 rfl (lv_at hl 5 rfl) ?_
          obtain ⟨c16, h⟩ := og h
          obtain ⟨v18, e17, h⟩ := ob h
          refine g_callVa (n := 1) (As := [.int p2]) (rest := []) hX hw (c_X3_find g l hG hst mm v7 p2 w v18 e17) gX6_get_X3_find rfl (by decide +kernel) rfl (x_nz hw c16) (c_recv hX hw (ce_5 c16) rfl) hl.1 rfl (Nat.le_of_ble_eq_true rfl) ⟨by decide, by decide⟩ dX6_get_27 (fun H lc cn sn hw => ?_)
          refine t_astore (lv' := [(6, rv v18), (5, rv v7), (4, rv v3), (0, rv o), (1, .int p0), (2, .int p1), (3, .int p2)]) hx hb dX6_get_30 hl (by decide) (by simp [rv_cat, ct_i, ct_l] <;> decide) (fun ls hl => ?_)
          refine t_aload hx hb dX6_get_32 (lv_at hl 0 rfl) ?_
          obtain ⟨aj22, h1aj22, kaj22⟩ := ob1 h
          have haj22 : ∀ (v21 : Int32) (H : Heap) (lc : List Loc) (cn sn : Nat) (ls : Array Slot), aj22 = v21 → wH g s.heap.size (w, mm) H lc → lv_has ls 7 [] → W p l e (rmO g 8 123 s.heap) s mi args below meth cd H lc cn sn Q (F0 mi 46 ls [.int v21]) := by
            intro v21 H lc cn sn ls h hw hl
            replace h := kaj22 _ h
            replace h := (Option.some.inj h).symm
            subst h
            exact hret _ _ _ _ _ _ _ dX6_get_46 hw rfl
          replace h := h1aj22
          refine t_ifnonnull (tgt := 41) hx hb dX6_get_34 (by decide) (fun c19 => ?_) (fun c19 => ?_)
          · replace h := oe c19 h
            refine t_aload hx hb dX6_get_41 (lv_at hl 0 rfl) ?_
            obtain ⟨c20, h⟩ := og h
            refine c_gf (C := RX2) (TT := TX2) (N := 4) (ref := "TabStore$Row") (v := .int (wI w 41 v18)) hX hw (ce_1 c20) rfl 1 (by decide +kernel) (by decide) (by decide +kernel) (fun _ h9 => h9) rfl dX6_get_43 ?_
            replace h := (Option.some.inj h).symm
            exact haj22 _ _ _ _ _ _ h hw (lv_sub hl [] rfl)
          · replace h := ot c19 h
            refine lv_iconst (v := (-1)) hx hb dX6_get_37 (by decide) ?_
            refine lv_goto (tgt := 46) hx hb dX6_get_38 (by decide) ?_
            replace h := (Option.some.inj h).symm
            exact haj22 _ _ _ _ _ _ h hw (lv_sub hl [] rfl)

set_option maxHeartbeats 4000000 in
set_option maxRecDepth 100000 in
theorem c_X6_count (g : GG) (l : Launch) (hG : XG g) (hst : l.stackTraces = false) (mm : MS) (o : Nat) (p0 : Int32) (p1 : Int32) (p2 : Int32) (p3 : Int32) (w : CS) (r : (Nat × CS) ⊕ (Int32)) (h : x_X6_count o p0 p1 p2 p3 w = some r) : MetX g l yX6_count wsX6_count 8 123 [rv o, .int p0, .int p1, .int p2, .int p3] (w, mm) (oIr r) (wIr w r, mm) := by
  refine x_start_i (oIr r) (own := RX6) (by decide +kernel) rfl rfl (by simp [lg_sl, rv_cat, ct_i, ct_l]) ?_
  intro p e s mi args below meth cd ls Q hX htab hnm hw hl hret hthr hth2
  have hl : lv_has ls 7 [(0, rv o), (1, .int p0), (2, .int p1), (3, .int p2), (4, .int p3)] := by simpa [lv_args, rv_cat, ct_i, ct_l] using hl
  obtain ⟨⟨hx, hb, -, hown, hts⟩, -⟩ := id hX
  unfold x_X6_count at h
  refine t_aload_n hx hb dX6_count_0 rfl (lv_at hl 0 rfl) ?_
  refine lv_iload_n hx hb dX6_count_1 rfl (lv_at hl 1 rfl) ?_
  obtain ⟨c1, h⟩ := og h
  rcases obx1 h with ⟨k4, w5, e2, h⟩ | ⟨v3, e2, h⟩
  · subst h
    exact x_callVE (n := 1) (As := [.int p0]) (rest := []) hX hw (c_X6_transactionAt g l hG hst mm o p0 w _ e2) gX6_count_X6_transactionAt rfl (by decide +kernel) rfl (x_nz hw c1) (c_recv hX hw (ce_6 c1) rfl) hl.1 rfl (Nat.le_of_ble_eq_true rfl) ⟨by decide, by decide⟩ dX6_count_2 (fun H lc cn sn q ce hw h1 h2 h3 => hthr _ _ _ _ _ _ _ _ _ _ hw h1 h2 h3 rfl)
  · refine x_callVNa (n := 1) (As := [.int p0]) (rest := []) hX hw (c_X6_transactionAt g l hG hst mm o p0 w _ e2) gX6_count_X6_transactionAt rfl (by decide +kernel) rfl (x_nz hw c1) (c_recv hX hw (ce_6 c1) rfl) hl.1 rfl (Nat.le_of_ble_eq_true rfl) ⟨by decide, by decide⟩ dX6_count_2 (fun H lc cn sn hw => ?_)
    have hw : wH g s.heap.size (w, mm) H lc := hw
    refine t_astore (lv' := [(5, rv v3), (0, rv o), (1, .int p0), (2, .int p1), (3, .int p2), (4, .int p3)]) hx hb dX6_count_5 hl (by decide) rfl (fun ls hl => ?_)
    refine t_aload_n hx hb dX6_count_7 rfl (lv_at hl 1 rfl) ?_
    refine lv_iload_n hx hb dX6_count_8 rfl (lv_at hl 3 rfl) ?_
    rcases obx1 h with ⟨k8, w9, e6, h⟩ | ⟨v7, e6, h⟩
    · subst h
      exact x_callVE (n := 1) (As := [.int p1]) (rest := []) hX hw (c_X6_storeAt g l hG hst mm o p1 w _ e6) gX6_count_X6_storeAt rfl (by decide +kernel) rfl (x_nz hw c1) (c_recv hX hw (ce_6 c1) rfl) hl.1 rfl (Nat.le_of_ble_eq_true rfl) ⟨by decide, by decide⟩ dX6_count_9 (fun H lc cn sn q ce hw h1 h2 h3 => hthr _ _ _ _ _ _ _ _ _ _ hw h1 h2 h3 rfl)
    · refine x_callVNa (n := 1) (As := [.int p1]) (rest := []) hX hw (c_X6_storeAt g l hG hst mm o p1 w _ e6) gX6_count_X6_storeAt rfl (by decide +kernel) rfl (x_nz hw c1) (c_recv hX hw (ce_6 c1) rfl) hl.1 rfl (Nat.le_of_ble_eq_true rfl) ⟨by decide, by decide⟩ dX6_count_9 (fun H lc cn sn hw => ?_)
      have hw : wH g s.heap.size (w, mm) H lc := hw
      refine t_astore (lv' := [(6, rv v7), (5, rv v3), (0, rv o), (1, .int p0), (2, .int p1), (3, .int p2), (4, .int p3)]) hx hb dX6_count_12 hl (by decide) (by simp [rv_cat, ct_i, ct_l] <;> decide) (fun ls hl => ?_)
      refine lv_iload_n hx hb dX6_count_14 rfl (lv_at hl 5 rfl) ?_
      rcases obx1 h with ⟨k11, w12, e10, h⟩ | ⟨_, e10, h⟩
      · subst h
        exact x_callSE (n := 1) (As := [.int p2]) (rest := []) hX hw (c_X6_requireKey g l hG hst mm p2 w _ e10) gX6_count_X6_requireKey rfl (by decide +kernel) rfl hl.1 rfl (Nat.le_of_ble_eq_true rfl) ⟨by decide, by decide⟩ dX6_count_15 (fun H lc cn sn q ce hw h1 h2 h3 => hthr _ _ _ _ _ _ _ _ _ _ hw h1 h2 h3 rfl)
      · refine x_callSNv (n := 1) (As := [.int p2]) (rest := []) hX hw (c_X6_requireKey g l hG hst mm p2 w _ e10) gX6_count_X6_requireKey rfl (by decide +kernel) rfl hl.1 rfl (Nat.le_of_ble_eq_true rfl) ⟨by decide, by decide⟩ dX6_count_15 (fun H lc cn sn hw => ?_)
        have hw : wH g s.heap.size (w, mm) H lc := hw
        refine lv_iload hx hb dX6_count_18 (lv_at hl 6 rfl) ?_
        rcases obx1 h with ⟨k14, w15, e13, h⟩ | ⟨_, e13, h⟩
        · subst h
          exact x_callSE (n := 1) (As := [.int p3]) (rest := []) hX hw (c_X6_requireKey g l hG hst mm p3 w _ e13) gX6_count_X6_requireKey rfl (by decide +kernel) rfl hl.1 rfl (Nat.le_of_ble_eq_true rfl) ⟨by decide, by decide⟩ dX6_count_20 (fun H lc cn sn q ce hw h1 h2 h3 => hthr _ _ _ _ _ _ _ _ _ _ hw h1 h2 h3 rfl)
        · refine x_callSNv (n := 1) (As := [.int p3]) (rest := []) hX hw (c_X6_requireKey g l hG hst mm p3 w _ e13) gX6_count_X6_requireKey rfl (by decide +kernel) rfl hl.1 rfl (Nat.le_of_ble_eq_true rfl) ⟨by decide, by decide⟩ dX6_count_20 (fun H lc cn sn hw => ?_)
          have hw : wH g s.heap.size (w, mm) H lc := hw
          refine t_aload hx hb dX6_count_23 (lv_at hl 1 rfl) ?_
          refine lv_iload_n hx hb dX6_count_25 rfl (lv_at hl 4 rfl) ?_
          rcases obx1 h with ⟨k17, w18, e16, h⟩ | ⟨_, e16, h⟩
          · subst h
            exact x_callSE (n := 2) (As := [rv v3, .int p1]) (rest := []) hX hw (c_X6_requireReading g l hG hst mm v3 p1 w _ e16) gX6_count_X6_requireReading rfl (by decide +kernel) rfl hl.1 rfl (Nat.le_of_ble_eq_true rfl) ⟨by decide, by decide⟩ dX6_count_26 (fun H lc cn sn q ce hw h1 h2 h3 => hthr _ _ _ _ _ _ _ _ _ _ hw h1 h2 h3 rfl)
          · refine x_callSNv (n := 2) (As := [rv v3, .int p1]) (rest := []) hX hw (c_X6_requireReading g l hG hst mm v3 p1 w _ e16) gX6_count_X6_requireReading rfl (by decide +kernel) rfl hl.1 rfl (Nat.le_of_ble_eq_true rfl) ⟨by decide, by decide⟩ dX6_count_26 (fun H lc cn sn hw => ?_)
            have hw : wH g s.heap.size (w, mm) H lc := hw
            refine t_aload hx hb dX6_count_29 (lv_at hl 0 rfl) ?_
            refine lv_iload_n hx hb dX6_count_31 rfl (lv_at hl 5 rfl) ?_
            refine lv_iload hx hb dX6_count_32 (lv_at hl 6 rfl) ?_
            obtain ⟨c19, h⟩ := og h
            obtain ⟨v21, e20, h⟩ := ob h
            refine g_callVi (n := 2) (As := [.int p2, .int p3]) (rest := []) hX hw (c_X3_countBetween g l hG hst mm v7 p2 p3 w v21 e20) gX6_count_X3_countBetween rfl (by decide +kernel) rfl (x_nz hw c19) (c_recv hX hw (ce_5 c19) rfl) hl.1 rfl (Nat.le_of_ble_eq_true rfl) ⟨by decide, by decide⟩ dX6_count_34 (fun H lc cn sn hw => ?_)
            replace h := (Option.some.inj h).symm
            subst h
            exact hret _ _ _ _ _ _ _ dX6_count_37 hw rfl

set_option maxHeartbeats 4000000 in
set_option maxRecDepth 100000 in
theorem c_X6_cursor (g : GG) (l : Launch) (hG : XG g) (hst : l.stackTraces = false) (mm : MS) (o : Nat) (p0 : Int32) (p1 : Int32) (p2 : Int32) (p3 : Int32) (w : CS) (r : (Nat × CS) ⊕ (Int32 × CS)) (h : x_X6_cursor o p0 p1 p2 p3 w = some r) : MetX g l yX6_cursor wsX6_cursor 8 171 [rv o, .int p0, .int p1, .int p2, .int p3] (w, mm) (oIw r) (wIw w r, mm) := by
  refine x_start_i (oIw r) (own := RX6) (by decide +kernel) rfl rfl (by simp [lg_sl, rv_cat, ct_i, ct_l]) ?_
  intro p e s mi args below meth cd ls Q hX htab hnm hw hl hret hthr hth2
  have hl : lv_has ls 8 [(0, rv o), (1, .int p0), (2, .int p1), (3, .int p2), (4, .int p3)] := by simpa [lv_args, rv_cat, ct_i, ct_l] using hl
  obtain ⟨⟨hx, hb, -, hown, hts⟩, -⟩ := id hX
  unfold x_X6_cursor at h
  refine t_aload_n hx hb dX6_cursor_0 rfl (lv_at hl 0 rfl) ?_
  refine lv_iload_n hx hb dX6_cursor_1 rfl (lv_at hl 1 rfl) ?_
  obtain ⟨c1, h⟩ := og h
  rcases obx1 h with ⟨k4, w5, e2, h⟩ | ⟨v3, e2, h⟩
  · subst h
    exact x_callVE (n := 1) (As := [.int p0]) (rest := []) hX hw (c_X6_transactionAt g l hG hst mm o p0 w _ e2) gX6_cursor_X6_transactionAt rfl (by decide +kernel) rfl (x_nz hw c1) (c_recv hX hw (ce_6 c1) rfl) hl.1 rfl (Nat.le_of_ble_eq_true rfl) ⟨by decide, by decide⟩ dX6_cursor_2 (fun H lc cn sn q ce hw h1 h2 h3 => hthr _ _ _ _ _ _ _ _ _ _ hw h1 h2 h3 rfl)
  · refine x_callVNa (n := 1) (As := [.int p0]) (rest := []) hX hw (c_X6_transactionAt g l hG hst mm o p0 w _ e2) gX6_cursor_X6_transactionAt rfl (by decide +kernel) rfl (x_nz hw c1) (c_recv hX hw (ce_6 c1) rfl) hl.1 rfl (Nat.le_of_ble_eq_true rfl) ⟨by decide, by decide⟩ dX6_cursor_2 (fun H lc cn sn hw => ?_)
    have hw : wH g s.heap.size (w, mm) H lc := hw
    refine t_astore (lv' := [(5, rv v3), (0, rv o), (1, .int p0), (2, .int p1), (3, .int p2), (4, .int p3)]) hx hb dX6_cursor_5 hl (by decide) rfl (fun ls hl => ?_)
    refine t_aload_n hx hb dX6_cursor_7 rfl (lv_at hl 1 rfl) ?_
    refine lv_iload_n hx hb dX6_cursor_8 rfl (lv_at hl 3 rfl) ?_
    rcases obx1 h with ⟨k8, w9, e6, h⟩ | ⟨v7, e6, h⟩
    · subst h
      exact x_callVE (n := 1) (As := [.int p1]) (rest := []) hX hw (c_X6_storeAt g l hG hst mm o p1 w _ e6) gX6_cursor_X6_storeAt rfl (by decide +kernel) rfl (x_nz hw c1) (c_recv hX hw (ce_6 c1) rfl) hl.1 rfl (Nat.le_of_ble_eq_true rfl) ⟨by decide, by decide⟩ dX6_cursor_9 (fun H lc cn sn q ce hw h1 h2 h3 => hthr _ _ _ _ _ _ _ _ _ _ hw h1 h2 h3 rfl)
    · refine x_callVNa (n := 1) (As := [.int p1]) (rest := []) hX hw (c_X6_storeAt g l hG hst mm o p1 w _ e6) gX6_cursor_X6_storeAt rfl (by decide +kernel) rfl (x_nz hw c1) (c_recv hX hw (ce_6 c1) rfl) hl.1 rfl (Nat.le_of_ble_eq_true rfl) ⟨by decide, by decide⟩ dX6_cursor_9 (fun H lc cn sn hw => ?_)
      have hw : wH g s.heap.size (w, mm) H lc := hw
      refine t_astore (lv' := [(6, rv v7), (5, rv v3), (0, rv o), (1, .int p0), (2, .int p1), (3, .int p2), (4, .int p3)]) hx hb dX6_cursor_12 hl (by decide) (by simp [rv_cat, ct_i, ct_l] <;> decide) (fun ls hl => ?_)
      refine lv_iload_n hx hb dX6_cursor_14 rfl (lv_at hl 5 rfl) ?_
      refine lv_iconst (v := (-1)) hx hb dX6_cursor_15 (by decide) ?_
      obtain ⟨aj44, h1aj44, kaj44, raj44⟩ := ol0 h
      have haj44 : ∀ (H : Heap) (lc : List Loc) (cn sn : Nat) (ls : Array Slot), aj44 = Sum.inl () → wH g s.heap.size (w, mm) H lc → lv_has ls 8 [(6, rv v7), (5, rv v3), (0, rv o), (2, .int p1), (3, .int p2), (4, .int p3)] → W p l e (rmO g 8 171 s.heap) s mi args below meth cd H lc cn sn Q (F0 mi 38 ls []) := by
        intro H lc cn sn ls h hw hl
        replace h := kaj44 h
        refine lv_iload hx hb dX6_cursor_38 (lv_at hl 5 rfl) ?_
        refine lv_iconst (v := 0) hx hb dX6_cursor_40 (by decide) ?_
        refine lv_iconst (v := 3) hx hb dX6_cursor_41 (by decide) ?_
        rcases obx1 h with ⟨k16, w17, e15, h⟩ | ⟨_, e15, h⟩
        · subst h
          exact x_callSE (n := 3) (As := [.int p3, .int 0, .int 3]) (rest := []) hX hw (c_X6_requireInRange g l hG hst mm p3 0 3 w _ e15) gX6_cursor_X6_requireInRange rfl (by decide +kernel) rfl hl.1 rfl (Nat.le_of_ble_eq_true rfl) ⟨by decide, by decide⟩ dX6_cursor_42 (fun H lc cn sn q ce hw h1 h2 h3 => hthr _ _ _ _ _ _ _ _ _ _ hw h1 h2 h3 rfl)
        · refine x_callSNv (n := 3) (As := [.int p3, .int 0, .int 3]) (rest := []) hX hw (c_X6_requireInRange g l hG hst mm p3 0 3 w _ e15) gX6_cursor_X6_requireInRange rfl (by decide +kernel) rfl hl.1 rfl (Nat.le_of_ble_eq_true rfl) ⟨by decide, by decide⟩ dX6_cursor_42 (fun H lc cn sn hw => ?_)
          have hw : wH g s.heap.size (w, mm) H lc := hw
          refine t_aload hx hb dX6_cursor_45 (lv_at hl 1 rfl) ?_
          refine lv_iload_n hx hb dX6_cursor_47 rfl (lv_at hl 3 rfl) ?_
          rcases obx1 h with ⟨k19, w20, e18, h⟩ | ⟨_, e18, h⟩
          · subst h
            exact x_callSE (n := 2) (As := [rv v3, .int p1]) (rest := []) hX hw (c_X6_requireReading g l hG hst mm v3 p1 w _ e18) gX6_cursor_X6_requireReading rfl (by decide +kernel) rfl hl.1 rfl (Nat.le_of_ble_eq_true rfl) ⟨by decide, by decide⟩ dX6_cursor_48 (fun H lc cn sn q ce hw h1 h2 h3 => hthr _ _ _ _ _ _ _ _ _ _ hw h1 h2 h3 rfl)
          · refine x_callSNv (n := 2) (As := [rv v3, .int p1]) (rest := []) hX hw (c_X6_requireReading g l hG hst mm v3 p1 w _ e18) gX6_cursor_X6_requireReading rfl (by decide +kernel) rfl hl.1 rfl (Nat.le_of_ble_eq_true rfl) ⟨by decide, by decide⟩ dX6_cursor_48 (fun H lc cn sn hw => ?_)
            have hw : wH g s.heap.size (w, mm) H lc := hw
            refine lv_iload_n hx hb dX6_cursor_51 rfl (lv_at hl 4 rfl) ?_
            refine lv_iconst (v := (-1)) hx hb dX6_cursor_52 (by decide) ?_
            obtain ⟨aj43, h1aj43, kaj43, raj43⟩ := ol0 h
            have haj43 : ∀ (H : Heap) (lc : List Loc) (cn sn : Nat) (ls : Array Slot), aj43 = Sum.inl () → wH g s.heap.size (w, mm) H lc → lv_has ls 8 [] → W p l e (rmO g 8 171 s.heap) s mi args below meth cd H lc cn sn Q (F0 mi 79 ls []) := by
              intro H lc cn sn ls h hw hl
              replace h := kaj43 h
              obtain ⟨c42, h⟩ := og h
              replace h := (Option.some.inj h).symm
              subst h
              refine hth2 _ _ _ _ _ _ rfl ?_
              exact x_throwS hX hG hst hw 3 (text := "the cursor cannot be made") (Or.inr (Or.inr rfl)) (by decide +kernel) (by decide +kernel) (by decide +kernel) (by decide +kernel) (by decide +kernel) (by decide +kernel) c42 hl.1 dX6_cursor_79 dX6_cursor_82 dX6_cursor_83 dX6_cursor_85 dX6_cursor_88 htab ⟨by decide, by simp [rv_cat, ct_i, ct_l]⟩
            replace h := h1aj43
            obtain ⟨aj41, h1aj41, kaj41, raj41⟩ := ol0 h
            have haj41 : ∀ (H : Heap) (lc : List Loc) (cn sn : Nat) (ls : Array Slot), aj41 = Sum.inl () → wH g s.heap.size (w, mm) H lc → lv_has ls 8 [(6, rv v7), (5, rv v3), (0, rv o), (3, .int p2), (4, .int p3)] → W p l e (rmO g 8 171 s.heap) s mi args below meth cd H lc cn sn Q (F0 mi 65 ls []) := by
              intro H lc cn sn ls h hw hl
              replace h := kaj41 h
              refine t_aload_n hx hb dX6_cursor_65 rfl (lv_at hl 2 rfl) ?_
              refine c_gf (C := RX6) (TT := TX6) (N := 8) (ref := "TabStore") (v := rv (wJ w 244 o)) hX hw (ce_6 c1) rfl 4 (by decide +kernel) (by decide) (by decide +kernel) (fun _ h9 => h9) rfl dX6_cursor_66 ?_
              obtain ⟨c26, h⟩ := og h
              obtain ⟨v28, e27, h⟩ := ob h
              refine g_callFi (n := 0) (As := []) (rest := []) hX hw (c_Jx4a65c_size_8abf5 g l hG hst mm (wJ w 244 o) w v28 e27) gX6_cursor_Jx4a65c_size_8abf5_f83Jx4a65c rfl (by decide +kernel) rfl (x_nz hw c26) (c_recv hX hw (ce_7 c26) rfl) ((hG s hX.2.1.2.1).2.1.1) (show vwCl[0]? = some (RJx4a65c, TJx4a65c, 3) from rfl) hl.1 rfl (Nat.le_of_ble_eq_true rfl) ⟨by decide, by decide⟩ dX6_cursor_69 (fun H lc cn sn hw => ?_)
              refine lv_bipush (v := 40) hx hb dX6_cursor_74 (by decide) ?_
              refine lv_icmp_lt (tgt := 89) hx hb dX6_cursor_76 (by decide) (fun c29 => ?_) (fun c29 => ?_)
              · replace h := ot c29 h
                refine t_aload_n hx hb dX6_cursor_89 rfl (lv_at hl 2 rfl) ?_
                refine c_gf (C := RX6) (TT := TX6) (N := 8) (ref := "TabStore") (v := rv (wJ w 244 o)) hX hw (ce_6 c1) rfl 4 (by decide +kernel) (by decide) (by decide +kernel) (fun _ h9 => h9) rfl dX6_cursor_90 ?_
                obtain ⟨v31, e30, h⟩ := ob h
                refine g_callFi (n := 0) (As := []) (rest := []) hX hw (c_Jx4a65c_size_8abf5 g l hG hst mm (wJ w 244 o) w v31 e30) gX6_cursor_Jx4a65c_size_8abf5_f83Jx4a65c rfl (by decide +kernel) rfl (x_nz hw c26) (c_recv hX hw (ce_7 c26) rfl) ((hG s hX.2.1.2.1).2.1.1) (show vwCl[0]? = some (RJx4a65c, TJx4a65c, 3) from rfl) hl.1 rfl (Nat.le_of_ble_eq_true rfl) ⟨by decide, by decide⟩ dX6_cursor_93 (fun H lc cn sn hw => ?_)
                refine lv_istore (lv' := [(7, .int v31), (6, rv v7), (5, rv v3), (0, rv o), (3, .int p2), (4, .int p3)]) hx hb dX6_cursor_98 hl (by decide) (by simp [rv_cat, ct_i, ct_l] <;> decide) (fun ls hl => ?_)
                refine t_aload_n hx hb dX6_cursor_100 rfl (lv_at hl 3 rfl) ?_
                refine c_gf (C := RX6) (TT := TX6) (N := 8) (ref := "TabStore") (v := rv (wJ w 244 o)) hX hw (ce_6 c1) rfl 4 (by decide +kernel) (by decide) (by decide +kernel) (fun _ h9 => h9) rfl dX6_cursor_101 ?_
                obtain ⟨c32, h⟩ := og h
                obtain ⟨w33, ew33, h⟩ := ol h
                refine n_3 hX hw (by decide +kernel) (by decide +kernel) (by decide +kernel) (by decide +kernel) c32 dX6_cursor_104 (fun H cn sn hw => ?_)
                have hw := hw_eq ew33 hw
                refine lv_dup hx hb dX6_cursor_107 (rv_cat _) ?_
                refine t_aload hx hb dX6_cursor_108 (lv_at hl 2 rfl) ?_
                refine t_aload hx hb dX6_cursor_110 (lv_at hl 1 rfl) ?_
                refine lv_iload_n hx hb dX6_cursor_112 rfl (lv_at hl 4 rfl) ?_
                refine lv_iload hx hb dX6_cursor_113 (lv_at hl 5 rfl) ?_
                obtain ⟨c34, h⟩ := og h
                obtain ⟨w36, e35, h⟩ := ob h
                refine g_callI (n := 4) (As := [rv v3, rv v7, .int p2, .int p3]) (rest := [rv (wz w + 1), rv (wJ w 244 o)]) hX hw (c_X0_init g l hG hst mm (wz w + 1) v3 v7 p2 p3 w33 w36 e35) gX6_cursor_X0_init rfl (by decide +kernel) rfl (x_nz hw c34) (by decide +kernel) (by decide +kernel) (by decide +kernel) rfl hl.1 rfl (by simp [rv_cat, ct_i, ct_l]) ⟨by decide, by decide⟩ dX6_cursor_115 (fun H lc cn sn hw => ?_)
                obtain ⟨c37, h⟩ := og h
                obtain ⟨v39, w40, e38, h⟩ := oc2 h
                refine g_callFi (n := 1) (As := [rv (wz w + 1)]) (rest := []) hX hw (c_Jx4a65c_add_9ea2d g l hG hst mm (wJ w 244 o) (wz w + 1) w36 v39 w40 e38) gX6_cursor_Jx4a65c_add_9ea2d_f169Jx4a65c rfl (by decide +kernel) rfl (x_nz hw c37) (c_recv hX hw (ce_7 c37) rfl) ((hG s hX.2.1.2.1).2.1.2.2.2.1) (show vwCl[0]? = some (RJx4a65c, TJx4a65c, 3) from rfl) hl.1 rfl (Nat.le_of_ble_eq_true rfl) ⟨by decide, by decide⟩ dX6_cursor_118 (fun H lc cn sn hw => ?_)
                refine lv_pop hx hb dX6_cursor_123 rfl ?_
                refine lv_iload hx hb dX6_cursor_124 (lv_at hl 0 rfl) ?_
                replace h := (Option.some.inj h).symm
                replace h := raj43 _ h
                subst h
                exact hret _ _ _ _ _ _ _ dX6_cursor_126 hw rfl
              · replace h := oe c29 h
                replace h := (Option.some.inj h).symm
                exact haj43 _ _ _ _ _ h hw (lv_sub hl [] rfl)
            replace h := h1aj41
            refine lv_icmp_eq (tgt := 65) hx hb dX6_cursor_53 (by decide) (fun c21 => ?_) (fun c21 => ?_)
            · replace h := ot c21 h
              replace h := (Option.some.inj h).symm
              exact haj41 _ _ _ _ _ h hw (lv_sub hl [0, 1, 2, 4, 5] rfl)
            · replace h := oe c21 h
              refine t_aload hx hb dX6_cursor_56 (lv_at hl 0 rfl) ?_
              refine lv_iload_n hx hb dX6_cursor_58 rfl (lv_at hl 4 rfl) ?_
              obtain ⟨c22, h⟩ := og h
              obtain ⟨v24, e23, h⟩ := ob h
              refine g_callVi (n := 1) (As := [.int p2]) (rest := []) hX hw (c_X3_hasIndex g l hG hst mm v7 p2 w v24 e23) gX6_cursor_X3_hasIndex rfl (by decide +kernel) rfl (x_nz hw c22) (c_recv hX hw (ce_5 c22) rfl) hl.1 rfl (Nat.le_of_ble_eq_true rfl) ⟨by decide, by decide⟩ dX6_cursor_59 (fun H lc cn sn hw => ?_)
              refine lv_if_eq (tgt := 79) hx hb dX6_cursor_62 (by decide) (fun c25 => ?_) (fun c25 => ?_)
              · replace h := ot c25 h
                replace h := (Option.some.inj h).symm
                replace h := raj41 _ h
                exact haj43 _ _ _ _ _ h hw (lv_sub hl [] rfl)
              · replace h := oe c25 h
                replace h := (Option.some.inj h).symm
                exact haj41 _ _ _ _ _ h hw (lv_sub hl [0, 1, 2, 4, 5] rfl)
      replace h := h1aj44
      refine lv_icmp_eq (tgt := 38) hx hb dX6_cursor_16 (by decide) (fun c10 => ?_) (fun c10 => ?_)
      · replace h := ot c10 h
        replace h := (Option.some.inj h).symm
        exact haj44 _ _ _ _ _ h hw (lv_sub hl [0, 1, 2, 4, 5, 6] rfl)
      · replace h := oe c10 h
        refine lv_iload_n hx hb dX6_cursor_19 rfl (lv_at hl 5 rfl) ?_
        obtain ⟨aj14, h1aj14, kaj14, raj14⟩ := ol0 h
        have haj14 : ∀ (H : Heap) (lc : List Loc) (cn sn : Nat) (ls : Array Slot), aj14 = Sum.inl () → wH g s.heap.size (w, mm) H lc → lv_has ls 8 [] → W p l e (rmO g 8 171 s.heap) s mi args below meth cd H lc cn sn Q (F0 mi 28 ls []) := by
          intro H lc cn sn ls h hw hl
          replace h := kaj14 h
          obtain ⟨c13, h⟩ := og h
          replace h := (Option.some.inj h).symm
          replace h := raj44 _ h
          subst h
          refine hth2 _ _ _ _ _ _ rfl ?_
          exact x_throwS hX hG hst hw 1 (text := "there is no such field") (Or.inl rfl) (by decide +kernel) (by decide +kernel) (by decide +kernel) (by decide +kernel) (by decide +kernel) (by decide +kernel) c13 hl.1 dX6_cursor_28 dX6_cursor_31 dX6_cursor_32 dX6_cursor_34 dX6_cursor_37 htab ⟨by decide, by simp [rv_cat, ct_i, ct_l]⟩
        replace h := h1aj14
        refine lv_if_lt (tgt := 28) hx hb dX6_cursor_20 (by decide) (fun c11 => ?_) (fun c11 => ?_)
        · replace h := ot c11 h
          replace h := (Option.some.inj h).symm
          exact haj14 _ _ _ _ _ h hw (lv_sub hl [] rfl)
        · replace h := oe c11 h
          refine lv_iload_n hx hb dX6_cursor_23 rfl (lv_at hl 5 rfl) ?_
          refine lv_iconst (v := 2) hx hb dX6_cursor_24 (by decide) ?_
          refine lv_icmp_lt (tgt := 38) hx hb dX6_cursor_25 (by decide) (fun c12 => ?_) (fun c12 => ?_)
          · replace h := ot c12 h
            replace h := (Option.some.inj h).symm
            replace h := raj14 _ h
            exact haj44 _ _ _ _ _ h hw (lv_sub hl [0, 1, 2, 4, 5, 6] rfl)
          · replace h := oe c12 h
            replace h := (Option.some.inj h).symm
            exact haj14 _ _ _ _ _ h hw (lv_sub hl [] rfl)

set_option maxHeartbeats 4000000 in
set_option maxRecDepth 100000 in
theorem c_X6_step (g : GG) (l : Launch) (hG : XG g) (hst : l.stackTraces = false) (mm : MS) (o : Nat) (p0 : Int32) (w : CS) (r : (Nat × CS) ⊕ (Int32 × CS)) (h : x_X6_step o p0 w = some r) : MetX g l yX6_step wsX6_step 7 135 [rv o, .int p0] (w, mm) (oIw r) (wIw w r, mm) := by
  refine x_start_i (oIw r) (own := RX6) (by decide +kernel) rfl rfl (by simp [lg_sl, rv_cat, ct_i, ct_l]) ?_
  intro p e s mi args below meth cd ls Q hX htab hnm hw hl hret hthr hth2
  have hl : lv_has ls 4 [(0, rv o), (1, .int p0)] := by simpa [lv_args, rv_cat, ct_i, ct_l] using hl
  obtain ⟨⟨hx, hb, -, hown, hts⟩, -⟩ := id hX
  unfold x_X6_step at h
  refine t_aload_n hx hb dX6_step_0 rfl (lv_at hl 0 rfl) ?_
  refine lv_iload_n hx hb dX6_step_1 rfl (lv_at hl 1 rfl) ?_
  obtain ⟨c1, h⟩ := og h
  rcases obx1 h with ⟨k4, w5, e2, h⟩ | ⟨v3, e2, h⟩
  · subst h
    exact x_callVE (n := 1) (As := [.int p0]) (rest := []) hX hw (c_X6_cursorAt g l hG hst mm o p0 w _ e2) gX6_step_X6_cursorAt rfl (by decide +kernel) rfl (x_nz hw c1) (c_recv hX hw (ce_6 c1) rfl) hl.1 rfl (Nat.le_of_ble_eq_true rfl) ⟨by decide, by decide⟩ dX6_step_2 (fun H lc cn sn q ce hw h1 h2 h3 => hthr _ _ _ _ _ _ _ _ _ _ hw h1 h2 h3 rfl)
  · refine x_callVNa (n := 1) (As := [.int p0]) (rest := []) hX hw (c_X6_cursorAt g l hG hst mm o p0 w _ e2) gX6_step_X6_cursorAt rfl (by decide +kernel) rfl (x_nz hw c1) (c_recv hX hw (ce_6 c1) rfl) hl.1 rfl (Nat.le_of_ble_eq_true rfl) ⟨by decide, by decide⟩ dX6_step_2 (fun H lc cn sn hw => ?_)
    have hw : wH g s.heap.size (w, mm) H lc := hw
    refine t_astore_n (lv' := [(2, rv v3), (0, rv o), (1, .int p0)]) hx hb dX6_step_5 rfl hl (by decide) rfl (fun ls hl => ?_)
    refine t_aload_n hx hb dX6_step_6 rfl (lv_at hl 0 rfl) ?_
    obtain ⟨c6, h⟩ := og h
    refine c_gf (C := RX0) (TT := TX0) (N := 8) (ref := "TabStore$Cursor") (v := rv (wJ w 120 v3)) hX hw (ce_3 c6) rfl 0 (by decide +kernel) (by decide) (by decide +kernel) (fun _ h9 => h9) rfl dX6_step_7 ?_
    rcases obx1 h with ⟨k8, w9, e7, h⟩ | ⟨_, e7, h⟩
    · subst h
      exact x_callSE (n := 1) (As := [rv (wJ w 120 v3)]) (rest := []) hX hw (c_X6_requireRunning g l hG hst mm (wJ w 120 v3) w _ e7) gX6_step_X6_requireRunning rfl (by decide +kernel) rfl hl.1 rfl (Nat.le_of_ble_eq_true rfl) ⟨by decide, by decide⟩ dX6_step_10 (fun H lc cn sn q ce hw h1 h2 h3 => hthr _ _ _ _ _ _ _ _ _ _ hw h1 h2 h3 rfl)
    · refine x_callSNv (n := 1) (As := [rv (wJ w 120 v3)]) (rest := []) hX hw (c_X6_requireRunning g l hG hst mm (wJ w 120 v3) w _ e7) gX6_step_X6_requireRunning rfl (by decide +kernel) rfl hl.1 rfl (Nat.le_of_ble_eq_true rfl) ⟨by decide, by decide⟩ dX6_step_10 (fun H lc cn sn hw => ?_)
      have hw : wH g s.heap.size (w, mm) H lc := hw
      refine t_aload_n hx hb dX6_step_13 rfl (lv_at hl 0 rfl) ?_
      refine c_gf (C := RX0) (TT := TX0) (N := 8) (ref := "TabStore$Cursor") (v := rv (wJ w 121 v3)) hX hw (ce_3 c6) rfl 1 (by decide +kernel) (by decide) (by decide +kernel) (fun _ h9 => h9) rfl dX6_step_14 ?_
      obtain ⟨c10, h⟩ := og h
      refine c_gf (C := RX3) (TT := TX3) (N := 3) (ref := "TabStore$Store") (v := .int (wI w 200 (wJ w 121 v3))) hX hw (ce_5 c10) rfl 0 (by decide +kernel) (by decide) (by decide +kernel) (fun _ h9 => h9) rfl dX6_step_17 ?_
      obtain ⟨aj22, h1aj22, kaj22, raj22⟩ := ol0 h
      have haj22 : ∀ (H : Heap) (lc : List Loc) (cn sn : Nat) (ls : Array Slot), aj22 = Sum.inl () → wH g s.heap.size (w, mm) H lc → lv_has ls 4 [] → W p l e (rmO g 7 135 s.heap) s mi args below meth cd H lc cn sn Q (F0 mi 31 ls []) := by
        intro H lc cn sn ls h hw hl
        replace h := kaj22 h
        obtain ⟨c21, h⟩ := og h
        replace h := (Option.some.inj h).symm
        subst h
        refine hth2 _ _ _ _ _ _ rfl ?_
        exact x_throwS hX hG hst hw 3 (text := "the cursor cannot step now") (Or.inr (Or.inr rfl)) (by decide +kernel) (by decide +kernel) (by decide +kernel) (by decide +kernel) (by decide +kernel) (by decide +kernel) c21 hl.1 dX6_step_31 dX6_step_34 dX6_step_35 dX6_step_37 dX6_step_40 htab ⟨by decide, by simp [rv_cat, ct_i, ct_l]⟩
      replace h := h1aj22
      refine lv_if_eq (tgt := 31) hx hb dX6_step_20 (by decide) (fun c11 => ?_) (fun c11 => ?_)
      · replace h := ot c11 h
        replace h := (Option.some.inj h).symm
        exact haj22 _ _ _ _ _ h hw (lv_sub hl [] rfl)
      · replace h := oe c11 h
        refine t_aload_n hx hb dX6_step_23 rfl (lv_at hl 0 rfl) ?_
        refine c_gf (C := RX0) (TT := TX0) (N := 8) (ref := "TabStore$Cursor") (v := .int (wI w 125 v3)) hX hw (ce_3 c6) rfl 5 (by decide +kernel) (by decide) (by decide +kernel) (fun _ h9 => h9) rfl dX6_step_24 ?_
        refine lv_iconst (v := 2) hx hb dX6_step_27 (by decide) ?_
        refine lv_icmp_ne (tgt := 41) hx hb dX6_step_28 (by decide) (fun c12 => ?_) (fun c12 => ?_)
        · replace h := oe c12 h
          refine t_aload_n hx hb dX6_step_41 rfl (lv_at hl 0 rfl) ?_
          obtain ⟨v14, e13, h⟩ := ob h
          refine g_callVa (n := 0) (As := []) (rest := []) hX hw (c_X0_nextRow g l hG hst mm v3 w v14 e13) gX6_step_X0_nextRow rfl (by decide +kernel) rfl (x_nz hw c6) (c_recv hX hw (ce_3 c6) rfl) hl.1 rfl (Nat.le_of_ble_eq_true rfl) ⟨by decide, by decide⟩ dX6_step_42 (fun H lc cn sn hw => ?_)
          refine t_astore_n (lv' := [(3, rv v14), (2, rv v3), (0, rv o), (1, .int p0)]) hx hb dX6_step_45 rfl hl (by decide) (by simp [rv_cat, ct_i, ct_l] <;> decide) (fun ls hl => ?_)
          refine t_aload_n hx hb dX6_step_46 rfl (lv_at hl 1 rfl) ?_
          refine t_aload_n hx hb dX6_step_47 rfl (lv_at hl 0 rfl) ?_
          obtain ⟨w16, e15, h⟩ := ob h
          refine g_callVv (n := 1) (As := [rv v14]) (rest := []) hX hw (c_X0_moveTo g l hG hst mm v3 v14 w w16 e15) gX6_step_X0_moveTo rfl (by decide +kernel) rfl (x_nz hw c6) (c_recv hX hw (ce_3 c6) rfl) hl.1 rfl (Nat.le_of_ble_eq_true rfl) ⟨by decide, by decide⟩ dX6_step_48 (fun H lc cn sn hw => ?_)
          refine t_aload_n hx hb dX6_step_51 rfl (lv_at hl 0 rfl) ?_
          obtain ⟨aj20, h1aj20, kaj20⟩ := ob1 h
          have haj20 : ∀ (v19 : Int32) (H : Heap) (lc : List Loc) (cn sn : Nat) (ls : Array Slot), aj20 = v19 → wH g s.heap.size (w16, mm) H lc → lv_has ls 4 [] → W p l e (rmO g 7 135 s.heap) s mi args below meth cd H lc cn sn Q (F0 mi 63 ls [.int v19]) := by
            intro v19 H lc cn sn ls h hw hl
            replace h := kaj20 _ h
            replace h := (Option.some.inj h).symm
            replace h := raj22 _ h
            subst h
            exact hret _ _ _ _ _ _ _ dX6_step_63 hw rfl
          replace h := h1aj20
          refine t_ifnonnull (tgt := 59) hx hb dX6_step_52 (by decide) (fun c17 => ?_) (fun c17 => ?_)
          · replace h := oe c17 h
            refine t_aload_n hx hb dX6_step_59 rfl (lv_at hl 0 rfl) ?_
            obtain ⟨c18, h⟩ := og h
            refine c_gf (C := RX2) (TT := TX2) (N := 4) (ref := "TabStore$Row") (v := .int (wI w16 40 v14)) hX hw (ce_1 c18) rfl 0 (by decide +kernel) (by decide) (by decide +kernel) (fun _ h9 => h9) rfl dX6_step_60 ?_
            replace h := (Option.some.inj h).symm
            exact haj20 _ _ _ _ _ _ h hw (lv_sub hl [] rfl)
          · replace h := ot c17 h
            refine lv_iconst (v := (-1)) hx hb dX6_step_55 (by decide) ?_
            refine lv_goto (tgt := 63) hx hb dX6_step_56 (by decide) ?_
            replace h := (Option.some.inj h).symm
            exact haj20 _ _ _ _ _ _ h hw (lv_sub hl [] rfl)
        · replace h := ot c12 h
          replace h := (Option.some.inj h).symm
          exact haj22 _ _ _ _ _ h hw (lv_sub hl [] rfl)

set_option maxHeartbeats 4000000 in
set_option maxRecDepth 100000 in
theorem c_X6_update (g : GG) (l : Launch) (hG : XG g) (hst : l.stackTraces = false) (mm : MS) (o : Nat) (p0 : Int32) (p1 : Int32) (w : CS) (r : (Nat × CS) ⊕ (Int32 × CS)) (h : x_X6_update o p0 p1 w = some r) : MetX g l yX6_update wsX6_update 8 193 [rv o, .int p0, .int p1] (w, mm) (oIw r) (wIw w r, mm) := by
  refine x_start_i (oIw r) (own := RX6) (by decide +kernel) rfl rfl (by simp [lg_sl, rv_cat, ct_i, ct_l]) ?_
  intro p e s mi args below meth cd ls Q hX htab hnm hw hl hret hthr hth2
  have hl : lv_has ls 5 [(0, rv o), (1, .int p0), (2, .int p1)] := by simpa [lv_args, rv_cat, ct_i, ct_l] using hl
  obtain ⟨⟨hx, hb, -, hown, hts⟩, -⟩ := id hX
  unfold x_X6_update at h
  refine t_aload_n hx hb dX6_update_0 rfl (lv_at hl 0 rfl) ?_
  refine lv_iload_n hx hb dX6_update_1 rfl (lv_at hl 1 rfl) ?_
  obtain ⟨c1, h⟩ := og h
  rcases obx1 h with ⟨k4, w5, e2, h⟩ | ⟨v3, e2, h⟩
  · subst h
    exact x_callVE (n := 1) (As := [.int p0]) (rest := []) hX hw (c_X6_cursorAt g l hG hst mm o p0 w _ e2) gX6_update_X6_cursorAt rfl (by decide +kernel) rfl (x_nz hw c1) (c_recv hX hw (ce_6 c1) rfl) hl.1 rfl (Nat.le_of_ble_eq_true rfl) ⟨by decide, by decide⟩ dX6_update_2 (fun H lc cn sn q ce hw h1 h2 h3 => hthr _ _ _ _ _ _ _ _ _ _ hw h1 h2 h3 rfl)
  · refine x_callVNa (n := 1) (As := [.int p0]) (rest := []) hX hw (c_X6_cursorAt g l hG hst mm o p0 w _ e2) gX6_update_X6_cursorAt rfl (by decide +kernel) rfl (x_nz hw c1) (c_recv hX hw (ce_6 c1) rfl) hl.1 rfl (Nat.le_of_ble_eq_true rfl) ⟨by decide, by decide⟩ dX6_update_2 (fun H lc cn sn hw => ?_)
    have hw : wH g s.heap.size (w, mm) H lc := hw
    refine t_astore_n (lv' := [(3, rv v3), (0, rv o), (1, .int p0), (2, .int p1)]) hx hb dX6_update_5 rfl hl (by decide) rfl (fun ls hl => ?_)
    refine lv_iload_n hx hb dX6_update_6 rfl (lv_at hl 3 rfl) ?_
    refine lv_iconst (v := 0) hx hb dX6_update_7 (by decide) ?_
    refine lv_sipush (v := 9999) hx hb dX6_update_8 (by decide) ?_
    rcases obx1 h with ⟨k7, w8, e6, h⟩ | ⟨_, e6, h⟩
    · subst h
      exact x_callSE (n := 3) (As := [.int p1, .int 0, .int 9999]) (rest := []) hX hw (c_X6_requireInRange g l hG hst mm p1 0 9999 w _ e6) gX6_update_X6_requireInRange rfl (by decide +kernel) rfl hl.1 rfl (Nat.le_of_ble_eq_true rfl) ⟨by decide, by decide⟩ dX6_update_11 (fun H lc cn sn q ce hw h1 h2 h3 => hthr _ _ _ _ _ _ _ _ _ _ hw h1 h2 h3 rfl)
    · refine x_callSNv (n := 3) (As := [.int p1, .int 0, .int 9999]) (rest := []) hX hw (c_X6_requireInRange g l hG hst mm p1 0 9999 w _ e6) gX6_update_X6_requireInRange rfl (by decide +kernel) rfl hl.1 rfl (Nat.le_of_ble_eq_true rfl) ⟨by decide, by decide⟩ dX6_update_11 (fun H lc cn sn hw => ?_)
      have hw : wH g s.heap.size (w, mm) H lc := hw
      refine t_aload_n hx hb dX6_update_14 rfl (lv_at hl 0 rfl) ?_
      obtain ⟨c9, h⟩ := og h
      refine c_gf (C := RX0) (TT := TX0) (N := 8) (ref := "TabStore$Cursor") (v := rv (wJ w 120 v3)) hX hw (ce_3 c9) rfl 0 (by decide +kernel) (by decide) (by decide +kernel) (fun _ h9 => h9) rfl dX6_update_15 ?_
      rcases obx1 h with ⟨k11, w12, e10, h⟩ | ⟨_, e10, h⟩
      · subst h
        exact x_callSE (n := 1) (As := [rv (wJ w 120 v3)]) (rest := []) hX hw (c_X6_requireRunning g l hG hst mm (wJ w 120 v3) w _ e10) gX6_update_X6_requireRunning rfl (by decide +kernel) rfl hl.1 rfl (Nat.le_of_ble_eq_true rfl) ⟨by decide, by decide⟩ dX6_update_18 (fun H lc cn sn q ce hw h1 h2 h3 => hthr _ _ _ _ _ _ _ _ _ _ hw h1 h2 h3 rfl)
      · refine x_callSNv (n := 1) (As := [rv (wJ w 120 v3)]) (rest := []) hX hw (c_X6_requireRunning g l hG hst mm (wJ w 120 v3) w _ e10) gX6_update_X6_requireRunning rfl (by decide +kernel) rfl hl.1 rfl (Nat.le_of_ble_eq_true rfl) ⟨by decide, by decide⟩ dX6_update_18 (fun H lc cn sn hw => ?_)
        have hw : wH g s.heap.size (w, mm) H lc := hw
        refine t_aload_n hx hb dX6_update_21 rfl (lv_at hl 0 rfl) ?_
        refine c_gf (C := RX0) (TT := TX0) (N := 8) (ref := "TabStore$Cursor") (v := rv (wJ w 120 v3)) hX hw (ce_3 c9) rfl 0 (by decide +kernel) (by decide) (by decide +kernel) (fun _ h9 => h9) rfl dX6_update_22 ?_
        obtain ⟨c13, h⟩ := og h
        refine c_gf (C := RX5) (TT := TX5) (N := 4) (ref := "TabStore$Transaction") (v := .int (wI w 81 (wJ w 120 v3))) hX hw (ce_2 c13) rfl 1 (by decide +kernel) (by decide) (by decide +kernel) (fun _ h9 => h9) rfl dX6_update_25 ?_
        obtain ⟨aj32, h1aj32, kaj32, raj32⟩ := ol0 h
        have haj32 : ∀ (H : Heap) (lc : List Loc) (cn sn : Nat) (ls : Array Slot), aj32 = Sum.inl () → wH g s.heap.size (w, mm) H lc → lv_has ls 5 [] → W p l e (rmO g 8 193 s.heap) s mi args below meth cd H lc cn sn Q (F0 mi 39 ls []) := by
          intro H lc cn sn ls h hw hl
          replace h := kaj32 h
          obtain ⟨c31, h⟩ := og h
          replace h := (Option.some.inj h).symm
          subst h
          refine hth2 _ _ _ _ _ _ rfl ?_
          exact x_throwSW hX hG hst hw 3 (text := "the cursor cannot update now") (Or.inr (Or.inr rfl)) (by decide +kernel) (by decide +kernel) (by decide +kernel) (by decide +kernel) (by decide +kernel) (by decide +kernel) c31 hl.1 dX6_update_39 dX6_update_42 dX6_update_43 dX6_update_46 dX6_update_49 htab ⟨by decide, by simp [rv_cat, ct_i, ct_l]⟩
        replace h := h1aj32
        refine lv_if_eq (tgt := 39) hx hb dX6_update_28 (by decide) (fun c14 => ?_) (fun c14 => ?_)
        · replace h := ot c14 h
          replace h := (Option.some.inj h).symm
          exact haj32 _ _ _ _ _ h hw (lv_sub hl [] rfl)
        · replace h := oe c14 h
          refine t_aload_n hx hb dX6_update_31 rfl (lv_at hl 0 rfl) ?_
          refine c_gf (C := RX0) (TT := TX0) (N := 8) (ref := "TabStore$Cursor") (v := .int (wI w 125 v3)) hX hw (ce_3 c9) rfl 5 (by decide +kernel) (by decide) (by decide +kernel) (fun _ h9 => h9) rfl dX6_update_32 ?_
          refine lv_iconst (v := 1) hx hb dX6_update_35 (by decide) ?_
          refine lv_icmp_eq (tgt := 50) hx hb dX6_update_36 (by decide) (fun c15 => ?_) (fun c15 => ?_)
          · replace h := ot c15 h
            refine t_aload_n hx hb dX6_update_50 rfl (lv_at hl 0 rfl) ?_
            refine c_gf (C := RX0) (TT := TX0) (N := 8) (ref := "TabStore$Cursor") (v := rv (wJ w 121 v3)) hX hw (ce_3 c9) rfl 1 (by decide +kernel) (by decide) (by decide +kernel) (fun _ h9 => h9) rfl dX6_update_51 ?_
            refine t_aload_n hx hb dX6_update_54 rfl (lv_at hl 0 rfl) ?_
            refine c_gf (C := RX0) (TT := TX0) (N := 8) (ref := "TabStore$Cursor") (v := .int (wI w 126 v3)) hX hw (ce_3 c9) rfl 6 (by decide +kernel) (by decide) (by decide +kernel) (fun _ h9 => h9) rfl dX6_update_55 ?_
            obtain ⟨c16, h⟩ := og h
            obtain ⟨v18, e17, h⟩ := ob h
            refine g_callVa (n := 1) (As := [.int (wI w 126 v3)]) (rest := []) hX hw (c_X3_find g l hG hst mm (wJ w 121 v3) (wI w 126 v3) w v18 e17) gX6_update_X3_find rfl (by decide +kernel) rfl (x_nz hw c16) (c_recv hX hw (ce_5 c16) rfl) hl.1 rfl (Nat.le_of_ble_eq_true rfl) ⟨by decide, by decide⟩ dX6_update_58 (fun H lc cn sn hw => ?_)
            refine t_astore (lv' := [(4, rv v18), (3, rv v3), (0, rv o), (1, .int p0), (2, .int p1)]) hx hb dX6_update_61 hl (by decide) (by simp [rv_cat, ct_i, ct_l] <;> decide) (fun ls hl => ?_)
            refine t_aload hx hb dX6_update_63 (lv_at hl 0 rfl) ?_
            refine t_ifnonnull (tgt := 79) hx hb dX6_update_65 (by decide) (fun c19 => ?_) (fun c19 => ?_)
            · replace h := oe c19 h
              refine t_aload_n hx hb dX6_update_79 rfl (lv_at hl 1 rfl) ?_
              refine c_gf (C := RX0) (TT := TX0) (N := 8) (ref := "TabStore$Cursor") (v := rv (wJ w 121 v3)) hX hw (ce_3 c9) rfl 1 (by decide +kernel) (by decide) (by decide +kernel) (fun _ h9 => h9) rfl dX6_update_80 ?_
              obtain ⟨c20, h⟩ := og h
              obtain ⟨w21, ew21, h⟩ := ol h
              refine n_1 hX hw (by decide +kernel) (by decide +kernel) (by decide +kernel) (by decide +kernel) c20 dX6_update_83 (fun H cn sn hw => ?_)
              have hw := hw_eq ew21 hw
              refine lv_dup hx hb dX6_update_86 (rv_cat _) ?_
              refine t_aload hx hb dX6_update_87 (lv_at hl 0 rfl) ?_
              obtain ⟨c22, h⟩ := og h
              refine c_gf (C := RX2) (TT := TX2) (N := 4) (ref := "TabStore$Row") (v := .int (wI w21 40 v18)) hX hw (ce_1 c22) rfl 0 (by decide +kernel) (by decide) (by decide +kernel) (fun _ h9 => h9) rfl dX6_update_89 ?_
              refine lv_iload_n hx hb dX6_update_92 rfl (lv_at hl 4 rfl) ?_
              refine t_aload hx hb dX6_update_93 (lv_at hl 0 rfl) ?_
              refine c_gf (C := RX2) (TT := TX2) (N := 4) (ref := "TabStore$Row") (v := .int (wI w21 42 v18)) hX hw (ce_1 c22) rfl 2 (by decide +kernel) (by decide) (by decide +kernel) (fun _ h9 => h9) rfl dX6_update_95 ?_
              refine t_aload hx hb dX6_update_98 (lv_at hl 0 rfl) ?_
              refine c_gf (C := RX2) (TT := TX2) (N := 4) (ref := "TabStore$Row") (v := .int (wI w21 43 v18)) hX hw (ce_1 c22) rfl 3 (by decide +kernel) (by decide) (by decide +kernel) (fun _ h9 => h9) rfl dX6_update_100 ?_
              obtain ⟨c23, h⟩ := og h
              obtain ⟨w25, e24, h⟩ := ob h
              refine g_callI (n := 4) (As := [.int (wI w21 40 v18), .int p1, .int (wI w21 42 v18), .int (wI w21 43 v18)]) (rest := [rv (wz w + 1), rv (wJ w 121 v3)]) hX hw (c_X2_init g l hG hst mm (wz w + 1) (wI w21 40 v18) p1 (wI w21 42 v18) (wI w21 43 v18) w21 w25 e24) gX6_update_X2_init rfl (by decide +kernel) rfl (x_nz hw c23) (by decide +kernel) (by decide +kernel) (by decide +kernel) rfl hl.1 rfl (by simp [rv_cat, ct_i, ct_l]) ⟨by decide, by decide⟩ dX6_update_103 (fun H lc cn sn hw => ?_)
              obtain ⟨c26, h⟩ := og h
              obtain ⟨w28, e27, h⟩ := ob h
              refine g_callVv (n := 1) (As := [rv (wz w + 1)]) (rest := []) hX hw (c_X3_set g l hG hst mm (wJ w 121 v3) (wz w + 1) w25 w28 e27) gX6_update_X3_set rfl (by decide +kernel) rfl (x_nz hw c26) (c_recv hX hw (ce_5 c26) rfl) hl.1 rfl (Nat.le_of_ble_eq_true rfl) ⟨by decide, by decide⟩ dX6_update_106 (fun H lc cn sn hw => ?_)
              refine t_aload hx hb dX6_update_109 (lv_at hl 0 rfl) ?_
              obtain ⟨c29, h⟩ := og h
              refine c_gf (C := RX2) (TT := TX2) (N := 4) (ref := "TabStore$Row") (v := .int (wI w28 41 v18)) hX hw (ce_1 c29) rfl 1 (by decide +kernel) (by decide) (by decide +kernel) (fun _ h9 => h9) rfl dX6_update_111 ?_
              replace h := (Option.some.inj h).symm
              replace h := raj32 _ h
              subst h
              exact hret _ _ _ _ _ _ _ dX6_update_114 hw rfl
            · replace h := ot c19 h
              obtain ⟨c30, h⟩ := og h
              replace h := (Option.some.inj h).symm
              replace h := raj32 _ h
              subst h
              refine hth2 _ _ _ _ _ _ rfl ?_
              exact x_throwSW hX hG hst hw 3 (text := "the row is not there any more") (Or.inr (Or.inr rfl)) (by decide +kernel) (by decide +kernel) (by decide +kernel) (by decide +kernel) (by decide +kernel) (by decide +kernel) c30 hl.1 dX6_update_68 dX6_update_71 dX6_update_72 dX6_update_75 dX6_update_78 htab ⟨by decide, by simp [rv_cat, ct_i, ct_l]⟩
          · replace h := oe c15 h
            replace h := (Option.some.inj h).symm
            exact haj32 _ _ _ _ _ h hw (lv_sub hl [] rfl)
