/-! ===== the class: its small classes (printed by gen2.py) ===== -/
set_option maxHeartbeats 4000000 in
set_option maxRecDepth 100000 in
theorem c_X1_isLetter (g : GG) (l : Launch) (hG : XG g) (hst : l.stackTraces = false) (mm : MS) (p0 : Int32) (w : CS) (r : Int32) (h : x_X1_isLetter p0 = some r) : MetG g l yX1_isLetter wsX1_isLetter 0 0 [.int p0] (w, mm) (some (.int r)) (w, mm) := by
  refine g_start_z (some (.int r)) (own := RX1) (by decide +kernel) rfl rfl (by simp [lg_sl, rv_cat, ct_i, ct_l]) ?_
  intro p e s mi args below meth cd ls Q hX hnm hw hl hret
  have hl : lv_has ls 1 [(0, .int p0)] := by simpa [lv_args, rv_cat, ct_i, ct_l] using hl
  obtain ⟨⟨hx, hb, -, hown, hts⟩, -⟩ := id hX
  unfold x_X1_isLetter at h
  refine lv_iload_n hx hb dX1_isLetter_0 rfl (lv_at hl 0 rfl) ?_
  refine lv_iconst (v := 1) hx hb dX1_isLetter_1 (by decide) ?_
  obtain ⟨aj6, h1aj6, kaj6⟩ := ob1 h
  have haj6 : ∀ (v4 : Int32) (H : Heap) (lc : List Loc) (cn sn : Nat) (ls : Array Slot), aj6 = v4 → wH g s.heap.size (w, mm) H lc → lv_has ls 1 [] → W p l e (rmO g 0 0 s.heap) s mi args below meth cd H lc cn sn Q (F0 mi 16 ls [.int v4]) := by
    intro v4 H lc cn sn ls h hw hl
    replace h := kaj6 _ h
    obtain ⟨c5, h⟩ := og h
    replace h := (Option.some.inj h).symm
    subst h
    exact hret _ _ _ _ _ _ _ dX1_isLetter_16 c5 hw rfl
  replace h := h1aj6
  obtain ⟨aj3, h1aj3, kaj3, raj3⟩ := ol0 h
  have haj3 : ∀ (H : Heap) (lc : List Loc) (cn sn : Nat) (ls : Array Slot), aj3 = Sum.inl () → wH g s.heap.size (w, mm) H lc → lv_has ls 1 [] → W p l e (rmO g 0 0 s.heap) s mi args below meth cd H lc cn sn Q (F0 mi 15 ls []) := by
    intro H lc cn sn ls h hw hl
    replace h := kaj3 h
    refine lv_iconst (v := 0) hx hb dX1_isLetter_15 (by decide) ?_
    replace h := (Option.some.inj h).symm
    exact haj6 _ _ _ _ _ _ h hw (lv_sub hl [] rfl)
  replace h := h1aj3
  refine lv_icmp_lt (tgt := 15) hx hb dX1_isLetter_2 (by decide) (fun c1 => ?_) (fun c1 => ?_)
  · replace h := ot c1 h
    replace h := (Option.some.inj h).symm
    exact haj3 _ _ _ _ _ h hw (lv_sub hl [] rfl)
  · replace h := oe c1 h
    refine lv_iload_n hx hb dX1_isLetter_5 rfl (lv_at hl 0 rfl) ?_
    refine lv_bipush (v := 26) hx hb dX1_isLetter_6 (by decide) ?_
    refine lv_icmp_gt (tgt := 15) hx hb dX1_isLetter_8 (by decide) (fun c2 => ?_) (fun c2 => ?_)
    · replace h := ot c2 h
      replace h := (Option.some.inj h).symm
      exact haj3 _ _ _ _ _ h hw (lv_sub hl [] rfl)
    · replace h := oe c2 h
      refine lv_iconst (v := 1) hx hb dX1_isLetter_11 (by decide) ?_
      refine lv_goto (tgt := 16) hx hb dX1_isLetter_12 (by decide) ?_
      replace h := (Option.some.inj h).symm
      replace h := raj3 _ h
      exact haj6 _ _ _ _ _ _ h hw (lv_sub hl [] rfl)

set_option maxHeartbeats 4000000 in
set_option maxRecDepth 100000 in
theorem c_X1_isText (g : GG) (l : Launch) (hG : XG g) (hst : l.stackTraces = false) (mm : MS) (p0 : Int32) (w : CS) (r : Int32) (h : x_X1_isText p0 = some r) : MetG g l yX1_isText wsX1_isText 1 20 [.int p0] (w, mm) (some (.int r)) (w, mm) := by
  refine g_start_z (some (.int r)) (own := RX1) (by decide +kernel) rfl rfl (by simp [lg_sl, rv_cat, ct_i, ct_l]) ?_
  intro p e s mi args below meth cd ls Q hX hnm hw hl hret
  have hl : lv_has ls 5 [(0, .int p0)] := by simpa [lv_args, rv_cat, ct_i, ct_l] using hl
  obtain ⟨⟨hx, hb, -, hown, hts⟩, -⟩ := id hX
  unfold x_X1_isText at h
  refine lv_iload_n hx hb dX1_isText_0 rfl (lv_at hl 0 rfl) ?_
  refine lv_bipush (v := 100) hx hb dX1_isText_1 (by decide) ?_
  refine lv_irem hx hb dX1_isText_3 (by decide) ?_
  refine lv_istore_n (lv' := [(1, .int (p0 - p0 / 100 * 100)), (0, .int p0)]) hx hb dX1_isText_4 rfl hl (by decide) rfl (fun ls hl => ?_)
  refine lv_iload_n hx hb dX1_isText_5 rfl (lv_at hl 1 rfl) ?_
  refine lv_bipush (v := 100) hx hb dX1_isText_6 (by decide) ?_
  refine lv_idiv hx hb dX1_isText_8 (by decide) ?_
  refine lv_bipush (v := 100) hx hb dX1_isText_9 (by decide) ?_
  refine lv_irem hx hb dX1_isText_11 (by decide) ?_
  refine lv_istore_n (lv' := [(2, .int ((p0 / 100) - (p0 / 100) / 100 * 100)), (1, .int (p0 - p0 / 100 * 100)), (0, .int p0)]) hx hb dX1_isText_12 rfl hl (by decide) rfl (fun ls hl => ?_)
  refine lv_iload_n hx hb dX1_isText_13 rfl (lv_at hl 2 rfl) ?_
  refine lv_bipush (v := 100) hx hb dX1_isText_14 (by decide) ?_
  refine lv_idiv hx hb dX1_isText_16 (by decide) ?_
  refine lv_bipush (v := 100) hx hb dX1_isText_17 (by decide) ?_
  refine lv_idiv hx hb dX1_isText_19 (by decide) ?_
  refine lv_istore_n (lv' := [(3, .int ((p0 / 100) / 100)), (2, .int ((p0 / 100) - (p0 / 100) / 100 * 100)), (1, .int (p0 - p0 / 100 * 100)), (0, .int p0)]) hx hb dX1_isText_20 rfl hl (by decide) rfl (fun ls hl => ?_)
  refine lv_iload_n hx hb dX1_isText_21 rfl (lv_at hl 1 rfl) ?_
  obtain ⟨aj22, h1aj22, kaj22⟩ := ob1 h
  have haj22 : ∀ (v4 : Int32) (H : Heap) (lc : List Loc) (cn sn : Nat) (ls : Array Slot), aj22 = v4 → wH g s.heap.size (w, mm) H lc → lv_has ls 5 [(3, .int ((p0 / 100) / 100)), (2, .int ((p0 / 100) - (p0 / 100) / 100 * 100)), (1, .int (p0 - p0 / 100 * 100))] → W p l e (rmO g 1 20 s.heap) s mi args below meth cd H lc cn sn Q (F0 mi 34 ls [.int v4]) := by
    intro v4 H lc cn sn ls h hw hl
    replace h := kaj22 _ h
    refine lv_istore (lv' := [(4, .int v4), (3, .int ((p0 / 100) / 100)), (2, .int ((p0 / 100) - (p0 / 100) / 100 * 100)), (1, .int (p0 - p0 / 100 * 100))]) hx hb dX1_isText_34 hl (by decide) rfl (fun ls hl => ?_)
    refine lv_iload_n hx hb dX1_isText_36 rfl (lv_at hl 3 rfl) ?_
    obtain ⟨v6, e5, h⟩ := ob h
    refine g_callSi (n := 1) (As := [.int (p0 - p0 / 100 * 100)]) (rest := []) hX hw (c_X1_isLetter g l hG hst mm (p0 - p0 / 100 * 100) w v6 e5) gX1_isText_X1_isLetter rfl (by decide +kernel) rfl hl.1 rfl (Nat.le_of_ble_eq_true rfl) ⟨by decide, by decide⟩ dX1_isText_37 (fun H lc cn sn hw => ?_)
    obtain ⟨aj21, h1aj21, kaj21⟩ := ob1 h
    have haj21 : ∀ (v19 : Int32) (H : Heap) (lc : List Loc) (cn sn : Nat) (ls : Array Slot), aj21 = v19 → wH g s.heap.size (w, mm) H lc → lv_has ls 5 [] → W p l e (rmO g 1 20 s.heap) s mi args below meth cd H lc cn sn Q (F0 mi 71 ls [.int v19]) := by
      intro v19 H lc cn sn ls h hw hl
      replace h := kaj21 _ h
      obtain ⟨c20, h⟩ := og h
      replace h := (Option.some.inj h).symm
      subst h
      exact hret _ _ _ _ _ _ _ dX1_isText_71 c20 hw rfl
    replace h := h1aj21
    obtain ⟨aj18, h1aj18, kaj18, raj18⟩ := ol0 h
    have haj18 : ∀ (H : Heap) (lc : List Loc) (cn sn : Nat) (ls : Array Slot), aj18 = Sum.inl () → wH g s.heap.size (w, mm) H lc → lv_has ls 5 [] → W p l e (rmO g 1 20 s.heap) s mi args below meth cd H lc cn sn Q (F0 mi 70 ls []) := by
      intro H lc cn sn ls h hw hl
      replace h := kaj18 h
      refine lv_iconst (v := 0) hx hb dX1_isText_70 (by decide) ?_
      replace h := (Option.some.inj h).symm
      exact haj21 _ _ _ _ _ _ h hw (lv_sub hl [] rfl)
    replace h := h1aj18
    refine lv_if_eq (tgt := 70) hx hb dX1_isText_40 (by decide) (fun c7 => ?_) (fun c7 => ?_)
    · replace h := ot c7 h
      replace h := (Option.some.inj h).symm
      exact haj18 _ _ _ _ _ h hw (lv_sub hl [] rfl)
    · replace h := oe c7 h
      refine lv_iload_n hx hb dX1_isText_43 rfl (lv_at hl 2 rfl) ?_
      obtain ⟨v9, e8, h⟩ := ob h
      refine g_callSi (n := 1) (As := [.int ((p0 / 100) - (p0 / 100) / 100 * 100)]) (rest := []) hX hw (c_X1_isLetter g l hG hst mm ((p0 / 100) - (p0 / 100) / 100 * 100) w v9 e8) gX1_isText_X1_isLetter rfl (by decide +kernel) rfl hl.1 rfl (Nat.le_of_ble_eq_true rfl) ⟨by decide, by decide⟩ dX1_isText_44 (fun H lc cn sn hw => ?_)
      obtain ⟨aj17, h1aj17, kaj17, raj17⟩ := ol0 h
      have haj17 : ∀ (H : Heap) (lc : List Loc) (cn sn : Nat) (ls : Array Slot), aj17 = Sum.inl () → wH g s.heap.size (w, mm) H lc → lv_has ls 5 [(3, .int ((p0 / 100) / 100))] → W p l e (rmO g 1 20 s.heap) s mi args below meth cd H lc cn sn Q (F0 mi 55 ls []) := by
        intro H lc cn sn ls h hw hl
        replace h := kaj17 h
        refine lv_iload_n hx hb dX1_isText_55 rfl (lv_at hl 0 rfl) ?_
        obtain ⟨v13, e12, h⟩ := ob h
        refine g_callSi (n := 1) (As := [.int ((p0 / 100) / 100)]) (rest := []) hX hw (c_X1_isLetter g l hG hst mm ((p0 / 100) / 100) w v13 e12) gX1_isText_X1_isLetter rfl (by decide +kernel) rfl hl.1 rfl (Nat.le_of_ble_eq_true rfl) ⟨by decide, by decide⟩ dX1_isText_56 (fun H lc cn sn hw => ?_)
        obtain ⟨aj16, h1aj16, kaj16, raj16⟩ := ol0 h
        have haj16 : ∀ (H : Heap) (lc : List Loc) (cn sn : Nat) (ls : Array Slot), aj16 = Sum.inl () → wH g s.heap.size (w, mm) H lc → lv_has ls 5 [] → W p l e (rmO g 1 20 s.heap) s mi args below meth cd H lc cn sn Q (F0 mi 66 ls []) := by
          intro H lc cn sn ls h hw hl
          replace h := kaj16 h
          refine lv_iconst (v := 1) hx hb dX1_isText_66 (by decide) ?_
          refine lv_goto (tgt := 71) hx hb dX1_isText_67 (by decide) ?_
          replace h := (Option.some.inj h).symm
          replace h := raj18 _ h
          exact haj21 _ _ _ _ _ _ h hw (lv_sub hl [] rfl)
        replace h := h1aj16
        refine lv_if_ne (tgt := 66) hx hb dX1_isText_59 (by decide) (fun c14 => ?_) (fun c14 => ?_)
        · replace h := oe c14 h
          replace h := (Option.some.inj h).symm
          exact haj16 _ _ _ _ _ h hw (lv_sub hl [] rfl)
        · replace h := ot c14 h
          refine lv_iload_n hx hb dX1_isText_62 rfl (lv_at hl 0 rfl) ?_
          refine lv_if_ne (tgt := 70) hx hb dX1_isText_63 (by decide) (fun c15 => ?_) (fun c15 => ?_)
          · replace h := oe c15 h
            replace h := (Option.some.inj h).symm
            replace h := raj16 _ h
            exact haj18 _ _ _ _ _ h hw (lv_sub hl [] rfl)
          · replace h := ot c15 h
            replace h := (Option.some.inj h).symm
            exact haj16 _ _ _ _ _ h hw (lv_sub hl [] rfl)
      replace h := h1aj17
      refine lv_if_ne (tgt := 55) hx hb dX1_isText_47 (by decide) (fun c10 => ?_) (fun c10 => ?_)
      · replace h := oe c10 h
        replace h := (Option.some.inj h).symm
        exact haj17 _ _ _ _ _ h hw (lv_sub hl [1] rfl)
      · replace h := ot c10 h
        refine lv_iload hx hb dX1_isText_50 (lv_at hl 0 rfl) ?_
        refine lv_if_eq (tgt := 70) hx hb dX1_isText_52 (by decide) (fun c11 => ?_) (fun c11 => ?_)
        · replace h := ot c11 h
          replace h := (Option.some.inj h).symm
          replace h := raj17 _ h
          exact haj18 _ _ _ _ _ h hw (lv_sub hl [] rfl)
        · replace h := oe c11 h
          replace h := (Option.some.inj h).symm
          exact haj17 _ _ _ _ _ h hw (lv_sub hl [1] rfl)
  replace h := h1aj22
  obtain ⟨aj3, h1aj3, kaj3, raj3⟩ := ol0 h
  have haj3 : ∀ (H : Heap) (lc : List Loc) (cn sn : Nat) (ls : Array Slot), aj3 = Sum.inl () → wH g s.heap.size (w, mm) H lc → lv_has ls 5 [(3, .int ((p0 / 100) / 100)), (2, .int ((p0 / 100) - (p0 / 100) / 100 * 100)), (1, .int (p0 - p0 / 100 * 100))] → W p l e (rmO g 1 20 s.heap) s mi args below meth cd H lc cn sn Q (F0 mi 33 ls []) := by
    intro H lc cn sn ls h hw hl
    replace h := kaj3 h
    refine lv_iconst (v := 0) hx hb dX1_isText_33 (by decide) ?_
    replace h := (Option.some.inj h).symm
    exact haj22 _ _ _ _ _ _ h hw (lv_sub hl [0, 1, 2] rfl)
  replace h := h1aj3
  refine lv_if_ne (tgt := 33) hx hb dX1_isText_22 (by decide) (fun c1 => ?_) (fun c1 => ?_)
  · replace h := oe c1 h
    replace h := (Option.some.inj h).symm
    exact haj3 _ _ _ _ _ h hw (lv_sub hl [0, 1, 2] rfl)
  · replace h := ot c1 h
    refine lv_iload_n hx hb dX1_isText_25 rfl (lv_at hl 0 rfl) ?_
    refine lv_if_ne (tgt := 33) hx hb dX1_isText_26 (by decide) (fun c2 => ?_) (fun c2 => ?_)
    · replace h := oe c2 h
      replace h := (Option.some.inj h).symm
      exact haj3 _ _ _ _ _ h hw (lv_sub hl [0, 1, 2] rfl)
    · replace h := ot c2 h
      refine lv_iconst (v := 1) hx hb dX1_isText_29 (by decide) ?_
      refine lv_goto (tgt := 34) hx hb dX1_isText_30 (by decide) ?_
      replace h := (Option.some.inj h).symm
      replace h := raj3 _ h
      exact haj22 _ _ _ _ _ _ h hw (lv_sub hl [0, 1, 2] rfl)

set_option maxHeartbeats 4000000 in
set_option maxRecDepth 100000 in
theorem c_X1_isKey (g : GG) (l : Launch) (hG : XG g) (hst : l.stackTraces = false) (mm : MS) (p0 : Int32) (w : CS) (r : Int32) (h : x_X1_isKey p0 = some r) : MetG g l yX1_isKey wsX1_isKey 2 44 [.int p0] (w, mm) (some (.int r)) (w, mm) := by
  refine g_start_z (some (.int r)) (own := RX1) (by decide +kernel) rfl rfl (by simp [lg_sl, rv_cat, ct_i, ct_l]) ?_
  intro p e s mi args below meth cd ls Q hX hnm hw hl hret
  have hl : lv_has ls 3 [(0, .int p0)] := by simpa [lv_args, rv_cat, ct_i, ct_l] using hl
  obtain ⟨⟨hx, hb, -, hown, hts⟩, -⟩ := id hX
  unfold x_X1_isKey at h
  refine lv_iload_n hx hb dX1_isKey_0 rfl (lv_at hl 0 rfl) ?_
  obtain ⟨aj14, h1aj14, kaj14, raj14⟩ := ol0 h
  have haj14 : ∀ (H : Heap) (lc : List Loc) (cn sn : Nat) (ls : Array Slot), aj14 = Sum.inl () → wH g s.heap.size (w, mm) H lc → lv_has ls 3 [] → W p l e (rmO g 2 44 s.heap) s mi args below meth cd H lc cn sn Q (F0 mi 10 ls []) := by
    intro H lc cn sn ls h hw hl
    replace h := kaj14 h
    refine lv_iconst (v := 0) hx hb dX1_isKey_10 (by decide) ?_
    obtain ⟨c13, h⟩ := og h
    replace h := (Option.some.inj h).symm
    subst h
    exact hret _ _ _ _ _ _ _ dX1_isKey_11 c13 hw rfl
  replace h := h1aj14
  refine lv_if_lt (tgt := 10) hx hb dX1_isKey_1 (by decide) (fun c1 => ?_) (fun c1 => ?_)
  · replace h := ot c1 h
    replace h := (Option.some.inj h).symm
    exact haj14 _ _ _ _ _ h hw (lv_sub hl [] rfl)
  · replace h := oe c1 h
    refine lv_iload_n hx hb dX1_isKey_4 rfl (lv_at hl 0 rfl) ?_
    refine lv_ldc (v := 4000000) hx hb hown (hts (.constant RX1 11 (4000000)) (by decide +kernel)) dX1_isKey_5 ?_
    refine lv_icmp_lt (tgt := 12) hx hb dX1_isKey_7 (by decide) (fun c2 => ?_) (fun c2 => ?_)
    · replace h := ot c2 h
      refine lv_iload_n hx hb dX1_isKey_12 rfl (lv_at hl 0 rfl) ?_
      refine lv_ldc (v := 1000000) hx hb hown (hts (.constant RX1 12 (1000000)) (by decide +kernel)) dX1_isKey_13 ?_
      refine lv_idiv hx hb dX1_isKey_15 (by decide) ?_
      refine lv_istore_n (lv' := [(1, .int (p0 / 1000000)), (0, .int p0)]) hx hb dX1_isKey_16 rfl hl (by decide) rfl (fun ls hl => ?_)
      refine lv_iload_n hx hb dX1_isKey_17 rfl (lv_at hl 1 rfl) ?_
      refine lv_ldc (v := 1000000) hx hb hown (hts (.constant RX1 12 (1000000)) (by decide +kernel)) dX1_isKey_18 ?_
      refine lv_irem hx hb dX1_isKey_20 (by decide) ?_
      refine lv_istore_n (lv' := [(2, .int (p0 - p0 / 1000000 * 1000000)), (1, .int (p0 / 1000000)), (0, .int p0)]) hx hb dX1_isKey_21 rfl hl (by decide) rfl (fun ls hl => ?_)
      refine lv_iload_n hx hb dX1_isKey_22 rfl (lv_at hl 1 rfl) ?_
      refine lv_iconst (v := 2) hx hb dX1_isKey_23 (by decide) ?_
      refine lv_icmp_ne (tgt := 32) hx hb dX1_isKey_24 (by decide) (fun c3 => ?_) (fun c3 => ?_)
      · replace h := oe c3 h
        refine lv_iload_n hx hb dX1_isKey_32 rfl (lv_at hl 1 rfl) ?_
        refine lv_iconst (v := 3) hx hb dX1_isKey_33 (by decide) ?_
        obtain ⟨aj9, h1aj9, kaj9⟩ := ob1 h
        have haj9 : ∀ (v7 : Int32) (H : Heap) (lc : List Loc) (cn sn : Nat) (ls : Array Slot), aj9 = v7 → wH g s.heap.size (w, mm) H lc → lv_has ls 3 [] → W p l e (rmO g 2 44 s.heap) s mi args below meth cd H lc cn sn Q (F0 mi 49 ls [.int v7]) := by
          intro v7 H lc cn sn ls h hw hl
          replace h := kaj9 _ h
          obtain ⟨c8, h⟩ := og h
          replace h := (Option.some.inj h).symm
          replace h := raj14 _ h
          subst h
          exact hret _ _ _ _ _ _ _ dX1_isKey_49 c8 hw rfl
        replace h := h1aj9
        obtain ⟨aj6, h1aj6, kaj6, raj6⟩ := ol0 h
        have haj6 : ∀ (H : Heap) (lc : List Loc) (cn sn : Nat) (ls : Array Slot), aj6 = Sum.inl () → wH g s.heap.size (w, mm) H lc → lv_has ls 3 [] → W p l e (rmO g 2 44 s.heap) s mi args below meth cd H lc cn sn Q (F0 mi 44 ls []) := by
          intro H lc cn sn ls h hw hl
          replace h := kaj6 h
          refine lv_iconst (v := 1) hx hb dX1_isKey_44 (by decide) ?_
          refine lv_goto (tgt := 49) hx hb dX1_isKey_45 (by decide) ?_
          replace h := (Option.some.inj h).symm
          exact haj9 _ _ _ _ _ _ h hw (lv_sub hl [] rfl)
        replace h := h1aj6
        refine lv_icmp_eq (tgt := 44) hx hb dX1_isKey_34 (by decide) (fun c4 => ?_) (fun c4 => ?_)
        · replace h := ot c4 h
          replace h := (Option.some.inj h).symm
          exact haj6 _ _ _ _ _ h hw (lv_sub hl [] rfl)
        · replace h := oe c4 h
          refine lv_iload_n hx hb dX1_isKey_37 rfl (lv_at hl 0 rfl) ?_
          refine lv_sipush (v := 999) hx hb dX1_isKey_38 (by decide) ?_
          refine lv_icmp_gt (tgt := 48) hx hb dX1_isKey_41 (by decide) (fun c5 => ?_) (fun c5 => ?_)
          · replace h := ot c5 h
            refine lv_iconst (v := 0) hx hb dX1_isKey_48 (by decide) ?_
            replace h := (Option.some.inj h).symm
            replace h := raj6 _ h
            exact haj9 _ _ _ _ _ _ h hw (lv_sub hl [] rfl)
          · replace h := oe c5 h
            replace h := (Option.some.inj h).symm
            exact haj6 _ _ _ _ _ h hw (lv_sub hl [] rfl)
      · replace h := ot c3 h
        refine lv_iload_n hx hb dX1_isKey_27 rfl (lv_at hl 0 rfl) ?_
        obtain ⟨v11, e10, h⟩ := ob h
        refine g_callSi (n := 1) (As := [.int (p0 - p0 / 1000000 * 1000000)]) (rest := []) hX hw (c_X1_isText g l hG hst mm (p0 - p0 / 1000000 * 1000000) w v11 e10) gX1_isKey_X1_isText rfl (by decide +kernel) rfl hl.1 rfl (Nat.le_of_ble_eq_true rfl) ⟨by decide, by decide⟩ dX1_isKey_28 (fun H lc cn sn hw => ?_)
        obtain ⟨c12, h⟩ := og h
        replace h := (Option.some.inj h).symm
        replace h := raj14 _ h
        subst h
        exact hret _ _ _ _ _ _ _ dX1_isKey_31 c12 hw rfl
    · replace h := oe c2 h
      replace h := (Option.some.inj h).symm
      exact haj14 _ _ _ _ _ h hw (lv_sub hl [] rfl)

set_option maxHeartbeats 4000000 in
set_option maxRecDepth 100000 in
theorem c_X1_rank (g : GG) (l : Launch) (hG : XG g) (hst : l.stackTraces = false) (mm : MS) (p0 : Int32) (w : CS) (r : Int32) (h : x_X1_rank p0 = some r) : MetG g l yX1_rank wsX1_rank 0 0 [.int p0] (w, mm) (some (.int r)) (w, mm) := by
  refine g_start_i (some (.int r)) (own := RX1) (by decide +kernel) rfl rfl (by simp [lg_sl, rv_cat, ct_i, ct_l]) ?_
  intro p e s mi args below meth cd ls Q hX hnm hw hl hret
  have hl : lv_has ls 2 [(0, .int p0)] := by simpa [lv_args, rv_cat, ct_i, ct_l] using hl
  obtain ⟨⟨hx, hb, -, hown, hts⟩, -⟩ := id hX
  unfold x_X1_rank at h
  refine lv_iload_n hx hb dX1_rank_0 rfl (lv_at hl 0 rfl) ?_
  refine lv_ldc (v := 1000000) hx hb hown (hts (.constant RX1 12 (1000000)) (by decide +kernel)) dX1_rank_1 ?_
  refine lv_irem hx hb dX1_rank_3 (by decide) ?_
  refine lv_istore_n (lv' := [(1, .int (p0 - p0 / 1000000 * 1000000)), (0, .int p0)]) hx hb dX1_rank_4 rfl hl (by decide) rfl (fun ls hl => ?_)
  refine lv_iload_n hx hb dX1_rank_5 rfl (lv_at hl 1 rfl) ?_
  refine lv_ldc (v := 1000000) hx hb hown (hts (.constant RX1 12 (1000000)) (by decide +kernel)) dX1_rank_6 ?_
  refine lv_idiv hx hb dX1_rank_8 (by decide) ?_
  refine lv_iconst (v := 2) hx hb dX1_rank_9 (by decide) ?_
  refine lv_icmp_eq (tgt := 15) hx hb dX1_rank_10 (by decide) (fun c1 => ?_) (fun c1 => ?_)
  · replace h := ot c1 h
    refine lv_iload_n hx hb dX1_rank_15 rfl (lv_at hl 0 rfl) ?_
    refine lv_bipush (v := 100) hx hb dX1_rank_16 (by decide) ?_
    obtain ⟨aj7, h1aj7, kaj7⟩ := ob1 h
    have haj7 : ∀ (v3 : Int32) (H : Heap) (lc : List Loc) (cn sn : Nat) (ls : Array Slot), aj7 = v3 → wH g s.heap.size (w, mm) H lc → lv_has ls 2 [(1, .int v3)] → W p l e (rmO g 0 0 s.heap) s mi args below meth cd H lc cn sn Q (F0 mi 26 ls []) := by
      intro v3 H lc cn sn ls h hw hl
      replace h := kaj7 _ h
      refine lv_iload_n hx hb dX1_rank_26 rfl (lv_at hl 0 rfl) ?_
      refine lv_sipush (v := 10000) hx hb dX1_rank_27 (by decide) ?_
      obtain ⟨aj6, h1aj6, kaj6⟩ := ob1 h
      have haj6 : ∀ (v5 : Int32) (H : Heap) (lc : List Loc) (cn sn : Nat) (ls : Array Slot), aj6 = v5 → wH g s.heap.size (w, mm) H lc → lv_has ls 2 [(1, .int v5)] → W p l e (rmO g 0 0 s.heap) s mi args below meth cd H lc cn sn Q (F0 mi 38 ls []) := by
        intro v5 H lc cn sn ls h hw hl
        replace h := kaj6 _ h
        refine lv_ldc (v := 2000000) hx hb hown (hts (.constant RX1 20 (2000000)) (by decide +kernel)) dX1_rank_38 ?_
        refine lv_iload_n hx hb dX1_rank_40 rfl (lv_at hl 0 rfl) ?_
        refine lv_iadd hx hb dX1_rank_41 ?_
        replace h := (Option.some.inj h).symm
        subst h
        exact hret _ _ _ _ _ _ _ dX1_rank_42 hw rfl
      replace h := h1aj6
      refine lv_icmp_ge (tgt := 38) hx hb dX1_rank_30 (by decide) (fun c4 => ?_) (fun c4 => ?_)
      · replace h := ot c4 h
        replace h := (Option.some.inj h).symm
        exact haj6 _ _ _ _ _ _ h hw (lv_sub hl [0] rfl)
      · replace h := oe c4 h
        refine lv_iload_n hx hb dX1_rank_33 rfl (lv_at hl 0 rfl) ?_
        refine lv_bipush (v := 100) hx hb dX1_rank_34 (by decide) ?_
        refine lv_imul hx hb dX1_rank_36 ?_
        refine lv_istore_n (lv' := [(1, .int (v3 * 100))]) hx hb dX1_rank_37 rfl hl (by decide) rfl (fun ls hl => ?_)
        replace h := (Option.some.inj h).symm
        exact haj6 _ _ _ _ _ _ h hw (lv_sub hl [0] rfl)
    replace h := h1aj7
    refine lv_icmp_ge (tgt := 26) hx hb dX1_rank_18 (by decide) (fun c2 => ?_) (fun c2 => ?_)
    · replace h := ot c2 h
      replace h := (Option.some.inj h).symm
      exact haj7 _ _ _ _ _ _ h hw (lv_sub hl [0] rfl)
    · replace h := oe c2 h
      refine lv_iload_n hx hb dX1_rank_21 rfl (lv_at hl 0 rfl) ?_
      refine lv_bipush (v := 100) hx hb dX1_rank_22 (by decide) ?_
      refine lv_imul hx hb dX1_rank_24 ?_
      refine lv_istore_n (lv' := [(1, .int ((p0 - p0 / 1000000 * 1000000) * 100)), (0, .int p0)]) hx hb dX1_rank_25 rfl hl (by decide) rfl (fun ls hl => ?_)
      replace h := (Option.some.inj h).symm
      exact haj7 _ _ _ _ _ _ h hw (lv_sub hl [0] rfl)
  · replace h := oe c1 h
    refine lv_iload_n hx hb dX1_rank_13 rfl (lv_at hl 1 rfl) ?_
    replace h := (Option.some.inj h).symm
    subst h
    exact hret _ _ _ _ _ _ _ dX1_rank_14 hw rfl

set_option maxHeartbeats 4000000 in
set_option maxRecDepth 100000 in
theorem c_X4_isInside (g : GG) (l : Launch) (hG : XG g) (hst : l.stackTraces = false) (mm : MS) (o : Nat) (w : CS) (r : Int32) (h : x_X4_isInside o w = some r) : MetG g l yX4_isInside wsX4_isInside 0 0 [rv o] (w, mm) (some (.int r)) (w, mm) := by
  refine g_start_z (some (.int r)) (own := RX4) (by decide +kernel) rfl rfl (by simp [lg_sl, rv_cat, ct_i, ct_l]) ?_
  intro p e s mi args below meth cd ls Q hX hnm hw hl hret
  have hl : lv_has ls 1 [(0, rv o)] := by simpa [lv_args, rv_cat, ct_i, ct_l] using hl
  obtain ⟨⟨hx, hb, -, hown, hts⟩, -⟩ := id hX
  unfold x_X4_isInside at h
  refine t_aload_n hx hb dX4_isInside_0 rfl (lv_at hl 0 rfl) ?_
  obtain ⟨c1, h⟩ := og h
  refine c_gf (C := RX4) (TT := TX4) (N := 3) (ref := "TabStore$Tab") (v := .int (wI w 160 o)) hX hw (ce_4 c1) rfl 0 (by decide +kernel) (by decide) (by decide +kernel) (fun _ h9 => h9) rfl dX4_isInside_1 ?_
  refine lv_iconst (v := 1) hx hb dX4_isInside_4 (by decide) ?_
  obtain ⟨aj7, h1aj7, kaj7⟩ := ob1 h
  have haj7 : ∀ (v5 : Int32) (H : Heap) (lc : List Loc) (cn sn : Nat) (ls : Array Slot), aj7 = v5 → wH g s.heap.size (w, mm) H lc → lv_has ls 1 [] → W p l e (rmO g 0 0 s.heap) s mi args below meth cd H lc cn sn Q (F0 mi 21 ls [.int v5]) := by
    intro v5 H lc cn sn ls h hw hl
    replace h := kaj7 _ h
    obtain ⟨c6, h⟩ := og h
    replace h := (Option.some.inj h).symm
    subst h
    exact hret _ _ _ _ _ _ _ dX4_isInside_21 c6 hw rfl
  replace h := h1aj7
  obtain ⟨aj4, h1aj4, kaj4, raj4⟩ := ol0 h
  have haj4 : ∀ (H : Heap) (lc : List Loc) (cn sn : Nat) (ls : Array Slot), aj4 = Sum.inl () → wH g s.heap.size (w, mm) H lc → lv_has ls 1 [] → W p l e (rmO g 0 0 s.heap) s mi args below meth cd H lc cn sn Q (F0 mi 16 ls []) := by
    intro H lc cn sn ls h hw hl
    replace h := kaj4 h
    refine lv_iconst (v := 1) hx hb dX4_isInside_16 (by decide) ?_
    refine lv_goto (tgt := 21) hx hb dX4_isInside_17 (by decide) ?_
    replace h := (Option.some.inj h).symm
    exact haj7 _ _ _ _ _ _ h hw (lv_sub hl [] rfl)
  replace h := h1aj4
  refine lv_icmp_eq (tgt := 16) hx hb dX4_isInside_5 (by decide) (fun c2 => ?_) (fun c2 => ?_)
  · replace h := ot c2 h
    replace h := (Option.some.inj h).symm
    exact haj4 _ _ _ _ _ h hw (lv_sub hl [] rfl)
  · replace h := oe c2 h
    refine t_aload_n hx hb dX4_isInside_8 rfl (lv_at hl 0 rfl) ?_
    refine c_gf (C := RX4) (TT := TX4) (N := 3) (ref := "TabStore$Tab") (v := .int (wI w 160 o)) hX hw (ce_4 c1) rfl 0 (by decide +kernel) (by decide) (by decide +kernel) (fun _ h9 => h9) rfl dX4_isInside_9 ?_
    refine lv_iconst (v := 2) hx hb dX4_isInside_12 (by decide) ?_
    refine lv_icmp_ne (tgt := 20) hx hb dX4_isInside_13 (by decide) (fun c3 => ?_) (fun c3 => ?_)
    · replace h := oe c3 h
      refine lv_iconst (v := 0) hx hb dX4_isInside_20 (by decide) ?_
      replace h := (Option.some.inj h).symm
      replace h := raj4 _ h
      exact haj7 _ _ _ _ _ _ h hw (lv_sub hl [] rfl)
    · replace h := ot c3 h
      replace h := (Option.some.inj h).symm
      exact haj4 _ _ _ _ _ h hw (lv_sub hl [] rfl)

set_option maxHeartbeats 4000000 in
set_option maxRecDepth 100000 in
theorem c_X5_init (g : GG) (l : Launch) (hG : XG g) (hst : l.stackTraces = false) (mm : MS) (o : Nat) (p0 : Nat) (p1 : Int32) (p2 : Int32) (w : CS) (w' : CS) (h : x_X5_init o p0 p1 p2 w = some w') : MetG g l yX5_init wsX5_init 1 12 [rv o, rv p0, .int p1, .int p2] (w, mm) (none) (w', mm) := by
  refine g_start_v (none) (own := RX5) (by decide +kernel) rfl rfl (by simp [lg_sl, rv_cat, ct_i, ct_l]) ?_
  intro p e s mi args below meth cd ls Q hX hnm hw hl hret
  have hl : lv_has ls 4 [(0, rv o), (1, rv p0), (2, .int p1), (3, .int p2)] := by simpa [lv_args, rv_cat, ct_i, ct_l] using hl
  obtain ⟨⟨hx, hb, -, hown, hts⟩, -⟩ := id hX
  unfold x_X5_init at h
  refine t_aload_n hx hb dX5_init_0 rfl (lv_at hl 0 rfl) ?_
  obtain ⟨c1, h⟩ := og h
  refine c_oinit hX (x_nz hw c1) (by decide +kernel) (by decide +kernel) (by decide +kernel) hl.1 dX5_init_1 ⟨by decide, by simp [rv_cat, ct_i, ct_l]⟩ ?_
  refine t_aload_n hx hb dX5_init_4 rfl (lv_at hl 0 rfl) ?_
  refine lv_iconst (v := 0) hx hb dX5_init_5 (by decide) ?_
  obtain ⟨w2, ew2, h⟩ := ol h
  refine p_2_3 hX hw c1 (by decide +kernel) (by decide +kernel) dX5_init_6 (fun H lc hw => ?_)
  have hw := hw_eq ew2 hw
  refine t_aload_n hx hb dX5_init_9 rfl (lv_at hl 0 rfl) ?_
  refine t_aload_n hx hb dX5_init_10 rfl (lv_at hl 1 rfl) ?_
  obtain ⟨c3, h⟩ := og h
  obtain ⟨w4, ew4, h⟩ := ol h
  refine p_2_0 hX hw c3 hnm rfl (by decide +kernel) (by decide +kernel) dX5_init_11 (fun H lc hw => ?_)
  have hw := hw_eq ew4 hw
  refine t_aload_n hx hb dX5_init_14 rfl (lv_at hl 0 rfl) ?_
  refine lv_iload_n hx hb dX5_init_15 rfl (lv_at hl 2 rfl) ?_
  obtain ⟨c5, h⟩ := og h
  obtain ⟨w6, ew6, h⟩ := ol h
  refine p_2_2 hX hw c5 hnm rfl (by decide +kernel) (by decide +kernel) dX5_init_16 (fun H lc hw => ?_)
  have hw := hw_eq ew6 hw
  refine t_aload_n hx hb dX5_init_19 rfl (lv_at hl 0 rfl) ?_
  refine lv_iload_n hx hb dX5_init_20 rfl (lv_at hl 3 rfl) ?_
  obtain ⟨c7, h⟩ := og h
  obtain ⟨c8, h⟩ := og h
  obtain ⟨w9, ew9, h⟩ := ol h
  refine p_2_1 hX hw c7 c8 hnm rfl (by decide +kernel) (by decide +kernel) dX5_init_21 (fun H lc hw => ?_)
  have hw := hw_eq ew9 hw
  replace h := (Option.some.inj h).symm
  subst h
  exact hret _ _ _ _ _ _ dX5_init_24 hw rfl

set_option maxHeartbeats 4000000 in
set_option maxRecDepth 100000 in
theorem c_X5_isPending (g : GG) (l : Launch) (hG : XG g) (hst : l.stackTraces = false) (mm : MS) (o : Nat) (w : CS) (r : Int32) (h : x_X5_isPending o w = some r) : MetG g l yX5_isPending wsX5_isPending 0 0 [rv o] (w, mm) (some (.int r)) (w, mm) := by
  refine g_start_z (some (.int r)) (own := RX5) (by decide +kernel) rfl rfl (by simp [lg_sl, rv_cat, ct_i, ct_l]) ?_
  intro p e s mi args below meth cd ls Q hX hnm hw hl hret
  have hl : lv_has ls 1 [(0, rv o)] := by simpa [lv_args, rv_cat, ct_i, ct_l] using hl
  obtain ⟨⟨hx, hb, -, hown, hts⟩, -⟩ := id hX
  unfold x_X5_isPending at h
  refine t_aload_n hx hb dX5_isPending_0 rfl (lv_at hl 0 rfl) ?_
  obtain ⟨c1, h⟩ := og h
  refine c_gf (C := RX5) (TT := TX5) (N := 4) (ref := "TabStore$Transaction") (v := .int (wI w 83 o)) hX hw (ce_2 c1) rfl 3 (by decide +kernel) (by decide) (by decide +kernel) (fun _ h9 => h9) rfl dX5_isPending_1 ?_
  obtain ⟨aj7, h1aj7, kaj7⟩ := ob1 h
  have haj7 : ∀ (v5 : Int32) (H : Heap) (lc : List Loc) (cn sn : Nat) (ls : Array Slot), aj7 = v5 → wH g s.heap.size (w, mm) H lc → lv_has ls 1 [] → W p l e (rmO g 0 0 s.heap) s mi args below meth cd H lc cn sn Q (F0 mi 20 ls [.int v5]) := by
    intro v5 H lc cn sn ls h hw hl
    replace h := kaj7 _ h
    obtain ⟨c6, h⟩ := og h
    replace h := (Option.some.inj h).symm
    subst h
    exact hret _ _ _ _ _ _ _ dX5_isPending_20 c6 hw rfl
  replace h := h1aj7
  obtain ⟨aj4, h1aj4, kaj4, raj4⟩ := ol0 h
  have haj4 : ∀ (H : Heap) (lc : List Loc) (cn sn : Nat) (ls : Array Slot), aj4 = Sum.inl () → wH g s.heap.size (w, mm) H lc → lv_has ls 1 [] → W p l e (rmO g 0 0 s.heap) s mi args below meth cd H lc cn sn Q (F0 mi 15 ls []) := by
    intro H lc cn sn ls h hw hl
    replace h := kaj4 h
    refine lv_iconst (v := 1) hx hb dX5_isPending_15 (by decide) ?_
    refine lv_goto (tgt := 20) hx hb dX5_isPending_16 (by decide) ?_
    replace h := (Option.some.inj h).symm
    exact haj7 _ _ _ _ _ _ h hw (lv_sub hl [] rfl)
  replace h := h1aj4
  refine lv_if_eq (tgt := 15) hx hb dX5_isPending_4 (by decide) (fun c2 => ?_) (fun c2 => ?_)
  · replace h := ot c2 h
    replace h := (Option.some.inj h).symm
    exact haj4 _ _ _ _ _ h hw (lv_sub hl [] rfl)
  · replace h := oe c2 h
    refine t_aload_n hx hb dX5_isPending_7 rfl (lv_at hl 0 rfl) ?_
    refine c_gf (C := RX5) (TT := TX5) (N := 4) (ref := "TabStore$Transaction") (v := .int (wI w 83 o)) hX hw (ce_2 c1) rfl 3 (by decide +kernel) (by decide) (by decide +kernel) (fun _ h9 => h9) rfl dX5_isPending_8 ?_
    refine lv_iconst (v := 1) hx hb dX5_isPending_11 (by decide) ?_
    refine lv_icmp_ne (tgt := 19) hx hb dX5_isPending_12 (by decide) (fun c3 => ?_) (fun c3 => ?_)
    · replace h := oe c3 h
      refine lv_iconst (v := 0) hx hb dX5_isPending_19 (by decide) ?_
      replace h := (Option.some.inj h).symm
      replace h := raj4 _ h
      exact haj7 _ _ _ _ _ _ h hw (lv_sub hl [] rfl)
    · replace h := ot c3 h
      replace h := (Option.some.inj h).symm
      exact haj4 _ _ _ _ _ h hw (lv_sub hl [] rfl)

set_option maxHeartbeats 4000000 in
set_option maxRecDepth 100000 in
theorem c_X5_hasInScope (g : GG) (l : Launch) (hG : XG g) (hst : l.stackTraces = false) (mm : MS) (o : Nat) (p0 : Int32) (w : CS) (r : Int32) (h : x_X5_hasInScope o p0 w = some r) : MetG g l yX5_hasInScope wsX5_hasInScope 0 0 [rv o, .int p0] (w, mm) (some (.int r)) (w, mm) := by
  refine g_start_z (some (.int r)) (own := RX5) (by decide +kernel) rfl rfl (by simp [lg_sl, rv_cat, ct_i, ct_l]) ?_
  intro p e s mi args below meth cd ls Q hX hnm hw hl hret
  have hl : lv_has ls 2 [(0, rv o), (1, .int p0)] := by simpa [lv_args, rv_cat, ct_i, ct_l] using hl
  obtain ⟨⟨hx, hb, -, hown, hts⟩, -⟩ := id hX
  unfold x_X5_hasInScope at h
  refine t_aload_n hx hb dX5_hasInScope_0 rfl (lv_at hl 0 rfl) ?_
  obtain ⟨c1, h⟩ := og h
  refine c_gf (C := RX5) (TT := TX5) (N := 4) (ref := "TabStore$Transaction") (v := .int (wI w 82 o)) hX hw (ce_2 c1) rfl 2 (by decide +kernel) (by decide) (by decide +kernel) (fun _ h9 => h9) rfl dX5_hasInScope_1 ?_
  refine lv_iload_n hx hb dX5_hasInScope_4 rfl (lv_at hl 1 rfl) ?_
  refine lv_ishr hx hb dX5_hasInScope_5 ?_
  refine lv_iconst (v := 1) hx hb dX5_hasInScope_6 (by decide) ?_
  refine lv_iand hx hb dX5_hasInScope_7 ?_
  refine lv_iconst (v := 1) hx hb dX5_hasInScope_8 (by decide) ?_
  obtain ⟨aj5, h1aj5, kaj5⟩ := ob1 h
  have haj5 : ∀ (v3 : Int32) (H : Heap) (lc : List Loc) (cn sn : Nat) (ls : Array Slot), aj5 = v3 → wH g s.heap.size (w, mm) H lc → lv_has ls 2 [] → W p l e (rmO g 0 0 s.heap) s mi args below meth cd H lc cn sn Q (F0 mi 17 ls [.int v3]) := by
    intro v3 H lc cn sn ls h hw hl
    replace h := kaj5 _ h
    obtain ⟨c4, h⟩ := og h
    replace h := (Option.some.inj h).symm
    subst h
    exact hret _ _ _ _ _ _ _ dX5_hasInScope_17 c4 hw rfl
  replace h := h1aj5
  refine lv_icmp_ne (tgt := 16) hx hb dX5_hasInScope_9 (by decide) (fun c2 => ?_) (fun c2 => ?_)
  · replace h := oe c2 h
    refine lv_iconst (v := 0) hx hb dX5_hasInScope_16 (by decide) ?_
    replace h := (Option.some.inj h).symm
    exact haj5 _ _ _ _ _ _ h hw (lv_sub hl [] rfl)
  · replace h := ot c2 h
    refine lv_iconst (v := 1) hx hb dX5_hasInScope_12 (by decide) ?_
    refine lv_goto (tgt := 17) hx hb dX5_hasInScope_13 (by decide) ?_
    replace h := (Option.some.inj h).symm
    exact haj5 _ _ _ _ _ _ h hw (lv_sub hl [] rfl)

set_option maxHeartbeats 4000000 in
set_option maxRecDepth 100000 in
theorem c_X5_conflictsWith (g : GG) (l : Launch) (hG : XG g) (hst : l.stackTraces = false) (mm : MS) (o : Nat) (p0 : Nat) (w : CS) (r : Int32) (h : x_X5_conflictsWith o p0 w = some r) : MetG g l yX5_conflictsWith wsX5_conflictsWith 0 0 [rv o, rv p0] (w, mm) (some (.int r)) (w, mm) := by
  refine g_start_z (some (.int r)) (own := RX5) (by decide +kernel) rfl rfl (by simp [lg_sl, rv_cat, ct_i, ct_l]) ?_
  intro p e s mi args below meth cd ls Q hX hnm hw hl hret
  have hl : lv_has ls 2 [(0, rv o), (1, rv p0)] := by simpa [lv_args, rv_cat, ct_i, ct_l] using hl
  obtain ⟨⟨hx, hb, -, hown, hts⟩, -⟩ := id hX
  unfold x_X5_conflictsWith at h
  refine t_aload_n hx hb dX5_conflictsWith_0 rfl (lv_at hl 0 rfl) ?_
  obtain ⟨c1, h⟩ := og h
  refine c_gf (C := RX5) (TT := TX5) (N := 4) (ref := "TabStore$Transaction") (v := .int (wI w 82 o)) hX hw (ce_2 c1) rfl 2 (by decide +kernel) (by decide) (by decide +kernel) (fun _ h9 => h9) rfl dX5_conflictsWith_1 ?_
  refine t_aload_n hx hb dX5_conflictsWith_4 rfl (lv_at hl 1 rfl) ?_
  obtain ⟨c2, h⟩ := og h
  refine c_gf (C := RX5) (TT := TX5) (N := 4) (ref := "TabStore$Transaction") (v := .int (wI w 82 p0)) hX hw (ce_2 c2) rfl 2 (by decide +kernel) (by decide) (by decide +kernel) (fun _ h9 => h9) rfl dX5_conflictsWith_5 ?_
  refine lv_iand hx hb dX5_conflictsWith_8 ?_
  obtain ⟨aj10, h1aj10, kaj10⟩ := ob1 h
  have haj10 : ∀ (v8 : Int32) (H : Heap) (lc : List Loc) (cn sn : Nat) (ls : Array Slot), aj10 = v8 → wH g s.heap.size (w, mm) H lc → lv_has ls 2 [] → W p l e (rmO g 0 0 s.heap) s mi args below meth cd H lc cn sn Q (F0 mi 31 ls [.int v8]) := by
    intro v8 H lc cn sn ls h hw hl
    replace h := kaj10 _ h
    obtain ⟨c9, h⟩ := og h
    replace h := (Option.some.inj h).symm
    subst h
    exact hret _ _ _ _ _ _ _ dX5_conflictsWith_31 c9 hw rfl
  replace h := h1aj10
  obtain ⟨aj7, h1aj7, kaj7, raj7⟩ := ol0 h
  have haj7 : ∀ (H : Heap) (lc : List Loc) (cn sn : Nat) (ls : Array Slot), aj7 = Sum.inl () → wH g s.heap.size (w, mm) H lc → lv_has ls 2 [] → W p l e (rmO g 0 0 s.heap) s mi args below meth cd H lc cn sn Q (F0 mi 30 ls []) := by
    intro H lc cn sn ls h hw hl
    replace h := kaj7 h
    refine lv_iconst (v := 0) hx hb dX5_conflictsWith_30 (by decide) ?_
    replace h := (Option.some.inj h).symm
    exact haj10 _ _ _ _ _ _ h hw (lv_sub hl [] rfl)
  replace h := h1aj7
  refine lv_if_eq (tgt := 30) hx hb dX5_conflictsWith_9 (by decide) (fun c3 => ?_) (fun c3 => ?_)
  · replace h := ot c3 h
    replace h := (Option.some.inj h).symm
    exact haj7 _ _ _ _ _ h hw (lv_sub hl [] rfl)
  · replace h := oe c3 h
    refine t_aload_n hx hb dX5_conflictsWith_12 rfl (lv_at hl 0 rfl) ?_
    refine c_gf (C := RX5) (TT := TX5) (N := 4) (ref := "TabStore$Transaction") (v := .int (wI w 81 o)) hX hw (ce_2 c1) rfl 1 (by decide +kernel) (by decide) (by decide +kernel) (fun _ h9 => h9) rfl dX5_conflictsWith_13 ?_
    obtain ⟨aj6, h1aj6, kaj6, raj6⟩ := ol0 h
    have haj6 : ∀ (H : Heap) (lc : List Loc) (cn sn : Nat) (ls : Array Slot), aj6 = Sum.inl () → wH g s.heap.size (w, mm) H lc → lv_has ls 2 [] → W p l e (rmO g 0 0 s.heap) s mi args below meth cd H lc cn sn Q (F0 mi 26 ls []) := by
      intro H lc cn sn ls h hw hl
      replace h := kaj6 h
      refine lv_iconst (v := 1) hx hb dX5_conflictsWith_26 (by decide) ?_
      refine lv_goto (tgt := 31) hx hb dX5_conflictsWith_27 (by decide) ?_
      replace h := (Option.some.inj h).symm
      replace h := raj7 _ h
      exact haj10 _ _ _ _ _ _ h hw (lv_sub hl [] rfl)
    replace h := h1aj6
    refine lv_if_ne (tgt := 26) hx hb dX5_conflictsWith_16 (by decide) (fun c4 => ?_) (fun c4 => ?_)
    · replace h := oe c4 h
      replace h := (Option.some.inj h).symm
      exact haj6 _ _ _ _ _ h hw (lv_sub hl [] rfl)
    · replace h := ot c4 h
      refine t_aload_n hx hb dX5_conflictsWith_19 rfl (lv_at hl 1 rfl) ?_
      refine c_gf (C := RX5) (TT := TX5) (N := 4) (ref := "TabStore$Transaction") (v := .int (wI w 81 p0)) hX hw (ce_2 c2) rfl 1 (by decide +kernel) (by decide) (by decide +kernel) (fun _ h9 => h9) rfl dX5_conflictsWith_20 ?_
      refine lv_if_eq (tgt := 30) hx hb dX5_conflictsWith_23 (by decide) (fun c5 => ?_) (fun c5 => ?_)
      · replace h := ot c5 h
        replace h := (Option.some.inj h).symm
        replace h := raj6 _ h
        exact haj7 _ _ _ _ _ h hw (lv_sub hl [] rfl)
      · replace h := oe c5 h
        replace h := (Option.some.inj h).symm
        exact haj6 _ _ _ _ _ h hw (lv_sub hl [] rfl)

set_option maxHeartbeats 4000000 in
set_option maxRecDepth 100000 in
theorem c_X2_init (g : GG) (l : Launch) (hG : XG g) (hst : l.stackTraces = false) (mm : MS) (o : Nat) (p0 : Int32) (p1 : Int32) (p2 : Int32) (p3 : Int32) (w : CS) (w' : CS) (h : x_X2_init o p0 p1 p2 p3 w = some w') : MetG g l yX2_init wsX2_init 1 12 [rv o, .int p0, .int p1, .int p2, .int p3] (w, mm) (none) (w', mm) := by
  refine g_start_v (none) (own := RX2) (by decide +kernel) rfl rfl (by simp [lg_sl, rv_cat, ct_i, ct_l]) ?_
  intro p e s mi args below meth cd ls Q hX hnm hw hl hret
  have hl : lv_has ls 5 [(0, rv o), (1, .int p0), (2, .int p1), (3, .int p2), (4, .int p3)] := by simpa [lv_args, rv_cat, ct_i, ct_l] using hl
  obtain ⟨⟨hx, hb, -, hown, hts⟩, -⟩ := id hX
  unfold x_X2_init at h
  refine t_aload_n hx hb dX2_init_0 rfl (lv_at hl 0 rfl) ?_
  obtain ⟨c1, h⟩ := og h
  refine c_oinit hX (x_nz hw c1) (by decide +kernel) (by decide +kernel) (by decide +kernel) hl.1 dX2_init_1 ⟨by decide, by simp [rv_cat, ct_i, ct_l]⟩ ?_
  refine t_aload_n hx hb dX2_init_4 rfl (lv_at hl 0 rfl) ?_
  refine lv_iload_n hx hb dX2_init_5 rfl (lv_at hl 1 rfl) ?_
  obtain ⟨w2, ew2, h⟩ := ol h
  refine p_1_0 hX hw c1 hnm rfl (by decide +kernel) (by decide +kernel) dX2_init_6 (fun H lc hw => ?_)
  have hw := hw_eq ew2 hw
  refine t_aload_n hx hb dX2_init_9 rfl (lv_at hl 0 rfl) ?_
  refine lv_iload_n hx hb dX2_init_10 rfl (lv_at hl 2 rfl) ?_
  obtain ⟨c3, h⟩ := og h
  obtain ⟨w4, ew4, h⟩ := ol h
  refine p_1_1 hX hw c3 hnm rfl (by decide +kernel) (by decide +kernel) dX2_init_11 (fun H lc hw => ?_)
  have hw := hw_eq ew4 hw
  refine t_aload_n hx hb dX2_init_14 rfl (lv_at hl 0 rfl) ?_
  refine lv_iload_n hx hb dX2_init_15 rfl (lv_at hl 3 rfl) ?_
  obtain ⟨c5, h⟩ := og h
  obtain ⟨w6, ew6, h⟩ := ol h
  refine p_1_2 hX hw c5 hnm rfl (by decide +kernel) (by decide +kernel) dX2_init_16 (fun H lc hw => ?_)
  have hw := hw_eq ew6 hw
  refine t_aload_n hx hb dX2_init_19 rfl (lv_at hl 0 rfl) ?_
  refine lv_iload hx hb dX2_init_20 (lv_at hl 4 rfl) ?_
  obtain ⟨c7, h⟩ := og h
  obtain ⟨w8, ew8, h⟩ := ol h
  refine p_1_3 hX hw c7 hnm rfl (by decide +kernel) (by decide +kernel) dX2_init_22 (fun H lc hw => ?_)
  have hw := hw_eq ew8 hw
  replace h := (Option.some.inj h).symm
  subst h
  exact hret _ _ _ _ _ _ dX2_init_25 hw rfl

set_option maxHeartbeats 4000000 in
set_option maxRecDepth 100000 in
theorem c_X2_number (g : GG) (l : Launch) (hG : XG g) (hst : l.stackTraces = false) (mm : MS) (o : Nat) (p0 : Int32) (w : CS) (r : Int32) (h : x_X2_number o p0 w = some r) : MetG g l yX2_number wsX2_number 0 0 [rv o, .int p0] (w, mm) (some (.int r)) (w, mm) := by
  refine g_start_i (some (.int r)) (own := RX2) (by decide +kernel) rfl rfl (by simp [lg_sl, rv_cat, ct_i, ct_l]) ?_
  intro p e s mi args below meth cd ls Q hX hnm hw hl hret
  have hl : lv_has ls 2 [(0, rv o), (1, .int p0)] := by simpa [lv_args, rv_cat, ct_i, ct_l] using hl
  obtain ⟨⟨hx, hb, -, hown, hts⟩, -⟩ := id hX
  unfold x_X2_number at h
  refine lv_iload_n hx hb dX2_number_0 rfl (lv_at hl 1 rfl) ?_
  obtain ⟨aj5, h1aj5, kaj5⟩ := ob1 h
  have haj5 : ∀ (v4 : Int32) (H : Heap) (lc : List Loc) (cn sn : Nat) (ls : Array Slot), aj5 = v4 → wH g s.heap.size (w, mm) H lc → lv_has ls 2 [] → W p l e (rmO g 0 0 s.heap) s mi args below meth cd H lc cn sn Q (F0 mi 15 ls [.int v4]) := by
    intro v4 H lc cn sn ls h hw hl
    replace h := kaj5 _ h
    replace h := (Option.some.inj h).symm
    subst h
    exact hret _ _ _ _ _ _ _ dX2_number_15 hw rfl
  replace h := h1aj5
  refine lv_if_ne (tgt := 11) hx hb dX2_number_1 (by decide) (fun c1 => ?_) (fun c1 => ?_)
  · replace h := oe c1 h
    refine t_aload_n hx hb dX2_number_11 rfl (lv_at hl 0 rfl) ?_
    obtain ⟨c2, h⟩ := og h
    refine c_gf (C := RX2) (TT := TX2) (N := 4) (ref := "TabStore$Row") (v := .int (wI w 43 o)) hX hw (ce_1 c2) rfl 3 (by decide +kernel) (by decide) (by decide +kernel) (fun _ h9 => h9) rfl dX2_number_12 ?_
    replace h := (Option.some.inj h).symm
    exact haj5 _ _ _ _ _ _ h hw (lv_sub hl [] rfl)
  · replace h := ot c1 h
    refine t_aload_n hx hb dX2_number_4 rfl (lv_at hl 0 rfl) ?_
    obtain ⟨c3, h⟩ := og h
    refine c_gf (C := RX2) (TT := TX2) (N := 4) (ref := "TabStore$Row") (v := .int (wI w 42 o)) hX hw (ce_1 c3) rfl 2 (by decide +kernel) (by decide) (by decide +kernel) (fun _ h9 => h9) rfl dX2_number_5 ?_
    refine lv_goto (tgt := 15) hx hb dX2_number_8 (by decide) ?_
    replace h := (Option.some.inj h).symm
    exact haj5 _ _ _ _ _ _ h hw (lv_sub hl [] rfl)

set_option maxHeartbeats 4000000 in
set_option maxRecDepth 100000 in
theorem c_X2_isBetween (g : GG) (l : Launch) (hG : XG g) (hst : l.stackTraces = false) (mm : MS) (o : Nat) (p0 : Int32) (p1 : Int32) (w : CS) (r : Int32) (h : x_X2_isBetween o p0 p1 w = some r) : MetG g l yX2_isBetween wsX2_isBetween 1 21 [rv o, .int p0, .int p1] (w, mm) (some (.int r)) (w, mm) := by
  refine g_start_z (some (.int r)) (own := RX2) (by decide +kernel) rfl rfl (by simp [lg_sl, rv_cat, ct_i, ct_l]) ?_
  intro p e s mi args below meth cd ls Q hX hnm hw hl hret
  have hl : lv_has ls 4 [(0, rv o), (1, .int p0), (2, .int p1)] := by simpa [lv_args, rv_cat, ct_i, ct_l] using hl
  obtain ⟨⟨hx, hb, -, hown, hts⟩, -⟩ := id hX
  unfold x_X2_isBetween at h
  refine t_aload_n hx hb dX2_isBetween_0 rfl (lv_at hl 0 rfl) ?_
  obtain ⟨c1, h⟩ := og h
  refine c_gf (C := RX2) (TT := TX2) (N := 4) (ref := "TabStore$Row") (v := .int (wI w 40 o)) hX hw (ce_1 c1) rfl 0 (by decide +kernel) (by decide) (by decide +kernel) (fun _ h9 => h9) rfl dX2_isBetween_1 ?_
  obtain ⟨v3, e2, h⟩ := ob h
  refine g_callSi (n := 1) (As := [.int (wI w 40 o)]) (rest := []) hX hw (c_X1_rank g l hG hst mm (wI w 40 o) w v3 e2) gX2_isBetween_X1_rank rfl (by decide +kernel) rfl hl.1 rfl (Nat.le_of_ble_eq_true rfl) ⟨by decide, by decide⟩ dX2_isBetween_4 (fun H lc cn sn hw => ?_)
  refine lv_istore_n (lv' := [(3, .int v3), (0, rv o), (1, .int p0), (2, .int p1)]) hx hb dX2_isBetween_7 rfl hl (by decide) rfl (fun ls hl => ?_)
  refine lv_iload_n hx hb dX2_isBetween_8 rfl (lv_at hl 0 rfl) ?_
  refine lv_iload_n hx hb dX2_isBetween_9 rfl (lv_at hl 2 rfl) ?_
  obtain ⟨v5, e4, h⟩ := ob h
  refine g_callSi (n := 1) (As := [.int p0]) (rest := [.int v3]) hX hw (c_X1_rank g l hG hst mm p0 w v5 e4) gX2_isBetween_X1_rank rfl (by decide +kernel) rfl hl.1 rfl (Nat.le_of_ble_eq_true rfl) ⟨by decide, by decide⟩ dX2_isBetween_10 (fun H lc cn sn hw => ?_)
  obtain ⟨aj13, h1aj13, kaj13⟩ := ob1 h
  have haj13 : ∀ (v11 : Int32) (H : Heap) (lc : List Loc) (cn sn : Nat) (ls : Array Slot), aj13 = v11 → wH g s.heap.size (w, mm) H lc → lv_has ls 4 [] → W p l e (rmO g 1 21 s.heap) s mi args below meth cd H lc cn sn Q (F0 mi 29 ls [.int v11]) := by
    intro v11 H lc cn sn ls h hw hl
    replace h := kaj13 _ h
    obtain ⟨c12, h⟩ := og h
    replace h := (Option.some.inj h).symm
    subst h
    exact hret _ _ _ _ _ _ _ dX2_isBetween_29 c12 hw rfl
  replace h := h1aj13
  obtain ⟨aj10, h1aj10, kaj10, raj10⟩ := ol0 h
  have haj10 : ∀ (H : Heap) (lc : List Loc) (cn sn : Nat) (ls : Array Slot), aj10 = Sum.inl () → wH g s.heap.size (w, mm) H lc → lv_has ls 4 [] → W p l e (rmO g 1 21 s.heap) s mi args below meth cd H lc cn sn Q (F0 mi 28 ls []) := by
    intro H lc cn sn ls h hw hl
    replace h := kaj10 h
    refine lv_iconst (v := 0) hx hb dX2_isBetween_28 (by decide) ?_
    replace h := (Option.some.inj h).symm
    exact haj13 _ _ _ _ _ _ h hw (lv_sub hl [] rfl)
  replace h := h1aj10
  refine lv_icmp_lt (tgt := 28) hx hb dX2_isBetween_13 (by decide) (fun c6 => ?_) (fun c6 => ?_)
  · replace h := ot c6 h
    replace h := (Option.some.inj h).symm
    exact haj10 _ _ _ _ _ h hw (lv_sub hl [] rfl)
  · replace h := oe c6 h
    refine lv_iload_n hx hb dX2_isBetween_16 rfl (lv_at hl 0 rfl) ?_
    refine lv_iload_n hx hb dX2_isBetween_17 rfl (lv_at hl 3 rfl) ?_
    obtain ⟨v8, e7, h⟩ := ob h
    refine g_callSi (n := 1) (As := [.int p1]) (rest := [.int v3]) hX hw (c_X1_rank g l hG hst mm p1 w v8 e7) gX2_isBetween_X1_rank rfl (by decide +kernel) rfl hl.1 rfl (Nat.le_of_ble_eq_true rfl) ⟨by decide, by decide⟩ dX2_isBetween_18 (fun H lc cn sn hw => ?_)
    refine lv_icmp_gt (tgt := 28) hx hb dX2_isBetween_21 (by decide) (fun c9 => ?_) (fun c9 => ?_)
    · replace h := ot c9 h
      replace h := (Option.some.inj h).symm
      exact haj10 _ _ _ _ _ h hw (lv_sub hl [] rfl)
    · replace h := oe c9 h
      refine lv_iconst (v := 1) hx hb dX2_isBetween_24 (by decide) ?_
      refine lv_goto (tgt := 29) hx hb dX2_isBetween_25 (by decide) ?_
      replace h := (Option.some.inj h).symm
      replace h := raj10 _ h
      exact haj13 _ _ _ _ _ _ h hw (lv_sub hl [] rfl)

set_option maxHeartbeats 4000000 in
set_option maxRecDepth 100000 in
theorem c_X2_place (g : GG) (l : Launch) (hG : XG g) (hst : l.stackTraces = false) (mm : MS) (o : Nat) (p0 : Int32) (w : CS) (r : Int64) (h : x_X2_place o p0 w = some r) : MetG g l yX2_place wsX2_place 1 21 [rv o, .int p0] (w, mm) (some (.long r)) (w, mm) := by
  refine g_start_l (some (.long r)) (own := RX2) (by decide +kernel) rfl rfl (by simp [lg_sl, rv_cat, ct_i, ct_l]) ?_
  intro p e s mi args below meth cd ls Q hX hnm hw hl hret
  have hl : lv_has ls 3 [(0, rv o), (1, .int p0)] := by simpa [lv_args, rv_cat, ct_i, ct_l] using hl
  obtain ⟨⟨hx, hb, -, hown, hts⟩, -⟩ := id hX
  unfold x_X2_place at h
  refine lv_iload_n hx hb dX2_place_0 rfl (lv_at hl 1 rfl) ?_
  refine lv_iconst (v := (-1)) hx hb dX2_place_1 (by decide) ?_
  refine lv_icmp_ne (tgt := 14) hx hb dX2_place_2 (by decide) (fun c1 => ?_) (fun c1 => ?_)
  · replace h := oe c1 h
    refine t_aload_n hx hb dX2_place_14 rfl (lv_at hl 0 rfl) ?_
    refine lv_iload_n hx hb dX2_place_15 rfl (lv_at hl 1 rfl) ?_
    obtain ⟨c2, h⟩ := og h
    obtain ⟨v4, e3, h⟩ := ob h
    refine g_callVi (n := 1) (As := [.int p0]) (rest := []) hX hw (c_X2_number g l hG hst mm o p0 w v4 e3) gX2_place_X2_number rfl (by decide +kernel) rfl (x_nz hw c2) (c_recv hX hw (ce_1 c2) rfl) hl.1 rfl (Nat.le_of_ble_eq_true rfl) ⟨by decide, by decide⟩ dX2_place_16 (fun H lc cn sn hw => ?_)
    refine lv_istore_n (lv' := [(2, .int v4), (0, rv o), (1, .int p0)]) hx hb dX2_place_19 rfl hl (by decide) rfl (fun ls hl => ?_)
    refine lv_iload_n hx hb dX2_place_20 rfl (lv_at hl 0 rfl) ?_
    refine lv_iconst (v := (-1)) hx hb dX2_place_21 (by decide) ?_
    obtain ⟨aj9, h1aj9, kaj9⟩ := ob1 h
    have haj9 : ∀ (v8 : Int64) (H : Heap) (lc : List Loc) (cn sn : Nat) (ls : Array Slot), aj9 = v8 → wH g s.heap.size (w, mm) H lc → lv_has ls 3 [] → W p l e (rmO g 1 21 s.heap) s mi args below meth cd H lc cn sn Q (F0 mi 46 ls [.long v8]) := by
      intro v8 H lc cn sn ls h hw hl
      replace h := kaj9 _ h
      replace h := (Option.some.inj h).symm
      subst h
      exact hret _ _ _ _ _ _ _ dX2_place_46 hw rfl
    replace h := h1aj9
    refine lv_icmp_ne (tgt := 31) hx hb dX2_place_22 (by decide) (fun c5 => ?_) (fun c5 => ?_)
    · replace h := oe c5 h
      refine lv_iload_n hx hb dX2_place_31 rfl (lv_at hl 0 rfl) ?_
      refine lv_i2l (v := v4.toInt64) hx hb dX2_place_32 rfl ?_
      refine lv_ldc2 (v := 4000000) hx hb hown (hts (.constantLong RX2 35 (4000000)) (by decide +kernel)) dX2_place_33 ?_
      refine lv_lmul hx hb dX2_place_36 ?_
      refine t_aload_n hx hb dX2_place_37 rfl (lv_at hl 1 rfl) ?_
      refine c_gf (C := RX2) (TT := TX2) (N := 4) (ref := "TabStore$Row") (v := .int (wI w 40 o)) hX hw (ce_1 c2) rfl 0 (by decide +kernel) (by decide) (by decide +kernel) (fun _ h9 => h9) rfl dX2_place_38 ?_
      obtain ⟨v7, e6, h⟩ := ob h
      refine g_callSi (n := 1) (As := [.int (wI w 40 o)]) (rest := [.long (v4.toInt64 * 4000000)]) hX hw (c_X1_rank g l hG hst mm (wI w 40 o) w v7 e6) gX2_place_X1_rank rfl (by decide +kernel) rfl hl.1 rfl (Nat.le_of_ble_eq_true rfl) ⟨by decide, by decide⟩ dX2_place_41 (fun H lc cn sn hw => ?_)
      refine lv_i2l (v := v7.toInt64) hx hb dX2_place_44 rfl ?_
      refine lv_ladd hx hb dX2_place_45 ?_
      replace h := (Option.some.inj h).symm
      exact haj9 _ _ _ _ _ _ h hw (lv_sub hl [] rfl)
    · replace h := ot c5 h
      refine lv_ldc2 (v := (-1)) hx hb hown (hts (.constantLong RX2 33 (-1)) (by decide +kernel)) dX2_place_25 ?_
      refine lv_goto (tgt := 46) hx hb dX2_place_28 (by decide) ?_
      replace h := (Option.some.inj h).symm
      exact haj9 _ _ _ _ _ _ h hw (lv_sub hl [] rfl)
  · replace h := ot c1 h
    refine t_aload_n hx hb dX2_place_5 rfl (lv_at hl 0 rfl) ?_
    obtain ⟨c10, h⟩ := og h
    refine c_gf (C := RX2) (TT := TX2) (N := 4) (ref := "TabStore$Row") (v := .int (wI w 40 o)) hX hw (ce_1 c10) rfl 0 (by decide +kernel) (by decide) (by decide +kernel) (fun _ h9 => h9) rfl dX2_place_6 ?_
    obtain ⟨v12, e11, h⟩ := ob h
    refine g_callSi (n := 1) (As := [.int (wI w 40 o)]) (rest := []) hX hw (c_X1_rank g l hG hst mm (wI w 40 o) w v12 e11) gX2_place_X1_rank rfl (by decide +kernel) rfl hl.1 rfl (Nat.le_of_ble_eq_true rfl) ⟨by decide, by decide⟩ dX2_place_9 (fun H lc cn sn hw => ?_)
    refine lv_i2l (v := v12.toInt64) hx hb dX2_place_12 rfl ?_
    replace h := (Option.some.inj h).symm
    subst h
    exact hret _ _ _ _ _ _ _ dX2_place_13 hw rfl

set_option maxHeartbeats 4000000 in
set_option maxRecDepth 100000 in
theorem c_X2_startOfNumber (g : GG) (l : Launch) (hG : XG g) (hst : l.stackTraces = false) (mm : MS) (p0 : Int64) (w : CS) (r : Int64) (h : x_X2_startOfNumber p0 = some r) : MetG g l yX2_startOfNumber wsX2_startOfNumber 0 0 [.long p0] (w, mm) (some (.long r)) (w, mm) := by
  refine g_start_l (some (.long r)) (own := RX2) (by decide +kernel) rfl rfl (by simp [lg_sl, rv_cat, ct_i, ct_l]) ?_
  intro p e s mi args below meth cd ls Q hX hnm hw hl hret
  have hl : lv_has ls 2 [(0, .long p0)] := by simpa [lv_args, rv_cat, ct_i, ct_l] using hl
  obtain ⟨⟨hx, hb, -, hown, hts⟩, -⟩ := id hX
  unfold x_X2_startOfNumber at h
  refine lv_lload_n hx hb dX2_startOfNumber_0 rfl (lv_at hl 0 rfl) ?_
  refine lv_lload_n hx hb dX2_startOfNumber_1 rfl (lv_at hl 0 rfl) ?_
  refine lv_ldc2 (v := 4000000) hx hb hown (hts (.constantLong RX2 35 (4000000)) (by decide +kernel)) dX2_startOfNumber_2 ?_
  refine lv_lrem hx hb dX2_startOfNumber_5 (by decide) ?_
  refine lv_lsub hx hb dX2_startOfNumber_6 ?_
  replace h := (Option.some.inj h).symm
  subst h
  exact hret _ _ _ _ _ _ _ dX2_startOfNumber_7 hw rfl

set_option maxHeartbeats 4000000 in
set_option maxRecDepth 100000 in
theorem c_X3_size (g : GG) (l : Launch) (hG : XG g) (hst : l.stackTraces = false) (mm : MS) (o : Nat) (w : CS) (r : Int32) (h : x_X3_size o w = some r) : MetG g l yX3_size wsX3_size 1 20 [rv o] (w, mm) (some (.int r)) (w, mm) := by
  refine g_start_i (some (.int r)) (own := RX3) (by decide +kernel) rfl rfl (by simp [lg_sl, rv_cat, ct_i, ct_l]) ?_
  intro p e s mi args below meth cd ls Q hX hnm hw hl hret
  have hl : lv_has ls 1 [(0, rv o)] := by simpa [lv_args, rv_cat, ct_i, ct_l] using hl
  obtain ⟨⟨hx, hb, -, hown, hts⟩, -⟩ := id hX
  unfold x_X3_size at h
  refine t_aload_n hx hb dX3_size_0 rfl (lv_at hl 0 rfl) ?_
  obtain ⟨c1, h⟩ := og h
  refine c_gf (C := RX3) (TT := TX3) (N := 3) (ref := "TabStore$Store") (v := rv (wJ w 202 o)) hX hw (ce_5 c1) rfl 2 (by decide +kernel) (by decide) (by decide +kernel) (fun _ h9 => h9) rfl dX3_size_1 ?_
  obtain ⟨c2, h⟩ := og h
  obtain ⟨v4, e3, h⟩ := ob h
  refine g_callFi (n := 0) (As := []) (rest := []) hX hw (c_Jx4a65c_size_8abf5 g l hG hst mm (wJ w 202 o) w v4 e3) gX3_size_Jx4a65c_size_8abf5_f26Jx4a65c rfl (by decide +kernel) rfl (x_nz hw c2) (c_recv hX hw (ce_7 c2) rfl) ((hG s hX.2.1.2.1).2.1.1) (show vwCl[0]? = some (RJx4a65c, TJx4a65c, 3) from rfl) hl.1 rfl (Nat.le_of_ble_eq_true rfl) ⟨by decide, by decide⟩ dX3_size_4 (fun H lc cn sn hw => ?_)
  replace h := (Option.some.inj h).symm
  subst h
  exact hret _ _ _ _ _ _ _ dX3_size_9 hw rfl

set_option maxHeartbeats 4000000 in
set_option maxRecDepth 100000 in
theorem c_X3_wipe (g : GG) (l : Launch) (hG : XG g) (hst : l.stackTraces = false) (mm : MS) (o : Nat) (w : CS) (w' : CS) (h : x_X3_wipe o w = some w') : MetG g l yX3_wipe wsX3_wipe 1 23 [rv o] (w, mm) (none) (w', mm) := by
  refine g_start_v (none) (own := RX3) (by decide +kernel) rfl rfl (by simp [lg_sl, rv_cat, ct_i, ct_l]) ?_
  intro p e s mi args below meth cd ls Q hX hnm hw hl hret
  have hl : lv_has ls 2 [(0, rv o)] := by simpa [lv_args, rv_cat, ct_i, ct_l] using hl
  obtain ⟨⟨hx, hb, -, hown, hts⟩, -⟩ := id hX
  unfold x_X3_wipe at h
  refine t_aload_n hx hb dX3_wipe_0 rfl (lv_at hl 0 rfl) ?_
  refine lv_iconst (v := 0) hx hb dX3_wipe_1 (by decide) ?_
  obtain ⟨c1, h⟩ := og h
  obtain ⟨c2, h⟩ := og h
  obtain ⟨w3, ew3, h⟩ := ol h
  refine p_5_0 hX hw c1 c2 (by decide +kernel) (by decide +kernel) dX3_wipe_2 (fun H lc hw => ?_)
  have hw := hw_eq ew3 hw
  refine t_aload_n hx hb dX3_wipe_5 rfl (lv_at hl 0 rfl) ?_
  obtain ⟨c4, h⟩ := og h
  refine c_gf (C := RX3) (TT := TX3) (N := 3) (ref := "TabStore$Store") (v := rv (wJ w3 202 o)) hX hw (ce_5 c4) rfl 2 (by decide +kernel) (by decide) (by decide +kernel) (fun _ h9 => h9) rfl dX3_wipe_6 ?_
  obtain ⟨c5, h⟩ := og h
  obtain ⟨w7, e6, h⟩ := ob h
  refine g_callFv (n := 0) (As := []) (rest := []) hX hw (c_Jx4a65c_clear_da8c8 g l hG hst mm (wJ w3 202 o) w3 w7 e6) gX3_wipe_Jx4a65c_clear_da8c8_f32Jx4a65c rfl (by decide +kernel) rfl (x_nz hw c5) (c_recv hX hw (ce_7 c5) rfl) ((hG s hX.2.1.2.1).2.1.2.2.2.2.2) (show vwCl[0]? = some (RJx4a65c, TJx4a65c, 3) from rfl) hl.1 rfl (Nat.le_of_ble_eq_true rfl) ⟨by decide, by decide⟩ dX3_wipe_9 (fun H lc cn sn hw => ?_)
  refine lv_iconst (v := 0) hx hb dX3_wipe_14 (by decide) ?_
  refine lv_istore_n (lv' := [(1, .int 0), (0, rv o)]) hx hb dX3_wipe_15 rfl hl (by decide) (by simp [rv_cat, ct_i, ct_l] <;> decide) (fun ls hl => ?_)
  obtain ⟨aj16, h1aj16, kaj16⟩ := ob1 h
  have haj16 : ∀ (w15 : CS) (H : Heap) (lc : List Loc) (cn sn : Nat) (ls : Array Slot), aj16 = w15 → wH g s.heap.size (w15, mm) H lc → lv_has ls 2 [] → W p l e (rmO g 1 23 s.heap) s mi args below meth cd H lc cn sn Q (F0 mi 38 ls []) := by
    intro w15 H lc cn sn ls h hw hl
    replace h := kaj16 _ h
    replace h := (Option.some.inj h).symm
    subst h
    exact hret _ _ _ _ _ _ dX3_wipe_38 hw rfl
  have hkj16 : ∀ (n : Nat) (v8 : Int32) (w9 : CS) (H : Heap) (lc : List Loc) (cn sn : Nat) (ls : Array Slot), x_X3_wipe_L1 o n v8 w9 = some aj16 → wH g s.heap.size (w9, mm) H lc → lv_has ls 2 [(1, .int v8), (0, rv o)] → W p l e (rmO g 1 23 s.heap) s mi args below meth cd H lc cn sn Q (F0 mi 16 ls []) := by
    intro n
    induction n with
    | zero =>
      intro v8 w9 H lc cn sn ls h
      rw [x_X3_wipe_L1] at h
      cases h
    | succ n ih =>
      intro v8 w9 H lc cn sn ls h hw hl
      rw [x_X3_wipe_L1] at h
      refine lv_iload_n hx hb dX3_wipe_16 rfl (lv_at hl 0 rfl) ?_
      refine t_aload_n hx hb dX3_wipe_17 rfl (lv_at hl 1 rfl) ?_
      obtain ⟨c10, h⟩ := og h
      refine c_gf (C := RX3) (TT := TX3) (N := 3) (ref := "TabStore$Store") (v := rv (wJ w9 201 o)) hX hw (ce_5 c10) rfl 1 (by decide +kernel) (by decide) (by decide +kernel) (fun _ h9 => h9) rfl dX3_wipe_18 ?_
      obtain ⟨c11, h⟩ := og h
      refine c_alen hX hw 0 (ae_8 c11) rfl dX3_wipe_21 ?_
      refine lv_icmp_ge (tgt := 38) hx hb dX3_wipe_22 (by decide) (fun c12 => ?_) (fun c12 => ?_)
      · replace h := ot c12 h
        replace h := (Option.some.inj h).symm
        exact haj16 _ _ _ _ _ _ h hw (lv_sub hl [] rfl)
      · replace h := oe c12 h
        refine t_aload_n hx hb dX3_wipe_25 rfl (lv_at hl 1 rfl) ?_
        refine c_gf (C := RX3) (TT := TX3) (N := 3) (ref := "TabStore$Store") (v := rv (wJ w9 201 o)) hX hw (ce_5 c10) rfl 1 (by decide +kernel) (by decide) (by decide +kernel) (fun _ h9 => h9) rfl dX3_wipe_26 ?_
        refine lv_iload_n hx hb dX3_wipe_29 rfl (lv_at hl 0 rfl) ?_
        refine lv_iconst (v := 0) hx hb dX3_wipe_30 (by decide) ?_
        obtain ⟨c13, h⟩ := og h
        obtain ⟨w14, ew14, h⟩ := ol h
        refine c_ist hX hw c11 c13 dX3_wipe_31 (fun H lc hw => ?_)
        have hw := hw_eq ew14 hw
        refine lv_iinc (v := (v8 + 1)) (lv' := [(1, .int (v8 + 1)), (0, rv o)]) hx hb dX3_wipe_32 hl (k := 0) rfl (by rfl) (by decide) (by simp [rv_cat, ct_i, ct_l] <;> decide) (fun ls hl => ?_)
        refine lv_goto (tgt := 16) hx hb dX3_wipe_35 (by decide) ?_
        exact ih _ _ _ _ _ _ _ h hw (lv_sub hl [0, 1] rfl)
  exact hkj16 FU 0 w7 _ _ _ _ _ h1aj16 hw (lv_sub hl [0, 1] rfl)

set_option maxHeartbeats 4000000 in
set_option maxRecDepth 100000 in
theorem c_X3_takeOver (g : GG) (l : Launch) (hG : XG g) (hst : l.stackTraces = false) (mm : MS) (o : Nat) (p0 : Nat) (w : CS) (w' : CS) (h : x_X3_takeOver o p0 w = some w') : MetG g l yX3_takeOver wsX3_takeOver 7 171 [rv o, rv p0] (w, mm) (none) (w', mm) := by
  refine g_start_v (none) (own := RX3) (by decide +kernel) rfl rfl (by simp [lg_sl, rv_cat, ct_i, ct_l]) ?_
  intro p e s mi args below meth cd ls Q hX hnm hw hl hret
  have hl : lv_has ls 3 [(0, rv o), (1, rv p0)] := by simpa [lv_args, rv_cat, ct_i, ct_l] using hl
  obtain ⟨⟨hx, hb, -, hown, hts⟩, -⟩ := id hX
  unfold x_X3_takeOver at h
  refine t_aload_n hx hb dX3_takeOver_0 rfl (lv_at hl 0 rfl) ?_
  refine t_aload_n hx hb dX3_takeOver_1 rfl (lv_at hl 1 rfl) ?_
  obtain ⟨c1, h⟩ := og h
  refine c_gf (C := RX3) (TT := TX3) (N := 3) (ref := "TabStore$Store") (v := .int (wI w 200 p0)) hX hw (ce_5 c1) rfl 0 (by decide +kernel) (by decide) (by decide +kernel) (fun _ h9 => h9) rfl dX3_takeOver_2 ?_
  obtain ⟨c2, h⟩ := og h
  obtain ⟨c3, h⟩ := og h
  obtain ⟨w4, ew4, h⟩ := ol h
  refine p_5_0 hX hw c2 c3 (by decide +kernel) (by decide +kernel) dX3_takeOver_5 (fun H lc hw => ?_)
  have hw := hw_eq ew4 hw
  refine lv_iconst (v := 0) hx hb dX3_takeOver_8 (by decide) ?_
  refine lv_istore_n (lv' := [(2, .int 0), (0, rv o), (1, rv p0)]) hx hb dX3_takeOver_9 rfl hl (by decide) (by simp [rv_cat, ct_i, ct_l] <;> decide) (fun ls hl => ?_)
  obtain ⟨aj38, h1aj38, kaj38⟩ := ob1 h
  have haj38 : ∀ (w16 : CS) (H : Heap) (lc : List Loc) (cn sn : Nat) (ls : Array Slot), aj38 = w16 → wH g s.heap.size (w16, mm) H lc → lv_has ls 3 [(0, rv o), (1, rv p0)] → W p l e (rmO g 7 171 s.heap) s mi args below meth cd H lc cn sn Q (F0 mi 46 ls []) := by
    intro w16 H lc cn sn ls h hw hl
    replace h := kaj38 _ h
    refine t_aload_n hx hb dX3_takeOver_46 rfl (lv_at hl 0 rfl) ?_
    obtain ⟨c17, h⟩ := og h
    refine c_gf (C := RX3) (TT := TX3) (N := 3) (ref := "TabStore$Store") (v := rv (wJ w16 202 o)) hX hw (ce_5 c17) rfl 2 (by decide +kernel) (by decide) (by decide +kernel) (fun _ h9 => h9) rfl dX3_takeOver_47 ?_
    obtain ⟨c18, h⟩ := og h
    obtain ⟨w20, e19, h⟩ := ob h
    refine g_callFv (n := 0) (As := []) (rest := []) hX hw (c_Jx4a65c_clear_da8c8 g l hG hst mm (wJ w16 202 o) w16 w20 e19) gX3_takeOver_Jx4a65c_clear_da8c8_f32Jx4a65c rfl (by decide +kernel) rfl (x_nz hw c18) (c_recv hX hw (ce_7 c18) rfl) ((hG s hX.2.1.2.1).2.1.2.2.2.2.2) (show vwCl[0]? = some (RJx4a65c, TJx4a65c, 3) from rfl) hl.1 rfl (Nat.le_of_ble_eq_true rfl) ⟨by decide, by decide⟩ dX3_takeOver_50 (fun H lc cn sn hw => ?_)
    refine lv_iconst (v := 0) hx hb dX3_takeOver_55 (by decide) ?_
    refine lv_istore_n (lv' := [(2, .int 0), (0, rv o), (1, rv p0)]) hx hb dX3_takeOver_56 rfl hl (by decide) (by simp [rv_cat, ct_i, ct_l] <;> decide) (fun ls hl => ?_)
    obtain ⟨aj37, h1aj37, kaj37⟩ := ob1 h
    have haj37 : ∀ (w36 : CS) (H : Heap) (lc : List Loc) (cn sn : Nat) (ls : Array Slot), aj37 = w36 → wH g s.heap.size (w36, mm) H lc → lv_has ls 3 [] → W p l e (rmO g 7 171 s.heap) s mi args below meth cd H lc cn sn Q (F0 mi 99 ls []) := by
      intro w36 H lc cn sn ls h hw hl
      replace h := kaj37 _ h
      replace h := (Option.some.inj h).symm
      subst h
      exact hret _ _ _ _ _ _ dX3_takeOver_99 hw rfl
    have hkj37 : ∀ (n : Nat) (v21 : Int32) (w22 : CS) (H : Heap) (lc : List Loc) (cn sn : Nat) (ls : Array Slot), x_X3_takeOver_L2 o p0 n v21 w22 = some aj37 → wH g s.heap.size (w22, mm) H lc → lv_has ls 3 [(2, .int v21), (0, rv o), (1, rv p0)] → W p l e (rmO g 7 171 s.heap) s mi args below meth cd H lc cn sn Q (F0 mi 57 ls []) := by
      intro n
      induction n with
      | zero =>
        intro v21 w22 H lc cn sn ls h
        rw [x_X3_takeOver_L2] at h
        cases h
      | succ n ih =>
        intro v21 w22 H lc cn sn ls h hw hl
        rw [x_X3_takeOver_L2] at h
        refine lv_iload_n hx hb dX3_takeOver_57 rfl (lv_at hl 0 rfl) ?_
        refine t_aload_n hx hb dX3_takeOver_58 rfl (lv_at hl 2 rfl) ?_
        obtain ⟨c23, h⟩ := og h
        refine c_gf (C := RX3) (TT := TX3) (N := 3) (ref := "TabStore$Store") (v := rv (wJ w22 202 p0)) hX hw (ce_5 c23) rfl 2 (by decide +kernel) (by decide) (by decide +kernel) (fun _ h9 => h9) rfl dX3_takeOver_59 ?_
        obtain ⟨c24, h⟩ := og h
        obtain ⟨v26, e25, h⟩ := ob h
        refine g_callFi (n := 0) (As := []) (rest := [.int v21]) hX hw (c_Jx4a65c_size_8abf5 g l hG hst mm (wJ w22 202 p0) w22 v26 e25) gX3_takeOver_Jx4a65c_size_8abf5_f26Jx4a65c rfl (by decide +kernel) rfl (x_nz hw c24) (c_recv hX hw (ce_7 c24) rfl) ((hG s hX.2.1.2.1).2.1.1) (show vwCl[0]? = some (RJx4a65c, TJx4a65c, 3) from rfl) hl.1 rfl (Nat.le_of_ble_eq_true rfl) ⟨by decide, by decide⟩ dX3_takeOver_62 (fun H lc cn sn hw => ?_)
        refine lv_icmp_ge (tgt := 99) hx hb dX3_takeOver_67 (by decide) (fun c27 => ?_) (fun c27 => ?_)
        · replace h := ot c27 h
          replace h := (Option.some.inj h).symm
          exact haj37 _ _ _ _ _ _ h hw (lv_sub hl [] rfl)
        · replace h := oe c27 h
          refine t_aload_n hx hb dX3_takeOver_70 rfl (lv_at hl 1 rfl) ?_
          obtain ⟨c28, h⟩ := og h
          refine c_gf (C := RX3) (TT := TX3) (N := 3) (ref := "TabStore$Store") (v := rv (wJ w22 202 o)) hX hw (ce_5 c28) rfl 2 (by decide +kernel) (by decide) (by decide +kernel) (fun _ h9 => h9) rfl dX3_takeOver_71 ?_
          refine t_aload_n hx hb dX3_takeOver_74 rfl (lv_at hl 2 rfl) ?_
          refine c_gf (C := RX3) (TT := TX3) (N := 3) (ref := "TabStore$Store") (v := rv (wJ w22 202 p0)) hX hw (ce_5 c23) rfl 2 (by decide +kernel) (by decide) (by decide +kernel) (fun _ h9 => h9) rfl dX3_takeOver_75 ?_
          refine lv_iload_n hx hb dX3_takeOver_78 rfl (lv_at hl 0 rfl) ?_
          obtain ⟨v30, e29, h⟩ := ob h
          refine g_callFa (n := 1) (As := [.int v21]) (rest := [rv (wJ w22 202 o)]) hX hw (c_Jx4a65c_get_915e3 g l hG hst mm (wJ w22 202 p0) v21 w22 v30 e29) gX3_takeOver_Jx4a65c_get_915e3_f35Jx4a65c rfl (by decide +kernel) rfl (x_nz hw c24) (c_recv hX hw (ce_7 c24) rfl) ((hG s hX.2.1.2.1).2.1.2.1) (show vwCl[0]? = some (RJx4a65c, TJx4a65c, 3) from rfl) hl.1 rfl (by simp [rv_cat, ct_i, ct_l]) ⟨by decide, by decide⟩ dX3_takeOver_79 (fun H lc cn sn hw => ?_)
          obtain ⟨c31, h⟩ := og h
          refine c_cast hX hw (c31.imp id ce_1) rfl (by decide +kernel) dX3_takeOver_84 ?_
          obtain ⟨c32, h⟩ := og h
          obtain ⟨v34, w35, e33, h⟩ := oc2 h
          refine g_callFi (n := 1) (As := [rv v30]) (rest := []) hX hw (c_Jx4a65c_add_9ea2d g l hG hst mm (wJ w22 202 o) v30 w22 v34 w35 e33) gX3_takeOver_Jx4a65c_add_9ea2d_f41Jx4a65c rfl (by decide +kernel) rfl (x_nz hw c32) (c_recv hX hw (ce_7 c32) rfl) ((hG s hX.2.1.2.1).2.1.2.2.2.1) (show vwCl[0]? = some (RJx4a65c, TJx4a65c, 3) from rfl) hl.1 rfl (Nat.le_of_ble_eq_true rfl) ⟨by decide, by decide⟩ dX3_takeOver_87 (fun H lc cn sn hw => ?_)
          refine lv_pop hx hb dX3_takeOver_92 rfl ?_
          refine lv_iinc (v := (v21 + 1)) (lv' := [(2, .int (v21 + 1)), (0, rv o), (1, rv p0)]) hx hb dX3_takeOver_93 hl (k := 0) rfl (by rfl) (by decide) (by simp [rv_cat, ct_i, ct_l] <;> decide) (fun ls hl => ?_)
          refine lv_goto (tgt := 57) hx hb dX3_takeOver_96 (by decide) ?_
          exact ih _ _ _ _ _ _ _ h hw (lv_sub hl [0, 1, 2] rfl)
    exact hkj37 FU 0 w20 _ _ _ _ _ h1aj37 hw (lv_sub hl [0, 1, 2] rfl)
  have hkj38 : ∀ (n : Nat) (v5 : Int32) (w6 : CS) (H : Heap) (lc : List Loc) (cn sn : Nat) (ls : Array Slot), x_X3_takeOver_L1 o p0 n v5 w6 = some aj38 → wH g s.heap.size (w6, mm) H lc → lv_has ls 3 [(2, .int v5), (0, rv o), (1, rv p0)] → W p l e (rmO g 7 171 s.heap) s mi args below meth cd H lc cn sn Q (F0 mi 10 ls []) := by
    intro n
    induction n with
    | zero =>
      intro v5 w6 H lc cn sn ls h
      rw [x_X3_takeOver_L1] at h
      cases h
    | succ n ih =>
      intro v5 w6 H lc cn sn ls h hw hl
      rw [x_X3_takeOver_L1] at h
      refine lv_iload_n hx hb dX3_takeOver_10 rfl (lv_at hl 0 rfl) ?_
      refine t_aload_n hx hb dX3_takeOver_11 rfl (lv_at hl 1 rfl) ?_
      obtain ⟨c7, h⟩ := og h
      refine c_gf (C := RX3) (TT := TX3) (N := 3) (ref := "TabStore$Store") (v := rv (wJ w6 201 o)) hX hw (ce_5 c7) rfl 1 (by decide +kernel) (by decide) (by decide +kernel) (fun _ h9 => h9) rfl dX3_takeOver_12 ?_
      obtain ⟨c8, h⟩ := og h
      refine c_alen hX hw 0 (ae_8 c8) rfl dX3_takeOver_15 ?_
      refine lv_icmp_ge (tgt := 46) hx hb dX3_takeOver_16 (by decide) (fun c9 => ?_) (fun c9 => ?_)
      · replace h := ot c9 h
        replace h := (Option.some.inj h).symm
        exact haj38 _ _ _ _ _ _ h hw (lv_sub hl [1, 2] rfl)
      · replace h := oe c9 h
        refine lv_iload_n hx hb dX3_takeOver_19 rfl (lv_at hl 0 rfl) ?_
        refine t_aload_n hx hb dX3_takeOver_20 rfl (lv_at hl 2 rfl) ?_
        obtain ⟨c10, h⟩ := og h
        refine c_gf (C := RX3) (TT := TX3) (N := 3) (ref := "TabStore$Store") (v := rv (wJ w6 201 p0)) hX hw (ce_5 c10) rfl 1 (by decide +kernel) (by decide) (by decide +kernel) (fun _ h9 => h9) rfl dX3_takeOver_21 ?_
        obtain ⟨c11, h⟩ := og h
        refine c_alen hX hw 0 (ae_8 c11) rfl dX3_takeOver_24 ?_
        refine lv_icmp_ge (tgt := 46) hx hb dX3_takeOver_25 (by decide) (fun c12 => ?_) (fun c12 => ?_)
        · replace h := ot c12 h
          replace h := (Option.some.inj h).symm
          exact haj38 _ _ _ _ _ _ h hw (lv_sub hl [1, 2] rfl)
        · replace h := oe c12 h
          refine t_aload_n hx hb dX3_takeOver_28 rfl (lv_at hl 1 rfl) ?_
          refine c_gf (C := RX3) (TT := TX3) (N := 3) (ref := "TabStore$Store") (v := rv (wJ w6 201 o)) hX hw (ce_5 c7) rfl 1 (by decide +kernel) (by decide) (by decide +kernel) (fun _ h9 => h9) rfl dX3_takeOver_29 ?_
          refine lv_iload_n hx hb dX3_takeOver_32 rfl (lv_at hl 0 rfl) ?_
          refine t_aload_n hx hb dX3_takeOver_33 rfl (lv_at hl 2 rfl) ?_
          refine c_gf (C := RX3) (TT := TX3) (N := 3) (ref := "TabStore$Store") (v := rv (wJ w6 201 p0)) hX hw (ce_5 c10) rfl 1 (by decide +kernel) (by decide) (by decide +kernel) (fun _ h9 => h9) rfl dX3_takeOver_34 ?_
          refine lv_iload_n hx hb dX3_takeOver_37 rfl (lv_at hl 0 rfl) ?_
          obtain ⟨c13, h⟩ := og h
          refine c_ild hX hw c11 c13 dX3_takeOver_38 ?_
          obtain ⟨c14, h⟩ := og h
          obtain ⟨w15, ew15, h⟩ := ol h
          refine c_ist hX hw c8 c14 dX3_takeOver_39 (fun H lc hw => ?_)
          have hw := hw_eq ew15 hw
          refine lv_iinc (v := (v5 + 1)) (lv' := [(2, .int (v5 + 1)), (0, rv o), (1, rv p0)]) hx hb dX3_takeOver_40 hl (k := 0) rfl (by rfl) (by decide) (by simp [rv_cat, ct_i, ct_l] <;> decide) (fun ls hl => ?_)
          refine lv_goto (tgt := 10) hx hb dX3_takeOver_43 (by decide) ?_
          exact ih _ _ _ _ _ _ _ h hw (lv_sub hl [0, 1, 2] rfl)
  exact hkj38 FU 0 w4 _ _ _ _ _ h1aj38 hw (lv_sub hl [0, 1, 2] rfl)

set_option maxHeartbeats 4000000 in
set_option maxRecDepth 100000 in
theorem c_X3_hasIndex (g : GG) (l : Launch) (hG : XG g) (hst : l.stackTraces = false) (mm : MS) (o : Nat) (p0 : Int32) (w : CS) (r : Int32) (h : x_X3_hasIndex o p0 w = some r) : MetG g l yX3_hasIndex wsX3_hasIndex 0 0 [rv o, .int p0] (w, mm) (some (.int r)) (w, mm) := by
  refine g_start_z (some (.int r)) (own := RX3) (by decide +kernel) rfl rfl (by simp [lg_sl, rv_cat, ct_i, ct_l]) ?_
  intro p e s mi args below meth cd ls Q hX hnm hw hl hret
  have hl : lv_has ls 2 [(0, rv o), (1, .int p0)] := by simpa [lv_args, rv_cat, ct_i, ct_l] using hl
  obtain ⟨⟨hx, hb, -, hown, hts⟩, -⟩ := id hX
  unfold x_X3_hasIndex at h
  refine lv_iload_n hx hb dX3_hasIndex_0 rfl (lv_at hl 1 rfl) ?_
  obtain ⟨aj10, h1aj10, kaj10⟩ := ob1 h
  have haj10 : ∀ (v8 : Int32) (H : Heap) (lc : List Loc) (cn sn : Nat) (ls : Array Slot), aj10 = v8 → wH g s.heap.size (w, mm) H lc → lv_has ls 2 [] → W p l e (rmO g 0 0 s.heap) s mi args below meth cd H lc cn sn Q (F0 mi 27 ls [.int v8]) := by
    intro v8 H lc cn sn ls h hw hl
    replace h := kaj10 _ h
    obtain ⟨c9, h⟩ := og h
    replace h := (Option.some.inj h).symm
    subst h
    exact hret _ _ _ _ _ _ _ dX3_hasIndex_27 c9 hw rfl
  replace h := h1aj10
  obtain ⟨aj7, h1aj7, kaj7, raj7⟩ := ol0 h
  have haj7 : ∀ (H : Heap) (lc : List Loc) (cn sn : Nat) (ls : Array Slot), aj7 = Sum.inl () → wH g s.heap.size (w, mm) H lc → lv_has ls 2 [] → W p l e (rmO g 0 0 s.heap) s mi args below meth cd H lc cn sn Q (F0 mi 26 ls []) := by
    intro H lc cn sn ls h hw hl
    replace h := kaj7 h
    refine lv_iconst (v := 0) hx hb dX3_hasIndex_26 (by decide) ?_
    replace h := (Option.some.inj h).symm
    exact haj10 _ _ _ _ _ _ h hw (lv_sub hl [] rfl)
  replace h := h1aj7
  refine lv_if_lt (tgt := 26) hx hb dX3_hasIndex_1 (by decide) (fun c1 => ?_) (fun c1 => ?_)
  · replace h := ot c1 h
    replace h := (Option.some.inj h).symm
    exact haj7 _ _ _ _ _ h hw (lv_sub hl [] rfl)
  · replace h := oe c1 h
    refine lv_iload_n hx hb dX3_hasIndex_4 rfl (lv_at hl 1 rfl) ?_
    refine t_aload_n hx hb dX3_hasIndex_5 rfl (lv_at hl 0 rfl) ?_
    obtain ⟨c2, h⟩ := og h
    refine c_gf (C := RX3) (TT := TX3) (N := 3) (ref := "TabStore$Store") (v := rv (wJ w 201 o)) hX hw (ce_5 c2) rfl 1 (by decide +kernel) (by decide) (by decide +kernel) (fun _ h9 => h9) rfl dX3_hasIndex_6 ?_
    obtain ⟨c3, h⟩ := og h
    refine c_alen hX hw 0 (ae_8 c3) rfl dX3_hasIndex_9 ?_
    refine lv_icmp_ge (tgt := 26) hx hb dX3_hasIndex_10 (by decide) (fun c4 => ?_) (fun c4 => ?_)
    · replace h := ot c4 h
      replace h := (Option.some.inj h).symm
      exact haj7 _ _ _ _ _ h hw (lv_sub hl [] rfl)
    · replace h := oe c4 h
      refine t_aload_n hx hb dX3_hasIndex_13 rfl (lv_at hl 0 rfl) ?_
      refine c_gf (C := RX3) (TT := TX3) (N := 3) (ref := "TabStore$Store") (v := rv (wJ w 201 o)) hX hw (ce_5 c2) rfl 1 (by decide +kernel) (by decide) (by decide +kernel) (fun _ h9 => h9) rfl dX3_hasIndex_14 ?_
      refine lv_iload_n hx hb dX3_hasIndex_17 rfl (lv_at hl 1 rfl) ?_
      obtain ⟨c5, h⟩ := og h
      refine c_ild hX hw c3 c5 dX3_hasIndex_18 ?_
      refine lv_if_eq (tgt := 26) hx hb dX3_hasIndex_19 (by decide) (fun c6 => ?_) (fun c6 => ?_)
      · replace h := ot c6 h
        replace h := (Option.some.inj h).symm
        exact haj7 _ _ _ _ _ h hw (lv_sub hl [] rfl)
      · replace h := oe c6 h
        refine lv_iconst (v := 1) hx hb dX3_hasIndex_22 (by decide) ?_
        refine lv_goto (tgt := 27) hx hb dX3_hasIndex_23 (by decide) ?_
        replace h := (Option.some.inj h).symm
        replace h := raj7 _ h
        exact haj10 _ _ _ _ _ _ h hw (lv_sub hl [] rfl)

set_option maxHeartbeats 4000000 in
set_option maxRecDepth 100000 in
theorem c_X3_addIndex (g : GG) (l : Launch) (hG : XG g) (hst : l.stackTraces = false) (mm : MS) (o : Nat) (p0 : Int32) (p1 : Int32) (w : CS) (w' : CS) (h : x_X3_addIndex o p0 p1 w = some w') : MetG g l yX3_addIndex wsX3_addIndex 0 0 [rv o, .int p0, .int p1] (w, mm) (none) (w', mm) := by
  refine g_start_v (none) (own := RX3) (by decide +kernel) rfl rfl (by simp [lg_sl, rv_cat, ct_i, ct_l]) ?_
  intro p e s mi args below meth cd ls Q hX hnm hw hl hret
  have hl : lv_has ls 3 [(0, rv o), (1, .int p0), (2, .int p1)] := by simpa [lv_args, rv_cat, ct_i, ct_l] using hl
  obtain ⟨⟨hx, hb, -, hown, hts⟩, -⟩ := id hX
  unfold x_X3_addIndex at h
  refine lv_iload_n hx hb dX3_addIndex_0 rfl (lv_at hl 1 rfl) ?_
  obtain ⟨aj11, h1aj11, kaj11⟩ := ob1 h
  have haj11 : ∀ (w10 : CS) (H : Heap) (lc : List Loc) (cn sn : Nat) (ls : Array Slot), aj11 = w10 → wH g s.heap.size (w10, mm) H lc → lv_has ls 3 [] → W p l e (rmO g 0 0 s.heap) s mi args below meth cd H lc cn sn Q (F0 mi 28 ls []) := by
    intro w10 H lc cn sn ls h hw hl
    replace h := kaj11 _ h
    replace h := (Option.some.inj h).symm
    subst h
    exact hret _ _ _ _ _ _ dX3_addIndex_28 hw rfl
  replace h := h1aj11
  refine lv_if_lt (tgt := 28) hx hb dX3_addIndex_1 (by decide) (fun c1 => ?_) (fun c1 => ?_)
  · replace h := ot c1 h
    replace h := (Option.some.inj h).symm
    exact haj11 _ _ _ _ _ _ h hw (lv_sub hl [] rfl)
  · replace h := oe c1 h
    refine lv_iload_n hx hb dX3_addIndex_4 rfl (lv_at hl 1 rfl) ?_
    refine t_aload_n hx hb dX3_addIndex_5 rfl (lv_at hl 0 rfl) ?_
    obtain ⟨c2, h⟩ := og h
    refine c_gf (C := RX3) (TT := TX3) (N := 3) (ref := "TabStore$Store") (v := rv (wJ w 201 o)) hX hw (ce_5 c2) rfl 1 (by decide +kernel) (by decide) (by decide +kernel) (fun _ h9 => h9) rfl dX3_addIndex_6 ?_
    obtain ⟨c3, h⟩ := og h
    refine c_alen hX hw 0 (ae_8 c3) rfl dX3_addIndex_9 ?_
    refine lv_icmp_ge (tgt := 28) hx hb dX3_addIndex_10 (by decide) (fun c4 => ?_) (fun c4 => ?_)
    · replace h := ot c4 h
      replace h := (Option.some.inj h).symm
      exact haj11 _ _ _ _ _ _ h hw (lv_sub hl [] rfl)
    · replace h := oe c4 h
      refine t_aload_n hx hb dX3_addIndex_13 rfl (lv_at hl 0 rfl) ?_
      refine c_gf (C := RX3) (TT := TX3) (N := 3) (ref := "TabStore$Store") (v := rv (wJ w 201 o)) hX hw (ce_5 c2) rfl 1 (by decide +kernel) (by decide) (by decide +kernel) (fun _ h9 => h9) rfl dX3_addIndex_14 ?_
      refine lv_iload_n hx hb dX3_addIndex_17 rfl (lv_at hl 1 rfl) ?_
      refine lv_iload_n hx hb dX3_addIndex_18 rfl (lv_at hl 2 rfl) ?_
      obtain ⟨aj9, h1aj9, kaj9⟩ := ob1 h
      have haj9 : ∀ (v6 : Int32) (H : Heap) (lc : List Loc) (cn sn : Nat) (ls : Array Slot), aj9 = v6 → wH g s.heap.size (w, mm) H lc → lv_has ls 3 [] → W p l e (rmO g 0 0 s.heap) s mi args below meth cd H lc cn sn Q (F0 mi 27 ls [.int v6, .int p0, rv (wJ w 201 o)]) := by
        intro v6 H lc cn sn ls h hw hl
        replace h := kaj9 _ h
        obtain ⟨c7, h⟩ := og h
        obtain ⟨w8, ew8, h⟩ := ol h
        refine c_ist hX hw c3 c7 dX3_addIndex_27 (fun H lc hw => ?_)
        have hw := hw_eq ew8 hw
        replace h := (Option.some.inj h).symm
        exact haj11 _ _ _ _ _ _ h hw (lv_sub hl [] rfl)
      replace h := h1aj9
      refine lv_if_eq (tgt := 26) hx hb dX3_addIndex_19 (by decide) (fun c5 => ?_) (fun c5 => ?_)
      · replace h := ot c5 h
        refine lv_iconst (v := 1) hx hb dX3_addIndex_26 (by decide) ?_
        replace h := (Option.some.inj h).symm
        exact haj9 _ _ _ _ _ _ h hw (lv_sub hl [] rfl)
      · replace h := oe c5 h
        refine lv_iconst (v := 2) hx hb dX3_addIndex_22 (by decide) ?_
        refine lv_goto (tgt := 27) hx hb dX3_addIndex_23 (by decide) ?_
        replace h := (Option.some.inj h).symm
        exact haj9 _ _ _ _ _ _ h hw (lv_sub hl [] rfl)

set_option maxHeartbeats 4000000 in
set_option maxRecDepth 100000 in
theorem c_X3_isTaken (g : GG) (l : Launch) (hG : XG g) (hst : l.stackTraces = false) (mm : MS) (o : Nat) (p0 : Int32) (p1 : Nat) (w : CS) (r : Int32) (h : x_X3_isTaken o p0 p1 w = some r) : MetG g l yX3_isTaken wsX3_isTaken 3 64 [rv o, .int p0, rv p1] (w, mm) (some (.int r)) (w, mm) := by
  refine g_start_z (some (.int r)) (own := RX3) (by decide +kernel) rfl rfl (by simp [lg_sl, rv_cat, ct_i, ct_l]) ?_
  intro p e s mi args below meth cd ls Q hX hnm hw hl hret
  have hl : lv_has ls 6 [(0, rv o), (1, .int p0), (2, rv p1)] := by simpa [lv_args, rv_cat, ct_i, ct_l] using hl
  obtain ⟨⟨hx, hb, -, hown, hts⟩, -⟩ := id hX
  unfold x_X3_isTaken at h
  refine t_aload_n hx hb dX3_isTaken_0 rfl (lv_at hl 2 rfl) ?_
  refine lv_iload_n hx hb dX3_isTaken_1 rfl (lv_at hl 1 rfl) ?_
  obtain ⟨c1, h⟩ := og h
  obtain ⟨v3, e2, h⟩ := ob h
  refine g_callVi (n := 1) (As := [.int p0]) (rest := []) hX hw (c_X2_number g l hG hst mm p1 p0 w v3 e2) gX3_isTaken_X2_number rfl (by decide +kernel) rfl (x_nz hw c1) (c_recv hX hw (ce_1 c1) rfl) hl.1 rfl (Nat.le_of_ble_eq_true rfl) ⟨by decide, by decide⟩ dX3_isTaken_2 (fun H lc cn sn hw => ?_)
  refine lv_istore_n (lv' := [(3, .int v3), (0, rv o), (1, .int p0), (2, rv p1)]) hx hb dX3_isTaken_5 rfl hl (by decide) (by simp [rv_cat, ct_i, ct_l] <;> decide) (fun ls hl => ?_)
  refine lv_iload_n hx hb dX3_isTaken_6 rfl (lv_at hl 0 rfl) ?_
  refine lv_iconst (v := (-1)) hx hb dX3_isTaken_7 (by decide) ?_
  refine lv_icmp_ne (tgt := 13) hx hb dX3_isTaken_8 (by decide) (fun c4 => ?_) (fun c4 => ?_)
  · replace h := oe c4 h
    refine lv_iconst (v := 0) hx hb dX3_isTaken_13 (by decide) ?_
    refine lv_istore (lv' := [(4, .int 0), (3, .int v3), (0, rv o), (1, .int p0), (2, rv p1)]) hx hb dX3_isTaken_14 hl (by decide) rfl (fun ls hl => ?_)
    obtain ⟨aj22, h1aj22, kaj22, raj22⟩ := ol0 h
    have haj22 : ∀ (H : Heap) (lc : List Loc) (cn sn : Nat) (ls : Array Slot), aj22 = Sum.inl () → wH g s.heap.size (w, mm) H lc → lv_has ls 6 [] → W p l e (rmO g 3 64 s.heap) s mi args below meth cd H lc cn sn Q (F0 mi 76 ls []) := by
      intro H lc cn sn ls h hw hl
      replace h := kaj22 h
      refine lv_iconst (v := 0) hx hb dX3_isTaken_76 (by decide) ?_
      obtain ⟨c21, h⟩ := og h
      replace h := (Option.some.inj h).symm
      subst h
      exact hret _ _ _ _ _ _ _ dX3_isTaken_77 c21 hw rfl
    have hkj22 : ∀ (n : Nat) (v5 : Int32) (H : Heap) (lc : List Loc) (cn sn : Nat) (ls : Array Slot), x_X3_isTaken_L1 o p0 p1 v3 w n v5 = some aj22 → wH g s.heap.size (w, mm) H lc → lv_has ls 6 [(4, .int v5), (3, .int v3), (0, rv o), (1, .int p0), (2, rv p1)] → W p l e (rmO g 3 64 s.heap) s mi args below meth cd H lc cn sn Q (F0 mi 16 ls []) := by
      intro n
      induction n with
      | zero =>
        intro v5 H lc cn sn ls h
        rw [x_X3_isTaken_L1] at h
        cases h
      | succ n ih =>
        intro v5 H lc cn sn ls h hw hl
        rw [x_X3_isTaken_L1] at h
        refine lv_iload hx hb dX3_isTaken_16 (lv_at hl 0 rfl) ?_
        refine t_aload_n hx hb dX3_isTaken_18 rfl (lv_at hl 2 rfl) ?_
        obtain ⟨c6, h⟩ := og h
        refine c_gf (C := RX3) (TT := TX3) (N := 3) (ref := "TabStore$Store") (v := rv (wJ w 202 o)) hX hw (ce_5 c6) rfl 2 (by decide +kernel) (by decide) (by decide +kernel) (fun _ h9 => h9) rfl dX3_isTaken_19 ?_
        obtain ⟨c7, h⟩ := og h
        obtain ⟨v9, e8, h⟩ := ob h
        refine g_callFi (n := 0) (As := []) (rest := [.int v5]) hX hw (c_Jx4a65c_size_8abf5 g l hG hst mm (wJ w 202 o) w v9 e8) gX3_isTaken_Jx4a65c_size_8abf5_f26Jx4a65c rfl (by decide +kernel) rfl (x_nz hw c7) (c_recv hX hw (ce_7 c7) rfl) ((hG s hX.2.1.2.1).2.1.1) (show vwCl[0]? = some (RJx4a65c, TJx4a65c, 3) from rfl) hl.1 rfl (Nat.le_of_ble_eq_true rfl) ⟨by decide, by decide⟩ dX3_isTaken_22 (fun H lc cn sn hw => ?_)
        refine lv_icmp_ge (tgt := 76) hx hb dX3_isTaken_27 (by decide) (fun c10 => ?_) (fun c10 => ?_)
        · replace h := ot c10 h
          replace h := (Option.some.inj h).symm
          exact haj22 _ _ _ _ _ h hw (lv_sub hl [] rfl)
        · replace h := oe c10 h
          refine t_aload_n hx hb dX3_isTaken_30 rfl (lv_at hl 2 rfl) ?_
          refine c_gf (C := RX3) (TT := TX3) (N := 3) (ref := "TabStore$Store") (v := rv (wJ w 202 o)) hX hw (ce_5 c6) rfl 2 (by decide +kernel) (by decide) (by decide +kernel) (fun _ h9 => h9) rfl dX3_isTaken_31 ?_
          refine lv_iload hx hb dX3_isTaken_34 (lv_at hl 0 rfl) ?_
          obtain ⟨v12, e11, h⟩ := ob h
          refine g_callFa (n := 1) (As := [.int v5]) (rest := []) hX hw (c_Jx4a65c_get_915e3 g l hG hst mm (wJ w 202 o) v5 w v12 e11) gX3_isTaken_Jx4a65c_get_915e3_f35Jx4a65c rfl (by decide +kernel) rfl (x_nz hw c7) (c_recv hX hw (ce_7 c7) rfl) ((hG s hX.2.1.2.1).2.1.2.1) (show vwCl[0]? = some (RJx4a65c, TJx4a65c, 3) from rfl) hl.1 rfl (Nat.le_of_ble_eq_true rfl) ⟨by decide, by decide⟩ dX3_isTaken_36 (fun H lc cn sn hw => ?_)
          obtain ⟨c13, h⟩ := og h
          refine c_cast hX hw (c13.imp id ce_1) rfl (by decide +kernel) dX3_isTaken_41 ?_
          refine t_astore (lv' := [(5, rv v12), (4, .int v5), (3, .int v3), (0, rv o), (1, .int p0), (2, rv p1)]) hx hb dX3_isTaken_44 hl (by decide) rfl (fun ls hl => ?_)
          refine t_aload hx hb dX3_isTaken_46 (lv_at hl 0 rfl) ?_
          obtain ⟨c14, h⟩ := og h
          refine c_gf (C := RX2) (TT := TX2) (N := 4) (ref := "TabStore$Row") (v := .int (wI w 40 v12)) hX hw (ce_1 c14) rfl 0 (by decide +kernel) (by decide) (by decide +kernel) (fun _ h9 => h9) rfl dX3_isTaken_48 ?_
          refine t_aload_n hx hb dX3_isTaken_51 rfl (lv_at hl 5 rfl) ?_
          refine c_gf (C := RX2) (TT := TX2) (N := 4) (ref := "TabStore$Row") (v := .int (wI w 40 p1)) hX hw (ce_1 c1) rfl 0 (by decide +kernel) (by decide) (by decide +kernel) (fun _ h9 => h9) rfl dX3_isTaken_52 ?_
          obtain ⟨aj20, h1aj20, kaj20, raj20⟩ := ol0 h
          have haj20 : ∀ (H : Heap) (lc : List Loc) (cn sn : Nat) (ls : Array Slot), aj20 = Sum.inl () → wH g s.heap.size (w, mm) H lc → lv_has ls 6 [(4, .int v5), (3, .int v3), (0, rv o), (1, .int p0), (2, rv p1)] → W p l e (rmO g 3 64 s.heap) s mi args below meth cd H lc cn sn Q (F0 mi 70 ls []) := by
            intro H lc cn sn ls h hw hl
            replace h := kaj20 h
            refine lv_iinc (v := (v5 + 1)) (lv' := [(4, .int (v5 + 1)), (3, .int v3), (0, rv o), (1, .int p0), (2, rv p1)]) hx hb dX3_isTaken_70 hl (k := 0) rfl (by rfl) (by decide) rfl (fun ls hl => ?_)
            refine lv_goto (tgt := 16) hx hb dX3_isTaken_73 (by decide) ?_
            exact ih _ _ _ _ _ _ h hw (lv_sub hl [0, 1, 2, 3, 4] rfl)
          replace h := h1aj20
          refine lv_icmp_eq (tgt := 70) hx hb dX3_isTaken_55 (by decide) (fun c15 => ?_) (fun c15 => ?_)
          · replace h := ot c15 h
            replace h := (Option.some.inj h).symm
            exact haj20 _ _ _ _ _ h hw (lv_sub hl [1, 2, 3, 4, 5] rfl)
          · replace h := oe c15 h
            refine t_aload hx hb dX3_isTaken_58 (lv_at hl 0 rfl) ?_
            refine lv_iload_n hx hb dX3_isTaken_60 rfl (lv_at hl 4 rfl) ?_
            obtain ⟨v17, e16, h⟩ := ob h
            refine g_callVi (n := 1) (As := [.int p0]) (rest := []) hX hw (c_X2_number g l hG hst mm v12 p0 w v17 e16) gX3_isTaken_X2_number rfl (by decide +kernel) rfl (x_nz hw c14) (c_recv hX hw (ce_1 c14) rfl) hl.1 rfl (Nat.le_of_ble_eq_true rfl) ⟨by decide, by decide⟩ dX3_isTaken_61 (fun H lc cn sn hw => ?_)
            refine lv_iload_n hx hb dX3_isTaken_64 rfl (lv_at hl 2 rfl) ?_
            refine lv_icmp_ne (tgt := 70) hx hb dX3_isTaken_65 (by decide) (fun c18 => ?_) (fun c18 => ?_)
            · replace h := oe c18 h
              replace h := (Option.some.inj h).symm
              exact haj20 _ _ _ _ _ h hw (lv_sub hl [1, 2, 3, 4, 5] rfl)
            · replace h := ot c18 h
              refine lv_iconst (v := 1) hx hb dX3_isTaken_68 (by decide) ?_
              obtain ⟨c19, h⟩ := og h
              replace h := (Option.some.inj h).symm
              replace h := raj20 _ h
              replace h := raj22 _ h
              subst h
              exact hret _ _ _ _ _ _ _ dX3_isTaken_69 c19 hw rfl
    exact hkj22 FU 0 _ _ _ _ _ h1aj22 hw (lv_sub hl [0, 1, 2, 3, 4] rfl)
  · replace h := ot c4 h
    refine lv_iconst (v := 0) hx hb dX3_isTaken_11 (by decide) ?_
    obtain ⟨c23, h⟩ := og h
    replace h := (Option.some.inj h).symm
    subst h
    exact hret _ _ _ _ _ _ _ dX3_isTaken_12 c23 hw rfl

set_option maxHeartbeats 4000000 in
set_option maxRecDepth 100000 in
theorem c_X3_hasDoubles (g : GG) (l : Launch) (hG : XG g) (hst : l.stackTraces = false) (mm : MS) (o : Nat) (p0 : Int32) (w : CS) (r : Int32) (h : x_X3_hasDoubles o p0 w = some r) : MetG g l yX3_hasDoubles wsX3_hasDoubles 4 89 [rv o, .int p0] (w, mm) (some (.int r)) (w, mm) := by
  refine g_start_z (some (.int r)) (own := RX3) (by decide +kernel) rfl rfl (by simp [lg_sl, rv_cat, ct_i, ct_l]) ?_
  intro p e s mi args below meth cd ls Q hX hnm hw hl hret
  have hl : lv_has ls 3 [(0, rv o), (1, .int p0)] := by simpa [lv_args, rv_cat, ct_i, ct_l] using hl
  obtain ⟨⟨hx, hb, -, hown, hts⟩, -⟩ := id hX
  unfold x_X3_hasDoubles at h
  refine lv_iconst (v := 0) hx hb dX3_hasDoubles_0 (by decide) ?_
  refine lv_istore_n (lv' := [(2, .int 0), (0, rv o), (1, .int p0)]) hx hb dX3_hasDoubles_1 rfl hl (by decide) rfl (fun ls hl => ?_)
  obtain ⟨aj15, h1aj15, kaj15, raj15⟩ := ol0 h
  have haj15 : ∀ (H : Heap) (lc : List Loc) (cn sn : Nat) (ls : Array Slot), aj15 = Sum.inl () → wH g s.heap.size (w, mm) H lc → lv_has ls 3 [] → W p l e (rmO g 4 89 s.heap) s mi args below meth cd H lc cn sn Q (F0 mi 44 ls []) := by
    intro H lc cn sn ls h hw hl
    replace h := kaj15 h
    refine lv_iconst (v := 0) hx hb dX3_hasDoubles_44 (by decide) ?_
    obtain ⟨c14, h⟩ := og h
    replace h := (Option.some.inj h).symm
    subst h
    exact hret _ _ _ _ _ _ _ dX3_hasDoubles_45 c14 hw rfl
  have hkj15 : ∀ (n : Nat) (v1 : Int32) (H : Heap) (lc : List Loc) (cn sn : Nat) (ls : Array Slot), x_X3_hasDoubles_L1 o p0 w n v1 = some aj15 → wH g s.heap.size (w, mm) H lc → lv_has ls 3 [(2, .int v1), (0, rv o), (1, .int p0)] → W p l e (rmO g 4 89 s.heap) s mi args below meth cd H lc cn sn Q (F0 mi 2 ls []) := by
    intro n
    induction n with
    | zero =>
      intro v1 H lc cn sn ls h
      rw [x_X3_hasDoubles_L1] at h
      cases h
    | succ n ih =>
      intro v1 H lc cn sn ls h hw hl
      rw [x_X3_hasDoubles_L1] at h
      refine lv_iload_n hx hb dX3_hasDoubles_2 rfl (lv_at hl 0 rfl) ?_
      refine t_aload_n hx hb dX3_hasDoubles_3 rfl (lv_at hl 1 rfl) ?_
      obtain ⟨c2, h⟩ := og h
      refine c_gf (C := RX3) (TT := TX3) (N := 3) (ref := "TabStore$Store") (v := rv (wJ w 202 o)) hX hw (ce_5 c2) rfl 2 (by decide +kernel) (by decide) (by decide +kernel) (fun _ h9 => h9) rfl dX3_hasDoubles_4 ?_
      obtain ⟨c3, h⟩ := og h
      obtain ⟨v5, e4, h⟩ := ob h
      refine g_callFi (n := 0) (As := []) (rest := [.int v1]) hX hw (c_Jx4a65c_size_8abf5 g l hG hst mm (wJ w 202 o) w v5 e4) gX3_hasDoubles_Jx4a65c_size_8abf5_f26Jx4a65c rfl (by decide +kernel) rfl (x_nz hw c3) (c_recv hX hw (ce_7 c3) rfl) ((hG s hX.2.1.2.1).2.1.1) (show vwCl[0]? = some (RJx4a65c, TJx4a65c, 3) from rfl) hl.1 rfl (Nat.le_of_ble_eq_true rfl) ⟨by decide, by decide⟩ dX3_hasDoubles_7 (fun H lc cn sn hw => ?_)
      refine lv_icmp_ge (tgt := 44) hx hb dX3_hasDoubles_12 (by decide) (fun c6 => ?_) (fun c6 => ?_)
      · replace h := ot c6 h
        replace h := (Option.some.inj h).symm
        exact haj15 _ _ _ _ _ h hw (lv_sub hl [] rfl)
      · replace h := oe c6 h
        refine t_aload_n hx hb dX3_hasDoubles_15 rfl (lv_at hl 1 rfl) ?_
        refine lv_iload_n hx hb dX3_hasDoubles_16 rfl (lv_at hl 2 rfl) ?_
        refine t_aload_n hx hb dX3_hasDoubles_17 rfl (lv_at hl 1 rfl) ?_
        refine c_gf (C := RX3) (TT := TX3) (N := 3) (ref := "TabStore$Store") (v := rv (wJ w 202 o)) hX hw (ce_5 c2) rfl 2 (by decide +kernel) (by decide) (by decide +kernel) (fun _ h9 => h9) rfl dX3_hasDoubles_18 ?_
        refine lv_iload_n hx hb dX3_hasDoubles_21 rfl (lv_at hl 0 rfl) ?_
        obtain ⟨v8, e7, h⟩ := ob h
        refine g_callFa (n := 1) (As := [.int v1]) (rest := [.int p0, rv o]) hX hw (c_Jx4a65c_get_915e3 g l hG hst mm (wJ w 202 o) v1 w v8 e7) gX3_hasDoubles_Jx4a65c_get_915e3_f35Jx4a65c rfl (by decide +kernel) rfl (x_nz hw c3) (c_recv hX hw (ce_7 c3) rfl) ((hG s hX.2.1.2.1).2.1.2.1) (show vwCl[0]? = some (RJx4a65c, TJx4a65c, 3) from rfl) hl.1 rfl (by simp [rv_cat, ct_i, ct_l]) ⟨by decide, by decide⟩ dX3_hasDoubles_22 (fun H lc cn sn hw => ?_)
        obtain ⟨c9, h⟩ := og h
        refine c_cast hX hw (c9.imp id ce_1) rfl (by decide +kernel) dX3_hasDoubles_27 ?_
        obtain ⟨v11, e10, h⟩ := ob h
        refine g_callVi (n := 2) (As := [.int p0, rv v8]) (rest := []) hX hw (c_X3_isTaken g l hG hst mm o p0 v8 w v11 e10) gX3_hasDoubles_X3_isTaken rfl (by decide +kernel) rfl (x_nz hw c2) (c_recv hX hw (ce_5 c2) rfl) hl.1 rfl (Nat.le_of_ble_eq_true rfl) ⟨by decide, by decide⟩ dX3_hasDoubles_30 (fun H lc cn sn hw => ?_)
        refine lv_if_eq (tgt := 38) hx hb dX3_hasDoubles_33 (by decide) (fun c12 => ?_) (fun c12 => ?_)
        · replace h := ot c12 h
          refine lv_iinc (v := (v1 + 1)) (lv' := [(2, .int (v1 + 1)), (0, rv o), (1, .int p0)]) hx hb dX3_hasDoubles_38 hl (k := 0) rfl (by rfl) (by decide) rfl (fun ls hl => ?_)
          refine lv_goto (tgt := 2) hx hb dX3_hasDoubles_41 (by decide) ?_
          exact ih _ _ _ _ _ _ h hw (lv_sub hl [0, 1, 2] rfl)
        · replace h := oe c12 h
          refine lv_iconst (v := 1) hx hb dX3_hasDoubles_36 (by decide) ?_
          obtain ⟨c13, h⟩ := og h
          replace h := (Option.some.inj h).symm
          replace h := raj15 _ h
          subst h
          exact hret _ _ _ _ _ _ _ dX3_hasDoubles_37 c13 hw rfl
  exact hkj15 FU 0 _ _ _ _ _ h1aj15 hw (lv_sub hl [0, 1, 2] rfl)

set_option maxHeartbeats 4000000 in
set_option maxRecDepth 100000 in
theorem c_X3_clashes (g : GG) (l : Launch) (hG : XG g) (hst : l.stackTraces = false) (mm : MS) (o : Nat) (p0 : Nat) (w : CS) (r : Int32) (h : x_X3_clashes o p0 w = some r) : MetG g l yX3_clashes wsX3_clashes 4 89 [rv o, rv p0] (w, mm) (some (.int r)) (w, mm) := by
  refine g_start_z (some (.int r)) (own := RX3) (by decide +kernel) rfl rfl (by simp [lg_sl, rv_cat, ct_i, ct_l]) ?_
  intro p e s mi args below meth cd ls Q hX hnm hw hl hret
  have hl : lv_has ls 3 [(0, rv o), (1, rv p0)] := by simpa [lv_args, rv_cat, ct_i, ct_l] using hl
  obtain ⟨⟨hx, hb, -, hown, hts⟩, -⟩ := id hX
  unfold x_X3_clashes at h
  refine lv_iconst (v := 0) hx hb dX3_clashes_0 (by decide) ?_
  refine lv_istore_n (lv' := [(2, .int 0), (0, rv o), (1, rv p0)]) hx hb dX3_clashes_1 rfl hl (by decide) (by simp [rv_cat, ct_i, ct_l] <;> decide) (fun ls hl => ?_)
  obtain ⟨aj13, h1aj13, kaj13, raj13⟩ := ol0 h
  have haj13 : ∀ (H : Heap) (lc : List Loc) (cn sn : Nat) (ls : Array Slot), aj13 = Sum.inl () → wH g s.heap.size (w, mm) H lc → lv_has ls 3 [] → W p l e (rmO g 4 89 s.heap) s mi args below meth cd H lc cn sn Q (F0 mi 38 ls []) := by
    intro H lc cn sn ls h hw hl
    replace h := kaj13 h
    refine lv_iconst (v := 0) hx hb dX3_clashes_38 (by decide) ?_
    obtain ⟨c12, h⟩ := og h
    replace h := (Option.some.inj h).symm
    subst h
    exact hret _ _ _ _ _ _ _ dX3_clashes_39 c12 hw rfl
  have hkj13 : ∀ (n : Nat) (v1 : Int32) (H : Heap) (lc : List Loc) (cn sn : Nat) (ls : Array Slot), x_X3_clashes_L1 o p0 w n v1 = some aj13 → wH g s.heap.size (w, mm) H lc → lv_has ls 3 [(2, .int v1), (0, rv o), (1, rv p0)] → W p l e (rmO g 4 89 s.heap) s mi args below meth cd H lc cn sn Q (F0 mi 2 ls []) := by
    intro n
    induction n with
    | zero =>
      intro v1 H lc cn sn ls h
      rw [x_X3_clashes_L1] at h
      cases h
    | succ n ih =>
      intro v1 H lc cn sn ls h hw hl
      rw [x_X3_clashes_L1] at h
      refine lv_iload_n hx hb dX3_clashes_2 rfl (lv_at hl 0 rfl) ?_
      refine t_aload_n hx hb dX3_clashes_3 rfl (lv_at hl 1 rfl) ?_
      obtain ⟨c2, h⟩ := og h
      refine c_gf (C := RX3) (TT := TX3) (N := 3) (ref := "TabStore$Store") (v := rv (wJ w 201 o)) hX hw (ce_5 c2) rfl 1 (by decide +kernel) (by decide) (by decide +kernel) (fun _ h9 => h9) rfl dX3_clashes_4 ?_
      obtain ⟨c3, h⟩ := og h
      refine c_alen hX hw 0 (ae_8 c3) rfl dX3_clashes_7 ?_
      refine lv_icmp_ge (tgt := 38) hx hb dX3_clashes_8 (by decide) (fun c4 => ?_) (fun c4 => ?_)
      · replace h := ot c4 h
        replace h := (Option.some.inj h).symm
        exact haj13 _ _ _ _ _ h hw (lv_sub hl [] rfl)
      · replace h := oe c4 h
        refine t_aload_n hx hb dX3_clashes_11 rfl (lv_at hl 1 rfl) ?_
        refine c_gf (C := RX3) (TT := TX3) (N := 3) (ref := "TabStore$Store") (v := rv (wJ w 201 o)) hX hw (ce_5 c2) rfl 1 (by decide +kernel) (by decide) (by decide +kernel) (fun _ h9 => h9) rfl dX3_clashes_12 ?_
        refine lv_iload_n hx hb dX3_clashes_15 rfl (lv_at hl 0 rfl) ?_
        obtain ⟨c5, h⟩ := og h
        refine c_ild hX hw c3 c5 dX3_clashes_16 ?_
        refine lv_iconst (v := 2) hx hb dX3_clashes_17 (by decide) ?_
        obtain ⟨aj11, h1aj11, kaj11, raj11⟩ := ol0 h
        have haj11 : ∀ (H : Heap) (lc : List Loc) (cn sn : Nat) (ls : Array Slot), aj11 = Sum.inl () → wH g s.heap.size (w, mm) H lc → lv_has ls 3 [(2, .int v1), (0, rv o), (1, rv p0)] → W p l e (rmO g 4 89 s.heap) s mi args below meth cd H lc cn sn Q (F0 mi 32 ls []) := by
          intro H lc cn sn ls h hw hl
          replace h := kaj11 h
          refine lv_iinc (v := (v1 + 1)) (lv' := [(2, .int (v1 + 1)), (0, rv o), (1, rv p0)]) hx hb dX3_clashes_32 hl (k := 0) rfl (by rfl) (by decide) (by simp [rv_cat, ct_i, ct_l] <;> decide) (fun ls hl => ?_)
          refine lv_goto (tgt := 2) hx hb dX3_clashes_35 (by decide) ?_
          exact ih _ _ _ _ _ _ h hw (lv_sub hl [0, 1, 2] rfl)
        replace h := h1aj11
        refine lv_icmp_ne (tgt := 32) hx hb dX3_clashes_18 (by decide) (fun c6 => ?_) (fun c6 => ?_)
        · replace h := oe c6 h
          replace h := (Option.some.inj h).symm
          exact haj11 _ _ _ _ _ h hw (lv_sub hl [0, 1, 2] rfl)
        · replace h := ot c6 h
          refine t_aload_n hx hb dX3_clashes_21 rfl (lv_at hl 1 rfl) ?_
          refine lv_iload_n hx hb dX3_clashes_22 rfl (lv_at hl 0 rfl) ?_
          refine t_aload_n hx hb dX3_clashes_23 rfl (lv_at hl 2 rfl) ?_
          obtain ⟨v8, e7, h⟩ := ob h
          refine g_callVi (n := 2) (As := [.int v1, rv p0]) (rest := []) hX hw (c_X3_isTaken g l hG hst mm o v1 p0 w v8 e7) gX3_clashes_X3_isTaken rfl (by decide +kernel) rfl (x_nz hw c2) (c_recv hX hw (ce_5 c2) rfl) hl.1 rfl (Nat.le_of_ble_eq_true rfl) ⟨by decide, by decide⟩ dX3_clashes_24 (fun H lc cn sn hw => ?_)
          refine lv_if_eq (tgt := 32) hx hb dX3_clashes_27 (by decide) (fun c9 => ?_) (fun c9 => ?_)
          · replace h := ot c9 h
            replace h := (Option.some.inj h).symm
            exact haj11 _ _ _ _ _ h hw (lv_sub hl [0, 1, 2] rfl)
          · replace h := oe c9 h
            refine lv_iconst (v := 1) hx hb dX3_clashes_30 (by decide) ?_
            obtain ⟨c10, h⟩ := og h
            replace h := (Option.some.inj h).symm
            replace h := raj11 _ h
            replace h := raj13 _ h
            subst h
            exact hret _ _ _ _ _ _ _ dX3_clashes_31 c10 hw rfl
  exact hkj13 FU 0 _ _ _ _ _ h1aj13 hw (lv_sub hl [0, 1, 2] rfl)

set_option maxHeartbeats 4000000 in
set_option maxRecDepth 100000 in
theorem c_X3_find (g : GG) (l : Launch) (hG : XG g) (hst : l.stackTraces = false) (mm : MS) (o : Nat) (p0 : Int32) (w : CS) (r : Nat) (h : x_X3_find o p0 w = some r) : MetG g l yX3_find wsX3_find 3 64 [rv o, .int p0] (w, mm) (some (rv r)) (w, mm) := by
  refine g_start_a (Or.inl ⟨_, rfl⟩) (some (rv r)) (own := RX3) (by decide +kernel) rfl rfl (by simp [lg_sl, rv_cat, ct_i, ct_l]) ?_
  intro p e s mi args below meth cd ls Q hX hnm hw hl hret
  have hl : lv_has ls 4 [(0, rv o), (1, .int p0)] := by simpa [lv_args, rv_cat, ct_i, ct_l] using hl
  obtain ⟨⟨hx, hb, -, hown, hts⟩, -⟩ := id hX
  unfold x_X3_find at h
  refine lv_iconst (v := 0) hx hb dX3_find_0 (by decide) ?_
  refine lv_istore_n (lv' := [(2, .int 0), (0, rv o), (1, .int p0)]) hx hb dX3_find_1 rfl hl (by decide) rfl (fun ls hl => ?_)
  obtain ⟨aj12, h1aj12, kaj12, raj12⟩ := ol0 h
  have haj12 : ∀ (H : Heap) (lc : List Loc) (cn sn : Nat) (ls : Array Slot), aj12 = Sum.inl () → wH g s.heap.size (w, mm) H lc → lv_has ls 4 [] → W p l e (rmO g 3 64 s.heap) s mi args below meth cd H lc cn sn Q (F0 mi 45 ls []) := by
    intro H lc cn sn ls h hw hl
    replace h := kaj12 h
    refine t_null hx hb dX3_find_45 ?_
    replace h := (Option.some.inj h).symm
    subst h
    exact hret _ _ _ _ _ _ _ dX3_find_46 hw rfl
  have hkj12 : ∀ (n : Nat) (v1 : Int32) (H : Heap) (lc : List Loc) (cn sn : Nat) (ls : Array Slot), x_X3_find_L1 o p0 w n v1 = some aj12 → wH g s.heap.size (w, mm) H lc → lv_has ls 4 [(2, .int v1), (0, rv o), (1, .int p0)] → W p l e (rmO g 3 64 s.heap) s mi args below meth cd H lc cn sn Q (F0 mi 2 ls []) := by
    intro n
    induction n with
    | zero =>
      intro v1 H lc cn sn ls h
      rw [x_X3_find_L1] at h
      cases h
    | succ n ih =>
      intro v1 H lc cn sn ls h hw hl
      rw [x_X3_find_L1] at h
      refine lv_iload_n hx hb dX3_find_2 rfl (lv_at hl 0 rfl) ?_
      refine t_aload_n hx hb dX3_find_3 rfl (lv_at hl 1 rfl) ?_
      obtain ⟨c2, h⟩ := og h
      refine c_gf (C := RX3) (TT := TX3) (N := 3) (ref := "TabStore$Store") (v := rv (wJ w 202 o)) hX hw (ce_5 c2) rfl 2 (by decide +kernel) (by decide) (by decide +kernel) (fun _ h9 => h9) rfl dX3_find_4 ?_
      obtain ⟨c3, h⟩ := og h
      obtain ⟨v5, e4, h⟩ := ob h
      refine g_callFi (n := 0) (As := []) (rest := [.int v1]) hX hw (c_Jx4a65c_size_8abf5 g l hG hst mm (wJ w 202 o) w v5 e4) gX3_find_Jx4a65c_size_8abf5_f26Jx4a65c rfl (by decide +kernel) rfl (x_nz hw c3) (c_recv hX hw (ce_7 c3) rfl) ((hG s hX.2.1.2.1).2.1.1) (show vwCl[0]? = some (RJx4a65c, TJx4a65c, 3) from rfl) hl.1 rfl (Nat.le_of_ble_eq_true rfl) ⟨by decide, by decide⟩ dX3_find_7 (fun H lc cn sn hw => ?_)
      refine lv_icmp_ge (tgt := 45) hx hb dX3_find_12 (by decide) (fun c6 => ?_) (fun c6 => ?_)
      · replace h := ot c6 h
        replace h := (Option.some.inj h).symm
        exact haj12 _ _ _ _ _ h hw (lv_sub hl [] rfl)
      · replace h := oe c6 h
        refine t_aload_n hx hb dX3_find_15 rfl (lv_at hl 1 rfl) ?_
        refine c_gf (C := RX3) (TT := TX3) (N := 3) (ref := "TabStore$Store") (v := rv (wJ w 202 o)) hX hw (ce_5 c2) rfl 2 (by decide +kernel) (by decide) (by decide +kernel) (fun _ h9 => h9) rfl dX3_find_16 ?_
        refine lv_iload_n hx hb dX3_find_19 rfl (lv_at hl 0 rfl) ?_
        obtain ⟨v8, e7, h⟩ := ob h
        refine g_callFa (n := 1) (As := [.int v1]) (rest := []) hX hw (c_Jx4a65c_get_915e3 g l hG hst mm (wJ w 202 o) v1 w v8 e7) gX3_find_Jx4a65c_get_915e3_f35Jx4a65c rfl (by decide +kernel) rfl (x_nz hw c3) (c_recv hX hw (ce_7 c3) rfl) ((hG s hX.2.1.2.1).2.1.2.1) (show vwCl[0]? = some (RJx4a65c, TJx4a65c, 3) from rfl) hl.1 rfl (Nat.le_of_ble_eq_true rfl) ⟨by decide, by decide⟩ dX3_find_20 (fun H lc cn sn hw => ?_)
        obtain ⟨c9, h⟩ := og h
        refine c_cast hX hw (c9.imp id ce_1) rfl (by decide +kernel) dX3_find_25 ?_
        refine t_astore_n (lv' := [(3, rv v8), (2, .int v1), (0, rv o), (1, .int p0)]) hx hb dX3_find_28 rfl hl (by decide) rfl (fun ls hl => ?_)
        refine t_aload_n hx hb dX3_find_29 rfl (lv_at hl 0 rfl) ?_
        obtain ⟨c10, h⟩ := og h
        refine c_gf (C := RX2) (TT := TX2) (N := 4) (ref := "TabStore$Row") (v := .int (wI w 40 v8)) hX hw (ce_1 c10) rfl 0 (by decide +kernel) (by decide) (by decide +kernel) (fun _ h9 => h9) rfl dX3_find_30 ?_
        refine lv_iload_n hx hb dX3_find_33 rfl (lv_at hl 3 rfl) ?_
        refine lv_icmp_ne (tgt := 39) hx hb dX3_find_34 (by decide) (fun c11 => ?_) (fun c11 => ?_)
        · replace h := oe c11 h
          refine lv_iinc (v := (v1 + 1)) (lv' := [(2, .int (v1 + 1)), (3, rv v8), (0, rv o), (1, .int p0)]) hx hb dX3_find_39 hl (k := 1) rfl (by rfl) (by decide) rfl (fun ls hl => ?_)
          refine lv_goto (tgt := 2) hx hb dX3_find_42 (by decide) ?_
          exact ih _ _ _ _ _ _ h hw (lv_sub hl [0, 2, 3] rfl)
        · replace h := ot c11 h
          refine t_aload_n hx hb dX3_find_37 rfl (lv_at hl 0 rfl) ?_
          replace h := (Option.some.inj h).symm
          replace h := raj12 _ h
          subst h
          exact hret _ _ _ _ _ _ _ dX3_find_38 hw rfl
  exact hkj12 FU 0 _ _ _ _ _ h1aj12 hw (lv_sub hl [0, 1, 2] rfl)

set_option maxHeartbeats 4000000 in
set_option maxRecDepth 100000 in
theorem c_X3_set (g : GG) (l : Launch) (hG : XG g) (hst : l.stackTraces = false) (mm : MS) (o : Nat) (p0 : Nat) (w : CS) (w' : CS) (h : x_X3_set o p0 w = some w') : MetG g l yX3_set wsX3_set 7 171 [rv o, rv p0] (w, mm) (none) (w', mm) := by
  refine g_start_v (none) (own := RX3) (by decide +kernel) rfl rfl (by simp [lg_sl, rv_cat, ct_i, ct_l]) ?_
  intro p e s mi args below meth cd ls Q hX hnm hw hl hret
  have hl : lv_has ls 3 [(0, rv o), (1, rv p0)] := by simpa [lv_args, rv_cat, ct_i, ct_l] using hl
  obtain ⟨⟨hx, hb, -, hown, hts⟩, -⟩ := id hX
  unfold x_X3_set at h
  refine lv_iconst (v := 0) hx hb dX3_set_0 (by decide) ?_
  refine lv_istore_n (lv' := [(2, .int 0), (0, rv o), (1, rv p0)]) hx hb dX3_set_1 rfl hl (by decide) (by simp [rv_cat, ct_i, ct_l] <;> decide) (fun ls hl => ?_)
  obtain ⟨aj21, h1aj21, kaj21, raj21⟩ := ol0 h
  have haj21 : ∀ (H : Heap) (lc : List Loc) (cn sn : Nat) (ls : Array Slot), aj21 = Sum.inl () → wH g s.heap.size (w, mm) H lc → lv_has ls 3 [(0, rv o), (1, rv p0)] → W p l e (rmO g 7 171 s.heap) s mi args below meth cd H lc cn sn Q (F0 mi 57 ls []) := by
    intro H lc cn sn ls h hw hl
    replace h := kaj21 h
    refine t_aload_n hx hb dX3_set_57 rfl (lv_at hl 0 rfl) ?_
    obtain ⟨c16, h⟩ := og h
    refine c_gf (C := RX3) (TT := TX3) (N := 3) (ref := "TabStore$Store") (v := rv (wJ w 202 o)) hX hw (ce_5 c16) rfl 2 (by decide +kernel) (by decide) (by decide +kernel) (fun _ h9 => h9) rfl dX3_set_58 ?_
    refine t_aload_n hx hb dX3_set_61 rfl (lv_at hl 1 rfl) ?_
    obtain ⟨c17, h⟩ := og h
    obtain ⟨v19, w20, e18, h⟩ := oc2 h
    refine g_callFi (n := 1) (As := [rv p0]) (rest := []) hX hw (c_Jx4a65c_add_9ea2d g l hG hst mm (wJ w 202 o) p0 w v19 w20 e18) gX3_set_Jx4a65c_add_9ea2d_f41Jx4a65c rfl (by decide +kernel) rfl (x_nz hw c17) (c_recv hX hw (ce_7 c17) rfl) ((hG s hX.2.1.2.1).2.1.2.2.2.1) (show vwCl[0]? = some (RJx4a65c, TJx4a65c, 3) from rfl) hl.1 rfl (Nat.le_of_ble_eq_true rfl) ⟨by decide, by decide⟩ dX3_set_62 (fun H lc cn sn hw => ?_)
    refine lv_pop hx hb dX3_set_67 rfl ?_
    replace h := (Option.some.inj h).symm
    subst h
    exact hret _ _ _ _ _ _ dX3_set_68 hw rfl
  have hkj21 : ∀ (n : Nat) (v1 : Int32) (H : Heap) (lc : List Loc) (cn sn : Nat) (ls : Array Slot), x_X3_set_L1 o p0 w n v1 = some aj21 → wH g s.heap.size (w, mm) H lc → lv_has ls 3 [(2, .int v1), (0, rv o), (1, rv p0)] → W p l e (rmO g 7 171 s.heap) s mi args below meth cd H lc cn sn Q (F0 mi 2 ls []) := by
    intro n
    induction n with
    | zero =>
      intro v1 H lc cn sn ls h
      rw [x_X3_set_L1] at h
      cases h
    | succ n ih =>
      intro v1 H lc cn sn ls h hw hl
      rw [x_X3_set_L1] at h
      refine lv_iload_n hx hb dX3_set_2 rfl (lv_at hl 0 rfl) ?_
      refine t_aload_n hx hb dX3_set_3 rfl (lv_at hl 1 rfl) ?_
      obtain ⟨c2, h⟩ := og h
      refine c_gf (C := RX3) (TT := TX3) (N := 3) (ref := "TabStore$Store") (v := rv (wJ w 202 o)) hX hw (ce_5 c2) rfl 2 (by decide +kernel) (by decide) (by decide +kernel) (fun _ h9 => h9) rfl dX3_set_4 ?_
      obtain ⟨c3, h⟩ := og h
      obtain ⟨v5, e4, h⟩ := ob h
      refine g_callFi (n := 0) (As := []) (rest := [.int v1]) hX hw (c_Jx4a65c_size_8abf5 g l hG hst mm (wJ w 202 o) w v5 e4) gX3_set_Jx4a65c_size_8abf5_f26Jx4a65c rfl (by decide +kernel) rfl (x_nz hw c3) (c_recv hX hw (ce_7 c3) rfl) ((hG s hX.2.1.2.1).2.1.1) (show vwCl[0]? = some (RJx4a65c, TJx4a65c, 3) from rfl) hl.1 rfl (Nat.le_of_ble_eq_true rfl) ⟨by decide, by decide⟩ dX3_set_7 (fun H lc cn sn hw => ?_)
      refine lv_icmp_ge (tgt := 57) hx hb dX3_set_12 (by decide) (fun c6 => ?_) (fun c6 => ?_)
      · replace h := ot c6 h
        replace h := (Option.some.inj h).symm
        exact haj21 _ _ _ _ _ h hw (lv_sub hl [1, 2] rfl)
      · replace h := oe c6 h
        refine t_aload_n hx hb dX3_set_15 rfl (lv_at hl 1 rfl) ?_
        refine c_gf (C := RX3) (TT := TX3) (N := 3) (ref := "TabStore$Store") (v := rv (wJ w 202 o)) hX hw (ce_5 c2) rfl 2 (by decide +kernel) (by decide) (by decide +kernel) (fun _ h9 => h9) rfl dX3_set_16 ?_
        refine lv_iload_n hx hb dX3_set_19 rfl (lv_at hl 0 rfl) ?_
        obtain ⟨v8, e7, h⟩ := ob h
        refine g_callFa (n := 1) (As := [.int v1]) (rest := []) hX hw (c_Jx4a65c_get_915e3 g l hG hst mm (wJ w 202 o) v1 w v8 e7) gX3_set_Jx4a65c_get_915e3_f35Jx4a65c rfl (by decide +kernel) rfl (x_nz hw c3) (c_recv hX hw (ce_7 c3) rfl) ((hG s hX.2.1.2.1).2.1.2.1) (show vwCl[0]? = some (RJx4a65c, TJx4a65c, 3) from rfl) hl.1 rfl (Nat.le_of_ble_eq_true rfl) ⟨by decide, by decide⟩ dX3_set_20 (fun H lc cn sn hw => ?_)
        obtain ⟨c9, h⟩ := og h
        refine c_cast hX hw (c9.imp id ce_1) rfl (by decide +kernel) dX3_set_25 ?_
        obtain ⟨c10, h⟩ := og h
        refine c_gf (C := RX2) (TT := TX2) (N := 4) (ref := "TabStore$Row") (v := .int (wI w 40 v8)) hX hw (ce_1 c10) rfl 0 (by decide +kernel) (by decide) (by decide +kernel) (fun _ h9 => h9) rfl dX3_set_28 ?_
        refine t_aload_n hx hb dX3_set_31 rfl (lv_at hl 2 rfl) ?_
        obtain ⟨c11, h⟩ := og h
        refine c_gf (C := RX2) (TT := TX2) (N := 4) (ref := "TabStore$Row") (v := .int (wI w 40 p0)) hX hw (ce_1 c11) rfl 0 (by decide +kernel) (by decide) (by decide +kernel) (fun _ h9 => h9) rfl dX3_set_32 ?_
        refine lv_icmp_ne (tgt := 51) hx hb dX3_set_35 (by decide) (fun c12 => ?_) (fun c12 => ?_)
        · replace h := oe c12 h
          refine lv_iinc (v := (v1 + 1)) (lv' := [(2, .int (v1 + 1)), (0, rv o), (1, rv p0)]) hx hb dX3_set_51 hl (k := 0) rfl (by rfl) (by decide) (by simp [rv_cat, ct_i, ct_l] <;> decide) (fun ls hl => ?_)
          refine lv_goto (tgt := 2) hx hb dX3_set_54 (by decide) ?_
          exact ih _ _ _ _ _ _ h hw (lv_sub hl [0, 1, 2] rfl)
        · replace h := ot c12 h
          refine t_aload_n hx hb dX3_set_38 rfl (lv_at hl 1 rfl) ?_
          refine c_gf (C := RX3) (TT := TX3) (N := 3) (ref := "TabStore$Store") (v := rv (wJ w 202 o)) hX hw (ce_5 c2) rfl 2 (by decide +kernel) (by decide) (by decide +kernel) (fun _ h9 => h9) rfl dX3_set_39 ?_
          refine lv_iload_n hx hb dX3_set_42 rfl (lv_at hl 0 rfl) ?_
          refine t_aload_n hx hb dX3_set_43 rfl (lv_at hl 2 rfl) ?_
          obtain ⟨v14, w15, e13, h⟩ := oc2 h
          refine g_callFa (n := 2) (As := [.int v1, rv p0]) (rest := []) hX hw (c_Jx4a65c_set_bcc79 g l hG hst mm (wJ w 202 o) v1 p0 w v14 w15 e13) gX3_set_Jx4a65c_set_bcc79_f57Jx4a65c rfl (by decide +kernel) rfl (x_nz hw c3) (c_recv hX hw (ce_7 c3) rfl) ((hG s hX.2.1.2.1).2.1.2.2.1) (show vwCl[0]? = some (RJx4a65c, TJx4a65c, 3) from rfl) hl.1 rfl (Nat.le_of_ble_eq_true rfl) ⟨by decide, by decide⟩ dX3_set_44 (fun H lc cn sn hw => ?_)
          refine lv_pop hx hb dX3_set_49 (rv_cat _) ?_
          replace h := (Option.some.inj h).symm
          replace h := raj21 _ h
          subst h
          exact hret _ _ _ _ _ _ dX3_set_50 hw rfl
  exact hkj21 FU 0 _ _ _ _ _ h1aj21 hw (lv_sub hl [0, 1, 2] rfl)

set_option maxHeartbeats 4000000 in
set_option maxRecDepth 100000 in
theorem c_X3_countBetween (g : GG) (l : Launch) (hG : XG g) (hst : l.stackTraces = false) (mm : MS) (o : Nat) (p0 : Int32) (p1 : Int32) (w : CS) (r : Int32) (h : x_X3_countBetween o p0 p1 w = some r) : MetG g l yX3_countBetween wsX3_countBetween 3 64 [rv o, .int p0, .int p1] (w, mm) (some (.int r)) (w, mm) := by
  refine g_start_i (some (.int r)) (own := RX3) (by decide +kernel) rfl rfl (by simp [lg_sl, rv_cat, ct_i, ct_l]) ?_
  intro p e s mi args below meth cd ls Q hX hnm hw hl hret
  have hl : lv_has ls 5 [(0, rv o), (1, .int p0), (2, .int p1)] := by simpa [lv_args, rv_cat, ct_i, ct_l] using hl
  obtain ⟨⟨hx, hb, -, hown, hts⟩, -⟩ := id hX
  unfold x_X3_countBetween at h
  refine lv_iconst (v := 0) hx hb dX3_countBetween_0 (by decide) ?_
  refine lv_istore_n (lv' := [(3, .int 0), (0, rv o), (1, .int p0), (2, .int p1)]) hx hb dX3_countBetween_1 rfl hl (by decide) rfl (fun ls hl => ?_)
  refine lv_iconst (v := 0) hx hb dX3_countBetween_2 (by decide) ?_
  refine lv_istore (lv' := [(4, .int 0), (3, .int 0), (0, rv o), (1, .int p0), (2, .int p1)]) hx hb dX3_countBetween_3 hl (by decide) rfl (fun ls hl => ?_)
  obtain ⟨aj18, h1aj18, kaj18⟩ := ob1 h
  have haj18 : ∀ (v17 : Int32) (H : Heap) (lc : List Loc) (cn sn : Nat) (ls : Array Slot), aj18 = v17 → wH g s.heap.size (w, mm) H lc → lv_has ls 5 [(3, .int v17)] → W p l e (rmO g 3 64 s.heap) s mi args below meth cd H lc cn sn Q (F0 mi 50 ls []) := by
    intro v17 H lc cn sn ls h hw hl
    replace h := kaj18 _ h
    refine lv_iload_n hx hb dX3_countBetween_50 rfl (lv_at hl 0 rfl) ?_
    replace h := (Option.some.inj h).symm
    subst h
    exact hret _ _ _ _ _ _ _ dX3_countBetween_51 hw rfl
  have hkj18 : ∀ (n : Nat) (v1 : Int32) (v2 : Int32) (H : Heap) (lc : List Loc) (cn sn : Nat) (ls : Array Slot), x_X3_countBetween_L1 o p0 p1 w n v1 v2 = some aj18 → wH g s.heap.size (w, mm) H lc → lv_has ls 5 [(4, .int v1), (3, .int v2), (0, rv o), (1, .int p0), (2, .int p1)] → W p l e (rmO g 3 64 s.heap) s mi args below meth cd H lc cn sn Q (F0 mi 5 ls []) := by
    intro n
    induction n with
    | zero =>
      intro v1 v2 H lc cn sn ls h
      rw [x_X3_countBetween_L1] at h
      cases h
    | succ n ih =>
      intro v1 v2 H lc cn sn ls h hw hl
      rw [x_X3_countBetween_L1] at h
      refine lv_iload hx hb dX3_countBetween_5 (lv_at hl 0 rfl) ?_
      refine t_aload_n hx hb dX3_countBetween_7 rfl (lv_at hl 2 rfl) ?_
      obtain ⟨c3, h⟩ := og h
      refine c_gf (C := RX3) (TT := TX3) (N := 3) (ref := "TabStore$Store") (v := rv (wJ w 202 o)) hX hw (ce_5 c3) rfl 2 (by decide +kernel) (by decide) (by decide +kernel) (fun _ h9 => h9) rfl dX3_countBetween_8 ?_
      obtain ⟨c4, h⟩ := og h
      obtain ⟨v6, e5, h⟩ := ob h
      refine g_callFi (n := 0) (As := []) (rest := [.int v1]) hX hw (c_Jx4a65c_size_8abf5 g l hG hst mm (wJ w 202 o) w v6 e5) gX3_countBetween_Jx4a65c_size_8abf5_f26Jx4a65c rfl (by decide +kernel) rfl (x_nz hw c4) (c_recv hX hw (ce_7 c4) rfl) ((hG s hX.2.1.2.1).2.1.1) (show vwCl[0]? = some (RJx4a65c, TJx4a65c, 3) from rfl) hl.1 rfl (Nat.le_of_ble_eq_true rfl) ⟨by decide, by decide⟩ dX3_countBetween_11 (fun H lc cn sn hw => ?_)
      refine lv_icmp_ge (tgt := 50) hx hb dX3_countBetween_16 (by decide) (fun c7 => ?_) (fun c7 => ?_)
      · replace h := ot c7 h
        replace h := (Option.some.inj h).symm
        exact haj18 _ _ _ _ _ _ h hw (lv_sub hl [1] rfl)
      · replace h := oe c7 h
        refine t_aload_n hx hb dX3_countBetween_19 rfl (lv_at hl 2 rfl) ?_
        refine c_gf (C := RX3) (TT := TX3) (N := 3) (ref := "TabStore$Store") (v := rv (wJ w 202 o)) hX hw (ce_5 c3) rfl 2 (by decide +kernel) (by decide) (by decide +kernel) (fun _ h9 => h9) rfl dX3_countBetween_20 ?_
        refine lv_iload hx hb dX3_countBetween_23 (lv_at hl 0 rfl) ?_
        obtain ⟨v9, e8, h⟩ := ob h
        refine g_callFa (n := 1) (As := [.int v1]) (rest := []) hX hw (c_Jx4a65c_get_915e3 g l hG hst mm (wJ w 202 o) v1 w v9 e8) gX3_countBetween_Jx4a65c_get_915e3_f35Jx4a65c rfl (by decide +kernel) rfl (x_nz hw c4) (c_recv hX hw (ce_7 c4) rfl) ((hG s hX.2.1.2.1).2.1.2.1) (show vwCl[0]? = some (RJx4a65c, TJx4a65c, 3) from rfl) hl.1 rfl (Nat.le_of_ble_eq_true rfl) ⟨by decide, by decide⟩ dX3_countBetween_25 (fun H lc cn sn hw => ?_)
        obtain ⟨c10, h⟩ := og h
        refine c_cast hX hw (c10.imp id ce_1) rfl (by decide +kernel) dX3_countBetween_30 ?_
        refine lv_iload_n hx hb dX3_countBetween_33 rfl (lv_at hl 3 rfl) ?_
        refine lv_iload_n hx hb dX3_countBetween_34 rfl (lv_at hl 4 rfl) ?_
        obtain ⟨c11, h⟩ := og h
        obtain ⟨v13, e12, h⟩ := ob h
        refine g_callVi (n := 2) (As := [.int p0, .int p1]) (rest := []) hX hw (c_X2_isBetween g l hG hst mm v9 p0 p1 w v13 e12) gX3_countBetween_X2_isBetween rfl (by decide +kernel) rfl (x_nz hw c11) (c_recv hX hw (ce_1 c11) rfl) hl.1 rfl (Nat.le_of_ble_eq_true rfl) ⟨by decide, by decide⟩ dX3_countBetween_35 (fun H lc cn sn hw => ?_)
        obtain ⟨aj16, h1aj16, kaj16⟩ := ob1 h
        have haj16 : ∀ (v15 : Int32) (H : Heap) (lc : List Loc) (cn sn : Nat) (ls : Array Slot), aj16 = v15 → wH g s.heap.size (w, mm) H lc → lv_has ls 5 [(4, .int v1), (3, .int v15), (0, rv o), (1, .int p0), (2, .int p1)] → W p l e (rmO g 3 64 s.heap) s mi args below meth cd H lc cn sn Q (F0 mi 44 ls []) := by
          intro v15 H lc cn sn ls h hw hl
          replace h := kaj16 _ h
          refine lv_iinc (v := (v1 + 1)) (lv' := [(4, .int (v1 + 1)), (3, .int v15), (0, rv o), (1, .int p0), (2, .int p1)]) hx hb dX3_countBetween_44 hl (k := 0) rfl (by rfl) (by decide) rfl (fun ls hl => ?_)
          refine lv_goto (tgt := 5) hx hb dX3_countBetween_47 (by decide) ?_
          exact ih _ _ _ _ _ _ _ h hw (lv_sub hl [0, 1, 2, 3, 4] rfl)
        replace h := h1aj16
        refine lv_if_eq (tgt := 44) hx hb dX3_countBetween_38 (by decide) (fun c14 => ?_) (fun c14 => ?_)
        · replace h := ot c14 h
          replace h := (Option.some.inj h).symm
          exact haj16 _ _ _ _ _ _ h hw (lv_sub hl [0, 1, 2, 3, 4] rfl)
        · replace h := oe c14 h
          refine lv_iinc (v := (v2 + 1)) (lv' := [(3, .int (v2 + 1)), (4, .int v1), (0, rv o), (1, .int p0), (2, .int p1)]) hx hb dX3_countBetween_41 hl (k := 1) rfl (by rfl) (by decide) rfl (fun ls hl => ?_)
          replace h := (Option.some.inj h).symm
          exact haj16 _ _ _ _ _ _ h hw (lv_sub hl [1, 0, 2, 3, 4] rfl)
  exact hkj18 FU 0 0 _ _ _ _ _ h1aj18 hw (lv_sub hl [0, 1, 2, 3, 4] rfl)

set_option maxHeartbeats 4000000 in
set_option maxRecDepth 100000 in
theorem c_X3_removeBetween (g : GG) (l : Launch) (hG : XG g) (hst : l.stackTraces = false) (mm : MS) (o : Nat) (p0 : Int32) (p1 : Int32) (w : CS) (r : Int32) (w' : CS) (h : x_X3_removeBetween o p0 p1 w = some (r, w')) : MetG g l yX3_removeBetween wsX3_removeBetween 3 86 [rv o, .int p0, .int p1] (w, mm) (some (.int r)) (w', mm) := by
  refine g_start_i (some (.int r)) (own := RX3) (by decide +kernel) rfl rfl (by simp [lg_sl, rv_cat, ct_i, ct_l]) ?_
  intro p e s mi args below meth cd ls Q hX hnm hw hl hret
  have hl : lv_has ls 5 [(0, rv o), (1, .int p0), (2, .int p1)] := by simpa [lv_args, rv_cat, ct_i, ct_l] using hl
  obtain ⟨⟨hx, hb, -, hown, hts⟩, -⟩ := id hX
  unfold x_X3_removeBetween at h
  refine lv_iconst (v := 0) hx hb dX3_removeBetween_0 (by decide) ?_
  refine lv_istore_n (lv' := [(3, .int 0), (0, rv o), (1, .int p0), (2, .int p1)]) hx hb dX3_removeBetween_1 rfl hl (by decide) rfl (fun ls hl => ?_)
  refine t_aload_n hx hb dX3_removeBetween_2 rfl (lv_at hl 1 rfl) ?_
  obtain ⟨c1, h⟩ := og h
  refine c_gf (C := RX3) (TT := TX3) (N := 3) (ref := "TabStore$Store") (v := rv (wJ w 202 o)) hX hw (ce_5 c1) rfl 2 (by decide +kernel) (by decide) (by decide +kernel) (fun _ h9 => h9) rfl dX3_removeBetween_3 ?_
  obtain ⟨c2, h⟩ := og h
  obtain ⟨v4, e3, h⟩ := ob h
  refine g_callFi (n := 0) (As := []) (rest := []) hX hw (c_Jx4a65c_size_8abf5 g l hG hst mm (wJ w 202 o) w v4 e3) gX3_removeBetween_Jx4a65c_size_8abf5_f26Jx4a65c rfl (by decide +kernel) rfl (x_nz hw c2) (c_recv hX hw (ce_7 c2) rfl) ((hG s hX.2.1.2.1).2.1.1) (show vwCl[0]? = some (RJx4a65c, TJx4a65c, 3) from rfl) hl.1 rfl (Nat.le_of_ble_eq_true rfl) ⟨by decide, by decide⟩ dX3_removeBetween_6 (fun H lc cn sn hw => ?_)
  refine lv_iconst (v := 1) hx hb dX3_removeBetween_11 (by decide) ?_
  refine lv_isub hx hb dX3_removeBetween_12 ?_
  refine lv_istore (lv' := [(4, .int (v4 - 1)), (3, .int 0), (0, rv o), (1, .int p0), (2, .int p1)]) hx hb dX3_removeBetween_13 hl (by decide) rfl (fun ls hl => ?_)
  obtain ⟨aj26, h1aj26, kaj26⟩ := ob2 h
  have haj26 : ∀ (v24 : Int32) (w25 : CS) (H : Heap) (lc : List Loc) (cn sn : Nat) (ls : Array Slot), aj26 = (v24, w25) → wH g s.heap.size (w25, mm) H lc → lv_has ls 5 [(3, .int v24)] → W p l e (rmO g 3 86 s.heap) s mi args below meth cd H lc cn sn Q (F0 mi 63 ls []) := by
    intro v24 w25 H lc cn sn ls h hw hl
    replace h := kaj26 _ _ h
    refine lv_iload_n hx hb dX3_removeBetween_63 rfl (lv_at hl 0 rfl) ?_
    replace h := (Option.some.inj h).symm
    obtain ⟨rfl, rfl⟩ := Prod.mk.inj h
    exact hret _ _ _ _ _ _ _ dX3_removeBetween_64 hw rfl
  have hkj26 : ∀ (n : Nat) (v5 : Int32) (v6 : Int32) (w7 : CS) (H : Heap) (lc : List Loc) (cn sn : Nat) (ls : Array Slot), x_X3_removeBetween_L1 o p0 p1 n v5 v6 w7 = some aj26 → wH g s.heap.size (w7, mm) H lc → lv_has ls 5 [(4, .int v5), (3, .int v6), (0, rv o), (1, .int p0), (2, .int p1)] → W p l e (rmO g 3 86 s.heap) s mi args below meth cd H lc cn sn Q (F0 mi 15 ls []) := by
    intro n
    induction n with
    | zero =>
      intro v5 v6 w7 H lc cn sn ls h
      rw [x_X3_removeBetween_L1] at h
      cases h
    | succ n ih =>
      intro v5 v6 w7 H lc cn sn ls h hw hl
      rw [x_X3_removeBetween_L1] at h
      refine lv_iload hx hb dX3_removeBetween_15 (lv_at hl 0 rfl) ?_
      refine lv_if_lt (tgt := 63) hx hb dX3_removeBetween_17 (by decide) (fun c8 => ?_) (fun c8 => ?_)
      · replace h := ot c8 h
        replace h := (Option.some.inj h).symm
        exact haj26 _ _ _ _ _ _ _ h hw (lv_sub hl [1] rfl)
      · replace h := oe c8 h
        refine t_aload_n hx hb dX3_removeBetween_20 rfl (lv_at hl 2 rfl) ?_
        obtain ⟨c9, h⟩ := og h
        refine c_gf (C := RX3) (TT := TX3) (N := 3) (ref := "TabStore$Store") (v := rv (wJ w7 202 o)) hX hw (ce_5 c9) rfl 2 (by decide +kernel) (by decide) (by decide +kernel) (fun _ h9 => h9) rfl dX3_removeBetween_21 ?_
        refine lv_iload hx hb dX3_removeBetween_24 (lv_at hl 0 rfl) ?_
        obtain ⟨c10, h⟩ := og h
        obtain ⟨v12, e11, h⟩ := ob h
        refine g_callFa (n := 1) (As := [.int v5]) (rest := []) hX hw (c_Jx4a65c_get_915e3 g l hG hst mm (wJ w7 202 o) v5 w7 v12 e11) gX3_removeBetween_Jx4a65c_get_915e3_f35Jx4a65c rfl (by decide +kernel) rfl (x_nz hw c10) (c_recv hX hw (ce_7 c10) rfl) ((hG s hX.2.1.2.1).2.1.2.1) (show vwCl[0]? = some (RJx4a65c, TJx4a65c, 3) from rfl) hl.1 rfl (Nat.le_of_ble_eq_true rfl) ⟨by decide, by decide⟩ dX3_removeBetween_26 (fun H lc cn sn hw => ?_)
        obtain ⟨c13, h⟩ := og h
        refine c_cast hX hw (c13.imp id ce_1) rfl (by decide +kernel) dX3_removeBetween_31 ?_
        refine lv_iload_n hx hb dX3_removeBetween_34 rfl (lv_at hl 3 rfl) ?_
        refine lv_iload_n hx hb dX3_removeBetween_35 rfl (lv_at hl 4 rfl) ?_
        obtain ⟨c14, h⟩ := og h
        obtain ⟨v16, e15, h⟩ := ob h
        refine g_callVi (n := 2) (As := [.int p0, .int p1]) (rest := []) hX hw (c_X2_isBetween g l hG hst mm v12 p0 p1 w7 v16 e15) gX3_removeBetween_X2_isBetween rfl (by decide +kernel) rfl (x_nz hw c14) (c_recv hX hw (ce_1 c14) rfl) hl.1 rfl (Nat.le_of_ble_eq_true rfl) ⟨by decide, by decide⟩ dX3_removeBetween_36 (fun H lc cn sn hw => ?_)
        obtain ⟨aj23, h1aj23, kaj23⟩ := ob2 h
        have haj23 : ∀ (v21 : Int32) (w22 : CS) (H : Heap) (lc : List Loc) (cn sn : Nat) (ls : Array Slot), aj23 = (v21, w22) → wH g s.heap.size (w22, mm) H lc → lv_has ls 5 [(4, .int v5), (3, .int v21), (0, rv o), (1, .int p0), (2, .int p1)] → W p l e (rmO g 3 86 s.heap) s mi args below meth cd H lc cn sn Q (F0 mi 57 ls []) := by
          intro v21 w22 H lc cn sn ls h hw hl
          replace h := kaj23 _ _ h
          refine lv_iinc (v := (v5 + (-1))) (lv' := [(4, .int (v5 + (-1))), (3, .int v21), (0, rv o), (1, .int p0), (2, .int p1)]) hx hb dX3_removeBetween_57 hl (k := 0) rfl (by rfl) (by decide) rfl (fun ls hl => ?_)
          refine lv_goto (tgt := 15) hx hb dX3_removeBetween_60 (by decide) ?_
          exact ih _ _ _ _ _ _ _ _ h hw (lv_sub hl [0, 1, 2, 3, 4] rfl)
        replace h := h1aj23
        refine lv_if_eq (tgt := 57) hx hb dX3_removeBetween_39 (by decide) (fun c17 => ?_) (fun c17 => ?_)
        · replace h := ot c17 h
          replace h := (Option.some.inj h).symm
          exact haj23 _ _ _ _ _ _ _ h hw (lv_sub hl [0, 1, 2, 3, 4] rfl)
        · replace h := oe c17 h
          refine t_aload_n hx hb dX3_removeBetween_42 rfl (lv_at hl 2 rfl) ?_
          refine c_gf (C := RX3) (TT := TX3) (N := 3) (ref := "TabStore$Store") (v := rv (wJ w7 202 o)) hX hw (ce_5 c9) rfl 2 (by decide +kernel) (by decide) (by decide +kernel) (fun _ h9 => h9) rfl dX3_removeBetween_43 ?_
          refine lv_iload hx hb dX3_removeBetween_46 (lv_at hl 0 rfl) ?_
          obtain ⟨v19, w20, e18, h⟩ := oc2 h
          refine g_callFa (n := 1) (As := [.int v5]) (rest := []) hX hw (c_Jx4a65c_remove_915e3 g l hG hst mm (wJ w7 202 o) v5 w7 v19 w20 e18) gX3_removeBetween_Jx4a65c_remove_915e3_f65Jx4a65c rfl (by decide +kernel) rfl (x_nz hw c10) (c_recv hX hw (ce_7 c10) rfl) ((hG s hX.2.1.2.1).2.1.2.2.2.2.1) (show vwCl[0]? = some (RJx4a65c, TJx4a65c, 3) from rfl) hl.1 rfl (Nat.le_of_ble_eq_true rfl) ⟨by decide, by decide⟩ dX3_removeBetween_48 (fun H lc cn sn hw => ?_)
          refine lv_pop hx hb dX3_removeBetween_53 (rv_cat _) ?_
          refine lv_iinc (v := (v6 + 1)) (lv' := [(3, .int (v6 + 1)), (4, .int v5), (0, rv o), (1, .int p0), (2, .int p1)]) hx hb dX3_removeBetween_54 hl (k := 1) rfl (by rfl) (by decide) rfl (fun ls hl => ?_)
          replace h := (Option.some.inj h).symm
          exact haj23 _ _ _ _ _ _ _ h hw (lv_sub hl [1, 0, 2, 3, 4] rfl)
  exact hkj26 FU (v4 - 1) 0 w _ _ _ _ _ h1aj26 hw (lv_sub hl [0, 1, 2, 3, 4] rfl)

set_option maxHeartbeats 4000000 in
set_option maxRecDepth 100000 in
theorem c_X3_firstFrom (g : GG) (l : Launch) (hG : XG g) (hst : l.stackTraces = false) (mm : MS) (o : Nat) (p0 : Int32) (p1 : Int64) (w : CS) (r : Nat) (h : x_X3_firstFrom o p0 p1 w = some r) : MetG g l yX3_firstFrom wsX3_firstFrom 3 64 [rv o, .int p0, .long p1] (w, mm) (some (rv r)) (w, mm) := by
  refine g_start_a (Or.inl ⟨_, rfl⟩) (some (rv r)) (own := RX3) (by decide +kernel) rfl rfl (by simp [lg_sl, rv_cat, ct_i, ct_l]) ?_
  intro p e s mi args below meth cd ls Q hX hnm hw hl hret
  have hl : lv_has ls 9 [(0, rv o), (1, .int p0), (2, .long p1)] := by simpa [lv_args, rv_cat, ct_i, ct_l] using hl
  obtain ⟨⟨hx, hb, -, hown, hts⟩, -⟩ := id hX
  unfold x_X3_firstFrom at h
  refine t_null hx hb dX3_firstFrom_0 ?_
  refine t_astore (lv' := [(4, rv 0), (0, rv o), (1, .int p0), (2, .long p1)]) hx hb dX3_firstFrom_1 hl (by decide) rfl (fun ls hl => ?_)
  refine lv_iconst (v := 0) hx hb dX3_firstFrom_3 (by decide) ?_
  refine lv_istore (lv' := [(5, .int 0), (4, rv 0), (0, rv o), (1, .int p0), (2, .long p1)]) hx hb dX3_firstFrom_4 hl (by decide) (by simp [rv_cat, ct_i, ct_l] <;> decide) (fun ls hl => ?_)
  obtain ⟨aj24, h1aj24, kaj24⟩ := ob1 h
  have haj24 : ∀ (v23 : Nat) (H : Heap) (lc : List Loc) (cn sn : Nat) (ls : Array Slot), aj24 = v23 → wH g s.heap.size (w, mm) H lc → lv_has ls 9 [(4, rv v23)] → W p l e (rmO g 3 64 s.heap) s mi args below meth cd H lc cn sn Q (F0 mi 78 ls []) := by
    intro v23 H lc cn sn ls h hw hl
    replace h := kaj24 _ h
    refine t_aload hx hb dX3_firstFrom_78 (lv_at hl 0 rfl) ?_
    replace h := (Option.some.inj h).symm
    subst h
    exact hret _ _ _ _ _ _ _ dX3_firstFrom_80 hw rfl
  have hkj24 : ∀ (n : Nat) (v1 : Int32) (v2 : Nat) (H : Heap) (lc : List Loc) (cn sn : Nat) (ls : Array Slot), x_X3_firstFrom_L1 o p0 p1 w n v1 v2 = some aj24 → wH g s.heap.size (w, mm) H lc → lv_has ls 9 [(5, .int v1), (4, rv v2), (0, rv o), (1, .int p0), (2, .long p1)] → W p l e (rmO g 3 64 s.heap) s mi args below meth cd H lc cn sn Q (F0 mi 6 ls []) := by
    intro n
    induction n with
    | zero =>
      intro v1 v2 H lc cn sn ls h
      rw [x_X3_firstFrom_L1] at h
      cases h
    | succ n ih =>
      intro v1 v2 H lc cn sn ls h hw hl
      rw [x_X3_firstFrom_L1] at h
      refine lv_iload hx hb dX3_firstFrom_6 (lv_at hl 0 rfl) ?_
      refine t_aload_n hx hb dX3_firstFrom_8 rfl (lv_at hl 2 rfl) ?_
      obtain ⟨c3, h⟩ := og h
      refine c_gf (C := RX3) (TT := TX3) (N := 3) (ref := "TabStore$Store") (v := rv (wJ w 202 o)) hX hw (ce_5 c3) rfl 2 (by decide +kernel) (by decide) (by decide +kernel) (fun _ h9 => h9) rfl dX3_firstFrom_9 ?_
      obtain ⟨c4, h⟩ := og h
      obtain ⟨v6, e5, h⟩ := ob h
      refine g_callFi (n := 0) (As := []) (rest := [.int v1]) hX hw (c_Jx4a65c_size_8abf5 g l hG hst mm (wJ w 202 o) w v6 e5) gX3_firstFrom_Jx4a65c_size_8abf5_f26Jx4a65c rfl (by decide +kernel) rfl (x_nz hw c4) (c_recv hX hw (ce_7 c4) rfl) ((hG s hX.2.1.2.1).2.1.1) (show vwCl[0]? = some (RJx4a65c, TJx4a65c, 3) from rfl) hl.1 rfl (Nat.le_of_ble_eq_true rfl) ⟨by decide, by decide⟩ dX3_firstFrom_12 (fun H lc cn sn hw => ?_)
      refine lv_icmp_ge (tgt := 78) hx hb dX3_firstFrom_17 (by decide) (fun c7 => ?_) (fun c7 => ?_)
      · replace h := ot c7 h
        replace h := (Option.some.inj h).symm
        exact haj24 _ _ _ _ _ _ h hw (lv_sub hl [1] rfl)
      · replace h := oe c7 h
        refine t_aload_n hx hb dX3_firstFrom_20 rfl (lv_at hl 2 rfl) ?_
        refine c_gf (C := RX3) (TT := TX3) (N := 3) (ref := "TabStore$Store") (v := rv (wJ w 202 o)) hX hw (ce_5 c3) rfl 2 (by decide +kernel) (by decide) (by decide +kernel) (fun _ h9 => h9) rfl dX3_firstFrom_21 ?_
        refine lv_iload hx hb dX3_firstFrom_24 (lv_at hl 0 rfl) ?_
        obtain ⟨v9, e8, h⟩ := ob h
        refine g_callFa (n := 1) (As := [.int v1]) (rest := []) hX hw (c_Jx4a65c_get_915e3 g l hG hst mm (wJ w 202 o) v1 w v9 e8) gX3_firstFrom_Jx4a65c_get_915e3_f35Jx4a65c rfl (by decide +kernel) rfl (x_nz hw c4) (c_recv hX hw (ce_7 c4) rfl) ((hG s hX.2.1.2.1).2.1.2.1) (show vwCl[0]? = some (RJx4a65c, TJx4a65c, 3) from rfl) hl.1 rfl (Nat.le_of_ble_eq_true rfl) ⟨by decide, by decide⟩ dX3_firstFrom_26 (fun H lc cn sn hw => ?_)
        obtain ⟨c10, h⟩ := og h
        refine c_cast hX hw (c10.imp id ce_1) rfl (by decide +kernel) dX3_firstFrom_31 ?_
        refine t_astore (lv' := [(6, rv v9), (5, .int v1), (4, rv v2), (0, rv o), (1, .int p0), (2, .long p1)]) hx hb dX3_firstFrom_34 hl (by decide) rfl (fun ls hl => ?_)
        refine t_aload hx hb dX3_firstFrom_36 (lv_at hl 0 rfl) ?_
        refine lv_iload_n hx hb dX3_firstFrom_38 rfl (lv_at hl 4 rfl) ?_
        obtain ⟨c11, h⟩ := og h
        obtain ⟨v13, e12, h⟩ := ob h
        refine g_callVl (n := 1) (As := [.int p0]) (rest := []) hX hw (c_X2_place g l hG hst mm v9 p0 w v13 e12) gX3_firstFrom_X2_place rfl (by decide +kernel) rfl (x_nz hw c11) (c_recv hX hw (ce_1 c11) rfl) hl.1 rfl (Nat.le_of_ble_eq_true rfl) ⟨by decide, by decide⟩ dX3_firstFrom_39 (fun H lc cn sn hw => ?_)
        refine lv_lstore (lv' := [(7, .long v13), (6, rv v9), (5, .int v1), (4, rv v2), (0, rv o), (1, .int p0), (2, .long p1)]) hx hb dX3_firstFrom_42 hl (by decide) (by simp [rv_cat, ct_i, ct_l] <;> decide) (fun ls hl => ?_)
        refine lv_lload hx hb dX3_firstFrom_44 (lv_at hl 0 rfl) ?_
        refine lv_lload_n hx hb dX3_firstFrom_46 rfl (lv_at hl 6 rfl) ?_
        refine W.lcmp hx hb dX3_firstFrom_47 ?_
        obtain ⟨aj22, h1aj22, kaj22⟩ := ob1 h
        have haj22 : ∀ (v21 : Nat) (H : Heap) (lc : List Loc) (cn sn : Nat) (ls : Array Slot), aj22 = v21 → wH g s.heap.size (w, mm) H lc → lv_has ls 9 [(5, .int v1), (4, rv v21), (0, rv o), (1, .int p0), (2, .long p1)] → W p l e (rmO g 3 64 s.heap) s mi args below meth cd H lc cn sn Q (F0 mi 72 ls []) := by
          intro v21 H lc cn sn ls h hw hl
          replace h := kaj22 _ h
          refine lv_iinc (v := (v1 + 1)) (lv' := [(5, .int (v1 + 1)), (4, rv v21), (0, rv o), (1, .int p0), (2, .long p1)]) hx hb dX3_firstFrom_72 hl (k := 0) rfl (by rfl) (by decide) (by simp [rv_cat, ct_i, ct_l] <;> decide) (fun ls hl => ?_)
          refine lv_goto (tgt := 6) hx hb dX3_firstFrom_75 (by decide) ?_
          exact ih _ _ _ _ _ _ _ h hw (lv_sub hl [0, 1, 2, 3, 4] rfl)
        replace h := h1aj22
        refine lv_if_lt (tgt := 72) hx hb dX3_firstFrom_48 (by decide) (fun c14 => ?_) (fun c14 => ?_)
        · replace h := ot c14 h
          replace h := (Option.some.inj h).symm
          exact haj22 _ _ _ _ _ _ h hw (lv_sub hl [2, 3, 4, 5, 6] rfl)
        · replace h := oe c14 h
          refine t_aload hx hb dX3_firstFrom_51 (lv_at hl 3 rfl) ?_
          obtain ⟨aj20, h1aj20, kaj20, raj20⟩ := ol0 h
          have haj20 : ∀ (H : Heap) (lc : List Loc) (cn sn : Nat) (ls : Array Slot), aj20 = Sum.inl () → wH g s.heap.size (w, mm) H lc → lv_has ls 9 [(6, rv v9), (5, .int v1), (0, rv o), (1, .int p0), (2, .long p1)] → W p l e (rmO g 3 64 s.heap) s mi args below meth cd H lc cn sn Q (F0 mi 68 ls []) := by
            intro H lc cn sn ls h hw hl
            replace h := kaj20 h
            refine t_aload hx hb dX3_firstFrom_68 (lv_at hl 0 rfl) ?_
            refine t_astore (lv' := [(4, rv v9), (6, rv v9), (5, .int v1), (0, rv o), (1, .int p0), (2, .long p1)]) hx hb dX3_firstFrom_70 hl (by decide) rfl (fun ls hl => ?_)
            replace h := (Option.some.inj h).symm
            exact haj22 _ _ _ _ _ _ h hw (lv_sub hl [2, 0, 3, 4, 5] rfl)
          replace h := h1aj20
          refine t_ifnull (tgt := 68) hx hb dX3_firstFrom_53 (by decide) (fun c15 => ?_) (fun c15 => ?_)
          · replace h := ot c15 h
            replace h := (Option.some.inj h).symm
            exact haj20 _ _ _ _ _ h hw (lv_sub hl [1, 2, 4, 5, 6] rfl)
          · replace h := oe c15 h
            refine lv_lload hx hb dX3_firstFrom_56 (lv_at hl 0 rfl) ?_
            refine t_aload hx hb dX3_firstFrom_58 (lv_at hl 3 rfl) ?_
            refine lv_iload_n hx hb dX3_firstFrom_60 rfl (lv_at hl 5 rfl) ?_
            obtain ⟨c16, h⟩ := og h
            obtain ⟨v18, e17, h⟩ := ob h
            refine g_callVl (n := 1) (As := [.int p0]) (rest := [.long v13]) hX hw (c_X2_place g l hG hst mm v2 p0 w v18 e17) gX3_firstFrom_X2_place rfl (by decide +kernel) rfl (x_nz hw c16) (c_recv hX hw (ce_1 c16) rfl) hl.1 rfl (Nat.le_of_ble_eq_true rfl) ⟨by decide, by decide⟩ dX3_firstFrom_61 (fun H lc cn sn hw => ?_)
            refine W.lcmp hx hb dX3_firstFrom_64 ?_
            refine lv_if_ge (tgt := 72) hx hb dX3_firstFrom_65 (by decide) (fun c19 => ?_) (fun c19 => ?_)
            · replace h := ot c19 h
              replace h := (Option.some.inj h).symm
              replace h := raj20 _ h
              exact haj22 _ _ _ _ _ _ h hw (lv_sub hl [2, 3, 4, 5, 6] rfl)
            · replace h := oe c19 h
              replace h := (Option.some.inj h).symm
              exact haj20 _ _ _ _ _ h hw (lv_sub hl [1, 2, 4, 5, 6] rfl)
  exact hkj24 FU 0 0 _ _ _ _ _ h1aj24 hw (lv_sub hl [0, 1, 2, 3, 4] rfl)

set_option maxHeartbeats 4000000 in
set_option maxRecDepth 100000 in
theorem c_X3_lastBelow (g : GG) (l : Launch) (hG : XG g) (hst : l.stackTraces = false) (mm : MS) (o : Nat) (p0 : Int32) (p1 : Int64) (w : CS) (r : Nat) (h : x_X3_lastBelow o p0 p1 w = some r) : MetG g l yX3_lastBelow wsX3_lastBelow 3 64 [rv o, .int p0, .long p1] (w, mm) (some (rv r)) (w, mm) := by
  refine g_start_a (Or.inl ⟨_, rfl⟩) (some (rv r)) (own := RX3) (by decide +kernel) rfl rfl (by simp [lg_sl, rv_cat, ct_i, ct_l]) ?_
  intro p e s mi args below meth cd ls Q hX hnm hw hl hret
  have hl : lv_has ls 9 [(0, rv o), (1, .int p0), (2, .long p1)] := by simpa [lv_args, rv_cat, ct_i, ct_l] using hl
  obtain ⟨⟨hx, hb, -, hown, hts⟩, -⟩ := id hX
  unfold x_X3_lastBelow at h
  refine t_null hx hb dX3_lastBelow_0 ?_
  refine t_astore (lv' := [(4, rv 0), (0, rv o), (1, .int p0), (2, .long p1)]) hx hb dX3_lastBelow_1 hl (by decide) rfl (fun ls hl => ?_)
  refine lv_iconst (v := 0) hx hb dX3_lastBelow_3 (by decide) ?_
  refine lv_istore (lv' := [(5, .int 0), (4, rv 0), (0, rv o), (1, .int p0), (2, .long p1)]) hx hb dX3_lastBelow_4 hl (by decide) (by simp [rv_cat, ct_i, ct_l] <;> decide) (fun ls hl => ?_)
  obtain ⟨aj25, h1aj25, kaj25⟩ := ob1 h
  have haj25 : ∀ (v24 : Nat) (H : Heap) (lc : List Loc) (cn sn : Nat) (ls : Array Slot), aj25 = v24 → wH g s.heap.size (w, mm) H lc → lv_has ls 9 [(4, rv v24)] → W p l e (rmO g 3 64 s.heap) s mi args below meth cd H lc cn sn Q (F0 mi 85 ls []) := by
    intro v24 H lc cn sn ls h hw hl
    replace h := kaj25 _ h
    refine t_aload hx hb dX3_lastBelow_85 (lv_at hl 0 rfl) ?_
    replace h := (Option.some.inj h).symm
    subst h
    exact hret _ _ _ _ _ _ _ dX3_lastBelow_87 hw rfl
  have hkj25 : ∀ (n : Nat) (v1 : Int32) (v2 : Nat) (H : Heap) (lc : List Loc) (cn sn : Nat) (ls : Array Slot), x_X3_lastBelow_L1 o p0 p1 w n v1 v2 = some aj25 → wH g s.heap.size (w, mm) H lc → lv_has ls 9 [(5, .int v1), (4, rv v2), (0, rv o), (1, .int p0), (2, .long p1)] → W p l e (rmO g 3 64 s.heap) s mi args below meth cd H lc cn sn Q (F0 mi 6 ls []) := by
    intro n
    induction n with
    | zero =>
      intro v1 v2 H lc cn sn ls h
      rw [x_X3_lastBelow_L1] at h
      cases h
    | succ n ih =>
      intro v1 v2 H lc cn sn ls h hw hl
      rw [x_X3_lastBelow_L1] at h
      refine lv_iload hx hb dX3_lastBelow_6 (lv_at hl 0 rfl) ?_
      refine t_aload_n hx hb dX3_lastBelow_8 rfl (lv_at hl 2 rfl) ?_
      obtain ⟨c3, h⟩ := og h
      refine c_gf (C := RX3) (TT := TX3) (N := 3) (ref := "TabStore$Store") (v := rv (wJ w 202 o)) hX hw (ce_5 c3) rfl 2 (by decide +kernel) (by decide) (by decide +kernel) (fun _ h9 => h9) rfl dX3_lastBelow_9 ?_
      obtain ⟨c4, h⟩ := og h
      obtain ⟨v6, e5, h⟩ := ob h
      refine g_callFi (n := 0) (As := []) (rest := [.int v1]) hX hw (c_Jx4a65c_size_8abf5 g l hG hst mm (wJ w 202 o) w v6 e5) gX3_lastBelow_Jx4a65c_size_8abf5_f26Jx4a65c rfl (by decide +kernel) rfl (x_nz hw c4) (c_recv hX hw (ce_7 c4) rfl) ((hG s hX.2.1.2.1).2.1.1) (show vwCl[0]? = some (RJx4a65c, TJx4a65c, 3) from rfl) hl.1 rfl (Nat.le_of_ble_eq_true rfl) ⟨by decide, by decide⟩ dX3_lastBelow_12 (fun H lc cn sn hw => ?_)
      refine lv_icmp_ge (tgt := 85) hx hb dX3_lastBelow_17 (by decide) (fun c7 => ?_) (fun c7 => ?_)
      · replace h := ot c7 h
        replace h := (Option.some.inj h).symm
        exact haj25 _ _ _ _ _ _ h hw (lv_sub hl [1] rfl)
      · replace h := oe c7 h
        refine t_aload_n hx hb dX3_lastBelow_20 rfl (lv_at hl 2 rfl) ?_
        refine c_gf (C := RX3) (TT := TX3) (N := 3) (ref := "TabStore$Store") (v := rv (wJ w 202 o)) hX hw (ce_5 c3) rfl 2 (by decide +kernel) (by decide) (by decide +kernel) (fun _ h9 => h9) rfl dX3_lastBelow_21 ?_
        refine lv_iload hx hb dX3_lastBelow_24 (lv_at hl 0 rfl) ?_
        obtain ⟨v9, e8, h⟩ := ob h
        refine g_callFa (n := 1) (As := [.int v1]) (rest := []) hX hw (c_Jx4a65c_get_915e3 g l hG hst mm (wJ w 202 o) v1 w v9 e8) gX3_lastBelow_Jx4a65c_get_915e3_f35Jx4a65c rfl (by decide +kernel) rfl (x_nz hw c4) (c_recv hX hw (ce_7 c4) rfl) ((hG s hX.2.1.2.1).2.1.2.1) (show vwCl[0]? = some (RJx4a65c, TJx4a65c, 3) from rfl) hl.1 rfl (Nat.le_of_ble_eq_true rfl) ⟨by decide, by decide⟩ dX3_lastBelow_26 (fun H lc cn sn hw => ?_)
        obtain ⟨c10, h⟩ := og h
        refine c_cast hX hw (c10.imp id ce_1) rfl (by decide +kernel) dX3_lastBelow_31 ?_
        refine t_astore (lv' := [(6, rv v9), (5, .int v1), (4, rv v2), (0, rv o), (1, .int p0), (2, .long p1)]) hx hb dX3_lastBelow_34 hl (by decide) rfl (fun ls hl => ?_)
        refine t_aload hx hb dX3_lastBelow_36 (lv_at hl 0 rfl) ?_
        refine lv_iload_n hx hb dX3_lastBelow_38 rfl (lv_at hl 4 rfl) ?_
        obtain ⟨c11, h⟩ := og h
        obtain ⟨v13, e12, h⟩ := ob h
        refine g_callVl (n := 1) (As := [.int p0]) (rest := []) hX hw (c_X2_place g l hG hst mm v9 p0 w v13 e12) gX3_lastBelow_X2_place rfl (by decide +kernel) rfl (x_nz hw c11) (c_recv hX hw (ce_1 c11) rfl) hl.1 rfl (Nat.le_of_ble_eq_true rfl) ⟨by decide, by decide⟩ dX3_lastBelow_39 (fun H lc cn sn hw => ?_)
        refine lv_lstore (lv' := [(7, .long v13), (6, rv v9), (5, .int v1), (4, rv v2), (0, rv o), (1, .int p0), (2, .long p1)]) hx hb dX3_lastBelow_42 hl (by decide) (by simp [rv_cat, ct_i, ct_l] <;> decide) (fun ls hl => ?_)
        refine lv_lload hx hb dX3_lastBelow_44 (lv_at hl 0 rfl) ?_
        refine lv_lconst (v := 0) hx hb dX3_lastBelow_46 (by decide) ?_
        refine W.lcmp hx hb dX3_lastBelow_47 ?_
        obtain ⟨aj23, h1aj23, kaj23⟩ := ob1 h
        have haj23 : ∀ (v22 : Nat) (H : Heap) (lc : List Loc) (cn sn : Nat) (ls : Array Slot), aj23 = v22 → wH g s.heap.size (w, mm) H lc → lv_has ls 9 [(5, .int v1), (4, rv v22), (0, rv o), (1, .int p0), (2, .long p1)] → W p l e (rmO g 3 64 s.heap) s mi args below meth cd H lc cn sn Q (F0 mi 79 ls []) := by
          intro v22 H lc cn sn ls h hw hl
          replace h := kaj23 _ h
          refine lv_iinc (v := (v1 + 1)) (lv' := [(5, .int (v1 + 1)), (4, rv v22), (0, rv o), (1, .int p0), (2, .long p1)]) hx hb dX3_lastBelow_79 hl (k := 0) rfl (by rfl) (by decide) (by simp [rv_cat, ct_i, ct_l] <;> decide) (fun ls hl => ?_)
          refine lv_goto (tgt := 6) hx hb dX3_lastBelow_82 (by decide) ?_
          exact ih _ _ _ _ _ _ _ h hw (lv_sub hl [0, 1, 2, 3, 4] rfl)
        replace h := h1aj23
        refine lv_if_lt (tgt := 79) hx hb dX3_lastBelow_48 (by decide) (fun c14 => ?_) (fun c14 => ?_)
        · replace h := ot c14 h
          replace h := (Option.some.inj h).symm
          exact haj23 _ _ _ _ _ _ h hw (lv_sub hl [2, 3, 4, 5, 6] rfl)
        · replace h := oe c14 h
          refine lv_lload hx hb dX3_lastBelow_51 (lv_at hl 0 rfl) ?_
          refine lv_lload_n hx hb dX3_lastBelow_53 rfl (lv_at hl 6 rfl) ?_
          refine W.lcmp hx hb dX3_lastBelow_54 ?_
          refine lv_if_ge (tgt := 79) hx hb dX3_lastBelow_55 (by decide) (fun c15 => ?_) (fun c15 => ?_)
          · replace h := ot c15 h
            replace h := (Option.some.inj h).symm
            exact haj23 _ _ _ _ _ _ h hw (lv_sub hl [2, 3, 4, 5, 6] rfl)
          · replace h := oe c15 h
            refine t_aload hx hb dX3_lastBelow_58 (lv_at hl 3 rfl) ?_
            obtain ⟨aj21, h1aj21, kaj21, raj21⟩ := ol0 h
            have haj21 : ∀ (H : Heap) (lc : List Loc) (cn sn : Nat) (ls : Array Slot), aj21 = Sum.inl () → wH g s.heap.size (w, mm) H lc → lv_has ls 9 [(6, rv v9), (5, .int v1), (0, rv o), (1, .int p0), (2, .long p1)] → W p l e (rmO g 3 64 s.heap) s mi args below meth cd H lc cn sn Q (F0 mi 75 ls []) := by
              intro H lc cn sn ls h hw hl
              replace h := kaj21 h
              refine t_aload hx hb dX3_lastBelow_75 (lv_at hl 0 rfl) ?_
              refine t_astore (lv' := [(4, rv v9), (6, rv v9), (5, .int v1), (0, rv o), (1, .int p0), (2, .long p1)]) hx hb dX3_lastBelow_77 hl (by decide) rfl (fun ls hl => ?_)
              replace h := (Option.some.inj h).symm
              exact haj23 _ _ _ _ _ _ h hw (lv_sub hl [2, 0, 3, 4, 5] rfl)
            replace h := h1aj21
            refine t_ifnull (tgt := 75) hx hb dX3_lastBelow_60 (by decide) (fun c16 => ?_) (fun c16 => ?_)
            · replace h := ot c16 h
              replace h := (Option.some.inj h).symm
              exact haj21 _ _ _ _ _ h hw (lv_sub hl [1, 2, 4, 5, 6] rfl)
            · replace h := oe c16 h
              refine lv_lload hx hb dX3_lastBelow_63 (lv_at hl 0 rfl) ?_
              refine t_aload hx hb dX3_lastBelow_65 (lv_at hl 3 rfl) ?_
              refine lv_iload_n hx hb dX3_lastBelow_67 rfl (lv_at hl 5 rfl) ?_
              obtain ⟨c17, h⟩ := og h
              obtain ⟨v19, e18, h⟩ := ob h
              refine g_callVl (n := 1) (As := [.int p0]) (rest := [.long v13]) hX hw (c_X2_place g l hG hst mm v2 p0 w v19 e18) gX3_lastBelow_X2_place rfl (by decide +kernel) rfl (x_nz hw c17) (c_recv hX hw (ce_1 c17) rfl) hl.1 rfl (Nat.le_of_ble_eq_true rfl) ⟨by decide, by decide⟩ dX3_lastBelow_68 (fun H lc cn sn hw => ?_)
              refine W.lcmp hx hb dX3_lastBelow_71 ?_
              refine lv_if_le (tgt := 79) hx hb dX3_lastBelow_72 (by decide) (fun c20 => ?_) (fun c20 => ?_)
              · replace h := ot c20 h
                replace h := (Option.some.inj h).symm
                replace h := raj21 _ h
                exact haj23 _ _ _ _ _ _ h hw (lv_sub hl [2, 3, 4, 5, 6] rfl)
              · replace h := oe c20 h
                replace h := (Option.some.inj h).symm
                exact haj21 _ _ _ _ _ h hw (lv_sub hl [1, 2, 4, 5, 6] rfl)
  exact hkj25 FU 0 0 _ _ _ _ _ h1aj25 hw (lv_sub hl [0, 1, 2, 3, 4] rfl)

set_option maxHeartbeats 4000000 in
set_option maxRecDepth 100000 in
theorem c_X0_init (g : GG) (l : Launch) (hG : XG g) (hst : l.stackTraces = false) (mm : MS) (o : Nat) (p0 : Nat) (p1 : Nat) (p2 : Int32) (p3 : Int32) (w : CS) (w' : CS) (h : x_X0_init o p0 p1 p2 p3 w = some w') : MetG g l yX0_init wsX0_init 1 12 [rv o, rv p0, rv p1, .int p2, .int p3] (w, mm) (none) (w', mm) := by
  refine g_start_v (none) (own := RX0) (by decide +kernel) rfl rfl (by simp [lg_sl, rv_cat, ct_i, ct_l]) ?_
  intro p e s mi args below meth cd ls Q hX hnm hw hl hret
  have hl : lv_has ls 5 [(0, rv o), (1, rv p0), (2, rv p1), (3, .int p2), (4, .int p3)] := by simpa [lv_args, rv_cat, ct_i, ct_l] using hl
  obtain ⟨⟨hx, hb, -, hown, hts⟩, -⟩ := id hX
  unfold x_X0_init at h
  refine t_aload_n hx hb dX0_init_0 rfl (lv_at hl 0 rfl) ?_
  obtain ⟨c1, h⟩ := og h
  refine c_oinit hX (x_nz hw c1) (by decide +kernel) (by decide +kernel) (by decide +kernel) hl.1 dX0_init_1 ⟨by decide, by simp [rv_cat, ct_i, ct_l]⟩ ?_
  refine t_aload_n hx hb dX0_init_4 rfl (lv_at hl 0 rfl) ?_
  refine lv_iconst (v := 0) hx hb dX0_init_5 (by decide) ?_
  obtain ⟨w2, ew2, h⟩ := ol h
  refine p_3_5 hX hw c1 (by decide +kernel) (by decide +kernel) dX0_init_6 (fun H lc hw => ?_)
  have hw := hw_eq ew2 hw
  refine t_aload_n hx hb dX0_init_9 rfl (lv_at hl 0 rfl) ?_
  refine lv_iconst (v := 0) hx hb dX0_init_10 (by decide) ?_
  obtain ⟨c3, h⟩ := og h
  obtain ⟨w4, ew4, h⟩ := ol h
  refine p_3_6 hX hw c3 (by decide +kernel) (by decide +kernel) dX0_init_11 (fun H lc hw => ?_)
  have hw := hw_eq ew4 hw
  refine t_aload_n hx hb dX0_init_14 rfl (lv_at hl 0 rfl) ?_
  refine lv_lconst (v := 0) hx hb dX0_init_15 (by decide) ?_
  obtain ⟨c5, h⟩ := og h
  obtain ⟨w6, ew6, h⟩ := ol h
  refine p_3_7 hX hw c5 (by decide +kernel) (by decide +kernel) dX0_init_16 (fun H lc hw => ?_)
  have hw := hw_eq ew6 hw
  refine t_aload_n hx hb dX0_init_19 rfl (lv_at hl 0 rfl) ?_
  refine t_aload_n hx hb dX0_init_20 rfl (lv_at hl 1 rfl) ?_
  obtain ⟨c7, h⟩ := og h
  obtain ⟨w8, ew8, h⟩ := ol h
  refine p_3_0 hX hw c7 hnm rfl (by decide +kernel) (by decide +kernel) dX0_init_21 (fun H lc hw => ?_)
  have hw := hw_eq ew8 hw
  refine t_aload_n hx hb dX0_init_24 rfl (lv_at hl 0 rfl) ?_
  refine t_aload_n hx hb dX0_init_25 rfl (lv_at hl 2 rfl) ?_
  obtain ⟨c9, h⟩ := og h
  obtain ⟨w10, ew10, h⟩ := ol h
  refine p_3_1 hX hw c9 hnm rfl (by decide +kernel) (by decide +kernel) dX0_init_26 (fun H lc hw => ?_)
  have hw := hw_eq ew10 hw
  refine t_aload_n hx hb dX0_init_29 rfl (lv_at hl 0 rfl) ?_
  refine lv_iload_n hx hb dX0_init_30 rfl (lv_at hl 3 rfl) ?_
  obtain ⟨c11, h⟩ := og h
  obtain ⟨w12, ew12, h⟩ := ol h
  refine p_3_2 hX hw c11 hnm rfl (by decide +kernel) (by decide +kernel) dX0_init_31 (fun H lc hw => ?_)
  have hw := hw_eq ew12 hw
  refine t_aload_n hx hb dX0_init_34 rfl (lv_at hl 0 rfl) ?_
  refine lv_iload hx hb dX0_init_35 (lv_at hl 4 rfl) ?_
  refine lv_iconst (v := 1) hx hb dX0_init_37 (by decide) ?_
  obtain ⟨aj28, h1aj28, kaj28⟩ := ob1 h
  have haj28 : ∀ (v16 : Int32) (H : Heap) (lc : List Loc) (cn sn : Nat) (ls : Array Slot), aj28 = v16 → wH g s.heap.size (w12, mm) H lc → lv_has ls 5 [(0, rv o), (3, .int p2), (4, .int p3)] → W p l e (rmO g 1 12 s.heap) s mi args below meth cd H lc cn sn Q (F0 mi 52 ls [.int v16, rv o]) := by
    intro v16 H lc cn sn ls h hw hl
    replace h := kaj28 _ h
    obtain ⟨c17, h⟩ := og h
    obtain ⟨c18, h⟩ := og h
    obtain ⟨w19, ew19, h⟩ := ol h
    refine p_3_3 hX hw c17 c18 hnm rfl (by decide +kernel) (by decide +kernel) dX0_init_52 (fun H lc hw => ?_)
    have hw := hw_eq ew19 hw
    refine t_aload_n hx hb dX0_init_55 rfl (lv_at hl 0 rfl) ?_
    refine lv_iload hx hb dX0_init_56 (lv_at hl 2 rfl) ?_
    refine lv_iconst (v := 2) hx hb dX0_init_58 (by decide) ?_
    obtain ⟨aj27, h1aj27, kaj27⟩ := ob1 h
    have haj27 : ∀ (v23 : Int32) (H : Heap) (lc : List Loc) (cn sn : Nat) (ls : Array Slot), aj27 = v23 → wH g s.heap.size (w19, mm) H lc → lv_has ls 5 [] → W p l e (rmO g 1 12 s.heap) s mi args below meth cd H lc cn sn Q (F0 mi 72 ls [.int v23, rv o]) := by
      intro v23 H lc cn sn ls h hw hl
      replace h := kaj27 _ h
      obtain ⟨c24, h⟩ := og h
      obtain ⟨c25, h⟩ := og h
      obtain ⟨w26, ew26, h⟩ := ol h
      refine p_3_4 hX hw c24 c25 hnm rfl (by decide +kernel) (by decide +kernel) dX0_init_72 (fun H lc hw => ?_)
      have hw := hw_eq ew26 hw
      replace h := (Option.some.inj h).symm
      subst h
      exact hret _ _ _ _ _ _ dX0_init_75 hw rfl
    replace h := h1aj27
    obtain ⟨aj22, h1aj22, kaj22, raj22⟩ := ol0 h
    have haj22 : ∀ (H : Heap) (lc : List Loc) (cn sn : Nat) (ls : Array Slot), aj22 = Sum.inl () → wH g s.heap.size (w19, mm) H lc → lv_has ls 5 [] → W p l e (rmO g 1 12 s.heap) s mi args below meth cd H lc cn sn Q (F0 mi 71 ls [rv o]) := by
      intro H lc cn sn ls h hw hl
      replace h := kaj22 h
      refine lv_iconst (v := 0) hx hb dX0_init_71 (by decide) ?_
      replace h := (Option.some.inj h).symm
      exact haj27 _ _ _ _ _ _ h hw (lv_sub hl [] rfl)
    replace h := h1aj22
    refine lv_icmp_lt (tgt := 71) hx hb dX0_init_59 (by decide) (fun c20 => ?_) (fun c20 => ?_)
    · replace h := ot c20 h
      replace h := (Option.some.inj h).symm
      exact haj22 _ _ _ _ _ h hw (lv_sub hl [] rfl)
    · replace h := oe c20 h
      refine lv_iload_n hx hb dX0_init_62 rfl (lv_at hl 1 rfl) ?_
      refine lv_iconst (v := (-1)) hx hb dX0_init_63 (by decide) ?_
      refine lv_icmp_eq (tgt := 71) hx hb dX0_init_64 (by decide) (fun c21 => ?_) (fun c21 => ?_)
      · replace h := ot c21 h
        replace h := (Option.some.inj h).symm
        exact haj22 _ _ _ _ _ h hw (lv_sub hl [] rfl)
      · replace h := oe c21 h
        refine lv_iconst (v := 1) hx hb dX0_init_67 (by decide) ?_
        refine lv_goto (tgt := 72) hx hb dX0_init_68 (by decide) ?_
        replace h := (Option.some.inj h).symm
        replace h := raj22 _ h
        exact haj27 _ _ _ _ _ _ h hw (lv_sub hl [] rfl)
  replace h := h1aj28
  obtain ⟨aj15, h1aj15, kaj15, raj15⟩ := ol0 h
  have haj15 : ∀ (H : Heap) (lc : List Loc) (cn sn : Nat) (ls : Array Slot), aj15 = Sum.inl () → wH g s.heap.size (w12, mm) H lc → lv_has ls 5 [(0, rv o), (3, .int p2), (4, .int p3)] → W p l e (rmO g 1 12 s.heap) s mi args below meth cd H lc cn sn Q (F0 mi 47 ls [rv o]) := by
    intro H lc cn sn ls h hw hl
    replace h := kaj15 h
    refine lv_iconst (v := 1) hx hb dX0_init_47 (by decide) ?_
    refine lv_goto (tgt := 52) hx hb dX0_init_48 (by decide) ?_
    replace h := (Option.some.inj h).symm
    exact haj28 _ _ _ _ _ _ h hw (lv_sub hl [0, 1, 2] rfl)
  replace h := h1aj15
  refine lv_icmp_eq (tgt := 47) hx hb dX0_init_38 (by decide) (fun c13 => ?_) (fun c13 => ?_)
  · replace h := ot c13 h
    replace h := (Option.some.inj h).symm
    exact haj15 _ _ _ _ _ h hw (lv_sub hl [0, 3, 4] rfl)
  · replace h := oe c13 h
    refine lv_iload hx hb dX0_init_41 (lv_at hl 4 rfl) ?_
    refine lv_iconst (v := 3) hx hb dX0_init_43 (by decide) ?_
    refine lv_icmp_ne (tgt := 51) hx hb dX0_init_44 (by decide) (fun c14 => ?_) (fun c14 => ?_)
    · replace h := oe c14 h
      refine lv_iconst (v := 0) hx hb dX0_init_51 (by decide) ?_
      replace h := (Option.some.inj h).symm
      replace h := raj15 _ h
      exact haj28 _ _ _ _ _ _ h hw (lv_sub hl [0, 3, 4] rfl)
    · replace h := ot c14 h
      replace h := (Option.some.inj h).symm
      exact haj15 _ _ _ _ _ h hw (lv_sub hl [0, 3, 4] rfl)

set_option maxHeartbeats 4000000 in
set_option maxRecDepth 100000 in
theorem c_X0_nextForward (g : GG) (l : Launch) (hG : XG g) (hst : l.stackTraces = false) (mm : MS) (o : Nat) (w : CS) (r : Nat) (h : x_X0_nextForward o w = some r) : MetG g l yX0_nextForward wsX0_nextForward 4 92 [rv o] (w, mm) (some (rv r)) (w, mm) := by
  refine g_start_a (Or.inl ⟨_, rfl⟩) (some (rv r)) (own := RX0) (by decide +kernel) rfl rfl (by simp [lg_sl, rv_cat, ct_i, ct_l]) ?_
  intro p e s mi args below meth cd ls Q hX hnm hw hl hret
  have hl : lv_has ls 3 [(0, rv o)] := by simpa [lv_args, rv_cat, ct_i, ct_l] using hl
  obtain ⟨⟨hx, hb, -, hown, hts⟩, -⟩ := id hX
  unfold x_X0_nextForward at h
  refine t_aload_n hx hb dX0_nextForward_0 rfl (lv_at hl 0 rfl) ?_
  obtain ⟨c1, h⟩ := og h
  refine c_gf (C := RX0) (TT := TX0) (N := 8) (ref := "TabStore$Cursor") (v := .int (wI w 125 o)) hX hw (ce_3 c1) rfl 5 (by decide +kernel) (by decide) (by decide +kernel) (fun _ h9 => h9) rfl dX0_nextForward_1 ?_
  refine lv_if_ne (tgt := 20) hx hb dX0_nextForward_4 (by decide) (fun c2 => ?_) (fun c2 => ?_)
  · replace h := oe c2 h
    refine t_aload_n hx hb dX0_nextForward_20 rfl (lv_at hl 0 rfl) ?_
    refine c_gf (C := RX0) (TT := TX0) (N := 8) (ref := "TabStore$Cursor") (v := .int (wI w 124 o)) hX hw (ce_3 c1) rfl 4 (by decide +kernel) (by decide) (by decide +kernel) (fun _ h9 => h9) rfl dX0_nextForward_21 ?_
    obtain ⟨aj10, h1aj10, kaj10⟩ := ob1 h
    have haj10 : ∀ (v6 : Int64) (H : Heap) (lc : List Loc) (cn sn : Nat) (ls : Array Slot), aj10 = v6 → wH g s.heap.size (w, mm) H lc → lv_has ls 3 [(0, rv o)] → W p l e (rmO g 4 92 s.heap) s mi args below meth cd H lc cn sn Q (F0 mi 47 ls [.long v6]) := by
      intro v6 H lc cn sn ls h hw hl
      replace h := kaj10 _ h
      refine lv_lstore_n (lv' := [(1, .long v6), (0, rv o)]) hx hb dX0_nextForward_47 rfl hl (by decide) (by simp [rv_cat, ct_i, ct_l] <;> decide) (fun ls hl => ?_)
      refine t_aload_n hx hb dX0_nextForward_48 rfl (lv_at hl 1 rfl) ?_
      refine c_gf (C := RX0) (TT := TX0) (N := 8) (ref := "TabStore$Cursor") (v := rv (wJ w 121 o)) hX hw (ce_3 c1) rfl 1 (by decide +kernel) (by decide) (by decide +kernel) (fun _ h9 => h9) rfl dX0_nextForward_49 ?_
      refine t_aload_n hx hb dX0_nextForward_52 rfl (lv_at hl 1 rfl) ?_
      refine c_gf (C := RX0) (TT := TX0) (N := 8) (ref := "TabStore$Cursor") (v := .int (wI w 122 o)) hX hw (ce_3 c1) rfl 2 (by decide +kernel) (by decide) (by decide +kernel) (fun _ h9 => h9) rfl dX0_nextForward_53 ?_
      refine lv_lload_n hx hb dX0_nextForward_56 rfl (lv_at hl 0 rfl) ?_
      obtain ⟨c7, h⟩ := og h
      obtain ⟨v9, e8, h⟩ := ob h
      refine g_callVa (n := 2) (As := [.int (wI w 122 o), .long v6]) (rest := []) hX hw (c_X3_firstFrom g l hG hst mm (wJ w 121 o) (wI w 122 o) v6 w v9 e8) gX0_nextForward_X3_firstFrom rfl (by decide +kernel) rfl (x_nz hw c7) (c_recv hX hw (ce_5 c7) rfl) hl.1 rfl (Nat.le_of_ble_eq_true rfl) ⟨by decide, by decide⟩ dX0_nextForward_57 (fun H lc cn sn hw => ?_)
      replace h := (Option.some.inj h).symm
      subst h
      exact hret _ _ _ _ _ _ _ dX0_nextForward_60 hw rfl
    replace h := h1aj10
    refine lv_if_eq (tgt := 41) hx hb dX0_nextForward_24 (by decide) (fun c3 => ?_) (fun c3 => ?_)
    · replace h := ot c3 h
      refine t_aload_n hx hb dX0_nextForward_41 rfl (lv_at hl 0 rfl) ?_
      refine c_gf (C := RX0) (TT := TX0) (N := 8) (ref := "TabStore$Cursor") (v := .long (wL w 127 o)) hX hw (ce_3 c1) rfl 7 (by decide +kernel) (by decide) (by decide +kernel) (fun _ h9 => h9) rfl dX0_nextForward_42 ?_
      refine lv_lconst (v := 1) hx hb dX0_nextForward_45 (by decide) ?_
      refine lv_ladd hx hb dX0_nextForward_46 ?_
      replace h := (Option.some.inj h).symm
      exact haj10 _ _ _ _ _ _ h hw (lv_sub hl [0] rfl)
    · replace h := oe c3 h
      refine t_aload_n hx hb dX0_nextForward_27 rfl (lv_at hl 0 rfl) ?_
      refine c_gf (C := RX0) (TT := TX0) (N := 8) (ref := "TabStore$Cursor") (v := .long (wL w 127 o)) hX hw (ce_3 c1) rfl 7 (by decide +kernel) (by decide) (by decide +kernel) (fun _ h9 => h9) rfl dX0_nextForward_28 ?_
      obtain ⟨v5, e4, h⟩ := ob h
      refine g_callSl (n := 1) (As := [.long (wL w 127 o)]) (rest := []) hX hw (c_X2_startOfNumber g l hG hst mm (wL w 127 o) w v5 e4) gX0_nextForward_X2_startOfNumber rfl (by decide +kernel) rfl hl.1 rfl (Nat.le_of_ble_eq_true rfl) ⟨by decide, by decide⟩ dX0_nextForward_31 (fun H lc cn sn hw => ?_)
      refine lv_ldc2 (v := 4000000) hx hb hown (hts (.constantLong RX0 59 (4000000)) (by decide +kernel)) dX0_nextForward_34 ?_
      refine lv_ladd hx hb dX0_nextForward_37 ?_
      refine lv_goto (tgt := 47) hx hb dX0_nextForward_38 (by decide) ?_
      replace h := (Option.some.inj h).symm
      exact haj10 _ _ _ _ _ _ h hw (lv_sub hl [0] rfl)
  · replace h := ot c2 h
    refine t_aload_n hx hb dX0_nextForward_7 rfl (lv_at hl 0 rfl) ?_
    refine c_gf (C := RX0) (TT := TX0) (N := 8) (ref := "TabStore$Cursor") (v := rv (wJ w 121 o)) hX hw (ce_3 c1) rfl 1 (by decide +kernel) (by decide) (by decide +kernel) (fun _ h9 => h9) rfl dX0_nextForward_8 ?_
    refine t_aload_n hx hb dX0_nextForward_11 rfl (lv_at hl 0 rfl) ?_
    refine c_gf (C := RX0) (TT := TX0) (N := 8) (ref := "TabStore$Cursor") (v := .int (wI w 122 o)) hX hw (ce_3 c1) rfl 2 (by decide +kernel) (by decide) (by decide +kernel) (fun _ h9 => h9) rfl dX0_nextForward_12 ?_
    refine lv_lconst (v := 0) hx hb dX0_nextForward_15 (by decide) ?_
    obtain ⟨c11, h⟩ := og h
    obtain ⟨v13, e12, h⟩ := ob h
    refine g_callVa (n := 2) (As := [.int (wI w 122 o), .long 0]) (rest := []) hX hw (c_X3_firstFrom g l hG hst mm (wJ w 121 o) (wI w 122 o) 0 w v13 e12) gX0_nextForward_X3_firstFrom rfl (by decide +kernel) rfl (x_nz hw c11) (c_recv hX hw (ce_5 c11) rfl) hl.1 rfl (Nat.le_of_ble_eq_true rfl) ⟨by decide, by decide⟩ dX0_nextForward_16 (fun H lc cn sn hw => ?_)
    replace h := (Option.some.inj h).symm
    subst h
    exact hret _ _ _ _ _ _ _ dX0_nextForward_19 hw rfl

set_option maxHeartbeats 4000000 in
set_option maxRecDepth 100000 in
theorem c_X0_nextBackward (g : GG) (l : Launch) (hG : XG g) (hst : l.stackTraces = false) (mm : MS) (o : Nat) (w : CS) (r : Nat) (h : x_X0_nextBackward o w = some r) : MetG g l yX0_nextBackward wsX0_nextBackward 4 92 [rv o] (w, mm) (some (rv r)) (w, mm) := by
  refine g_start_a (Or.inl ⟨_, rfl⟩) (some (rv r)) (own := RX0) (by decide +kernel) rfl rfl (by simp [lg_sl, rv_cat, ct_i, ct_l]) ?_
  intro p e s mi args below meth cd ls Q hX hnm hw hl hret
  have hl : lv_has ls 4 [(0, rv o)] := by simpa [lv_args, rv_cat, ct_i, ct_l] using hl
  obtain ⟨⟨hx, hb, -, hown, hts⟩, -⟩ := id hX
  unfold x_X0_nextBackward at h
  refine lv_ldc2 (v := 4000000000) hx hb hown (hts (.constantLong RX0 61 (4000000000)) (by decide +kernel)) dX0_nextBackward_0 ?_
  refine lv_lstore_n (lv' := [(1, .long 4000000000), (0, rv o)]) hx hb dX0_nextBackward_3 rfl hl (by decide) (by simp [rv_cat, ct_i, ct_l] <;> decide) (fun ls hl => ?_)
  refine t_aload_n hx hb dX0_nextBackward_4 rfl (lv_at hl 1 rfl) ?_
  obtain ⟨c1, h⟩ := og h
  refine c_gf (C := RX0) (TT := TX0) (N := 8) (ref := "TabStore$Cursor") (v := .int (wI w 125 o)) hX hw (ce_3 c1) rfl 5 (by decide +kernel) (by decide) (by decide +kernel) (fun _ h9 => h9) rfl dX0_nextBackward_5 ?_
  obtain ⟨aj22, h1aj22, kaj22⟩ := ob1 h
  have haj22 : ∀ (v8 : Int64) (H : Heap) (lc : List Loc) (cn sn : Nat) (ls : Array Slot), aj22 = v8 → wH g s.heap.size (w, mm) H lc → lv_has ls 4 [(1, .long v8), (0, rv o)] → W p l e (rmO g 4 92 s.heap) s mi args below meth cd H lc cn sn Q (F0 mi 33 ls []) := by
    intro v8 H lc cn sn ls h hw hl
    replace h := kaj22 _ h
    refine t_aload_n hx hb dX0_nextBackward_33 rfl (lv_at hl 1 rfl) ?_
    refine c_gf (C := RX0) (TT := TX0) (N := 8) (ref := "TabStore$Cursor") (v := rv (wJ w 121 o)) hX hw (ce_3 c1) rfl 1 (by decide +kernel) (by decide) (by decide +kernel) (fun _ h9 => h9) rfl dX0_nextBackward_34 ?_
    refine t_aload_n hx hb dX0_nextBackward_37 rfl (lv_at hl 1 rfl) ?_
    refine c_gf (C := RX0) (TT := TX0) (N := 8) (ref := "TabStore$Cursor") (v := .int (wI w 122 o)) hX hw (ce_3 c1) rfl 2 (by decide +kernel) (by decide) (by decide +kernel) (fun _ h9 => h9) rfl dX0_nextBackward_38 ?_
    refine lv_lload_n hx hb dX0_nextBackward_41 rfl (lv_at hl 0 rfl) ?_
    obtain ⟨c9, h⟩ := og h
    obtain ⟨v11, e10, h⟩ := ob h
    refine g_callVa (n := 2) (As := [.int (wI w 122 o), .long v8]) (rest := []) hX hw (c_X3_lastBelow g l hG hst mm (wJ w 121 o) (wI w 122 o) v8 w v11 e10) gX0_nextBackward_X3_lastBelow rfl (by decide +kernel) rfl (x_nz hw c9) (c_recv hX hw (ce_5 c9) rfl) hl.1 rfl (Nat.le_of_ble_eq_true rfl) ⟨by decide, by decide⟩ dX0_nextBackward_42 (fun H lc cn sn hw => ?_)
    refine t_astore_n (lv' := [(3, rv v11), (1, .long v8), (0, rv o)]) hx hb dX0_nextBackward_45 rfl hl (by decide) rfl (fun ls hl => ?_)
    refine t_aload_n hx hb dX0_nextBackward_46 rfl (lv_at hl 0 rfl) ?_
    obtain ⟨aj21, h1aj21, kaj21, raj21⟩ := ol0 h
    have haj21 : ∀ (H : Heap) (lc : List Loc) (cn sn : Nat) (ls : Array Slot), aj21 = Sum.inl () → wH g s.heap.size (w, mm) H lc → lv_has ls 4 [(3, rv v11)] → W p l e (rmO g 4 92 s.heap) s mi args below meth cd H lc cn sn Q (F0 mi 57 ls []) := by
      intro H lc cn sn ls h hw hl
      replace h := kaj21 h
      refine t_aload_n hx hb dX0_nextBackward_57 rfl (lv_at hl 0 rfl) ?_
      replace h := (Option.some.inj h).symm
      subst h
      exact hret _ _ _ _ _ _ _ dX0_nextBackward_58 hw rfl
    replace h := h1aj21
    refine t_ifnull (tgt := 57) hx hb dX0_nextBackward_47 (by decide) (fun c12 => ?_) (fun c12 => ?_)
    · replace h := ot c12 h
      replace h := (Option.some.inj h).symm
      exact haj21 _ _ _ _ _ h hw (lv_sub hl [0] rfl)
    · replace h := oe c12 h
      refine t_aload_n hx hb dX0_nextBackward_50 rfl (lv_at hl 2 rfl) ?_
      refine c_gf (C := RX0) (TT := TX0) (N := 8) (ref := "TabStore$Cursor") (v := .int (wI w 124 o)) hX hw (ce_3 c1) rfl 4 (by decide +kernel) (by decide) (by decide +kernel) (fun _ h9 => h9) rfl dX0_nextBackward_51 ?_
      refine lv_if_ne (tgt := 59) hx hb dX0_nextBackward_54 (by decide) (fun c13 => ?_) (fun c13 => ?_)
      · replace h := oe c13 h
        refine t_aload_n hx hb dX0_nextBackward_59 rfl (lv_at hl 2 rfl) ?_
        refine c_gf (C := RX0) (TT := TX0) (N := 8) (ref := "TabStore$Cursor") (v := rv (wJ w 121 o)) hX hw (ce_3 c1) rfl 1 (by decide +kernel) (by decide) (by decide +kernel) (fun _ h9 => h9) rfl dX0_nextBackward_60 ?_
        refine t_aload_n hx hb dX0_nextBackward_63 rfl (lv_at hl 2 rfl) ?_
        refine c_gf (C := RX0) (TT := TX0) (N := 8) (ref := "TabStore$Cursor") (v := .int (wI w 122 o)) hX hw (ce_3 c1) rfl 2 (by decide +kernel) (by decide) (by decide +kernel) (fun _ h9 => h9) rfl dX0_nextBackward_64 ?_
        refine t_aload_n hx hb dX0_nextBackward_67 rfl (lv_at hl 0 rfl) ?_
        refine t_aload_n hx hb dX0_nextBackward_68 rfl (lv_at hl 2 rfl) ?_
        refine c_gf (C := RX0) (TT := TX0) (N := 8) (ref := "TabStore$Cursor") (v := .int (wI w 122 o)) hX hw (ce_3 c1) rfl 2 (by decide +kernel) (by decide) (by decide +kernel) (fun _ h9 => h9) rfl dX0_nextBackward_69 ?_
        obtain ⟨c14, h⟩ := og h
        obtain ⟨v16, e15, h⟩ := ob h
        refine g_callVl (n := 1) (As := [.int (wI w 122 o)]) (rest := [.int (wI w 122 o), rv (wJ w 121 o)]) hX hw (c_X2_place g l hG hst mm v11 (wI w 122 o) w v16 e15) gX0_nextBackward_X2_place rfl (by decide +kernel) rfl (x_nz hw c14) (c_recv hX hw (ce_1 c14) rfl) hl.1 rfl (by simp [rv_cat, ct_i, ct_l]) ⟨by decide, by decide⟩ dX0_nextBackward_72 (fun H lc cn sn hw => ?_)
        obtain ⟨v18, e17, h⟩ := ob h
        refine g_callSl (n := 1) (As := [.long v16]) (rest := [.int (wI w 122 o), rv (wJ w 121 o)]) hX hw (c_X2_startOfNumber g l hG hst mm v16 w v18 e17) gX0_nextBackward_X2_startOfNumber rfl (by decide +kernel) rfl hl.1 rfl (by simp [rv_cat, ct_i, ct_l]) ⟨by decide, by decide⟩ dX0_nextBackward_75 (fun H lc cn sn hw => ?_)
        obtain ⟨v20, e19, h⟩ := ob h
        refine g_callVa (n := 2) (As := [.int (wI w 122 o), .long v18]) (rest := []) hX hw (c_X3_firstFrom g l hG hst mm (wJ w 121 o) (wI w 122 o) v18 w v20 e19) gX0_nextBackward_X3_firstFrom rfl (by decide +kernel) rfl (x_nz hw c9) (c_recv hX hw (ce_5 c9) rfl) hl.1 rfl (Nat.le_of_ble_eq_true rfl) ⟨by decide, by decide⟩ dX0_nextBackward_78 (fun H lc cn sn hw => ?_)
        replace h := (Option.some.inj h).symm
        replace h := raj21 _ h
        subst h
        exact hret _ _ _ _ _ _ _ dX0_nextBackward_81 hw rfl
      · replace h := ot c13 h
        replace h := (Option.some.inj h).symm
        exact haj21 _ _ _ _ _ h hw (lv_sub hl [0] rfl)
  replace h := h1aj22
  refine lv_if_eq (tgt := 33) hx hb dX0_nextBackward_8 (by decide) (fun c2 => ?_) (fun c2 => ?_)
  · replace h := ot c2 h
    replace h := (Option.some.inj h).symm
    exact haj22 _ _ _ _ _ _ h hw (lv_sub hl [0, 1] rfl)
  · replace h := oe c2 h
    refine t_aload_n hx hb dX0_nextBackward_11 rfl (lv_at hl 1 rfl) ?_
    refine c_gf (C := RX0) (TT := TX0) (N := 8) (ref := "TabStore$Cursor") (v := .int (wI w 124 o)) hX hw (ce_3 c1) rfl 4 (by decide +kernel) (by decide) (by decide +kernel) (fun _ h9 => h9) rfl dX0_nextBackward_12 ?_
    obtain ⟨aj7, h1aj7, kaj7⟩ := ob1 h
    have haj7 : ∀ (v6 : Int64) (H : Heap) (lc : List Loc) (cn sn : Nat) (ls : Array Slot), aj7 = v6 → wH g s.heap.size (w, mm) H lc → lv_has ls 4 [(0, rv o)] → W p l e (rmO g 4 92 s.heap) s mi args below meth cd H lc cn sn Q (F0 mi 32 ls [.long v6]) := by
      intro v6 H lc cn sn ls h hw hl
      replace h := kaj7 _ h
      refine lv_lstore_n (lv' := [(1, .long v6), (0, rv o)]) hx hb dX0_nextBackward_32 rfl hl (by decide) (by simp [rv_cat, ct_i, ct_l] <;> decide) (fun ls hl => ?_)
      replace h := (Option.some.inj h).symm
      exact haj22 _ _ _ _ _ _ h hw (lv_sub hl [0, 1] rfl)
    replace h := h1aj7
    refine lv_if_eq (tgt := 28) hx hb dX0_nextBackward_15 (by decide) (fun c3 => ?_) (fun c3 => ?_)
    · replace h := ot c3 h
      refine t_aload_n hx hb dX0_nextBackward_28 rfl (lv_at hl 1 rfl) ?_
      refine c_gf (C := RX0) (TT := TX0) (N := 8) (ref := "TabStore$Cursor") (v := .long (wL w 127 o)) hX hw (ce_3 c1) rfl 7 (by decide +kernel) (by decide) (by decide +kernel) (fun _ h9 => h9) rfl dX0_nextBackward_29 ?_
      replace h := (Option.some.inj h).symm
      exact haj7 _ _ _ _ _ _ h hw (lv_sub hl [1] rfl)
    · replace h := oe c3 h
      refine t_aload_n hx hb dX0_nextBackward_18 rfl (lv_at hl 1 rfl) ?_
      refine c_gf (C := RX0) (TT := TX0) (N := 8) (ref := "TabStore$Cursor") (v := .long (wL w 127 o)) hX hw (ce_3 c1) rfl 7 (by decide +kernel) (by decide) (by decide +kernel) (fun _ h9 => h9) rfl dX0_nextBackward_19 ?_
      obtain ⟨v5, e4, h⟩ := ob h
      refine g_callSl (n := 1) (As := [.long (wL w 127 o)]) (rest := []) hX hw (c_X2_startOfNumber g l hG hst mm (wL w 127 o) w v5 e4) gX0_nextBackward_X2_startOfNumber rfl (by decide +kernel) rfl hl.1 rfl (Nat.le_of_ble_eq_true rfl) ⟨by decide, by decide⟩ dX0_nextBackward_22 (fun H lc cn sn hw => ?_)
      refine lv_goto (tgt := 32) hx hb dX0_nextBackward_25 (by decide) ?_
      replace h := (Option.some.inj h).symm
      exact haj7 _ _ _ _ _ _ h hw (lv_sub hl [1] rfl)

set_option maxHeartbeats 4000000 in
set_option maxRecDepth 100000 in
theorem c_X0_nextRow (g : GG) (l : Launch) (hG : XG g) (hst : l.stackTraces = false) (mm : MS) (o : Nat) (w : CS) (r : Nat) (h : x_X0_nextRow o w = some r) : MetG g l yX0_nextRow wsX0_nextRow 5 115 [rv o] (w, mm) (some (rv r)) (w, mm) := by
  refine g_start_a (Or.inl ⟨_, rfl⟩) (some (rv r)) (own := RX0) (by decide +kernel) rfl rfl (by simp [lg_sl, rv_cat, ct_i, ct_l]) ?_
  intro p e s mi args below meth cd ls Q hX hnm hw hl hret
  have hl : lv_has ls 1 [(0, rv o)] := by simpa [lv_args, rv_cat, ct_i, ct_l] using hl
  obtain ⟨⟨hx, hb, -, hown, hts⟩, -⟩ := id hX
  unfold x_X0_nextRow at h
  refine t_aload_n hx hb dX0_nextRow_0 rfl (lv_at hl 0 rfl) ?_
  obtain ⟨c1, h⟩ := og h
  refine c_gf (C := RX0) (TT := TX0) (N := 8) (ref := "TabStore$Cursor") (v := .int (wI w 123 o)) hX hw (ce_3 c1) rfl 3 (by decide +kernel) (by decide) (by decide +kernel) (fun _ h9 => h9) rfl dX0_nextRow_1 ?_
  obtain ⟨aj8, h1aj8, kaj8⟩ := ob1 h
  have haj8 : ∀ (v7 : Nat) (H : Heap) (lc : List Loc) (cn sn : Nat) (ls : Array Slot), aj8 = v7 → wH g s.heap.size (w, mm) H lc → lv_has ls 1 [] → W p l e (rmO g 5 115 s.heap) s mi args below meth cd H lc cn sn Q (F0 mi 18 ls [rv v7]) := by
    intro v7 H lc cn sn ls h hw hl
    replace h := kaj8 _ h
    replace h := (Option.some.inj h).symm
    subst h
    exact hret _ _ _ _ _ _ _ dX0_nextRow_18 hw rfl
  replace h := h1aj8
  refine lv_if_eq (tgt := 14) hx hb dX0_nextRow_4 (by decide) (fun c2 => ?_) (fun c2 => ?_)
  · replace h := ot c2 h
    refine t_aload_n hx hb dX0_nextRow_14 rfl (lv_at hl 0 rfl) ?_
    obtain ⟨v4, e3, h⟩ := ob h
    refine g_callVa (n := 0) (As := []) (rest := []) hX hw (c_X0_nextForward g l hG hst mm o w v4 e3) gX0_nextRow_X0_nextForward rfl (by decide +kernel) rfl (x_nz hw c1) (c_recv hX hw (ce_3 c1) rfl) hl.1 rfl (Nat.le_of_ble_eq_true rfl) ⟨by decide, by decide⟩ dX0_nextRow_15 (fun H lc cn sn hw => ?_)
    replace h := (Option.some.inj h).symm
    exact haj8 _ _ _ _ _ _ h hw (lv_sub hl [] rfl)
  · replace h := oe c2 h
    refine t_aload_n hx hb dX0_nextRow_7 rfl (lv_at hl 0 rfl) ?_
    obtain ⟨v6, e5, h⟩ := ob h
    refine g_callVa (n := 0) (As := []) (rest := []) hX hw (c_X0_nextBackward g l hG hst mm o w v6 e5) gX0_nextRow_X0_nextBackward rfl (by decide +kernel) rfl (x_nz hw c1) (c_recv hX hw (ce_3 c1) rfl) hl.1 rfl (Nat.le_of_ble_eq_true rfl) ⟨by decide, by decide⟩ dX0_nextRow_8 (fun H lc cn sn hw => ?_)
    refine lv_goto (tgt := 18) hx hb dX0_nextRow_11 (by decide) ?_
    replace h := (Option.some.inj h).symm
    exact haj8 _ _ _ _ _ _ h hw (lv_sub hl [] rfl)

set_option maxHeartbeats 4000000 in
set_option maxRecDepth 100000 in
theorem c_X0_moveTo (g : GG) (l : Launch) (hG : XG g) (hst : l.stackTraces = false) (mm : MS) (o : Nat) (p0 : Nat) (w : CS) (w' : CS) (h : x_X0_moveTo o p0 w = some w') : MetG g l yX0_moveTo wsX0_moveTo 2 43 [rv o, rv p0] (w, mm) (none) (w', mm) := by
  refine g_start_v (none) (own := RX0) (by decide +kernel) rfl rfl (by simp [lg_sl, rv_cat, ct_i, ct_l]) ?_
  intro p e s mi args below meth cd ls Q hX hnm hw hl hret
  have hl : lv_has ls 2 [(0, rv o), (1, rv p0)] := by simpa [lv_args, rv_cat, ct_i, ct_l] using hl
  obtain ⟨⟨hx, hb, -, hown, hts⟩, -⟩ := id hX
  unfold x_X0_moveTo at h
  refine t_aload_n hx hb dX0_moveTo_0 rfl (lv_at hl 1 rfl) ?_
  obtain ⟨aj15, h1aj15, kaj15⟩ := ob1 h
  have haj15 : ∀ (w14 : CS) (H : Heap) (lc : List Loc) (cn sn : Nat) (ls : Array Slot), aj15 = w14 → wH g s.heap.size (w14, mm) H lc → lv_has ls 2 [] → W p l e (rmO g 2 43 s.heap) s mi args below meth cd H lc cn sn Q (F0 mi 37 ls []) := by
    intro w14 H lc cn sn ls h hw hl
    replace h := kaj15 _ h
    replace h := (Option.some.inj h).symm
    subst h
    exact hret _ _ _ _ _ _ dX0_moveTo_37 hw rfl
  replace h := h1aj15
  refine t_ifnonnull (tgt := 12) hx hb dX0_moveTo_1 (by decide) (fun c1 => ?_) (fun c1 => ?_)
  · replace h := oe c1 h
    refine t_aload_n hx hb dX0_moveTo_12 rfl (lv_at hl 0 rfl) ?_
    refine lv_iconst (v := 1) hx hb dX0_moveTo_13 (by decide) ?_
    obtain ⟨c2, h⟩ := og h
    obtain ⟨w3, ew3, h⟩ := ol h
    refine p_3_5 hX hw c2 (by decide +kernel) (by decide +kernel) dX0_moveTo_14 (fun H lc hw => ?_)
    have hw := hw_eq ew3 hw
    refine t_aload_n hx hb dX0_moveTo_17 rfl (lv_at hl 0 rfl) ?_
    refine t_aload_n hx hb dX0_moveTo_18 rfl (lv_at hl 1 rfl) ?_
    obtain ⟨c4, h⟩ := og h
    refine c_gf (C := RX2) (TT := TX2) (N := 4) (ref := "TabStore$Row") (v := .int (wI w3 40 p0)) hX hw (ce_1 c4) rfl 0 (by decide +kernel) (by decide) (by decide +kernel) (fun _ h9 => h9) rfl dX0_moveTo_19 ?_
    obtain ⟨c5, h⟩ := og h
    obtain ⟨w6, ew6, h⟩ := ol h
    refine p_3_6 hX hw c5 (by decide +kernel) (by decide +kernel) dX0_moveTo_22 (fun H lc hw => ?_)
    have hw := hw_eq ew6 hw
    refine t_aload_n hx hb dX0_moveTo_25 rfl (lv_at hl 0 rfl) ?_
    refine t_aload_n hx hb dX0_moveTo_26 rfl (lv_at hl 1 rfl) ?_
    refine t_aload_n hx hb dX0_moveTo_27 rfl (lv_at hl 0 rfl) ?_
    obtain ⟨c7, h⟩ := og h
    refine c_gf (C := RX0) (TT := TX0) (N := 8) (ref := "TabStore$Cursor") (v := .int (wI w6 122 o)) hX hw (ce_3 c7) rfl 2 (by decide +kernel) (by decide) (by decide +kernel) (fun _ h9 => h9) rfl dX0_moveTo_28 ?_
    obtain ⟨c8, h⟩ := og h
    obtain ⟨v10, e9, h⟩ := ob h
    refine g_callVl (n := 1) (As := [.int (wI w6 122 o)]) (rest := [rv o]) hX hw (c_X2_place g l hG hst mm p0 (wI w6 122 o) w6 v10 e9) gX0_moveTo_X2_place rfl (by decide +kernel) rfl (x_nz hw c8) (c_recv hX hw (ce_1 c8) rfl) hl.1 rfl (by simp [rv_cat, ct_i, ct_l]) ⟨by decide, by decide⟩ dX0_moveTo_31 (fun H lc cn sn hw => ?_)
    obtain ⟨w11, ew11, h⟩ := ol h
    refine p_3_7 hX hw c7 (by decide +kernel) (by decide +kernel) dX0_moveTo_34 (fun H lc hw => ?_)
    have hw := hw_eq ew11 hw
    replace h := (Option.some.inj h).symm
    exact haj15 _ _ _ _ _ _ h hw (lv_sub hl [] rfl)
  · replace h := ot c1 h
    refine t_aload_n hx hb dX0_moveTo_4 rfl (lv_at hl 0 rfl) ?_
    refine lv_iconst (v := 2) hx hb dX0_moveTo_5 (by decide) ?_
    obtain ⟨c12, h⟩ := og h
    obtain ⟨w13, ew13, h⟩ := ol h
    refine p_3_5 hX hw c12 (by decide +kernel) (by decide +kernel) dX0_moveTo_6 (fun H lc hw => ?_)
    have hw := hw_eq ew13 hw
    refine lv_goto (tgt := 37) hx hb dX0_moveTo_9 (by decide) ?_
    replace h := (Option.some.inj h).symm
    exact haj15 _ _ _ _ _ _ h hw (lv_sub hl [] rfl)
