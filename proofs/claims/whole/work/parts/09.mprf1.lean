set_option maxHeartbeats 4000000 in
set_option maxRecDepth 100000 in
theorem c_X7_isIn (g : GG) (l : Launch) (hn : gnn g 4 = 1) (cs : CS) (p0 : Int32) (p1 : Int32) (p2 : Int32) (t : MS) (r : Int32) (h : x_X7_isIn p0 p1 p2 = some r) : MetI g l yX7_isIn wsX7_isIn 0 0 [.int p0, .int p1, .int p2] (cs, t) r (cs, t) := by
  refine mZ_start (own := RX7) (by decide +kernel) rfl rfl (Nat.le_of_ble_eq_true rfl) ?_
  intro p e s mi args below meth cd ls Q hX hw hl hret
  have hl : lv_has ls 3 [(0, .int p0), (1, .int p1), (2, .int p2)] := hl
  obtain ⟨⟨hx, hb, -, hown, hts⟩, -⟩ := id hX
  unfold x_X7_isIn at h
  refine lv_iload_n hx hb dX7_isIn_0 rfl (lv_at hl 0 rfl) ?_
  refine lv_iload_n hx hb dX7_isIn_1 rfl (lv_at hl 1 rfl) ?_
  obtain ⟨aj6, h1aj6, kaj6⟩ := ob1 h
  have haj6 : ∀ (v4 : Int32) (H : Heap) (lc : List Loc) (cn sn : Nat) (ls : Array Slot), aj6 = v4 → wH g s.heap.size (cs, t) H lc → lv_has ls 3 [] → W p l e (rmO g 0 0 s.heap) s mi args below meth cd H lc cn sn Q (F0 mi 15 ls [.int v4]) := by
    intro v4 H lc cn sn ls h hw hl
    replace h := kaj6 _ h
    obtain ⟨c5, h⟩ := og h
    replace h := (Option.some.inj h).symm
    exact hret _ _ _ _ _ _ _ dX7_isIn_15 c5 hw h.symm
  replace h := h1aj6
  obtain ⟨aj3, h1aj3, kaj3, raj3⟩ := ol0 h
  have haj3 : ∀ (H : Heap) (lc : List Loc) (cn sn : Nat) (ls : Array Slot), aj3 = Sum.inl () → wH g s.heap.size (cs, t) H lc → lv_has ls 3 [] → W p l e (rmO g 0 0 s.heap) s mi args below meth cd H lc cn sn Q (F0 mi 14 ls []) := by
    intro H lc cn sn ls h hw hl
    replace h := kaj3 h
    refine lv_iconst (v := 0) hx hb dX7_isIn_14 (by decide) ?_
    replace h := (Option.some.inj h).symm
    exact haj6 _ _ _ _ _ _ h hw (lv_sub hl [] rfl)
  replace h := h1aj3
  refine lv_icmp_lt (tgt := 14) hx hb dX7_isIn_2 (by decide) (fun c1 => ?_) (fun c1 => ?_)
  · replace h := ot c1 h
    replace h := (Option.some.inj h).symm
    exact haj3 _ _ _ _ _ h hw (lv_sub hl [] rfl)
  · replace h := oe c1 h
    refine lv_iload_n hx hb dX7_isIn_5 rfl (lv_at hl 0 rfl) ?_
    refine lv_iload_n hx hb dX7_isIn_6 rfl (lv_at hl 2 rfl) ?_
    refine lv_icmp_gt (tgt := 14) hx hb dX7_isIn_7 (by decide) (fun c2 => ?_) (fun c2 => ?_)
    · replace h := ot c2 h
      replace h := (Option.some.inj h).symm
      exact haj3 _ _ _ _ _ h hw (lv_sub hl [] rfl)
    · replace h := oe c2 h
      refine lv_iconst (v := 1) hx hb dX7_isIn_10 (by decide) ?_
      refine lv_goto (tgt := 15) hx hb dX7_isIn_11 (by decide) ?_
      replace h := (Option.some.inj h).symm
      replace h := raj3 _ h
      exact haj6 _ _ _ _ _ _ h hw (lv_sub hl [] rfl)

set_option maxHeartbeats 4000000 in
set_option maxRecDepth 100000 in
theorem c_X7_fails (g : GG) (l : Launch) (hn : gnn g 4 = 1) (cs : CS) (p0 : Int32) (t : MS) (r : Int32) (t' : MS) (h : x_X7_fails p0 t = some (r, t')) : MetI g l yX7_fails wsX7_fails 0 0 [.ref (gmd g 32), .int p0] (cs, t) r (cs, t') := by
  refine mZ_start (own := RX7) (by decide +kernel) rfl rfl (Nat.le_of_ble_eq_true rfl) ?_
  intro p e s mi args below meth cd ls Q hX hw hl hret
  have hl : lv_has ls 2 [(0, .ref (gmd g 32)), (1, .int p0)] := hl
  obtain ⟨⟨hx, hb, -, hown, hts⟩, -⟩ := id hX
  unfold x_X7_fails at h
  refine lv_aload_n hx hb dX7_fails_0 rfl (lv_at hl 0 rfl) ?_
  refine lv_iload_n hx hb dX7_fails_1 rfl (lv_at hl 1 rfl) ?_
  obtain ⟨t1, et1, h⟩ := ol h
  refine m_pf hX hn hw 31 (v := p0) (by decide +kernel) (by decide) (by decide +kernel) rfl (by decide +kernel) rfl dX7_fails_2 (fun H lc hw => ?_)
  have hw : wH g s.heap.size (cs, t1) H lc := by rw [et1]; exact hw
  refine lv_iload_n hx hb dX7_fails_5 rfl (lv_at hl 1 rfl) ?_
  obtain ⟨aj5, h1aj5, kaj5⟩ := ob1 h
  have haj5 : ∀ (v3 : Int32) (H : Heap) (lc : List Loc) (cn sn : Nat) (ls : Array Slot), aj5 = v3 → wH g s.heap.size (cs, t1) H lc → lv_has ls 2 [] → W p l e (rmO g 0 0 s.heap) s mi args below meth cd H lc cn sn Q (F0 mi 14 ls [.int v3]) := by
    intro v3 H lc cn sn ls h hw hl
    replace h := kaj5 _ h
    obtain ⟨c4, h⟩ := og h
    replace h := (Option.some.inj h).symm
    have h9 : t' = t1 := congrArg Prod.snd h
    have hw : wH g s.heap.size (cs, t') H lc := by rw [h9]; exact hw
    exact hret _ _ _ _ _ _ _ dX7_fails_14 c4 hw (congrArg Prod.fst h).symm
  replace h := h1aj5
  refine lv_if_le (tgt := 13) hx hb dX7_fails_6 (by decide) (fun c2 => ?_) (fun c2 => ?_)
  · replace h := ot c2 h
    refine lv_iconst (v := 0) hx hb dX7_fails_13 (by decide) ?_
    replace h := (Option.some.inj h).symm
    exact haj5 _ _ _ _ _ _ h hw (lv_sub hl [] rfl)
  · replace h := oe c2 h
    refine lv_iconst (v := 1) hx hb dX7_fails_9 (by decide) ?_
    refine lv_goto (tgt := 14) hx hb dX7_fails_10 (by decide) ?_
    replace h := (Option.some.inj h).symm
    exact haj5 _ _ _ _ _ _ h hw (lv_sub hl [] rfl)

set_option maxHeartbeats 4000000 in
set_option maxRecDepth 100000 in
theorem c_X7_isTab (g : GG) (l : Launch) (hn : gnn g 4 = 1) (cs : CS) (p0 : Int32) (t : MS) (r : Int32) (h : x_X7_isTab p0 = some r) : MetI g l yX7_isTab wsX7_isTab 1 22 [.int p0] (cs, t) r (cs, t) := by
  refine mZ_start (own := RX7) (by decide +kernel) rfl rfl (Nat.le_of_ble_eq_true rfl) ?_
  intro p e s mi args below meth cd ls Q hX hw hl hret
  have hl : lv_has ls 1 [(0, .int p0)] := hl
  obtain ⟨⟨hx, hb, -, hown, hts⟩, -⟩ := id hX
  unfold x_X7_isTab at h
  refine lv_iload_n hx hb dX7_isTab_0 rfl (lv_at hl 0 rfl) ?_
  refine lv_iconst (v := 0) hx hb dX7_isTab_1 (by decide) ?_
  refine lv_iconst (v := 3) hx hb dX7_isTab_2 (by decide) ?_
  obtain ⟨v2, e1, h⟩ := ob h
  refine tw_callSI hX hw (n := 3) (As := [.int p0, .int 0, .int 3]) (rest := []) (c_X7_isIn g l hn cs p0 0 3 t v2 e1) gX7_isTab_X7_isIn rfl (by decide +kernel) rfl hl.1 rfl (Nat.le_of_ble_eq_true rfl) ⟨by decide, by decide⟩ dX7_isTab_3 (fun H lc cn sn hw => ?_)
  obtain ⟨c3, h⟩ := og h
  replace h := (Option.some.inj h).symm
  exact hret _ _ _ _ _ _ _ dX7_isTab_6 c3 hw h.symm

set_option maxHeartbeats 4000000 in
set_option maxRecDepth 100000 in
theorem c_X7_isTransaction (g : GG) (l : Launch) (hn : gnn g 4 = 1) (cs : CS) (p0 : Int32) (t : MS) (r : Int32) (h : x_X7_isTransaction p0 t = some r) : MetI g l yX7_isTransaction wsX7_isTransaction 1 22 [.ref (gmd g 32), .int p0] (cs, t) r (cs, t) := by
  refine mZ_start (own := RX7) (by decide +kernel) rfl rfl (Nat.le_of_ble_eq_true rfl) ?_
  intro p e s mi args below meth cd ls Q hX hw hl hret
  have hl : lv_has ls 2 [(0, .ref (gmd g 32)), (1, .int p0)] := hl
  obtain ⟨⟨hx, hb, -, hown, hts⟩, -⟩ := id hX
  unfold x_X7_isTransaction at h
  refine lv_iload_n hx hb dX7_isTransaction_0 rfl (lv_at hl 1 rfl) ?_
  refine lv_iconst (v := 0) hx hb dX7_isTransaction_1 (by decide) ?_
  refine lv_aload_n hx hb dX7_isTransaction_2 rfl (lv_at hl 0 rfl) ?_
  refine m_gf hX hn hw 18 (v := .int (gs t 18)) (by decide +kernel) (by decide) (by decide +kernel) rfl dX7_isTransaction_3 ?_
  refine lv_iconst (v := 1) hx hb dX7_isTransaction_6 (by decide) ?_
  refine lv_isub hx hb dX7_isTransaction_7 ?_
  obtain ⟨v2, e1, h⟩ := ob h
  refine tw_callSI hX hw (n := 3) (As := [.int p0, .int 0, .int ((gs t 18) - 1)]) (rest := []) (c_X7_isIn g l hn cs p0 0 ((gs t 18) - 1) t v2 e1) gX7_isTransaction_X7_isIn rfl (by decide +kernel) rfl hl.1 rfl (Nat.le_of_ble_eq_true rfl) ⟨by decide, by decide⟩ dX7_isTransaction_8 (fun H lc cn sn hw => ?_)
  obtain ⟨c3, h⟩ := og h
  replace h := (Option.some.inj h).symm
  exact hret _ _ _ _ _ _ _ dX7_isTransaction_11 c3 hw h.symm

set_option maxHeartbeats 4000000 in
set_option maxRecDepth 100000 in
theorem c_X7_isStore (g : GG) (l : Launch) (hn : gnn g 4 = 1) (cs : CS) (p0 : Int32) (t : MS) (r : Int32) (h : x_X7_isStore p0 t = some r) : MetI g l yX7_isStore wsX7_isStore 1 22 [.ref (gmd g 32), .int p0] (cs, t) r (cs, t) := by
  refine mZ_start (own := RX7) (by decide +kernel) rfl rfl (Nat.le_of_ble_eq_true rfl) ?_
  intro p e s mi args below meth cd ls Q hX hw hl hret
  have hl : lv_has ls 2 [(0, .ref (gmd g 32)), (1, .int p0)] := hl
  obtain ⟨⟨hx, hb, -, hown, hts⟩, -⟩ := id hX
  unfold x_X7_isStore at h
  refine lv_iload_n hx hb dX7_isStore_0 rfl (lv_at hl 1 rfl) ?_
  refine lv_iconst (v := 0) hx hb dX7_isStore_1 (by decide) ?_
  refine lv_iconst (v := 2) hx hb dX7_isStore_2 (by decide) ?_
  obtain ⟨v2, e1, h⟩ := ob h
  refine tw_callSI hX hw (n := 3) (As := [.int p0, .int 0, .int 2]) (rest := []) (c_X7_isIn g l hn cs p0 0 2 t v2 e1) gX7_isStore_X7_isIn rfl (by decide +kernel) rfl hl.1 rfl (Nat.le_of_ble_eq_true rfl) ⟨by decide, by decide⟩ dX7_isStore_3 (fun H lc cn sn hw => ?_)
  obtain ⟨aj9, h1aj9, kaj9⟩ := ob1 h
  have haj9 : ∀ (v7 : Int32) (H : Heap) (lc : List Loc) (cn sn : Nat) (ls : Array Slot), aj9 = v7 → wH g s.heap.size (cs, t) H lc → lv_has ls 2 [] → W p l e (rmO g 1 22 s.heap) s mi args below meth cd H lc cn sn Q (F0 mi 23 ls [.int v7]) := by
    intro v7 H lc cn sn ls h hw hl
    replace h := kaj9 _ h
    obtain ⟨c8, h⟩ := og h
    replace h := (Option.some.inj h).symm
    exact hret _ _ _ _ _ _ _ dX7_isStore_23 c8 hw h.symm
  replace h := h1aj9
  obtain ⟨aj6, h1aj6, kaj6, raj6⟩ := ol0 h
  have haj6 : ∀ (H : Heap) (lc : List Loc) (cn sn : Nat) (ls : Array Slot), aj6 = Sum.inl () → wH g s.heap.size (cs, t) H lc → lv_has ls 2 [] → W p l e (rmO g 1 22 s.heap) s mi args below meth cd H lc cn sn Q (F0 mi 22 ls []) := by
    intro H lc cn sn ls h hw hl
    replace h := kaj6 h
    refine lv_iconst (v := 0) hx hb dX7_isStore_22 (by decide) ?_
    replace h := (Option.some.inj h).symm
    exact haj9 _ _ _ _ _ _ h hw (lv_sub hl [] rfl)
  replace h := h1aj6
  refine lv_if_eq (tgt := 22) hx hb dX7_isStore_6 (by decide) (fun c3 => ?_) (fun c3 => ?_)
  · replace h := ot c3 h
    replace h := (Option.some.inj h).symm
    exact haj6 _ _ _ _ _ h hw (lv_sub hl [] rfl)
  · replace h := oe c3 h
    refine lv_aload_n hx hb dX7_isStore_9 rfl (lv_at hl 0 rfl) ?_
    refine m_gf hX hn hw 6 (v := .ref (gmd g 6)) (by decide +kernel) (by decide) (by decide +kernel) rfl dX7_isStore_10 ?_
    refine lv_iload_n hx hb dX7_isStore_13 rfl (lv_at hl 1 rfl) ?_
    obtain ⟨c4, h⟩ := og h
    refine m_ldz hX hn hw 6 (by decide) (by decide) rfl c4 dX7_isStore_14 ?_
    refine lv_if_eq (tgt := 22) hx hb dX7_isStore_15 (by decide) (fun c5 => ?_) (fun c5 => ?_)
    · replace h := ot c5 h
      replace h := (Option.some.inj h).symm
      exact haj6 _ _ _ _ _ h hw (lv_sub hl [] rfl)
    · replace h := oe c5 h
      refine lv_iconst (v := 1) hx hb dX7_isStore_18 (by decide) ?_
      refine lv_goto (tgt := 23) hx hb dX7_isStore_19 (by decide) ?_
      replace h := (Option.some.inj h).symm
      replace h := raj6 _ h
      exact haj9 _ _ _ _ _ _ h hw (lv_sub hl [] rfl)

set_option maxHeartbeats 4000000 in
set_option maxRecDepth 100000 in
theorem c_X7_isKey (g : GG) (l : Launch) (hn : gnn g 4 = 1) (cs : CS) (p0 : Int32) (t : MS) (r : Int32) (h : x_X7_isKey p0 = some r) : MetI g l yX7_isKey wsX7_isKey 1 22 [.int p0] (cs, t) r (cs, t) := by
  refine mZ_start (own := RX7) (by decide +kernel) rfl rfl (Nat.le_of_ble_eq_true rfl) ?_
  intro p e s mi args below meth cd ls Q hX hw hl hret
  have hl : lv_has ls 5 [(0, .int p0)] := hl
  obtain ⟨⟨hx, hb, -, hown, hts⟩, -⟩ := id hX
  unfold x_X7_isKey at h
  refine lv_iload_n hx hb dX7_isKey_0 rfl (lv_at hl 0 rfl) ?_
  refine lv_ldc (v := 1000000) hx hb hown (hts (.constant RX7 103 (1000000)) (by decide +kernel)) dX7_isKey_1 ?_
  refine lv_idiv hx hb dX7_isKey_3 (by decide) ?_
  refine lv_istore_n (lv' := [(1, .int (p0 / 1000000)), (0, .int p0)]) hx hb dX7_isKey_4 rfl hl (by decide) rfl (fun ls hl => ?_)
  refine lv_iload_n hx hb dX7_isKey_5 rfl (lv_at hl 1 rfl) ?_
  refine lv_ldc (v := 1000000) hx hb hown (hts (.constant RX7 103 (1000000)) (by decide +kernel)) dX7_isKey_6 ?_
  refine lv_irem hx hb dX7_isKey_8 (by decide) ?_
  refine lv_istore_n (lv' := [(2, .int (p0 - p0 / 1000000 * 1000000)), (1, .int (p0 / 1000000)), (0, .int p0)]) hx hb dX7_isKey_9 rfl hl (by decide) rfl (fun ls hl => ?_)
  refine lv_iload_n hx hb dX7_isKey_10 rfl (lv_at hl 2 rfl) ?_
  refine lv_iconst (v := 0) hx hb dX7_isKey_11 (by decide) ?_
  refine lv_ldc (v := 3999999) hx hb hown (hts (.constant RX7 104 (3999999)) (by decide +kernel)) dX7_isKey_12 ?_
  obtain ⟨v2, e1, h⟩ := ob h
  refine tw_callSI hX hw (n := 3) (As := [.int p0, .int 0, .int 3999999]) (rest := []) (c_X7_isIn g l hn cs p0 0 3999999 t v2 e1) gX7_isKey_X7_isIn rfl (by decide +kernel) rfl hl.1 rfl (Nat.le_of_ble_eq_true rfl) ⟨by decide, by decide⟩ dX7_isKey_14 (fun H lc cn sn hw => ?_)
  obtain ⟨aj32, h1aj32, kaj32, raj32⟩ := ol0 h
  have haj32 : ∀ (H : Heap) (lc : List Loc) (cn sn : Nat) (ls : Array Slot), aj32 = Sum.inl () → wH g s.heap.size (cs, t) H lc → lv_has ls 5 [(2, .int (p0 - p0 / 1000000 * 1000000)), (0, .int p0)] → W p l e (rmO g 1 22 s.heap) s mi args below meth cd H lc cn sn Q (F0 mi 25 ls []) := by
    intro H lc cn sn ls h hw hl
    replace h := kaj32 h
    refine lv_iload_n hx hb dX7_isKey_25 rfl (lv_at hl 1 rfl) ?_
    refine lv_iconst (v := 0) hx hb dX7_isKey_26 (by decide) ?_
    refine lv_ldc (v := 1999999) hx hb hown (hts (.constant RX7 105 (1999999)) (by decide +kernel)) dX7_isKey_27 ?_
    obtain ⟨v25, e24, h⟩ := ob h
    refine tw_callSI hX hw (n := 3) (As := [.int p0, .int 0, .int 1999999]) (rest := []) (c_X7_isIn g l hn cs p0 0 1999999 t v25 e24) gX7_isKey_X7_isIn rfl (by decide +kernel) rfl hl.1 rfl (Nat.le_of_ble_eq_true rfl) ⟨by decide, by decide⟩ dX7_isKey_29 (fun H lc cn sn hw => ?_)
    obtain ⟨aj31, h1aj31, kaj31⟩ := ob1 h
    have haj31 : ∀ (v29 : Int32) (H : Heap) (lc : List Loc) (cn sn : Nat) (ls : Array Slot), aj31 = v29 → wH g s.heap.size (cs, t) H lc → lv_has ls 5 [] → W p l e (rmO g 1 22 s.heap) s mi args below meth cd H lc cn sn Q (F0 mi 47 ls [.int v29]) := by
      intro v29 H lc cn sn ls h hw hl
      replace h := kaj31 _ h
      obtain ⟨c30, h⟩ := og h
      replace h := (Option.some.inj h).symm
      exact hret _ _ _ _ _ _ _ dX7_isKey_47 c30 hw h.symm
    replace h := h1aj31
    obtain ⟨aj28, h1aj28, kaj28, raj28⟩ := ol0 h
    have haj28 : ∀ (H : Heap) (lc : List Loc) (cn sn : Nat) (ls : Array Slot), aj28 = Sum.inl () → wH g s.heap.size (cs, t) H lc → lv_has ls 5 [] → W p l e (rmO g 1 22 s.heap) s mi args below meth cd H lc cn sn Q (F0 mi 46 ls []) := by
      intro H lc cn sn ls h hw hl
      replace h := kaj28 h
      refine lv_iconst (v := 0) hx hb dX7_isKey_46 (by decide) ?_
      replace h := (Option.some.inj h).symm
      exact haj31 _ _ _ _ _ _ h hw (lv_sub hl [] rfl)
    replace h := h1aj28
    refine lv_if_eq (tgt := 46) hx hb dX7_isKey_32 (by decide) (fun c26 => ?_) (fun c26 => ?_)
    · replace h := ot c26 h
      replace h := (Option.some.inj h).symm
      exact haj28 _ _ _ _ _ h hw (lv_sub hl [] rfl)
    · replace h := oe c26 h
      refine lv_iload_n hx hb dX7_isKey_35 rfl (lv_at hl 0 rfl) ?_
      refine lv_sipush (v := 1000) hx hb dX7_isKey_36 (by decide) ?_
      refine lv_icmp_ge (tgt := 46) hx hb dX7_isKey_39 (by decide) (fun c27 => ?_) (fun c27 => ?_)
      · replace h := ot c27 h
        replace h := (Option.some.inj h).symm
        exact haj28 _ _ _ _ _ h hw (lv_sub hl [] rfl)
      · replace h := oe c27 h
        refine lv_iconst (v := 1) hx hb dX7_isKey_42 (by decide) ?_
        refine lv_goto (tgt := 47) hx hb dX7_isKey_43 (by decide) ?_
        replace h := (Option.some.inj h).symm
        replace h := raj28 _ h
        exact haj31 _ _ _ _ _ _ h hw (lv_sub hl [] rfl)
  replace h := h1aj32
  refine lv_if_eq (tgt := 25) hx hb dX7_isKey_17 (by decide) (fun c3 => ?_) (fun c3 => ?_)
  · replace h := ot c3 h
    replace h := (Option.some.inj h).symm
    exact haj32 _ _ _ _ _ h hw (lv_sub hl [0, 2] rfl)
  · replace h := oe c3 h
    refine lv_iload_n hx hb dX7_isKey_20 rfl (lv_at hl 1 rfl) ?_
    refine lv_iconst (v := 2) hx hb dX7_isKey_21 (by decide) ?_
    refine lv_icmp_ge (tgt := 48) hx hb dX7_isKey_22 (by decide) (fun c4 => ?_) (fun c4 => ?_)
    · replace h := ot c4 h
      refine lv_iload_n hx hb dX7_isKey_48 rfl (lv_at hl 1 rfl) ?_
      refine lv_iconst (v := 3) hx hb dX7_isKey_49 (by decide) ?_
      obtain ⟨aj23, h1aj23, kaj23⟩ := ob1 h
      have haj23 : ∀ (v8 : Int32) (H : Heap) (lc : List Loc) (cn sn : Nat) (ls : Array Slot), aj23 = v8 → wH g s.heap.size (cs, t) H lc → lv_has ls 5 [(2, .int (p0 - p0 / 1000000 * 1000000)), (1, .int (p0 / 1000000))] → W p l e (rmO g 1 22 s.heap) s mi args below meth cd H lc cn sn Q (F0 mi 62 ls [.int v8]) := by
        intro v8 H lc cn sn ls h hw hl
        replace h := kaj23 _ h
        refine lv_istore_n (lv' := [(3, .int v8), (2, .int (p0 - p0 / 1000000 * 1000000)), (1, .int (p0 / 1000000))]) hx hb dX7_isKey_62 rfl hl (by decide) rfl (fun ls hl => ?_)
        refine lv_iload_n hx hb dX7_isKey_63 rfl (lv_at hl 1 rfl) ?_
        refine lv_istore (lv' := [(4, .int (p0 - p0 / 1000000 * 1000000)), (3, .int v8), (2, .int (p0 - p0 / 1000000 * 1000000)), (1, .int (p0 / 1000000))]) hx hb dX7_isKey_64 hl (by decide) rfl (fun ls hl => ?_)
        obtain ⟨aj22, h1aj22, kaj22⟩ := ob1 h
        have haj22 : ∀ (v20 : Int32) (H : Heap) (lc : List Loc) (cn sn : Nat) (ls : Array Slot), aj22 = v20 → wH g s.heap.size (cs, t) H lc → lv_has ls 5 [(3, .int v20)] → W p l e (rmO g 1 22 s.heap) s mi args below meth cd H lc cn sn Q (F0 mi 110 ls []) := by
          intro v20 H lc cn sn ls h hw hl
          replace h := kaj22 _ h
          refine lv_iload_n hx hb dX7_isKey_110 rfl (lv_at hl 0 rfl) ?_
          obtain ⟨c21, h⟩ := og h
          replace h := (Option.some.inj h).symm
          replace h := raj32 _ h
          exact hret _ _ _ _ _ _ _ dX7_isKey_111 c21 hw h.symm
        have hkj22 : ∀ (n : Nat) (v9 : Int32) (v10 : Int32) (H : Heap) (lc : List Loc) (cn sn : Nat) (ls : Array Slot), x_X7_isKey_L1 p0 n v9 v10 = some aj22 → wH g s.heap.size (cs, t) H lc → lv_has ls 5 [(4, .int v9), (3, .int v10), (1, .int (p0 / 1000000))] → W p l e (rmO g 1 22 s.heap) s mi args below meth cd H lc cn sn Q (F0 mi 66 ls []) := by
          intro n
          induction n with
          | zero =>
            intro v9 v10 H lc cn sn ls h
            rw [x_X7_isKey_L1] at h
            cases h
          | succ n ih =>
            intro v9 v10 H lc cn sn ls h hw hl
            rw [x_X7_isKey_L1] at h
            refine lv_iload hx hb dX7_isKey_66 (lv_at hl 0 rfl) ?_
            refine lv_if_le (tgt := 110) hx hb dX7_isKey_68 (by decide) (fun c11 => ?_) (fun c11 => ?_)
            · replace h := ot c11 h
              replace h := (Option.some.inj h).symm
              exact haj22 _ _ _ _ _ _ h hw (lv_sub hl [1] rfl)
            · replace h := oe c11 h
              refine lv_iload_n hx hb dX7_isKey_71 rfl (lv_at hl 2 rfl) ?_
              refine lv_iconst (v := 2) hx hb dX7_isKey_72 (by decide) ?_
              refine lv_icmp_ne (tgt := 110) hx hb dX7_isKey_73 (by decide) (fun c12 => ?_) (fun c12 => ?_)
              · replace h := oe c12 h
                replace h := (Option.some.inj h).symm
                exact haj22 _ _ _ _ _ _ h hw (lv_sub hl [1] rfl)
              · replace h := ot c12 h
                refine lv_iload_n hx hb dX7_isKey_76 rfl (lv_at hl 1 rfl) ?_
                obtain ⟨aj19, h1aj19, kaj19⟩ := ob1 h
                have haj19 : ∀ (v18 : Int32) (H : Heap) (lc : List Loc) (cn sn : Nat) (ls : Array Slot), aj19 = v18 → wH g s.heap.size (cs, t) H lc → lv_has ls 5 [(4, .int v9), (1, .int (p0 / 1000000))] → W p l e (rmO g 1 22 s.heap) s mi args below meth cd H lc cn sn Q (F0 mi 99 ls [.int v18]) := by
                  intro v18 H lc cn sn ls h hw hl
                  replace h := kaj19 _ h
                  refine lv_istore_n (lv' := [(3, .int v18), (4, .int v9), (1, .int (p0 / 1000000))]) hx hb dX7_isKey_99 rfl hl (by decide) rfl (fun ls hl => ?_)
                  refine lv_iload hx hb dX7_isKey_100 (lv_at hl 1 rfl) ?_
                  refine lv_bipush (v := 100) hx hb dX7_isKey_102 (by decide) ?_
                  refine lv_idiv hx hb dX7_isKey_104 (by decide) ?_
                  refine lv_istore (lv' := [(4, .int (v9 / 100)), (3, .int v18), (1, .int (p0 / 1000000))]) hx hb dX7_isKey_105 hl (by decide) rfl (fun ls hl => ?_)
                  refine lv_goto (tgt := 66) hx hb dX7_isKey_107 (by decide) ?_
                  exact ih _ _ _ _ _ _ _ h hw (lv_sub hl [0, 1, 2] rfl)
                replace h := h1aj19
                obtain ⟨aj17, h1aj17, kaj17, raj17⟩ := ol0 h
                have haj17 : ∀ (H : Heap) (lc : List Loc) (cn sn : Nat) (ls : Array Slot), aj17 = Sum.inl () → wH g s.heap.size (cs, t) H lc → lv_has ls 5 [(4, .int v9), (1, .int (p0 / 1000000))] → W p l e (rmO g 1 22 s.heap) s mi args below meth cd H lc cn sn Q (F0 mi 98 ls []) := by
                  intro H lc cn sn ls h hw hl
                  replace h := kaj17 h
                  refine lv_iconst (v := 0) hx hb dX7_isKey_98 (by decide) ?_
                  replace h := (Option.some.inj h).symm
                  exact haj19 _ _ _ _ _ _ h hw (lv_sub hl [0, 1] rfl)
                replace h := h1aj17
                refine lv_if_eq (tgt := 98) hx hb dX7_isKey_77 (by decide) (fun c13 => ?_) (fun c13 => ?_)
                · replace h := ot c13 h
                  replace h := (Option.some.inj h).symm
                  exact haj17 _ _ _ _ _ h hw (lv_sub hl [0, 2] rfl)
                · replace h := oe c13 h
                  refine lv_iload hx hb dX7_isKey_80 (lv_at hl 0 rfl) ?_
                  refine lv_bipush (v := 100) hx hb dX7_isKey_82 (by decide) ?_
                  refine lv_irem hx hb dX7_isKey_84 (by decide) ?_
                  refine lv_iconst (v := 1) hx hb dX7_isKey_85 (by decide) ?_
                  refine lv_bipush (v := 26) hx hb dX7_isKey_86 (by decide) ?_
                  obtain ⟨v15, e14, h⟩ := ob h
                  refine tw_callSI hX hw (n := 3) (As := [.int (v9 - v9 / 100 * 100), .int 1, .int 26]) (rest := []) (c_X7_isIn g l hn cs (v9 - v9 / 100 * 100) 1 26 t v15 e14) gX7_isKey_X7_isIn rfl (by decide +kernel) rfl hl.1 rfl (Nat.le_of_ble_eq_true rfl) ⟨by decide, by decide⟩ dX7_isKey_88 (fun H lc cn sn hw => ?_)
                  refine lv_if_eq (tgt := 98) hx hb dX7_isKey_91 (by decide) (fun c16 => ?_) (fun c16 => ?_)
                  · replace h := ot c16 h
                    replace h := (Option.some.inj h).symm
                    exact haj17 _ _ _ _ _ h hw (lv_sub hl [0, 2] rfl)
                  · replace h := oe c16 h
                    refine lv_iconst (v := 1) hx hb dX7_isKey_94 (by decide) ?_
                    refine lv_goto (tgt := 99) hx hb dX7_isKey_95 (by decide) ?_
                    replace h := (Option.some.inj h).symm
                    replace h := raj17 _ h
                    exact haj19 _ _ _ _ _ _ h hw (lv_sub hl [0, 2] rfl)
        exact hkj22 FU (p0 - p0 / 1000000 * 1000000) v8 _ _ _ _ _ h1aj22 hw (lv_sub hl [0, 1, 3] rfl)
      replace h := h1aj23
      obtain ⟨aj7, h1aj7, kaj7, raj7⟩ := ol0 h
      have haj7 : ∀ (H : Heap) (lc : List Loc) (cn sn : Nat) (ls : Array Slot), aj7 = Sum.inl () → wH g s.heap.size (cs, t) H lc → lv_has ls 5 [(2, .int (p0 - p0 / 1000000 * 1000000)), (1, .int (p0 / 1000000))] → W p l e (rmO g 1 22 s.heap) s mi args below meth cd H lc cn sn Q (F0 mi 57 ls []) := by
        intro H lc cn sn ls h hw hl
        replace h := kaj7 h
        refine lv_iconst (v := 1) hx hb dX7_isKey_57 (by decide) ?_
        refine lv_goto (tgt := 62) hx hb dX7_isKey_58 (by decide) ?_
        replace h := (Option.some.inj h).symm
        exact haj23 _ _ _ _ _ _ h hw (lv_sub hl [0, 1] rfl)
      replace h := h1aj7
      refine lv_icmp_eq (tgt := 57) hx hb dX7_isKey_50 (by decide) (fun c5 => ?_) (fun c5 => ?_)
      · replace h := ot c5 h
        replace h := (Option.some.inj h).symm
        exact haj7 _ _ _ _ _ h hw (lv_sub hl [0, 1] rfl)
      · replace h := oe c5 h
        refine lv_iload_n hx hb dX7_isKey_53 rfl (lv_at hl 0 rfl) ?_
        refine lv_if_le (tgt := 61) hx hb dX7_isKey_54 (by decide) (fun c6 => ?_) (fun c6 => ?_)
        · replace h := ot c6 h
          refine lv_iconst (v := 0) hx hb dX7_isKey_61 (by decide) ?_
          replace h := (Option.some.inj h).symm
          replace h := raj7 _ h
          exact haj23 _ _ _ _ _ _ h hw (lv_sub hl [0, 1] rfl)
        · replace h := oe c6 h
          replace h := (Option.some.inj h).symm
          exact haj7 _ _ _ _ _ h hw (lv_sub hl [0, 1] rfl)
    · replace h := oe c4 h
      replace h := (Option.some.inj h).symm
      exact haj32 _ _ _ _ _ h hw (lv_sub hl [0, 2] rfl)

set_option maxHeartbeats 4000000 in
set_option maxRecDepth 100000 in
theorem c_X7_rank (g : GG) (l : Launch) (hn : gnn g 4 = 1) (cs : CS) (p0 : Int32) (t : MS) (r : Int32) (h : x_X7_rank p0 = some r) : MetI g l yX7_rank wsX7_rank 0 0 [.int p0] (cs, t) r (cs, t) := by
  refine mI_start (own := RX7) (by decide +kernel) rfl rfl (Nat.le_of_ble_eq_true rfl) ?_
  intro p e s mi args below meth cd ls Q hX hw hl hret
  have hl : lv_has ls 2 [(0, .int p0)] := hl
  obtain ⟨⟨hx, hb, -, hown, hts⟩, -⟩ := id hX
  unfold x_X7_rank at h
  refine lv_iload_n hx hb dX7_rank_0 rfl (lv_at hl 0 rfl) ?_
  refine lv_ldc (v := 1000000) hx hb hown (hts (.constant RX7 103 (1000000)) (by decide +kernel)) dX7_rank_1 ?_
  refine lv_irem hx hb dX7_rank_3 (by decide) ?_
  refine lv_istore_n (lv' := [(1, .int (p0 - p0 / 1000000 * 1000000)), (0, .int p0)]) hx hb dX7_rank_4 rfl hl (by decide) rfl (fun ls hl => ?_)
  obtain ⟨aj9, h1aj9, kaj9⟩ := ob1 h
  have haj9 : ∀ (v8 : Int32) (H : Heap) (lc : List Loc) (cn sn : Nat) (ls : Array Slot), aj9 = v8 → wH g s.heap.size (cs, t) H lc → lv_has ls 2 [(1, .int v8), (0, .int p0)] → W p l e (rmO g 0 0 s.heap) s mi args below meth cd H lc cn sn Q (F0 mi 46 ls []) := by
    intro v8 H lc cn sn ls h hw hl
    replace h := kaj9 _ h
    refine lv_iload_n hx hb dX7_rank_46 rfl (lv_at hl 1 rfl) ?_
    refine lv_iload_n hx hb dX7_rank_47 rfl (lv_at hl 1 rfl) ?_
    refine lv_ldc (v := 1000000) hx hb hown (hts (.constant RX7 103 (1000000)) (by decide +kernel)) dX7_rank_48 ?_
    refine lv_irem hx hb dX7_rank_50 (by decide) ?_
    refine lv_isub hx hb dX7_rank_51 ?_
    refine lv_iload_n hx hb dX7_rank_52 rfl (lv_at hl 0 rfl) ?_
    refine lv_iadd hx hb dX7_rank_53 ?_
    replace h := (Option.some.inj h).symm
    exact hret _ _ _ _ _ _ _ dX7_rank_54 hw h.symm
  have hkj9 : ∀ (n : Nat) (v1 : Int32) (H : Heap) (lc : List Loc) (cn sn : Nat) (ls : Array Slot), x_X7_rank_L1 p0 n v1 = some aj9 → wH g s.heap.size (cs, t) H lc → lv_has ls 2 [(1, .int v1), (0, .int p0)] → W p l e (rmO g 0 0 s.heap) s mi args below meth cd H lc cn sn Q (F0 mi 5 ls []) := by
    intro n
    induction n with
    | zero =>
      intro v1 H lc cn sn ls h
      rw [x_X7_rank_L1] at h
      cases h
    | succ n ih =>
      intro v1 H lc cn sn ls h hw hl
      rw [x_X7_rank_L1] at h
      refine lv_iload_n hx hb dX7_rank_5 rfl (lv_at hl 1 rfl) ?_
      refine lv_ldc (v := 1000000) hx hb hown (hts (.constant RX7 103 (1000000)) (by decide +kernel)) dX7_rank_6 ?_
      refine lv_idiv hx hb dX7_rank_8 (by decide) ?_
      refine lv_iconst (v := 2) hx hb dX7_rank_9 (by decide) ?_
      refine lv_icmp_ne (tgt := 46) hx hb dX7_rank_10 (by decide) (fun c2 => ?_) (fun c2 => ?_)
      · replace h := oe c2 h
        replace h := (Option.some.inj h).symm
        exact haj9 _ _ _ _ _ _ h hw (lv_sub hl [0, 1] rfl)
      · replace h := ot c2 h
        refine lv_iload_n hx hb dX7_rank_13 rfl (lv_at hl 0 rfl) ?_
        refine lv_sipush (v := 10000) hx hb dX7_rank_14 (by decide) ?_
        refine lv_icmp_ge (tgt := 46) hx hb dX7_rank_17 (by decide) (fun c3 => ?_) (fun c3 => ?_)
        · replace h := ot c3 h
          replace h := (Option.some.inj h).symm
          exact haj9 _ _ _ _ _ _ h hw (lv_sub hl [0, 1] rfl)
        · replace h := oe c3 h
          refine lv_iload_n hx hb dX7_rank_20 rfl (lv_at hl 0 rfl) ?_
          refine lv_if_le (tgt := 46) hx hb dX7_rank_21 (by decide) (fun c4 => ?_) (fun c4 => ?_)
          · replace h := ot c4 h
            replace h := (Option.some.inj h).symm
            exact haj9 _ _ _ _ _ _ h hw (lv_sub hl [0, 1] rfl)
          · replace h := oe c4 h
            refine lv_iload_n hx hb dX7_rank_24 rfl (lv_at hl 0 rfl) ?_
            refine lv_bipush (v := 100) hx hb dX7_rank_25 (by decide) ?_
            obtain ⟨aj7, h1aj7, kaj7⟩ := ob1 h
            have haj7 : ∀ (v6 : Int32) (H : Heap) (lc : List Loc) (cn sn : Nat) (ls : Array Slot), aj7 = v6 → wH g s.heap.size (cs, t) H lc → lv_has ls 2 [(0, .int p0)] → W p l e (rmO g 0 0 s.heap) s mi args below meth cd H lc cn sn Q (F0 mi 42 ls [.int v6]) := by
              intro v6 H lc cn sn ls h hw hl
              replace h := kaj7 _ h
              refine lv_istore_n (lv' := [(1, .int v6), (0, .int p0)]) hx hb dX7_rank_42 rfl hl (by decide) rfl (fun ls hl => ?_)
              refine lv_goto (tgt := 5) hx hb dX7_rank_43 (by decide) ?_
              exact ih _ _ _ _ _ _ h hw (lv_sub hl [0, 1] rfl)
            replace h := h1aj7
            refine lv_icmp_ge (tgt := 38) hx hb dX7_rank_27 (by decide) (fun c5 => ?_) (fun c5 => ?_)
            · replace h := ot c5 h
              refine lv_iload_n hx hb dX7_rank_38 rfl (lv_at hl 0 rfl) ?_
              refine lv_bipush (v := 100) hx hb dX7_rank_39 (by decide) ?_
              refine lv_imul hx hb dX7_rank_41 ?_
              replace h := (Option.some.inj h).symm
              exact haj7 _ _ _ _ _ _ h hw (lv_sub hl [1] rfl)
            · replace h := oe c5 h
              refine lv_iload_n hx hb dX7_rank_30 rfl (lv_at hl 0 rfl) ?_
              refine lv_sipush (v := 10000) hx hb dX7_rank_31 (by decide) ?_
              refine lv_imul hx hb dX7_rank_34 ?_
              refine lv_goto (tgt := 42) hx hb dX7_rank_35 (by decide) ?_
              replace h := (Option.some.inj h).symm
              exact haj7 _ _ _ _ _ _ h hw (lv_sub hl [1] rfl)
  exact hkj9 FU (p0 - p0 / 1000000 * 1000000) _ _ _ _ _ h1aj9 hw (lv_sub hl [0, 1] rfl)

set_option maxHeartbeats 4000000 in
set_option maxRecDepth 100000 in
theorem c_X7_copies (g : GG) (l : Launch) (hn : gnn g 4 = 1) (cs : CS) (p0 : Int32) (t : MS) (t' : MS) (h : x_X7_copies p0 t = some t') : MetV g l yX7_copies wsX7_copies 0 0 [.ref (gmd g 32), .int p0] (cs, t) (cs, t') := by
  refine mV_start (own := RX7) (by decide +kernel) rfl rfl (Nat.le_of_ble_eq_true rfl) ?_
  intro p e s mi args below meth cd ls Q hX hw hl hret
  have hl : lv_has ls 3 [(0, .ref (gmd g 32)), (1, .int p0)] := hl
  obtain ⟨⟨hx, hb, -, hown, hts⟩, -⟩ := id hX
  unfold x_X7_copies at h
  refine lv_aload_n hx hb dX7_copies_0 rfl (lv_at hl 0 rfl) ?_
  refine m_gf hX hn hw 12 (v := .ref (gmd g 12)) (by decide +kernel) (by decide) (by decide +kernel) rfl dX7_copies_1 ?_
  refine lv_iload_n hx hb dX7_copies_4 rfl (lv_at hl 1 rfl) ?_
  refine lv_aload_n hx hb dX7_copies_5 rfl (lv_at hl 0 rfl) ?_
  refine m_gf hX hn hw 6 (v := .ref (gmd g 6)) (by decide +kernel) (by decide) (by decide +kernel) rfl dX7_copies_6 ?_
  refine lv_iload_n hx hb dX7_copies_9 rfl (lv_at hl 1 rfl) ?_
  obtain ⟨c1, h⟩ := og h
  refine m_ldz hX hn hw 6 (by decide) (by decide) rfl c1 dX7_copies_10 ?_
  obtain ⟨c2, h⟩ := og h
  obtain ⟨c32, h⟩ := og h
  obtain ⟨t3, et3, h⟩ := ol h
  refine m_stz hX hn hw 12 (by decide) (by decide) rfl c2 c32 dX7_copies_11 (fun H lc hw => ?_)
  have hw : wH g s.heap.size (cs, t3) H lc := by rw [et3]; exact hw
  refine lv_aload_n hx hb dX7_copies_12 rfl (lv_at hl 0 rfl) ?_
  refine m_gf hX hn hw 14 (v := .ref (gmd g 14)) (by decide +kernel) (by decide) (by decide +kernel) rfl dX7_copies_13 ?_
  refine lv_iload_n hx hb dX7_copies_16 rfl (lv_at hl 1 rfl) ?_
  refine lv_aload_n hx hb dX7_copies_17 rfl (lv_at hl 0 rfl) ?_
  refine m_gf hX hn hw 8 (v := .ref (gmd g 8)) (by decide +kernel) (by decide) (by decide +kernel) rfl dX7_copies_18 ?_
  refine lv_iload_n hx hb dX7_copies_21 rfl (lv_at hl 1 rfl) ?_
  obtain ⟨c4, h⟩ := og h
  refine m_ld hX hn hw 8 (by decide) (by decide) rfl c4 dX7_copies_22 ?_
  obtain ⟨c5, h⟩ := og h
  obtain ⟨t6, et6, h⟩ := ol h
  refine m_st hX hn hw 14 (by decide) (by decide) rfl c5 dX7_copies_23 (fun H lc hw => ?_)
  have hw : wH g s.heap.size (cs, t6) H lc := by rw [et6]; exact hw
  refine lv_iconst (v := 0) hx hb dX7_copies_24 (by decide) ?_
  refine lv_istore_n (lv' := [(2, .int 0), (0, .ref (gmd g 32)), (1, .int p0)]) hx hb dX7_copies_25 rfl hl (by decide) rfl (fun ls hl => ?_)
  obtain ⟨aj31, h1aj31, kaj31⟩ := ob1 h
  have haj31 : ∀ (t13 : MS) (H : Heap) (lc : List Loc) (cn sn : Nat) (ls : Array Slot), aj31 = t13 → wH g s.heap.size (cs, t13) H lc → lv_has ls 3 [(0, .ref (gmd g 32)), (1, .int p0)] → W p l e (rmO g 0 0 s.heap) s mi args below meth cd H lc cn sn Q (F0 mi 57 ls []) := by
    intro t13 H lc cn sn ls h hw hl
    replace h := kaj31 _ h
    refine lv_bipush (v := 40) hx hb dX7_copies_57 (by decide) ?_
    refine lv_iload_n hx hb dX7_copies_59 rfl (lv_at hl 1 rfl) ?_
    refine lv_imul hx hb dX7_copies_60 ?_
    refine lv_istore_n (lv' := [(2, .int (40 * p0)), (0, .ref (gmd g 32)), (1, .int p0)]) hx hb dX7_copies_61 rfl hl (by decide) rfl (fun ls hl => ?_)
    obtain ⟨aj30, h1aj30, kaj30⟩ := ob1 h
    have haj30 : ∀ (t29 : MS) (H : Heap) (lc : List Loc) (cn sn : Nat) (ls : Array Slot), aj30 = t29 → wH g s.heap.size (cs, t29) H lc → lv_has ls 3 [] → W p l e (rmO g 0 0 s.heap) s mi args below meth cd H lc cn sn Q (F0 mi 139 ls []) := by
      intro t29 H lc cn sn ls h hw hl
      replace h := kaj30 _ h
      replace h := (Option.some.inj h).symm
      have hw : wH g s.heap.size (cs, t') H lc := by rw [h]; exact hw
      exact hret _ _ _ _ _ _ dX7_copies_139 hw
    have hkj30 : ∀ (n : Nat) (v14 : Int32) (t15 : MS) (H : Heap) (lc : List Loc) (cn sn : Nat) (ls : Array Slot), x_X7_copies_L2 p0 n v14 t15 = some aj30 → wH g s.heap.size (cs, t15) H lc → lv_has ls 3 [(2, .int v14), (0, .ref (gmd g 32)), (1, .int p0)] → W p l e (rmO g 0 0 s.heap) s mi args below meth cd H lc cn sn Q (F0 mi 62 ls []) := by
      intro n
      induction n with
      | zero =>
        intro v14 t15 H lc cn sn ls h
        rw [x_X7_copies_L2] at h
        cases h
      | succ n ih =>
        intro v14 t15 H lc cn sn ls h hw hl
        rw [x_X7_copies_L2] at h
        refine lv_iload_n hx hb dX7_copies_62 rfl (lv_at hl 0 rfl) ?_
        refine lv_bipush (v := 40) hx hb dX7_copies_63 (by decide) ?_
        refine lv_iload_n hx hb dX7_copies_65 rfl (lv_at hl 2 rfl) ?_
        refine lv_imul hx hb dX7_copies_66 ?_
        refine lv_bipush (v := 40) hx hb dX7_copies_67 (by decide) ?_
        refine lv_iadd hx hb dX7_copies_69 ?_
        refine lv_icmp_ge (tgt := 139) hx hb dX7_copies_70 (by decide) (fun c16 => ?_) (fun c16 => ?_)
        · replace h := ot c16 h
          replace h := (Option.some.inj h).symm
          exact haj30 _ _ _ _ _ _ h hw (lv_sub hl [] rfl)
        · replace h := oe c16 h
          refine lv_aload_n hx hb dX7_copies_73 rfl (lv_at hl 1 rfl) ?_
          refine m_gf hX hn hw 15 (v := .ref (gmd g 15)) (by decide +kernel) (by decide) (by decide +kernel) rfl dX7_copies_74 ?_
          refine lv_iload_n hx hb dX7_copies_77 rfl (lv_at hl 0 rfl) ?_
          refine lv_aload_n hx hb dX7_copies_78 rfl (lv_at hl 1 rfl) ?_
          refine m_gf hX hn hw 9 (v := .ref (gmd g 9)) (by decide +kernel) (by decide) (by decide +kernel) rfl dX7_copies_79 ?_
          refine lv_iload_n hx hb dX7_copies_82 rfl (lv_at hl 0 rfl) ?_
          obtain ⟨c17, h⟩ := og h
          refine m_ld hX hn hw 9 (by decide) (by decide) rfl c17 dX7_copies_83 ?_
          obtain ⟨c18, h⟩ := og h
          obtain ⟨t19, et19, h⟩ := ol h
          refine m_st hX hn hw 15 (by decide) (by decide) rfl c18 dX7_copies_84 (fun H lc hw => ?_)
          have hw : wH g s.heap.size (cs, t19) H lc := by rw [et19]; exact hw
          refine lv_aload_n hx hb dX7_copies_85 rfl (lv_at hl 1 rfl) ?_
          refine m_gf hX hn hw 16 (v := .ref (gmd g 16)) (by decide +kernel) (by decide) (by decide +kernel) rfl dX7_copies_86 ?_
          refine lv_iload_n hx hb dX7_copies_89 rfl (lv_at hl 0 rfl) ?_
          refine lv_aload_n hx hb dX7_copies_90 rfl (lv_at hl 1 rfl) ?_
          refine m_gf hX hn hw 10 (v := .ref (gmd g 10)) (by decide +kernel) (by decide) (by decide +kernel) rfl dX7_copies_91 ?_
          refine lv_iload_n hx hb dX7_copies_94 rfl (lv_at hl 0 rfl) ?_
          obtain ⟨c20, h⟩ := og h
          refine m_ld hX hn hw 10 (by decide) (by decide) rfl c20 dX7_copies_95 ?_
          obtain ⟨c21, h⟩ := og h
          obtain ⟨t22, et22, h⟩ := ol h
          refine m_st hX hn hw 16 (by decide) (by decide) rfl c21 dX7_copies_96 (fun H lc hw => ?_)
          have hw : wH g s.heap.size (cs, t22) H lc := by rw [et22]; exact hw
          refine lv_aload_n hx hb dX7_copies_97 rfl (lv_at hl 1 rfl) ?_
          refine m_gf hX hn hw 17 (v := .ref (gmd g 17)) (by decide +kernel) (by decide) (by decide +kernel) rfl dX7_copies_98 ?_
          refine lv_iconst (v := 2) hx hb dX7_copies_101 (by decide) ?_
          refine lv_iload_n hx hb dX7_copies_102 rfl (lv_at hl 0 rfl) ?_
          refine lv_imul hx hb dX7_copies_103 ?_
          refine lv_aload_n hx hb dX7_copies_104 rfl (lv_at hl 1 rfl) ?_
          refine m_gf hX hn hw 11 (v := .ref (gmd g 11)) (by decide +kernel) (by decide) (by decide +kernel) rfl dX7_copies_105 ?_
          refine lv_iconst (v := 2) hx hb dX7_copies_108 (by decide) ?_
          refine lv_iload_n hx hb dX7_copies_109 rfl (lv_at hl 0 rfl) ?_
          refine lv_imul hx hb dX7_copies_110 ?_
          obtain ⟨c23, h⟩ := og h
          refine m_ld hX hn hw 11 (by decide) (by decide) rfl c23 dX7_copies_111 ?_
          obtain ⟨c24, h⟩ := og h
          obtain ⟨t25, et25, h⟩ := ol h
          refine m_st hX hn hw 17 (by decide) (by decide) rfl c24 dX7_copies_112 (fun H lc hw => ?_)
          have hw : wH g s.heap.size (cs, t25) H lc := by rw [et25]; exact hw
          refine lv_aload_n hx hb dX7_copies_113 rfl (lv_at hl 1 rfl) ?_
          refine m_gf hX hn hw 17 (v := .ref (gmd g 17)) (by decide +kernel) (by decide) (by decide +kernel) rfl dX7_copies_114 ?_
          refine lv_iconst (v := 2) hx hb dX7_copies_117 (by decide) ?_
          refine lv_iload_n hx hb dX7_copies_118 rfl (lv_at hl 0 rfl) ?_
          refine lv_imul hx hb dX7_copies_119 ?_
          refine lv_iconst (v := 1) hx hb dX7_copies_120 (by decide) ?_
          refine lv_iadd hx hb dX7_copies_121 ?_
          refine lv_aload_n hx hb dX7_copies_122 rfl (lv_at hl 1 rfl) ?_
          refine m_gf hX hn hw 11 (v := .ref (gmd g 11)) (by decide +kernel) (by decide) (by decide +kernel) rfl dX7_copies_123 ?_
          refine lv_iconst (v := 2) hx hb dX7_copies_126 (by decide) ?_
          refine lv_iload_n hx hb dX7_copies_127 rfl (lv_at hl 0 rfl) ?_
          refine lv_imul hx hb dX7_copies_128 ?_
          refine lv_iconst (v := 1) hx hb dX7_copies_129 (by decide) ?_
          refine lv_iadd hx hb dX7_copies_130 ?_
          obtain ⟨c26, h⟩ := og h
          refine m_ld hX hn hw 11 (by decide) (by decide) rfl c26 dX7_copies_131 ?_
          obtain ⟨c27, h⟩ := og h
          obtain ⟨t28, et28, h⟩ := ol h
          refine m_st hX hn hw 17 (by decide) (by decide) rfl c27 dX7_copies_132 (fun H lc hw => ?_)
          have hw : wH g s.heap.size (cs, t28) H lc := by rw [et28]; exact hw
          refine lv_iinc (v := (v14 + 1)) (lv' := [(2, .int (v14 + 1)), (0, .ref (gmd g 32)), (1, .int p0)]) hx hb dX7_copies_133 hl (k := 0) rfl (by rfl) (by decide) rfl (fun ls hl => ?_)
          refine lv_goto (tgt := 62) hx hb dX7_copies_136 (by decide) ?_
          exact ih _ _ _ _ _ _ _ h hw (lv_sub hl [0, 1, 2] rfl)
    exact hkj30 FU (40 * p0) t13 _ _ _ _ _ h1aj30 hw (lv_sub hl [0, 1, 2] rfl)
  have hkj31 : ∀ (n : Nat) (v7 : Int32) (t8 : MS) (H : Heap) (lc : List Loc) (cn sn : Nat) (ls : Array Slot), x_X7_copies_L1 p0 n v7 t8 = some aj31 → wH g s.heap.size (cs, t8) H lc → lv_has ls 3 [(2, .int v7), (0, .ref (gmd g 32)), (1, .int p0)] → W p l e (rmO g 0 0 s.heap) s mi args below meth cd H lc cn sn Q (F0 mi 26 ls []) := by
    intro n
    induction n with
    | zero =>
      intro v7 t8 H lc cn sn ls h
      rw [x_X7_copies_L1] at h
      cases h
    | succ n ih =>
      intro v7 t8 H lc cn sn ls h hw hl
      rw [x_X7_copies_L1] at h
      refine lv_iload_n hx hb dX7_copies_26 rfl (lv_at hl 0 rfl) ?_
      refine lv_iconst (v := 2) hx hb dX7_copies_27 (by decide) ?_
      refine lv_icmp_ge (tgt := 57) hx hb dX7_copies_28 (by decide) (fun c9 => ?_) (fun c9 => ?_)
      · replace h := ot c9 h
        replace h := (Option.some.inj h).symm
        exact haj31 _ _ _ _ _ _ h hw (lv_sub hl [1, 2] rfl)
      · replace h := oe c9 h
        refine lv_aload_n hx hb dX7_copies_31 rfl (lv_at hl 1 rfl) ?_
        refine m_gf hX hn hw 13 (v := .ref (gmd g 13)) (by decide +kernel) (by decide) (by decide +kernel) rfl dX7_copies_32 ?_
        refine lv_iconst (v := 2) hx hb dX7_copies_35 (by decide) ?_
        refine lv_iload_n hx hb dX7_copies_36 rfl (lv_at hl 2 rfl) ?_
        refine lv_imul hx hb dX7_copies_37 ?_
        refine lv_iload_n hx hb dX7_copies_38 rfl (lv_at hl 0 rfl) ?_
        refine lv_iadd hx hb dX7_copies_39 ?_
        refine lv_aload_n hx hb dX7_copies_40 rfl (lv_at hl 1 rfl) ?_
        refine m_gf hX hn hw 7 (v := .ref (gmd g 7)) (by decide +kernel) (by decide) (by decide +kernel) rfl dX7_copies_41 ?_
        refine lv_iconst (v := 2) hx hb dX7_copies_44 (by decide) ?_
        refine lv_iload_n hx hb dX7_copies_45 rfl (lv_at hl 2 rfl) ?_
        refine lv_imul hx hb dX7_copies_46 ?_
        refine lv_iload_n hx hb dX7_copies_47 rfl (lv_at hl 0 rfl) ?_
        refine lv_iadd hx hb dX7_copies_48 ?_
        obtain ⟨c10, h⟩ := og h
        refine m_ld hX hn hw 7 (by decide) (by decide) rfl c10 dX7_copies_49 ?_
        obtain ⟨c11, h⟩ := og h
        obtain ⟨t12, et12, h⟩ := ol h
        refine m_st hX hn hw 13 (by decide) (by decide) rfl c11 dX7_copies_50 (fun H lc hw => ?_)
        have hw : wH g s.heap.size (cs, t12) H lc := by rw [et12]; exact hw
        refine lv_iinc (v := (v7 + 1)) (lv' := [(2, .int (v7 + 1)), (0, .ref (gmd g 32)), (1, .int p0)]) hx hb dX7_copies_51 hl (k := 0) rfl (by rfl) (by decide) rfl (fun ls hl => ?_)
        refine lv_goto (tgt := 26) hx hb dX7_copies_54 (by decide) ?_
        exact ih _ _ _ _ _ _ _ h hw (lv_sub hl [0, 1, 2] rfl)
  exact hkj31 FU 0 t6 _ _ _ _ _ h1aj31 hw (lv_sub hl [0, 1, 2] rfl)

set_option maxHeartbeats 4000000 in
set_option maxRecDepth 100000 in
theorem c_X7_restores (g : GG) (l : Launch) (hn : gnn g 4 = 1) (cs : CS) (p0 : Int32) (t : MS) (t' : MS) (h : x_X7_restores p0 t = some t') : MetV g l yX7_restores wsX7_restores 0 0 [.ref (gmd g 32), .int p0] (cs, t) (cs, t') := by
  refine mV_start (own := RX7) (by decide +kernel) rfl rfl (Nat.le_of_ble_eq_true rfl) ?_
  intro p e s mi args below meth cd ls Q hX hw hl hret
  have hl : lv_has ls 3 [(0, .ref (gmd g 32)), (1, .int p0)] := hl
  obtain ⟨⟨hx, hb, -, hown, hts⟩, -⟩ := id hX
  unfold x_X7_restores at h
  refine lv_aload_n hx hb dX7_restores_0 rfl (lv_at hl 0 rfl) ?_
  refine m_gf hX hn hw 6 (v := .ref (gmd g 6)) (by decide +kernel) (by decide) (by decide +kernel) rfl dX7_restores_1 ?_
  refine lv_iload_n hx hb dX7_restores_4 rfl (lv_at hl 1 rfl) ?_
  refine lv_aload_n hx hb dX7_restores_5 rfl (lv_at hl 0 rfl) ?_
  refine m_gf hX hn hw 12 (v := .ref (gmd g 12)) (by decide +kernel) (by decide) (by decide +kernel) rfl dX7_restores_6 ?_
  refine lv_iload_n hx hb dX7_restores_9 rfl (lv_at hl 1 rfl) ?_
  obtain ⟨c1, h⟩ := og h
  refine m_ldz hX hn hw 12 (by decide) (by decide) rfl c1 dX7_restores_10 ?_
  obtain ⟨c2, h⟩ := og h
  obtain ⟨c32, h⟩ := og h
  obtain ⟨t3, et3, h⟩ := ol h
  refine m_stz hX hn hw 6 (by decide) (by decide) rfl c2 c32 dX7_restores_11 (fun H lc hw => ?_)
  have hw : wH g s.heap.size (cs, t3) H lc := by rw [et3]; exact hw
  refine lv_aload_n hx hb dX7_restores_12 rfl (lv_at hl 0 rfl) ?_
  refine m_gf hX hn hw 8 (v := .ref (gmd g 8)) (by decide +kernel) (by decide) (by decide +kernel) rfl dX7_restores_13 ?_
  refine lv_iload_n hx hb dX7_restores_16 rfl (lv_at hl 1 rfl) ?_
  refine lv_aload_n hx hb dX7_restores_17 rfl (lv_at hl 0 rfl) ?_
  refine m_gf hX hn hw 14 (v := .ref (gmd g 14)) (by decide +kernel) (by decide) (by decide +kernel) rfl dX7_restores_18 ?_
  refine lv_iload_n hx hb dX7_restores_21 rfl (lv_at hl 1 rfl) ?_
  obtain ⟨c4, h⟩ := og h
  refine m_ld hX hn hw 14 (by decide) (by decide) rfl c4 dX7_restores_22 ?_
  obtain ⟨c5, h⟩ := og h
  obtain ⟨t6, et6, h⟩ := ol h
  refine m_st hX hn hw 8 (by decide) (by decide) rfl c5 dX7_restores_23 (fun H lc hw => ?_)
  have hw : wH g s.heap.size (cs, t6) H lc := by rw [et6]; exact hw
  refine lv_iconst (v := 0) hx hb dX7_restores_24 (by decide) ?_
  refine lv_istore_n (lv' := [(2, .int 0), (0, .ref (gmd g 32)), (1, .int p0)]) hx hb dX7_restores_25 rfl hl (by decide) rfl (fun ls hl => ?_)
  obtain ⟨aj31, h1aj31, kaj31⟩ := ob1 h
  have haj31 : ∀ (t13 : MS) (H : Heap) (lc : List Loc) (cn sn : Nat) (ls : Array Slot), aj31 = t13 → wH g s.heap.size (cs, t13) H lc → lv_has ls 3 [(0, .ref (gmd g 32)), (1, .int p0)] → W p l e (rmO g 0 0 s.heap) s mi args below meth cd H lc cn sn Q (F0 mi 57 ls []) := by
    intro t13 H lc cn sn ls h hw hl
    replace h := kaj31 _ h
    refine lv_bipush (v := 40) hx hb dX7_restores_57 (by decide) ?_
    refine lv_iload_n hx hb dX7_restores_59 rfl (lv_at hl 1 rfl) ?_
    refine lv_imul hx hb dX7_restores_60 ?_
    refine lv_istore_n (lv' := [(2, .int (40 * p0)), (0, .ref (gmd g 32)), (1, .int p0)]) hx hb dX7_restores_61 rfl hl (by decide) rfl (fun ls hl => ?_)
    obtain ⟨aj30, h1aj30, kaj30⟩ := ob1 h
    have haj30 : ∀ (t29 : MS) (H : Heap) (lc : List Loc) (cn sn : Nat) (ls : Array Slot), aj30 = t29 → wH g s.heap.size (cs, t29) H lc → lv_has ls 3 [] → W p l e (rmO g 0 0 s.heap) s mi args below meth cd H lc cn sn Q (F0 mi 139 ls []) := by
      intro t29 H lc cn sn ls h hw hl
      replace h := kaj30 _ h
      replace h := (Option.some.inj h).symm
      have hw : wH g s.heap.size (cs, t') H lc := by rw [h]; exact hw
      exact hret _ _ _ _ _ _ dX7_restores_139 hw
    have hkj30 : ∀ (n : Nat) (v14 : Int32) (t15 : MS) (H : Heap) (lc : List Loc) (cn sn : Nat) (ls : Array Slot), x_X7_restores_L2 p0 n v14 t15 = some aj30 → wH g s.heap.size (cs, t15) H lc → lv_has ls 3 [(2, .int v14), (0, .ref (gmd g 32)), (1, .int p0)] → W p l e (rmO g 0 0 s.heap) s mi args below meth cd H lc cn sn Q (F0 mi 62 ls []) := by
      intro n
      induction n with
      | zero =>
        intro v14 t15 H lc cn sn ls h
        rw [x_X7_restores_L2] at h
        cases h
      | succ n ih =>
        intro v14 t15 H lc cn sn ls h hw hl
        rw [x_X7_restores_L2] at h
        refine lv_iload_n hx hb dX7_restores_62 rfl (lv_at hl 0 rfl) ?_
        refine lv_bipush (v := 40) hx hb dX7_restores_63 (by decide) ?_
        refine lv_iload_n hx hb dX7_restores_65 rfl (lv_at hl 2 rfl) ?_
        refine lv_imul hx hb dX7_restores_66 ?_
        refine lv_bipush (v := 40) hx hb dX7_restores_67 (by decide) ?_
        refine lv_iadd hx hb dX7_restores_69 ?_
        refine lv_icmp_ge (tgt := 139) hx hb dX7_restores_70 (by decide) (fun c16 => ?_) (fun c16 => ?_)
        · replace h := ot c16 h
          replace h := (Option.some.inj h).symm
          exact haj30 _ _ _ _ _ _ h hw (lv_sub hl [] rfl)
        · replace h := oe c16 h
          refine lv_aload_n hx hb dX7_restores_73 rfl (lv_at hl 1 rfl) ?_
          refine m_gf hX hn hw 9 (v := .ref (gmd g 9)) (by decide +kernel) (by decide) (by decide +kernel) rfl dX7_restores_74 ?_
          refine lv_iload_n hx hb dX7_restores_77 rfl (lv_at hl 0 rfl) ?_
          refine lv_aload_n hx hb dX7_restores_78 rfl (lv_at hl 1 rfl) ?_
          refine m_gf hX hn hw 15 (v := .ref (gmd g 15)) (by decide +kernel) (by decide) (by decide +kernel) rfl dX7_restores_79 ?_
          refine lv_iload_n hx hb dX7_restores_82 rfl (lv_at hl 0 rfl) ?_
          obtain ⟨c17, h⟩ := og h
          refine m_ld hX hn hw 15 (by decide) (by decide) rfl c17 dX7_restores_83 ?_
          obtain ⟨c18, h⟩ := og h
          obtain ⟨t19, et19, h⟩ := ol h
          refine m_st hX hn hw 9 (by decide) (by decide) rfl c18 dX7_restores_84 (fun H lc hw => ?_)
          have hw : wH g s.heap.size (cs, t19) H lc := by rw [et19]; exact hw
          refine lv_aload_n hx hb dX7_restores_85 rfl (lv_at hl 1 rfl) ?_
          refine m_gf hX hn hw 10 (v := .ref (gmd g 10)) (by decide +kernel) (by decide) (by decide +kernel) rfl dX7_restores_86 ?_
          refine lv_iload_n hx hb dX7_restores_89 rfl (lv_at hl 0 rfl) ?_
          refine lv_aload_n hx hb dX7_restores_90 rfl (lv_at hl 1 rfl) ?_
          refine m_gf hX hn hw 16 (v := .ref (gmd g 16)) (by decide +kernel) (by decide) (by decide +kernel) rfl dX7_restores_91 ?_
          refine lv_iload_n hx hb dX7_restores_94 rfl (lv_at hl 0 rfl) ?_
          obtain ⟨c20, h⟩ := og h
          refine m_ld hX hn hw 16 (by decide) (by decide) rfl c20 dX7_restores_95 ?_
          obtain ⟨c21, h⟩ := og h
          obtain ⟨t22, et22, h⟩ := ol h
          refine m_st hX hn hw 10 (by decide) (by decide) rfl c21 dX7_restores_96 (fun H lc hw => ?_)
          have hw : wH g s.heap.size (cs, t22) H lc := by rw [et22]; exact hw
          refine lv_aload_n hx hb dX7_restores_97 rfl (lv_at hl 1 rfl) ?_
          refine m_gf hX hn hw 11 (v := .ref (gmd g 11)) (by decide +kernel) (by decide) (by decide +kernel) rfl dX7_restores_98 ?_
          refine lv_iconst (v := 2) hx hb dX7_restores_101 (by decide) ?_
          refine lv_iload_n hx hb dX7_restores_102 rfl (lv_at hl 0 rfl) ?_
          refine lv_imul hx hb dX7_restores_103 ?_
          refine lv_aload_n hx hb dX7_restores_104 rfl (lv_at hl 1 rfl) ?_
          refine m_gf hX hn hw 17 (v := .ref (gmd g 17)) (by decide +kernel) (by decide) (by decide +kernel) rfl dX7_restores_105 ?_
          refine lv_iconst (v := 2) hx hb dX7_restores_108 (by decide) ?_
          refine lv_iload_n hx hb dX7_restores_109 rfl (lv_at hl 0 rfl) ?_
          refine lv_imul hx hb dX7_restores_110 ?_
          obtain ⟨c23, h⟩ := og h
          refine m_ld hX hn hw 17 (by decide) (by decide) rfl c23 dX7_restores_111 ?_
          obtain ⟨c24, h⟩ := og h
          obtain ⟨t25, et25, h⟩ := ol h
          refine m_st hX hn hw 11 (by decide) (by decide) rfl c24 dX7_restores_112 (fun H lc hw => ?_)
          have hw : wH g s.heap.size (cs, t25) H lc := by rw [et25]; exact hw
          refine lv_aload_n hx hb dX7_restores_113 rfl (lv_at hl 1 rfl) ?_
          refine m_gf hX hn hw 11 (v := .ref (gmd g 11)) (by decide +kernel) (by decide) (by decide +kernel) rfl dX7_restores_114 ?_
          refine lv_iconst (v := 2) hx hb dX7_restores_117 (by decide) ?_
          refine lv_iload_n hx hb dX7_restores_118 rfl (lv_at hl 0 rfl) ?_
          refine lv_imul hx hb dX7_restores_119 ?_
          refine lv_iconst (v := 1) hx hb dX7_restores_120 (by decide) ?_
          refine lv_iadd hx hb dX7_restores_121 ?_
          refine lv_aload_n hx hb dX7_restores_122 rfl (lv_at hl 1 rfl) ?_
          refine m_gf hX hn hw 17 (v := .ref (gmd g 17)) (by decide +kernel) (by decide) (by decide +kernel) rfl dX7_restores_123 ?_
          refine lv_iconst (v := 2) hx hb dX7_restores_126 (by decide) ?_
          refine lv_iload_n hx hb dX7_restores_127 rfl (lv_at hl 0 rfl) ?_
          refine lv_imul hx hb dX7_restores_128 ?_
          refine lv_iconst (v := 1) hx hb dX7_restores_129 (by decide) ?_
          refine lv_iadd hx hb dX7_restores_130 ?_
          obtain ⟨c26, h⟩ := og h
          refine m_ld hX hn hw 17 (by decide) (by decide) rfl c26 dX7_restores_131 ?_
          obtain ⟨c27, h⟩ := og h
          obtain ⟨t28, et28, h⟩ := ol h
          refine m_st hX hn hw 11 (by decide) (by decide) rfl c27 dX7_restores_132 (fun H lc hw => ?_)
          have hw : wH g s.heap.size (cs, t28) H lc := by rw [et28]; exact hw
          refine lv_iinc (v := (v14 + 1)) (lv' := [(2, .int (v14 + 1)), (0, .ref (gmd g 32)), (1, .int p0)]) hx hb dX7_restores_133 hl (k := 0) rfl (by rfl) (by decide) rfl (fun ls hl => ?_)
          refine lv_goto (tgt := 62) hx hb dX7_restores_136 (by decide) ?_
          exact ih _ _ _ _ _ _ _ h hw (lv_sub hl [0, 1, 2] rfl)
    exact hkj30 FU (40 * p0) t13 _ _ _ _ _ h1aj30 hw (lv_sub hl [0, 1, 2] rfl)
  have hkj31 : ∀ (n : Nat) (v7 : Int32) (t8 : MS) (H : Heap) (lc : List Loc) (cn sn : Nat) (ls : Array Slot), x_X7_restores_L1 p0 n v7 t8 = some aj31 → wH g s.heap.size (cs, t8) H lc → lv_has ls 3 [(2, .int v7), (0, .ref (gmd g 32)), (1, .int p0)] → W p l e (rmO g 0 0 s.heap) s mi args below meth cd H lc cn sn Q (F0 mi 26 ls []) := by
    intro n
    induction n with
    | zero =>
      intro v7 t8 H lc cn sn ls h
      rw [x_X7_restores_L1] at h
      cases h
    | succ n ih =>
      intro v7 t8 H lc cn sn ls h hw hl
      rw [x_X7_restores_L1] at h
      refine lv_iload_n hx hb dX7_restores_26 rfl (lv_at hl 0 rfl) ?_
      refine lv_iconst (v := 2) hx hb dX7_restores_27 (by decide) ?_
      refine lv_icmp_ge (tgt := 57) hx hb dX7_restores_28 (by decide) (fun c9 => ?_) (fun c9 => ?_)
      · replace h := ot c9 h
        replace h := (Option.some.inj h).symm
        exact haj31 _ _ _ _ _ _ h hw (lv_sub hl [1, 2] rfl)
      · replace h := oe c9 h
        refine lv_aload_n hx hb dX7_restores_31 rfl (lv_at hl 1 rfl) ?_
        refine m_gf hX hn hw 7 (v := .ref (gmd g 7)) (by decide +kernel) (by decide) (by decide +kernel) rfl dX7_restores_32 ?_
        refine lv_iconst (v := 2) hx hb dX7_restores_35 (by decide) ?_
        refine lv_iload_n hx hb dX7_restores_36 rfl (lv_at hl 2 rfl) ?_
        refine lv_imul hx hb dX7_restores_37 ?_
        refine lv_iload_n hx hb dX7_restores_38 rfl (lv_at hl 0 rfl) ?_
        refine lv_iadd hx hb dX7_restores_39 ?_
        refine lv_aload_n hx hb dX7_restores_40 rfl (lv_at hl 1 rfl) ?_
        refine m_gf hX hn hw 13 (v := .ref (gmd g 13)) (by decide +kernel) (by decide) (by decide +kernel) rfl dX7_restores_41 ?_
        refine lv_iconst (v := 2) hx hb dX7_restores_44 (by decide) ?_
        refine lv_iload_n hx hb dX7_restores_45 rfl (lv_at hl 2 rfl) ?_
        refine lv_imul hx hb dX7_restores_46 ?_
        refine lv_iload_n hx hb dX7_restores_47 rfl (lv_at hl 0 rfl) ?_
        refine lv_iadd hx hb dX7_restores_48 ?_
        obtain ⟨c10, h⟩ := og h
        refine m_ld hX hn hw 13 (by decide) (by decide) rfl c10 dX7_restores_49 ?_
        obtain ⟨c11, h⟩ := og h
        obtain ⟨t12, et12, h⟩ := ol h
        refine m_st hX hn hw 7 (by decide) (by decide) rfl c11 dX7_restores_50 (fun H lc hw => ?_)
        have hw : wH g s.heap.size (cs, t12) H lc := by rw [et12]; exact hw
        refine lv_iinc (v := (v7 + 1)) (lv' := [(2, .int (v7 + 1)), (0, .ref (gmd g 32)), (1, .int p0)]) hx hb dX7_restores_51 hl (k := 0) rfl (by rfl) (by decide) rfl (fun ls hl => ?_)
        refine lv_goto (tgt := 26) hx hb dX7_restores_54 (by decide) ?_
        exact ih _ _ _ _ _ _ _ h hw (lv_sub hl [0, 1, 2] rfl)
  exact hkj31 FU 0 t6 _ _ _ _ _ h1aj31 hw (lv_sub hl [0, 1, 2] rfl)

set_option maxHeartbeats 4000000 in
set_option maxRecDepth 100000 in
theorem c_X7_runs (g : GG) (l : Launch) (hn : gnn g 4 = 1) (cs : CS) (p0 : Int32) (t : MS) (t' : MS) (h : x_X7_runs p0 t = some t') : MetV g l yX7_runs wsX7_runs 1 22 [.ref (gmd g 32), .int p0] (cs, t) (cs, t') := by
  refine mV_start (own := RX7) (by decide +kernel) rfl rfl (Nat.le_of_ble_eq_true rfl) ?_
  intro p e s mi args below meth cd ls Q hX hw hl hret
  have hl : lv_has ls 3 [(0, .ref (gmd g 32)), (1, .int p0)] := hl
  obtain ⟨⟨hx, hb, -, hown, hts⟩, -⟩ := id hX
  unfold x_X7_runs at h
  refine lv_aload_n hx hb dX7_runs_0 rfl (lv_at hl 0 rfl) ?_
  refine m_gf hX hn hw 22 (v := .ref (gmd g 22)) (by decide +kernel) (by decide) (by decide +kernel) rfl dX7_runs_1 ?_
  refine lv_iload_n hx hb dX7_runs_4 rfl (lv_at hl 1 rfl) ?_
  refine lv_iconst (v := 1) hx hb dX7_runs_5 (by decide) ?_
  obtain ⟨c1, h⟩ := og h
  obtain ⟨t2, et2, h⟩ := ol h
  refine m_st hX hn hw 22 (by decide) (by decide) rfl c1 dX7_runs_6 (fun H lc hw => ?_)
  have hw : wH g s.heap.size (cs, t2) H lc := by rw [et2]; exact hw
  refine lv_iconst (v := 0) hx hb dX7_runs_7 (by decide) ?_
  refine lv_istore_n (lv' := [(2, .int 0), (0, .ref (gmd g 32)), (1, .int p0)]) hx hb dX7_runs_8 rfl hl (by decide) rfl (fun ls hl => ?_)
  obtain ⟨aj15, h1aj15, kaj15⟩ := ob1 h
  have haj15 : ∀ (t14 : MS) (H : Heap) (lc : List Loc) (cn sn : Nat) (ls : Array Slot), aj15 = t14 → wH g s.heap.size (cs, t14) H lc → lv_has ls 3 [] → W p l e (rmO g 1 22 s.heap) s mi args below meth cd H lc cn sn Q (F0 mi 48 ls []) := by
    intro t14 H lc cn sn ls h hw hl
    replace h := kaj15 _ h
    replace h := (Option.some.inj h).symm
    have hw : wH g s.heap.size (cs, t') H lc := by rw [h]; exact hw
    exact hret _ _ _ _ _ _ dX7_runs_48 hw
  have hkj15 : ∀ (n : Nat) (v3 : Int32) (t4 : MS) (H : Heap) (lc : List Loc) (cn sn : Nat) (ls : Array Slot), x_X7_runs_L1 p0 n v3 t4 = some aj15 → wH g s.heap.size (cs, t4) H lc → lv_has ls 3 [(2, .int v3), (0, .ref (gmd g 32)), (1, .int p0)] → W p l e (rmO g 1 22 s.heap) s mi args below meth cd H lc cn sn Q (F0 mi 9 ls []) := by
    intro n
    induction n with
    | zero =>
      intro v3 t4 H lc cn sn ls h
      rw [x_X7_runs_L1] at h
      cases h
    | succ n ih =>
      intro v3 t4 H lc cn sn ls h hw hl
      rw [x_X7_runs_L1] at h
      refine lv_iload_n hx hb dX7_runs_9 rfl (lv_at hl 0 rfl) ?_
      refine lv_iconst (v := 3) hx hb dX7_runs_10 (by decide) ?_
      refine lv_icmp_ge (tgt := 48) hx hb dX7_runs_11 (by decide) (fun c5 => ?_) (fun c5 => ?_)
      · replace h := ot c5 h
        replace h := (Option.some.inj h).symm
        exact haj15 _ _ _ _ _ _ h hw (lv_sub hl [] rfl)
      · replace h := oe c5 h
        refine lv_aload_n hx hb dX7_runs_14 rfl (lv_at hl 1 rfl) ?_
        refine m_gf hX hn hw 21 (v := .ref (gmd g 21)) (by decide +kernel) (by decide) (by decide +kernel) rfl dX7_runs_15 ?_
        refine lv_iload_n hx hb dX7_runs_18 rfl (lv_at hl 2 rfl) ?_
        obtain ⟨c6, h⟩ := og h
        refine m_ldz hX hn hw 21 (by decide) (by decide) rfl c6 dX7_runs_19 ?_
        refine lv_if_eq (tgt := 48) hx hb dX7_runs_20 (by decide) (fun c7 => ?_) (fun c7 => ?_)
        · replace h := ot c7 h
          replace h := (Option.some.inj h).symm
          exact haj15 _ _ _ _ _ _ h hw (lv_sub hl [] rfl)
        · replace h := oe c7 h
          refine lv_aload_n hx hb dX7_runs_23 rfl (lv_at hl 1 rfl) ?_
          refine m_gf hX hn hw 20 (v := .ref (gmd g 20)) (by decide +kernel) (by decide) (by decide +kernel) rfl dX7_runs_24 ?_
          refine lv_iload_n hx hb dX7_runs_27 rfl (lv_at hl 2 rfl) ?_
          obtain ⟨c8, h⟩ := og h
          refine m_ld hX hn hw 20 (by decide) (by decide) rfl c8 dX7_runs_28 ?_
          refine lv_iload_n hx hb dX7_runs_29 rfl (lv_at hl 0 rfl) ?_
          refine lv_ishr hx hb dX7_runs_30 ?_
          refine lv_iconst (v := 1) hx hb dX7_runs_31 (by decide) ?_
          refine lv_iand hx hb dX7_runs_32 ?_
          refine lv_iconst (v := 1) hx hb dX7_runs_33 (by decide) ?_
          obtain ⟨aj13, h1aj13, kaj13⟩ := ob1 h
          have haj13 : ∀ (t12 : MS) (H : Heap) (lc : List Loc) (cn sn : Nat) (ls : Array Slot), aj13 = t12 → wH g s.heap.size (cs, t12) H lc → lv_has ls 3 [(2, .int v3), (0, .ref (gmd g 32)), (1, .int p0)] → W p l e (rmO g 1 22 s.heap) s mi args below meth cd H lc cn sn Q (F0 mi 42 ls []) := by
            intro t12 H lc cn sn ls h hw hl
            replace h := kaj13 _ h
            refine lv_iinc (v := (v3 + 1)) (lv' := [(2, .int (v3 + 1)), (0, .ref (gmd g 32)), (1, .int p0)]) hx hb dX7_runs_42 hl (k := 0) rfl (by rfl) (by decide) rfl (fun ls hl => ?_)
            refine lv_goto (tgt := 9) hx hb dX7_runs_45 (by decide) ?_
            exact ih _ _ _ _ _ _ _ h hw (lv_sub hl [0, 1, 2] rfl)
          replace h := h1aj13
          refine lv_icmp_ne (tgt := 42) hx hb dX7_runs_34 (by decide) (fun c9 => ?_) (fun c9 => ?_)
          · replace h := oe c9 h
            replace h := (Option.some.inj h).symm
            exact haj13 _ _ _ _ _ _ h hw (lv_sub hl [0, 1, 2] rfl)
          · replace h := ot c9 h
            refine lv_aload_n hx hb dX7_runs_37 rfl (lv_at hl 1 rfl) ?_
            refine lv_iload_n hx hb dX7_runs_38 rfl (lv_at hl 0 rfl) ?_
            obtain ⟨t11, e10, h⟩ := ob h
            refine m_callV hX hn hw (n := 1) (As := [.int v3]) (rest := []) (c_X7_copies g l hn cs v3 t4 t11 e10) gX7_runs_X7_copies rfl (by decide +kernel) rfl hl.1 rfl (Nat.le_of_ble_eq_true rfl) ⟨by decide, by decide⟩ dX7_runs_39 (fun H lc cn sn hw => ?_)
            replace h := (Option.some.inj h).symm
            exact haj13 _ _ _ _ _ _ h hw (lv_sub hl [0, 1, 2] rfl)
  exact hkj15 FU 0 t2 _ _ _ _ _ h1aj15 hw (lv_sub hl [0, 1, 2] rfl)

set_option maxHeartbeats 4000000 in
set_option maxRecDepth 100000 in
theorem c_X7_isAlive (g : GG) (l : Launch) (hn : gnn g 4 = 1) (cs : CS) (p0 : Int32) (t : MS) (r : Int32) (h : x_X7_isAlive p0 t = some r) : MetI g l yX7_isAlive wsX7_isAlive 0 0 [.ref (gmd g 32), .int p0] (cs, t) r (cs, t) := by
  refine mZ_start (own := RX7) (by decide +kernel) rfl rfl (Nat.le_of_ble_eq_true rfl) ?_
  intro p e s mi args below meth cd ls Q hX hw hl hret
  have hl : lv_has ls 2 [(0, .ref (gmd g 32)), (1, .int p0)] := hl
  obtain ⟨⟨hx, hb, -, hown, hts⟩, -⟩ := id hX
  unfold x_X7_isAlive at h
  refine lv_aload_n hx hb dX7_isAlive_0 rfl (lv_at hl 0 rfl) ?_
  refine m_gf hX hn hw 22 (v := .ref (gmd g 22)) (by decide +kernel) (by decide) (by decide +kernel) rfl dX7_isAlive_1 ?_
  refine lv_iload_n hx hb dX7_isAlive_4 rfl (lv_at hl 1 rfl) ?_
  obtain ⟨c1, h⟩ := og h
  refine m_ld hX hn hw 22 (by decide) (by decide) rfl c1 dX7_isAlive_5 ?_
  obtain ⟨aj8, h1aj8, kaj8⟩ := ob1 h
  have haj8 : ∀ (v6 : Int32) (H : Heap) (lc : List Loc) (cn sn : Nat) (ls : Array Slot), aj8 = v6 → wH g s.heap.size (cs, t) H lc → lv_has ls 2 [] → W p l e (rmO g 0 0 s.heap) s mi args below meth cd H lc cn sn Q (F0 mi 24 ls [.int v6]) := by
    intro v6 H lc cn sn ls h hw hl
    replace h := kaj8 _ h
    obtain ⟨c7, h⟩ := og h
    replace h := (Option.some.inj h).symm
    exact hret _ _ _ _ _ _ _ dX7_isAlive_24 c7 hw h.symm
  replace h := h1aj8
  obtain ⟨aj5, h1aj5, kaj5, raj5⟩ := ol0 h
  have haj5 : ∀ (H : Heap) (lc : List Loc) (cn sn : Nat) (ls : Array Slot), aj5 = Sum.inl () → wH g s.heap.size (cs, t) H lc → lv_has ls 2 [] → W p l e (rmO g 0 0 s.heap) s mi args below meth cd H lc cn sn Q (F0 mi 19 ls []) := by
    intro H lc cn sn ls h hw hl
    replace h := kaj5 h
    refine lv_iconst (v := 1) hx hb dX7_isAlive_19 (by decide) ?_
    refine lv_goto (tgt := 24) hx hb dX7_isAlive_20 (by decide) ?_
    replace h := (Option.some.inj h).symm
    exact haj8 _ _ _ _ _ _ h hw (lv_sub hl [] rfl)
  replace h := h1aj5
  refine lv_if_eq (tgt := 19) hx hb dX7_isAlive_6 (by decide) (fun c2 => ?_) (fun c2 => ?_)
  · replace h := ot c2 h
    replace h := (Option.some.inj h).symm
    exact haj5 _ _ _ _ _ h hw (lv_sub hl [] rfl)
  · replace h := oe c2 h
    refine lv_aload_n hx hb dX7_isAlive_9 rfl (lv_at hl 0 rfl) ?_
    refine m_gf hX hn hw 22 (v := .ref (gmd g 22)) (by decide +kernel) (by decide) (by decide +kernel) rfl dX7_isAlive_10 ?_
    refine lv_iload_n hx hb dX7_isAlive_13 rfl (lv_at hl 1 rfl) ?_
    obtain ⟨c3, h⟩ := og h
    refine m_ld hX hn hw 22 (by decide) (by decide) rfl c3 dX7_isAlive_14 ?_
    refine lv_iconst (v := 1) hx hb dX7_isAlive_15 (by decide) ?_
    refine lv_icmp_ne (tgt := 23) hx hb dX7_isAlive_16 (by decide) (fun c4 => ?_) (fun c4 => ?_)
    · replace h := oe c4 h
      refine lv_iconst (v := 0) hx hb dX7_isAlive_23 (by decide) ?_
      replace h := (Option.some.inj h).symm
      replace h := raj5 _ h
      exact haj8 _ _ _ _ _ _ h hw (lv_sub hl [] rfl)
    · replace h := ot c4 h
      replace h := (Option.some.inj h).symm
      exact haj5 _ _ _ _ _ h hw (lv_sub hl [] rfl)

set_option maxHeartbeats 4000000 in
set_option maxRecDepth 100000 in
theorem c_X7_mustWait (g : GG) (l : Launch) (hn : gnn g 4 = 1) (cs : CS) (p0 : Int32) (t : MS) (r : Int32) (h : x_X7_mustWait p0 t = some r) : MetI g l yX7_mustWait wsX7_mustWait 1 21 [.ref (gmd g 32), .int p0] (cs, t) r (cs, t) := by
  refine mZ_start (own := RX7) (by decide +kernel) rfl rfl (Nat.le_of_ble_eq_true rfl) ?_
  intro p e s mi args below meth cd ls Q hX hw hl hret
  have hl : lv_has ls 4 [(0, .ref (gmd g 32)), (1, .int p0)] := hl
  obtain ⟨⟨hx, hb, -, hown, hts⟩, -⟩ := id hX
  unfold x_X7_mustWait at h
  refine lv_iconst (v := 0) hx hb dX7_mustWait_0 (by decide) ?_
  refine lv_istore_n (lv' := [(2, .int 0), (0, .ref (gmd g 32)), (1, .int p0)]) hx hb dX7_mustWait_1 rfl hl (by decide) rfl (fun ls hl => ?_)
  refine lv_iconst (v := 0) hx hb dX7_mustWait_2 (by decide) ?_
  refine lv_istore_n (lv' := [(3, .int 0), (2, .int 0), (0, .ref (gmd g 32)), (1, .int p0)]) hx hb dX7_mustWait_3 rfl hl (by decide) rfl (fun ls hl => ?_)
  obtain ⟨aj21, h1aj21, kaj21⟩ := ob1 h
  have haj21 : ∀ (v19 : Int32) (H : Heap) (lc : List Loc) (cn sn : Nat) (ls : Array Slot), aj21 = v19 → wH g s.heap.size (cs, t) H lc → lv_has ls 4 [(2, .int v19)] → W p l e (rmO g 1 21 s.heap) s mi args below meth cd H lc cn sn Q (F0 mi 67 ls []) := by
    intro v19 H lc cn sn ls h hw hl
    replace h := kaj21 _ h
    refine lv_iload_n hx hb dX7_mustWait_67 rfl (lv_at hl 0 rfl) ?_
    obtain ⟨c20, h⟩ := og h
    replace h := (Option.some.inj h).symm
    exact hret _ _ _ _ _ _ _ dX7_mustWait_68 c20 hw h.symm
  have hkj21 : ∀ (n : Nat) (v1 : Int32) (v2 : Int32) (H : Heap) (lc : List Loc) (cn sn : Nat) (ls : Array Slot), x_X7_mustWait_L1 p0 t n v1 v2 = some aj21 → wH g s.heap.size (cs, t) H lc → lv_has ls 4 [(3, .int v1), (2, .int v2), (0, .ref (gmd g 32)), (1, .int p0)] → W p l e (rmO g 1 21 s.heap) s mi args below meth cd H lc cn sn Q (F0 mi 4 ls []) := by
    intro n
    induction n with
    | zero =>
      intro v1 v2 H lc cn sn ls h
      rw [x_X7_mustWait_L1] at h
      cases h
    | succ n ih =>
      intro v1 v2 H lc cn sn ls h hw hl
      rw [x_X7_mustWait_L1] at h
      refine lv_iload_n hx hb dX7_mustWait_4 rfl (lv_at hl 0 rfl) ?_
      refine lv_iload_n hx hb dX7_mustWait_5 rfl (lv_at hl 3 rfl) ?_
      refine lv_icmp_ge (tgt := 67) hx hb dX7_mustWait_6 (by decide) (fun c3 => ?_) (fun c3 => ?_)
      · replace h := ot c3 h
        replace h := (Option.some.inj h).symm
        exact haj21 _ _ _ _ _ _ h hw (lv_sub hl [1] rfl)
      · replace h := oe c3 h
        refine lv_iload_n hx hb dX7_mustWait_9 rfl (lv_at hl 1 rfl) ?_
        obtain ⟨aj18, h1aj18, kaj18⟩ := ob1 h
        have haj18 : ∀ (v17 : Int32) (H : Heap) (lc : List Loc) (cn sn : Nat) (ls : Array Slot), aj18 = v17 → wH g s.heap.size (cs, t) H lc → lv_has ls 4 [(3, .int v1), (0, .ref (gmd g 32)), (1, .int p0)] → W p l e (rmO g 1 21 s.heap) s mi args below meth cd H lc cn sn Q (F0 mi 60 ls [.int v17]) := by
          intro v17 H lc cn sn ls h hw hl
          replace h := kaj18 _ h
          refine lv_istore_n (lv' := [(2, .int v17), (3, .int v1), (0, .ref (gmd g 32)), (1, .int p0)]) hx hb dX7_mustWait_60 rfl hl (by decide) rfl (fun ls hl => ?_)
          refine lv_iinc (v := (v1 + 1)) (lv' := [(3, .int (v1 + 1)), (2, .int v17), (0, .ref (gmd g 32)), (1, .int p0)]) hx hb dX7_mustWait_61 hl (k := 1) rfl (by rfl) (by decide) rfl (fun ls hl => ?_)
          refine lv_goto (tgt := 4) hx hb dX7_mustWait_64 (by decide) ?_
          exact ih _ _ _ _ _ _ _ h hw (lv_sub hl [0, 1, 2, 3] rfl)
        replace h := h1aj18
        obtain ⟨aj16, h1aj16, kaj16, raj16⟩ := ol0 h
        have haj16 : ∀ (H : Heap) (lc : List Loc) (cn sn : Nat) (ls : Array Slot), aj16 = Sum.inl () → wH g s.heap.size (cs, t) H lc → lv_has ls 4 [(3, .int v1), (0, .ref (gmd g 32)), (1, .int p0)] → W p l e (rmO g 1 21 s.heap) s mi args below meth cd H lc cn sn Q (F0 mi 55 ls []) := by
          intro H lc cn sn ls h hw hl
          replace h := kaj16 h
          refine lv_iconst (v := 1) hx hb dX7_mustWait_55 (by decide) ?_
          refine lv_goto (tgt := 60) hx hb dX7_mustWait_56 (by decide) ?_
          replace h := (Option.some.inj h).symm
          exact haj18 _ _ _ _ _ _ h hw (lv_sub hl [0, 1, 2] rfl)
        replace h := h1aj16
        refine lv_if_ne (tgt := 55) hx hb dX7_mustWait_10 (by decide) (fun c4 => ?_) (fun c4 => ?_)
        · replace h := oe c4 h
          replace h := (Option.some.inj h).symm
          exact haj16 _ _ _ _ _ h hw (lv_sub hl [0, 2, 3] rfl)
        · replace h := ot c4 h
          refine lv_aload_n hx hb dX7_mustWait_13 rfl (lv_at hl 2 rfl) ?_
          refine lv_iload_n hx hb dX7_mustWait_14 rfl (lv_at hl 0 rfl) ?_
          obtain ⟨v6, e5, h⟩ := ob h
          refine m_callI hX hn hw (n := 1) (As := [.int v1]) (rest := []) (c_X7_isAlive g l hn cs v1 t v6 e5) gX7_mustWait_X7_isAlive rfl (by decide +kernel) rfl hl.1 rfl (Nat.le_of_ble_eq_true rfl) ⟨by decide, by decide⟩ dX7_mustWait_15 (fun H lc cn sn hw => ?_)
          obtain ⟨aj15, h1aj15, kaj15, raj15⟩ := ol0 h
          have haj15 : ∀ (H : Heap) (lc : List Loc) (cn sn : Nat) (ls : Array Slot), aj15 = Sum.inl () → wH g s.heap.size (cs, t) H lc → lv_has ls 4 [(3, .int v1), (0, .ref (gmd g 32)), (1, .int p0)] → W p l e (rmO g 1 21 s.heap) s mi args below meth cd H lc cn sn Q (F0 mi 59 ls []) := by
            intro H lc cn sn ls h hw hl
            replace h := kaj15 h
            refine lv_iconst (v := 0) hx hb dX7_mustWait_59 (by decide) ?_
            replace h := (Option.some.inj h).symm
            replace h := raj16 _ h
            exact haj18 _ _ _ _ _ _ h hw (lv_sub hl [0, 1, 2] rfl)
          replace h := h1aj15
          refine lv_if_eq (tgt := 59) hx hb dX7_mustWait_18 (by decide) (fun c7 => ?_) (fun c7 => ?_)
          · replace h := ot c7 h
            replace h := (Option.some.inj h).symm
            exact haj15 _ _ _ _ _ h hw (lv_sub hl [0, 2, 3] rfl)
          · replace h := oe c7 h
            refine lv_aload_n hx hb dX7_mustWait_21 rfl (lv_at hl 2 rfl) ?_
            refine m_gf hX hn hw 20 (v := .ref (gmd g 20)) (by decide +kernel) (by decide) (by decide +kernel) rfl dX7_mustWait_22 ?_
            refine lv_iload_n hx hb dX7_mustWait_25 rfl (lv_at hl 0 rfl) ?_
            obtain ⟨c8, h⟩ := og h
            refine m_ld hX hn hw 20 (by decide) (by decide) rfl c8 dX7_mustWait_26 ?_
            refine lv_aload_n hx hb dX7_mustWait_27 rfl (lv_at hl 2 rfl) ?_
            refine m_gf hX hn hw 20 (v := .ref (gmd g 20)) (by decide +kernel) (by decide) (by decide +kernel) rfl dX7_mustWait_28 ?_
            refine lv_iload_n hx hb dX7_mustWait_31 rfl (lv_at hl 3 rfl) ?_
            obtain ⟨c9, h⟩ := og h
            refine m_ld hX hn hw 20 (by decide) (by decide) rfl c9 dX7_mustWait_32 ?_
            refine lv_iand hx hb dX7_mustWait_33 ?_
            refine lv_if_eq (tgt := 59) hx hb dX7_mustWait_34 (by decide) (fun c10 => ?_) (fun c10 => ?_)
            · replace h := ot c10 h
              replace h := (Option.some.inj h).symm
              exact haj15 _ _ _ _ _ h hw (lv_sub hl [0, 2, 3] rfl)
            · replace h := oe c10 h
              refine lv_aload_n hx hb dX7_mustWait_37 rfl (lv_at hl 2 rfl) ?_
              refine m_gf hX hn hw 21 (v := .ref (gmd g 21)) (by decide +kernel) (by decide) (by decide +kernel) rfl dX7_mustWait_38 ?_
              refine lv_iload_n hx hb dX7_mustWait_41 rfl (lv_at hl 0 rfl) ?_
              obtain ⟨c11, h⟩ := og h
              refine m_ldz hX hn hw 21 (by decide) (by decide) rfl c11 dX7_mustWait_42 ?_
              refine lv_if_ne (tgt := 55) hx hb dX7_mustWait_43 (by decide) (fun c12 => ?_) (fun c12 => ?_)
              · replace h := oe c12 h
                replace h := (Option.some.inj h).symm
                replace h := raj15 _ h
                exact haj16 _ _ _ _ _ h hw (lv_sub hl [0, 2, 3] rfl)
              · replace h := ot c12 h
                refine lv_aload_n hx hb dX7_mustWait_46 rfl (lv_at hl 2 rfl) ?_
                refine m_gf hX hn hw 21 (v := .ref (gmd g 21)) (by decide +kernel) (by decide) (by decide +kernel) rfl dX7_mustWait_47 ?_
                refine lv_iload_n hx hb dX7_mustWait_50 rfl (lv_at hl 3 rfl) ?_
                obtain ⟨c13, h⟩ := og h
                refine m_ldz hX hn hw 21 (by decide) (by decide) rfl c13 dX7_mustWait_51 ?_
                refine lv_if_eq (tgt := 59) hx hb dX7_mustWait_52 (by decide) (fun c14 => ?_) (fun c14 => ?_)
                · replace h := ot c14 h
                  replace h := (Option.some.inj h).symm
                  exact haj15 _ _ _ _ _ h hw (lv_sub hl [0, 2, 3] rfl)
                · replace h := oe c14 h
                  replace h := (Option.some.inj h).symm
                  replace h := raj15 _ h
                  exact haj16 _ _ _ _ _ h hw (lv_sub hl [0, 2, 3] rfl)
  exact hkj21 FU 0 0 _ _ _ _ _ h1aj21 hw (lv_sub hl [0, 1, 2, 3] rfl)

set_option maxHeartbeats 4000000 in
set_option maxRecDepth 100000 in
theorem c_X7_goesOn (g : GG) (l : Launch) (hn : gnn g 4 = 1) (cs : CS) (t : MS) (r : Int32) (t' : MS) (h : x_X7_goesOn t = some (r, t')) : MetI g l yX7_goesOn wsX7_goesOn 2 44 [.ref (gmd g 32)] (cs, t) r (cs, t') := by
  refine mI_start (own := RX7) (by decide +kernel) rfl rfl (Nat.le_of_ble_eq_true rfl) ?_
  intro p e s mi args below meth cd ls Q hX hw hl hret
  have hl : lv_has ls 3 [(0, .ref (gmd g 32))] := hl
  obtain ⟨⟨hx, hb, -, hown, hts⟩, -⟩ := id hX
  unfold x_X7_goesOn at h
  refine lv_iconst (v := 0) hx hb dX7_goesOn_0 (by decide) ?_
  refine lv_istore_n (lv' := [(1, .int 0), (0, .ref (gmd g 32))]) hx hb dX7_goesOn_1 rfl hl (by decide) rfl (fun ls hl => ?_)
  refine lv_iconst (v := 0) hx hb dX7_goesOn_2 (by decide) ?_
  refine lv_istore_n (lv' := [(2, .int 0), (1, .int 0), (0, .ref (gmd g 32))]) hx hb dX7_goesOn_3 rfl hl (by decide) rfl (fun ls hl => ?_)
  obtain ⟨aj17, h1aj17, kaj17⟩ := ob2 h
  have haj17 : ∀ (v15 : Int32) (t16 : MS) (H : Heap) (lc : List Loc) (cn sn : Nat) (ls : Array Slot), aj17 = (v15, t16) → wH g s.heap.size (cs, t16) H lc → lv_has ls 3 [(1, .int v15)] → W p l e (rmO g 2 44 s.heap) s mi args below meth cd H lc cn sn Q (F0 mi 43 ls []) := by
    intro v15 t16 H lc cn sn ls h hw hl
    replace h := kaj17 _ _ h
    refine lv_iload_n hx hb dX7_goesOn_43 rfl (lv_at hl 0 rfl) ?_
    replace h := (Option.some.inj h).symm
    have h9 : t' = t16 := congrArg Prod.snd h
    have hw : wH g s.heap.size (cs, t') H lc := by rw [h9]; exact hw
    exact hret _ _ _ _ _ _ _ dX7_goesOn_44 hw (congrArg Prod.fst h).symm
  have hkj17 : ∀ (n : Nat) (v1 : Int32) (v2 : Int32) (t3 : MS) (H : Heap) (lc : List Loc) (cn sn : Nat) (ls : Array Slot), x_X7_goesOn_L1 n v1 v2 t3 = some aj17 → wH g s.heap.size (cs, t3) H lc → lv_has ls 3 [(2, .int v1), (1, .int v2), (0, .ref (gmd g 32))] → W p l e (rmO g 2 44 s.heap) s mi args below meth cd H lc cn sn Q (F0 mi 4 ls []) := by
    intro n
    induction n with
    | zero =>
      intro v1 v2 t3 H lc cn sn ls h
      rw [x_X7_goesOn_L1] at h
      cases h
    | succ n ih =>
      intro v1 v2 t3 H lc cn sn ls h hw hl
      rw [x_X7_goesOn_L1] at h
      refine lv_iload_n hx hb dX7_goesOn_4 rfl (lv_at hl 0 rfl) ?_
      refine lv_aload_n hx hb dX7_goesOn_5 rfl (lv_at hl 2 rfl) ?_
      refine m_gf hX hn hw 18 (v := .int (gs t3 18)) (by decide +kernel) (by decide) (by decide +kernel) rfl dX7_goesOn_6 ?_
      refine lv_icmp_ge (tgt := 43) hx hb dX7_goesOn_9 (by decide) (fun c4 => ?_) (fun c4 => ?_)
      · replace h := ot c4 h
        replace h := (Option.some.inj h).symm
        exact haj17 _ _ _ _ _ _ _ h hw (lv_sub hl [1] rfl)
      · replace h := oe c4 h
        refine lv_aload_n hx hb dX7_goesOn_12 rfl (lv_at hl 2 rfl) ?_
        refine m_gf hX hn hw 22 (v := .ref (gmd g 22)) (by decide +kernel) (by decide) (by decide +kernel) rfl dX7_goesOn_13 ?_
        refine lv_iload_n hx hb dX7_goesOn_16 rfl (lv_at hl 0 rfl) ?_
        obtain ⟨c5, h⟩ := og h
        refine m_ld hX hn hw 22 (by decide) (by decide) rfl c5 dX7_goesOn_17 ?_
        obtain ⟨aj14, h1aj14, kaj14⟩ := ob2 h
        have haj14 : ∀ (v12 : Int32) (t13 : MS) (H : Heap) (lc : List Loc) (cn sn : Nat) (ls : Array Slot), aj14 = (v12, t13) → wH g s.heap.size (cs, t13) H lc → lv_has ls 3 [(2, .int v1), (1, .int v12), (0, .ref (gmd g 32))] → W p l e (rmO g 2 44 s.heap) s mi args below meth cd H lc cn sn Q (F0 mi 37 ls []) := by
          intro v12 t13 H lc cn sn ls h hw hl
          replace h := kaj14 _ _ h
          refine lv_iinc (v := (v1 + 1)) (lv' := [(2, .int (v1 + 1)), (1, .int v12), (0, .ref (gmd g 32))]) hx hb dX7_goesOn_37 hl (k := 0) rfl (by rfl) (by decide) rfl (fun ls hl => ?_)
          refine lv_goto (tgt := 4) hx hb dX7_goesOn_40 (by decide) ?_
          exact ih _ _ _ _ _ _ _ _ h hw (lv_sub hl [0, 1, 2] rfl)
        replace h := h1aj14
        refine lv_if_ne (tgt := 37) hx hb dX7_goesOn_18 (by decide) (fun c6 => ?_) (fun c6 => ?_)
        · replace h := oe c6 h
          replace h := (Option.some.inj h).symm
          exact haj14 _ _ _ _ _ _ _ h hw (lv_sub hl [0, 1, 2] rfl)
        · replace h := ot c6 h
          refine lv_aload_n hx hb dX7_goesOn_21 rfl (lv_at hl 2 rfl) ?_
          refine lv_iload_n hx hb dX7_goesOn_22 rfl (lv_at hl 0 rfl) ?_
          obtain ⟨v8, e7, h⟩ := ob h
          refine m_callI hX hn hw (n := 1) (As := [.int v1]) (rest := []) (c_X7_mustWait g l hn cs v1 t3 v8 e7) gX7_goesOn_X7_mustWait rfl (by decide +kernel) rfl hl.1 rfl (Nat.le_of_ble_eq_true rfl) ⟨by decide, by decide⟩ dX7_goesOn_23 (fun H lc cn sn hw => ?_)
          refine lv_if_ne (tgt := 37) hx hb dX7_goesOn_26 (by decide) (fun c9 => ?_) (fun c9 => ?_)
          · replace h := oe c9 h
            replace h := (Option.some.inj h).symm
            exact haj14 _ _ _ _ _ _ _ h hw (lv_sub hl [0, 1, 2] rfl)
          · replace h := ot c9 h
            refine lv_aload_n hx hb dX7_goesOn_29 rfl (lv_at hl 2 rfl) ?_
            refine lv_iload_n hx hb dX7_goesOn_30 rfl (lv_at hl 0 rfl) ?_
            obtain ⟨t11, e10, h⟩ := ob h
            refine m_callV hX hn hw (n := 1) (As := [.int v1]) (rest := []) (c_X7_runs g l hn cs v1 t3 t11 e10) gX7_goesOn_X7_runs rfl (by decide +kernel) rfl hl.1 rfl (Nat.le_of_ble_eq_true rfl) ⟨by decide, by decide⟩ dX7_goesOn_31 (fun H lc cn sn hw => ?_)
            refine lv_iinc (v := (v2 + 1)) (lv' := [(1, .int (v2 + 1)), (2, .int v1), (0, .ref (gmd g 32))]) hx hb dX7_goesOn_34 hl (k := 1) rfl (by rfl) (by decide) rfl (fun ls hl => ?_)
            replace h := (Option.some.inj h).symm
            exact haj14 _ _ _ _ _ _ _ h hw (lv_sub hl [1, 0, 2] rfl)
  exact hkj17 FU 0 0 t _ _ _ _ _ h1aj17 hw (lv_sub hl [0, 1, 2] rfl)

set_option maxHeartbeats 4000000 in
set_option maxRecDepth 100000 in
theorem c_X7_adds (g : GG) (l : Launch) (hn : gnn g 4 = 1) (cs : CS) (p0 : Int32) (p1 : Int32) (p2 : Int32) (t : MS) (r : Int32) (t' : MS) (h : x_X7_adds p0 p1 p2 t = some (r, t')) : MetI g l yX7_adds wsX7_adds 0 0 [.ref (gmd g 32), .int p0, .int p1, .int p2] (cs, t) r (cs, t') := by
  refine mI_start (own := RX7) (by decide +kernel) rfl rfl (Nat.le_of_ble_eq_true rfl) ?_
  intro p e s mi args below meth cd ls Q hX hw hl hret
  have hl : lv_has ls 4 [(0, .ref (gmd g 32)), (1, .int p0), (2, .int p1), (3, .int p2)] := hl
  obtain ⟨⟨hx, hb, -, hown, hts⟩, -⟩ := id hX
  unfold x_X7_adds at h
  refine lv_aload_n hx hb dX7_adds_0 rfl (lv_at hl 0 rfl) ?_
  refine m_gf hX hn hw 19 (v := .ref (gmd g 19)) (by decide +kernel) (by decide) (by decide +kernel) rfl dX7_adds_1 ?_
  refine lv_aload_n hx hb dX7_adds_4 rfl (lv_at hl 0 rfl) ?_
  refine m_gf hX hn hw 18 (v := .int (gs t 18)) (by decide +kernel) (by decide) (by decide +kernel) rfl dX7_adds_5 ?_
  refine lv_iload_n hx hb dX7_adds_8 rfl (lv_at hl 1 rfl) ?_
  obtain ⟨c1, h⟩ := og h
  obtain ⟨t2, et2, h⟩ := ol h
  refine m_st hX hn hw 19 (by decide) (by decide) rfl c1 dX7_adds_9 (fun H lc hw => ?_)
  have hw : wH g s.heap.size (cs, t2) H lc := by rw [et2]; exact hw
  refine lv_aload_n hx hb dX7_adds_10 rfl (lv_at hl 0 rfl) ?_
  refine m_gf hX hn hw 20 (v := .ref (gmd g 20)) (by decide +kernel) (by decide) (by decide +kernel) rfl dX7_adds_11 ?_
  refine lv_aload_n hx hb dX7_adds_14 rfl (lv_at hl 0 rfl) ?_
  refine m_gf hX hn hw 18 (v := .int (gs t2 18)) (by decide +kernel) (by decide) (by decide +kernel) rfl dX7_adds_15 ?_
  refine lv_iload_n hx hb dX7_adds_18 rfl (lv_at hl 2 rfl) ?_
  obtain ⟨c3, h⟩ := og h
  obtain ⟨t4, et4, h⟩ := ol h
  refine m_st hX hn hw 20 (by decide) (by decide) rfl c3 dX7_adds_19 (fun H lc hw => ?_)
  have hw : wH g s.heap.size (cs, t4) H lc := by rw [et4]; exact hw
  refine lv_aload_n hx hb dX7_adds_20 rfl (lv_at hl 0 rfl) ?_
  refine m_gf hX hn hw 21 (v := .ref (gmd g 21)) (by decide +kernel) (by decide) (by decide +kernel) rfl dX7_adds_21 ?_
  refine lv_aload_n hx hb dX7_adds_24 rfl (lv_at hl 0 rfl) ?_
  refine m_gf hX hn hw 18 (v := .int (gs t4 18)) (by decide +kernel) (by decide) (by decide +kernel) rfl dX7_adds_25 ?_
  refine lv_iload_n hx hb dX7_adds_28 rfl (lv_at hl 3 rfl) ?_
  obtain ⟨c5, h⟩ := og h
  obtain ⟨c10, h⟩ := og h
  obtain ⟨t6, et6, h⟩ := ol h
  refine m_stz hX hn hw 21 (by decide) (by decide) rfl c5 c10 dX7_adds_29 (fun H lc hw => ?_)
  have hw : wH g s.heap.size (cs, t6) H lc := by rw [et6]; exact hw
  refine lv_aload_n hx hb dX7_adds_30 rfl (lv_at hl 0 rfl) ?_
  refine m_gf hX hn hw 22 (v := .ref (gmd g 22)) (by decide +kernel) (by decide) (by decide +kernel) rfl dX7_adds_31 ?_
  refine lv_aload_n hx hb dX7_adds_34 rfl (lv_at hl 0 rfl) ?_
  refine m_gf hX hn hw 18 (v := .int (gs t6 18)) (by decide +kernel) (by decide) (by decide +kernel) rfl dX7_adds_35 ?_
  refine lv_iconst (v := 0) hx hb dX7_adds_38 (by decide) ?_
  obtain ⟨c7, h⟩ := og h
  obtain ⟨t8, et8, h⟩ := ol h
  refine m_st hX hn hw 22 (by decide) (by decide) rfl c7 dX7_adds_39 (fun H lc hw => ?_)
  have hw : wH g s.heap.size (cs, t8) H lc := by rw [et8]; exact hw
  refine lv_aload_n hx hb dX7_adds_40 rfl (lv_at hl 0 rfl) ?_
  refine lv_dup hx hb dX7_adds_41 rfl ?_
  refine m_gf hX hn hw 18 (v := .int (gs t8 18)) (by decide +kernel) (by decide) (by decide +kernel) rfl dX7_adds_42 ?_
  refine lv_iconst (v := 1) hx hb dX7_adds_45 (by decide) ?_
  refine lv_iadd hx hb dX7_adds_46 ?_
  obtain ⟨t9, et9, h⟩ := ol h
  refine m_pf hX hn hw 18 (v := ((gs t8 18) + 1)) (by decide +kernel) (by decide) (by decide +kernel) rfl (by decide +kernel) rfl dX7_adds_47 (fun H lc hw => ?_)
  have hw : wH g s.heap.size (cs, t9) H lc := by rw [et9]; exact hw
  refine lv_aload_n hx hb dX7_adds_50 rfl (lv_at hl 0 rfl) ?_
  refine m_gf hX hn hw 18 (v := .int (gs t9 18)) (by decide +kernel) (by decide) (by decide +kernel) rfl dX7_adds_51 ?_
  refine lv_iconst (v := 1) hx hb dX7_adds_54 (by decide) ?_
  refine lv_isub hx hb dX7_adds_55 ?_
  replace h := (Option.some.inj h).symm
  have h9 : t' = t9 := congrArg Prod.snd h
  have hw : wH g s.heap.size (cs, t') H lc := by rw [h9]; exact hw
  exact hret _ _ _ _ _ _ _ dX7_adds_56 hw (congrArg Prod.fst h).symm

set_option maxHeartbeats 4000000 in
set_option maxRecDepth 100000 in
theorem c_X7_firstBlocked (g : GG) (l : Launch) (hn : gnn g 4 = 1) (cs : CS) (t : MS) (r : Int32) (h : x_X7_firstBlocked t = some r) : MetI g l yX7_firstBlocked wsX7_firstBlocked 0 0 [.ref (gmd g 32)] (cs, t) r (cs, t) := by
  refine mI_start (own := RX7) (by decide +kernel) rfl rfl (Nat.le_of_ble_eq_true rfl) ?_
  intro p e s mi args below meth cd ls Q hX hw hl hret
  have hl : lv_has ls 3 [(0, .ref (gmd g 32))] := hl
  obtain ⟨⟨hx, hb, -, hown, hts⟩, -⟩ := id hX
  unfold x_X7_firstBlocked at h
  refine lv_iconst (v := (-1)) hx hb dX7_firstBlocked_0 (by decide) ?_
  refine lv_istore_n (lv' := [(1, .int (-1)), (0, .ref (gmd g 32))]) hx hb dX7_firstBlocked_1 rfl hl (by decide) rfl (fun ls hl => ?_)
  refine lv_iconst (v := 0) hx hb dX7_firstBlocked_2 (by decide) ?_
  refine lv_istore_n (lv' := [(2, .int 0), (1, .int (-1)), (0, .ref (gmd g 32))]) hx hb dX7_firstBlocked_3 rfl hl (by decide) rfl (fun ls hl => ?_)
  obtain ⟨aj15, h1aj15, kaj15⟩ := ob1 h
  have haj15 : ∀ (v14 : Int32) (H : Heap) (lc : List Loc) (cn sn : Nat) (ls : Array Slot), aj15 = v14 → wH g s.heap.size (cs, t) H lc → lv_has ls 3 [(1, .int v14)] → W p l e (rmO g 0 0 s.heap) s mi args below meth cd H lc cn sn Q (F0 mi 51 ls []) := by
    intro v14 H lc cn sn ls h hw hl
    replace h := kaj15 _ h
    refine lv_iload_n hx hb dX7_firstBlocked_51 rfl (lv_at hl 0 rfl) ?_
    replace h := (Option.some.inj h).symm
    exact hret _ _ _ _ _ _ _ dX7_firstBlocked_52 hw h.symm
  have hkj15 : ∀ (n : Nat) (v1 : Int32) (v2 : Int32) (H : Heap) (lc : List Loc) (cn sn : Nat) (ls : Array Slot), x_X7_firstBlocked_L1 t n v1 v2 = some aj15 → wH g s.heap.size (cs, t) H lc → lv_has ls 3 [(2, .int v1), (1, .int v2), (0, .ref (gmd g 32))] → W p l e (rmO g 0 0 s.heap) s mi args below meth cd H lc cn sn Q (F0 mi 4 ls []) := by
    intro n
    induction n with
    | zero =>
      intro v1 v2 H lc cn sn ls h
      rw [x_X7_firstBlocked_L1] at h
      cases h
    | succ n ih =>
      intro v1 v2 H lc cn sn ls h hw hl
      rw [x_X7_firstBlocked_L1] at h
      refine lv_iload_n hx hb dX7_firstBlocked_4 rfl (lv_at hl 0 rfl) ?_
      refine lv_iconst (v := 4) hx hb dX7_firstBlocked_5 (by decide) ?_
      refine lv_icmp_ge (tgt := 51) hx hb dX7_firstBlocked_6 (by decide) (fun c3 => ?_) (fun c3 => ?_)
      · replace h := ot c3 h
        replace h := (Option.some.inj h).symm
        exact haj15 _ _ _ _ _ _ h hw (lv_sub hl [1] rfl)
      · replace h := oe c3 h
        refine lv_aload_n hx hb dX7_firstBlocked_9 rfl (lv_at hl 2 rfl) ?_
        refine m_gf hX hn hw 1 (v := .ref (gmd g 1)) (by decide +kernel) (by decide) (by decide +kernel) rfl dX7_firstBlocked_10 ?_
        refine lv_iload_n hx hb dX7_firstBlocked_13 rfl (lv_at hl 0 rfl) ?_
        obtain ⟨c4, h⟩ := og h
        refine m_ld hX hn hw 1 (by decide) (by decide) rfl c4 dX7_firstBlocked_14 ?_
        refine lv_iconst (v := 3) hx hb dX7_firstBlocked_15 (by decide) ?_
        obtain ⟨aj13, h1aj13, kaj13⟩ := ob1 h
        have haj13 : ∀ (v12 : Int32) (H : Heap) (lc : List Loc) (cn sn : Nat) (ls : Array Slot), aj13 = v12 → wH g s.heap.size (cs, t) H lc → lv_has ls 3 [(2, .int v1), (0, .ref (gmd g 32))] → W p l e (rmO g 0 0 s.heap) s mi args below meth cd H lc cn sn Q (F0 mi 44 ls [.int v12]) := by
          intro v12 H lc cn sn ls h hw hl
          replace h := kaj13 _ h
          refine lv_istore_n (lv' := [(1, .int v12), (2, .int v1), (0, .ref (gmd g 32))]) hx hb dX7_firstBlocked_44 rfl hl (by decide) rfl (fun ls hl => ?_)
          refine lv_iinc (v := (v1 + 1)) (lv' := [(2, .int (v1 + 1)), (1, .int v12), (0, .ref (gmd g 32))]) hx hb dX7_firstBlocked_45 hl (k := 1) rfl (by rfl) (by decide) rfl (fun ls hl => ?_)
          refine lv_goto (tgt := 4) hx hb dX7_firstBlocked_48 (by decide) ?_
          exact ih _ _ _ _ _ _ _ h hw (lv_sub hl [0, 1, 2] rfl)
        replace h := h1aj13
        obtain ⟨aj11, h1aj11, kaj11, raj11⟩ := ol0 h
        have haj11 : ∀ (H : Heap) (lc : List Loc) (cn sn : Nat) (ls : Array Slot), aj11 = Sum.inl () → wH g s.heap.size (cs, t) H lc → lv_has ls 3 [(2, .int v1), (1, .int v2), (0, .ref (gmd g 32))] → W p l e (rmO g 0 0 s.heap) s mi args below meth cd H lc cn sn Q (F0 mi 43 ls []) := by
          intro H lc cn sn ls h hw hl
          replace h := kaj11 h
          refine lv_iload_n hx hb dX7_firstBlocked_43 rfl (lv_at hl 1 rfl) ?_
          replace h := (Option.some.inj h).symm
          exact haj13 _ _ _ _ _ _ h hw (lv_sub hl [0, 2] rfl)
        replace h := h1aj11
        refine lv_icmp_ne (tgt := 43) hx hb dX7_firstBlocked_16 (by decide) (fun c5 => ?_) (fun c5 => ?_)
        · replace h := oe c5 h
          replace h := (Option.some.inj h).symm
          exact haj11 _ _ _ _ _ h hw (lv_sub hl [0, 1, 2] rfl)
        · replace h := ot c5 h
          refine lv_iload_n hx hb dX7_firstBlocked_19 rfl (lv_at hl 1 rfl) ?_
          refine lv_iconst (v := (-1)) hx hb dX7_firstBlocked_20 (by decide) ?_
          obtain ⟨aj10, h1aj10, kaj10, raj10⟩ := ol0 h
          have haj10 : ∀ (H : Heap) (lc : List Loc) (cn sn : Nat) (ls : Array Slot), aj10 = Sum.inl () → wH g s.heap.size (cs, t) H lc → lv_has ls 3 [(2, .int v1), (0, .ref (gmd g 32))] → W p l e (rmO g 0 0 s.heap) s mi args below meth cd H lc cn sn Q (F0 mi 39 ls []) := by
            intro H lc cn sn ls h hw hl
            replace h := kaj10 h
            refine lv_iload_n hx hb dX7_firstBlocked_39 rfl (lv_at hl 0 rfl) ?_
            refine lv_goto (tgt := 44) hx hb dX7_firstBlocked_40 (by decide) ?_
            replace h := (Option.some.inj h).symm
            replace h := raj11 _ h
            exact haj13 _ _ _ _ _ _ h hw (lv_sub hl [0, 1] rfl)
          replace h := h1aj10
          refine lv_icmp_eq (tgt := 39) hx hb dX7_firstBlocked_21 (by decide) (fun c6 => ?_) (fun c6 => ?_)
          · replace h := ot c6 h
            replace h := (Option.some.inj h).symm
            exact haj10 _ _ _ _ _ h hw (lv_sub hl [0, 2] rfl)
          · replace h := oe c6 h
            refine lv_aload_n hx hb dX7_firstBlocked_24 rfl (lv_at hl 2 rfl) ?_
            refine m_gf hX hn hw 3 (v := .ref (gmd g 3)) (by decide +kernel) (by decide) (by decide +kernel) rfl dX7_firstBlocked_25 ?_
            refine lv_iload_n hx hb dX7_firstBlocked_28 rfl (lv_at hl 0 rfl) ?_
            obtain ⟨c7, h⟩ := og h
            refine m_ld hX hn hw 3 (by decide) (by decide) rfl c7 dX7_firstBlocked_29 ?_
            refine lv_aload_n hx hb dX7_firstBlocked_30 rfl (lv_at hl 2 rfl) ?_
            refine m_gf hX hn hw 3 (v := .ref (gmd g 3)) (by decide +kernel) (by decide) (by decide +kernel) rfl dX7_firstBlocked_31 ?_
            refine lv_iload_n hx hb dX7_firstBlocked_34 rfl (lv_at hl 1 rfl) ?_
            obtain ⟨c8, h⟩ := og h
            refine m_ld hX hn hw 3 (by decide) (by decide) rfl c8 dX7_firstBlocked_35 ?_
            refine lv_icmp_ge (tgt := 43) hx hb dX7_firstBlocked_36 (by decide) (fun c9 => ?_) (fun c9 => ?_)
            · replace h := ot c9 h
              replace h := (Option.some.inj h).symm
              replace h := raj10 _ h
              exact haj11 _ _ _ _ _ h hw (lv_sub hl [0, 1, 2] rfl)
            · replace h := oe c9 h
              replace h := (Option.some.inj h).symm
              exact haj10 _ _ _ _ _ h hw (lv_sub hl [0, 2] rfl)
  exact hkj15 FU 0 (-1) _ _ _ _ _ h1aj15 hw (lv_sub hl [0, 1, 2] rfl)

set_option maxHeartbeats 4000000 in
set_option maxRecDepth 100000 in
theorem c_X7_isBusy (g : GG) (l : Launch) (hn : gnn g 4 = 1) (cs : CS) (p0 : Int32) (t : MS) (r : Int32) (h : x_X7_isBusy p0 t = some r) : MetI g l yX7_isBusy wsX7_isBusy 1 22 [.ref (gmd g 32), .int p0] (cs, t) r (cs, t) := by
  refine mZ_start (own := RX7) (by decide +kernel) rfl rfl (Nat.le_of_ble_eq_true rfl) ?_
  intro p e s mi args below meth cd ls Q hX hw hl hret
  have hl : lv_has ls 4 [(0, .ref (gmd g 32)), (1, .int p0)] := hl
  obtain ⟨⟨hx, hb, -, hown, hts⟩, -⟩ := id hX
  unfold x_X7_isBusy at h
  refine lv_iconst (v := 0) hx hb dX7_isBusy_0 (by decide) ?_
  refine lv_istore_n (lv' := [(2, .int 0), (0, .ref (gmd g 32)), (1, .int p0)]) hx hb dX7_isBusy_1 rfl hl (by decide) rfl (fun ls hl => ?_)
  refine lv_iconst (v := 0) hx hb dX7_isBusy_2 (by decide) ?_
  refine lv_istore_n (lv' := [(3, .int 0), (2, .int 0), (0, .ref (gmd g 32)), (1, .int p0)]) hx hb dX7_isBusy_3 rfl hl (by decide) rfl (fun ls hl => ?_)
  obtain ⟨aj16, h1aj16, kaj16⟩ := ob1 h
  have haj16 : ∀ (v14 : Int32) (H : Heap) (lc : List Loc) (cn sn : Nat) (ls : Array Slot), aj16 = v14 → wH g s.heap.size (cs, t) H lc → lv_has ls 4 [(2, .int v14)] → W p l e (rmO g 1 22 s.heap) s mi args below meth cd H lc cn sn Q (F0 mi 44 ls []) := by
    intro v14 H lc cn sn ls h hw hl
    replace h := kaj16 _ h
    refine lv_iload_n hx hb dX7_isBusy_44 rfl (lv_at hl 0 rfl) ?_
    obtain ⟨c15, h⟩ := og h
    replace h := (Option.some.inj h).symm
    exact hret _ _ _ _ _ _ _ dX7_isBusy_45 c15 hw h.symm
  have hkj16 : ∀ (n : Nat) (v1 : Int32) (v2 : Int32) (H : Heap) (lc : List Loc) (cn sn : Nat) (ls : Array Slot), x_X7_isBusy_L1 p0 t n v1 v2 = some aj16 → wH g s.heap.size (cs, t) H lc → lv_has ls 4 [(3, .int v1), (2, .int v2), (0, .ref (gmd g 32)), (1, .int p0)] → W p l e (rmO g 1 22 s.heap) s mi args below meth cd H lc cn sn Q (F0 mi 4 ls []) := by
    intro n
    induction n with
    | zero =>
      intro v1 v2 H lc cn sn ls h
      rw [x_X7_isBusy_L1] at h
      cases h
    | succ n ih =>
      intro v1 v2 H lc cn sn ls h hw hl
      rw [x_X7_isBusy_L1] at h
      refine lv_iload_n hx hb dX7_isBusy_4 rfl (lv_at hl 0 rfl) ?_
      refine lv_iconst (v := 4) hx hb dX7_isBusy_5 (by decide) ?_
      refine lv_icmp_ge (tgt := 44) hx hb dX7_isBusy_6 (by decide) (fun c3 => ?_) (fun c3 => ?_)
      · replace h := ot c3 h
        replace h := (Option.some.inj h).symm
        exact haj16 _ _ _ _ _ _ h hw (lv_sub hl [1] rfl)
      · replace h := oe c3 h
        refine lv_iload_n hx hb dX7_isBusy_9 rfl (lv_at hl 1 rfl) ?_
        obtain ⟨aj13, h1aj13, kaj13⟩ := ob1 h
        have haj13 : ∀ (v12 : Int32) (H : Heap) (lc : List Loc) (cn sn : Nat) (ls : Array Slot), aj13 = v12 → wH g s.heap.size (cs, t) H lc → lv_has ls 4 [(3, .int v1), (0, .ref (gmd g 32)), (1, .int p0)] → W p l e (rmO g 1 22 s.heap) s mi args below meth cd H lc cn sn Q (F0 mi 37 ls [.int v12]) := by
          intro v12 H lc cn sn ls h hw hl
          replace h := kaj13 _ h
          refine lv_istore_n (lv' := [(2, .int v12), (3, .int v1), (0, .ref (gmd g 32)), (1, .int p0)]) hx hb dX7_isBusy_37 rfl hl (by decide) rfl (fun ls hl => ?_)
          refine lv_iinc (v := (v1 + 1)) (lv' := [(3, .int (v1 + 1)), (2, .int v12), (0, .ref (gmd g 32)), (1, .int p0)]) hx hb dX7_isBusy_38 hl (k := 1) rfl (by rfl) (by decide) rfl (fun ls hl => ?_)
          refine lv_goto (tgt := 4) hx hb dX7_isBusy_41 (by decide) ?_
          exact ih _ _ _ _ _ _ _ h hw (lv_sub hl [0, 1, 2, 3] rfl)
        replace h := h1aj13
        obtain ⟨aj11, h1aj11, kaj11, raj11⟩ := ol0 h
        have haj11 : ∀ (H : Heap) (lc : List Loc) (cn sn : Nat) (ls : Array Slot), aj11 = Sum.inl () → wH g s.heap.size (cs, t) H lc → lv_has ls 4 [(3, .int v1), (0, .ref (gmd g 32)), (1, .int p0)] → W p l e (rmO g 1 22 s.heap) s mi args below meth cd H lc cn sn Q (F0 mi 32 ls []) := by
          intro H lc cn sn ls h hw hl
          replace h := kaj11 h
          refine lv_iconst (v := 1) hx hb dX7_isBusy_32 (by decide) ?_
          refine lv_goto (tgt := 37) hx hb dX7_isBusy_33 (by decide) ?_
          replace h := (Option.some.inj h).symm
          exact haj13 _ _ _ _ _ _ h hw (lv_sub hl [0, 1, 2] rfl)
        replace h := h1aj11
        refine lv_if_ne (tgt := 32) hx hb dX7_isBusy_10 (by decide) (fun c4 => ?_) (fun c4 => ?_)
        · replace h := oe c4 h
          replace h := (Option.some.inj h).symm
          exact haj11 _ _ _ _ _ h hw (lv_sub hl [0, 2, 3] rfl)
        · replace h := ot c4 h
          refine lv_iload_n hx hb dX7_isBusy_13 rfl (lv_at hl 0 rfl) ?_
          refine lv_iload_n hx hb dX7_isBusy_14 rfl (lv_at hl 3 rfl) ?_
          obtain ⟨aj10, h1aj10, kaj10, raj10⟩ := ol0 h
          have haj10 : ∀ (H : Heap) (lc : List Loc) (cn sn : Nat) (ls : Array Slot), aj10 = Sum.inl () → wH g s.heap.size (cs, t) H lc → lv_has ls 4 [(3, .int v1), (0, .ref (gmd g 32)), (1, .int p0)] → W p l e (rmO g 1 22 s.heap) s mi args below meth cd H lc cn sn Q (F0 mi 36 ls []) := by
            intro H lc cn sn ls h hw hl
            replace h := kaj10 h
            refine lv_iconst (v := 0) hx hb dX7_isBusy_36 (by decide) ?_
            replace h := (Option.some.inj h).symm
            replace h := raj11 _ h
            exact haj13 _ _ _ _ _ _ h hw (lv_sub hl [0, 1, 2] rfl)
          replace h := h1aj10
          refine lv_icmp_eq (tgt := 36) hx hb dX7_isBusy_15 (by decide) (fun c5 => ?_) (fun c5 => ?_)
          · replace h := ot c5 h
            replace h := (Option.some.inj h).symm
            exact haj10 _ _ _ _ _ h hw (lv_sub hl [0, 2, 3] rfl)
          · replace h := oe c5 h
            refine lv_aload_n hx hb dX7_isBusy_18 rfl (lv_at hl 2 rfl) ?_
            refine m_gf hX hn hw 1 (v := .ref (gmd g 1)) (by decide +kernel) (by decide) (by decide +kernel) rfl dX7_isBusy_19 ?_
            refine lv_iload_n hx hb dX7_isBusy_22 rfl (lv_at hl 0 rfl) ?_
            obtain ⟨c6, h⟩ := og h
            refine m_ld hX hn hw 1 (by decide) (by decide) rfl c6 dX7_isBusy_23 ?_
            refine lv_iconst (v := 1) hx hb dX7_isBusy_24 (by decide) ?_
            refine lv_iconst (v := 2) hx hb dX7_isBusy_25 (by decide) ?_
            obtain ⟨v8, e7, h⟩ := ob h
            refine tw_callSI hX hw (n := 3) (As := [.int (ga t 1 v1.toNatClampNeg), .int 1, .int 2]) (rest := []) (c_X7_isIn g l hn cs (ga t 1 v1.toNatClampNeg) 1 2 t v8 e7) gX7_isBusy_X7_isIn rfl (by decide +kernel) rfl hl.1 rfl (Nat.le_of_ble_eq_true rfl) ⟨by decide, by decide⟩ dX7_isBusy_26 (fun H lc cn sn hw => ?_)
            refine lv_if_eq (tgt := 36) hx hb dX7_isBusy_29 (by decide) (fun c9 => ?_) (fun c9 => ?_)
            · replace h := ot c9 h
              replace h := (Option.some.inj h).symm
              exact haj10 _ _ _ _ _ h hw (lv_sub hl [0, 2, 3] rfl)
            · replace h := oe c9 h
              replace h := (Option.some.inj h).symm
              replace h := raj10 _ h
              exact haj11 _ _ _ _ _ h hw (lv_sub hl [0, 2, 3] rfl)
  exact hkj16 FU 0 0 _ _ _ _ _ h1aj16 hw (lv_sub hl [0, 1, 2, 3] rfl)

set_option maxHeartbeats 4000000 in
set_option maxRecDepth 100000 in
theorem c_X7_wouldBegin (g : GG) (l : Launch) (hn : gnn g 4 = 1) (cs : CS) (p0 : Int32) (t : MS) (r : Int32) (h : x_X7_wouldBegin p0 t = some r) : MetI g l yX7_wouldBegin wsX7_wouldBegin 2 45 [.ref (gmd g 32), .int p0] (cs, t) r (cs, t) := by
  refine mZ_start (own := RX7) (by decide +kernel) rfl rfl (Nat.le_of_ble_eq_true rfl) ?_
  intro p e s mi args below meth cd ls Q hX hw hl hret
  have hl : lv_has ls 4 [(0, .ref (gmd g 32)), (1, .int p0)] := hl
  obtain ⟨⟨hx, hb, -, hown, hts⟩, -⟩ := id hX
  unfold x_X7_wouldBegin at h
  refine lv_iconst (v := 0) hx hb dX7_wouldBegin_0 (by decide) ?_
  refine lv_istore_n (lv' := [(2, .int 0), (0, .ref (gmd g 32)), (1, .int p0)]) hx hb dX7_wouldBegin_1 rfl hl (by decide) rfl (fun ls hl => ?_)
  refine lv_iconst (v := 0) hx hb dX7_wouldBegin_2 (by decide) ?_
  refine lv_istore_n (lv' := [(3, .int 0), (2, .int 0), (0, .ref (gmd g 32)), (1, .int p0)]) hx hb dX7_wouldBegin_3 rfl hl (by decide) rfl (fun ls hl => ?_)
  obtain ⟨aj27, h1aj27, kaj27⟩ := ob1 h
  have haj27 : ∀ (v14 : Int32) (H : Heap) (lc : List Loc) (cn sn : Nat) (ls : Array Slot), aj27 = v14 → wH g s.heap.size (cs, t) H lc → lv_has ls 4 [(2, .int v14), (0, .ref (gmd g 32)), (1, .int p0)] → W p l e (rmO g 2 45 s.heap) s mi args below meth cd H lc cn sn Q (F0 mi 53 ls []) := by
    intro v14 H lc cn sn ls h hw hl
    replace h := kaj27 _ h
    refine lv_iload_n hx hb dX7_wouldBegin_53 rfl (lv_at hl 0 rfl) ?_
    obtain ⟨aj26, h1aj26, kaj26⟩ := ob1 h
    have haj26 : ∀ (v24 : Int32) (H : Heap) (lc : List Loc) (cn sn : Nat) (ls : Array Slot), aj26 = v24 → wH g s.heap.size (cs, t) H lc → lv_has ls 4 [] → W p l e (rmO g 2 45 s.heap) s mi args below meth cd H lc cn sn Q (F0 mi 84 ls [.int v24]) := by
      intro v24 H lc cn sn ls h hw hl
      replace h := kaj26 _ h
      obtain ⟨c25, h⟩ := og h
      replace h := (Option.some.inj h).symm
      exact hret _ _ _ _ _ _ _ dX7_wouldBegin_84 c25 hw h.symm
    replace h := h1aj26
    obtain ⟨aj23, h1aj23, kaj23, raj23⟩ := ol0 h
    have haj23 : ∀ (H : Heap) (lc : List Loc) (cn sn : Nat) (ls : Array Slot), aj23 = Sum.inl () → wH g s.heap.size (cs, t) H lc → lv_has ls 4 [] → W p l e (rmO g 2 45 s.heap) s mi args below meth cd H lc cn sn Q (F0 mi 83 ls []) := by
      intro H lc cn sn ls h hw hl
      replace h := kaj23 h
      refine lv_iconst (v := 0) hx hb dX7_wouldBegin_83 (by decide) ?_
      replace h := (Option.some.inj h).symm
      exact haj26 _ _ _ _ _ _ h hw (lv_sub hl [] rfl)
    replace h := h1aj23
    refine lv_if_eq (tgt := 83) hx hb dX7_wouldBegin_54 (by decide) (fun c15 => ?_) (fun c15 => ?_)
    · replace h := ot c15 h
      replace h := (Option.some.inj h).symm
      exact haj23 _ _ _ _ _ h hw (lv_sub hl [] rfl)
    · replace h := oe c15 h
      refine lv_aload_n hx hb dX7_wouldBegin_57 rfl (lv_at hl 1 rfl) ?_
      refine m_gf hX hn hw 1 (v := .ref (gmd g 1)) (by decide +kernel) (by decide) (by decide +kernel) rfl dX7_wouldBegin_58 ?_
      refine lv_iload_n hx hb dX7_wouldBegin_61 rfl (lv_at hl 2 rfl) ?_
      obtain ⟨c16, h⟩ := og h
      refine m_ld hX hn hw 1 (by decide) (by decide) rfl c16 dX7_wouldBegin_62 ?_
      refine lv_iconst (v := 1) hx hb dX7_wouldBegin_63 (by decide) ?_
      refine lv_iconst (v := 2) hx hb dX7_wouldBegin_64 (by decide) ?_
      obtain ⟨v18, e17, h⟩ := ob h
      refine tw_callSI hX hw (n := 3) (As := [.int (ga t 1 p0.toNatClampNeg), .int 1, .int 2]) (rest := []) (c_X7_isIn g l hn cs (ga t 1 p0.toNatClampNeg) 1 2 t v18 e17) gX7_wouldBegin_X7_isIn rfl (by decide +kernel) rfl hl.1 rfl (Nat.le_of_ble_eq_true rfl) ⟨by decide, by decide⟩ dX7_wouldBegin_65 (fun H lc cn sn hw => ?_)
      refine lv_if_eq (tgt := 83) hx hb dX7_wouldBegin_68 (by decide) (fun c19 => ?_) (fun c19 => ?_)
      · replace h := ot c19 h
        replace h := (Option.some.inj h).symm
        exact haj23 _ _ _ _ _ h hw (lv_sub hl [] rfl)
      · replace h := oe c19 h
        refine lv_aload_n hx hb dX7_wouldBegin_71 rfl (lv_at hl 1 rfl) ?_
        refine lv_iload_n hx hb dX7_wouldBegin_72 rfl (lv_at hl 2 rfl) ?_
        obtain ⟨v21, e20, h⟩ := ob h
        refine m_callI hX hn hw (n := 1) (As := [.int p0]) (rest := []) (c_X7_isBusy g l hn cs p0 t v21 e20) gX7_wouldBegin_X7_isBusy rfl (by decide +kernel) rfl hl.1 rfl (Nat.le_of_ble_eq_true rfl) ⟨by decide, by decide⟩ dX7_wouldBegin_73 (fun H lc cn sn hw => ?_)
        refine lv_if_ne (tgt := 83) hx hb dX7_wouldBegin_76 (by decide) (fun c22 => ?_) (fun c22 => ?_)
        · replace h := oe c22 h
          replace h := (Option.some.inj h).symm
          exact haj23 _ _ _ _ _ h hw (lv_sub hl [] rfl)
        · replace h := ot c22 h
          refine lv_iconst (v := 1) hx hb dX7_wouldBegin_79 (by decide) ?_
          refine lv_goto (tgt := 84) hx hb dX7_wouldBegin_80 (by decide) ?_
          replace h := (Option.some.inj h).symm
          replace h := raj23 _ h
          exact haj26 _ _ _ _ _ _ h hw (lv_sub hl [] rfl)
  have hkj27 : ∀ (n : Nat) (v1 : Int32) (v2 : Int32) (H : Heap) (lc : List Loc) (cn sn : Nat) (ls : Array Slot), x_X7_wouldBegin_L1 p0 t n v1 v2 = some aj27 → wH g s.heap.size (cs, t) H lc → lv_has ls 4 [(3, .int v1), (2, .int v2), (0, .ref (gmd g 32)), (1, .int p0)] → W p l e (rmO g 2 45 s.heap) s mi args below meth cd H lc cn sn Q (F0 mi 4 ls []) := by
    intro n
    induction n with
    | zero =>
      intro v1 v2 H lc cn sn ls h
      rw [x_X7_wouldBegin_L1] at h
      cases h
    | succ n ih =>
      intro v1 v2 H lc cn sn ls h hw hl
      rw [x_X7_wouldBegin_L1] at h
      refine lv_iload_n hx hb dX7_wouldBegin_4 rfl (lv_at hl 0 rfl) ?_
      refine lv_iconst (v := 4) hx hb dX7_wouldBegin_5 (by decide) ?_
      refine lv_icmp_ge (tgt := 53) hx hb dX7_wouldBegin_6 (by decide) (fun c3 => ?_) (fun c3 => ?_)
      · replace h := ot c3 h
        replace h := (Option.some.inj h).symm
        exact haj27 _ _ _ _ _ _ h hw (lv_sub hl [1, 2, 3] rfl)
      · replace h := oe c3 h
        refine lv_iload_n hx hb dX7_wouldBegin_9 rfl (lv_at hl 1 rfl) ?_
        obtain ⟨aj13, h1aj13, kaj13⟩ := ob1 h
        have haj13 : ∀ (v12 : Int32) (H : Heap) (lc : List Loc) (cn sn : Nat) (ls : Array Slot), aj13 = v12 → wH g s.heap.size (cs, t) H lc → lv_has ls 4 [(3, .int v1), (0, .ref (gmd g 32)), (1, .int p0)] → W p l e (rmO g 2 45 s.heap) s mi args below meth cd H lc cn sn Q (F0 mi 46 ls [.int v12]) := by
          intro v12 H lc cn sn ls h hw hl
          replace h := kaj13 _ h
          refine lv_istore_n (lv' := [(2, .int v12), (3, .int v1), (0, .ref (gmd g 32)), (1, .int p0)]) hx hb dX7_wouldBegin_46 rfl hl (by decide) rfl (fun ls hl => ?_)
          refine lv_iinc (v := (v1 + 1)) (lv' := [(3, .int (v1 + 1)), (2, .int v12), (0, .ref (gmd g 32)), (1, .int p0)]) hx hb dX7_wouldBegin_47 hl (k := 1) rfl (by rfl) (by decide) rfl (fun ls hl => ?_)
          refine lv_goto (tgt := 4) hx hb dX7_wouldBegin_50 (by decide) ?_
          exact ih _ _ _ _ _ _ _ h hw (lv_sub hl [0, 1, 2, 3] rfl)
        replace h := h1aj13
        obtain ⟨aj11, h1aj11, kaj11, raj11⟩ := ol0 h
        have haj11 : ∀ (H : Heap) (lc : List Loc) (cn sn : Nat) (ls : Array Slot), aj11 = Sum.inl () → wH g s.heap.size (cs, t) H lc → lv_has ls 4 [(3, .int v1), (0, .ref (gmd g 32)), (1, .int p0)] → W p l e (rmO g 2 45 s.heap) s mi args below meth cd H lc cn sn Q (F0 mi 41 ls []) := by
          intro H lc cn sn ls h hw hl
          replace h := kaj11 h
          refine lv_iconst (v := 1) hx hb dX7_wouldBegin_41 (by decide) ?_
          refine lv_goto (tgt := 46) hx hb dX7_wouldBegin_42 (by decide) ?_
          replace h := (Option.some.inj h).symm
          exact haj13 _ _ _ _ _ _ h hw (lv_sub hl [0, 1, 2] rfl)
        replace h := h1aj11
        refine lv_if_ne (tgt := 41) hx hb dX7_wouldBegin_10 (by decide) (fun c4 => ?_) (fun c4 => ?_)
        · replace h := oe c4 h
          replace h := (Option.some.inj h).symm
          exact haj11 _ _ _ _ _ h hw (lv_sub hl [0, 2, 3] rfl)
        · replace h := ot c4 h
          refine lv_iload_n hx hb dX7_wouldBegin_13 rfl (lv_at hl 0 rfl) ?_
          refine lv_iload_n hx hb dX7_wouldBegin_14 rfl (lv_at hl 3 rfl) ?_
          obtain ⟨aj10, h1aj10, kaj10, raj10⟩ := ol0 h
          have haj10 : ∀ (H : Heap) (lc : List Loc) (cn sn : Nat) (ls : Array Slot), aj10 = Sum.inl () → wH g s.heap.size (cs, t) H lc → lv_has ls 4 [(3, .int v1), (0, .ref (gmd g 32)), (1, .int p0)] → W p l e (rmO g 2 45 s.heap) s mi args below meth cd H lc cn sn Q (F0 mi 45 ls []) := by
            intro H lc cn sn ls h hw hl
            replace h := kaj10 h
            refine lv_iconst (v := 0) hx hb dX7_wouldBegin_45 (by decide) ?_
            replace h := (Option.some.inj h).symm
            replace h := raj11 _ h
            exact haj13 _ _ _ _ _ _ h hw (lv_sub hl [0, 1, 2] rfl)
          replace h := h1aj10
          refine lv_icmp_eq (tgt := 45) hx hb dX7_wouldBegin_15 (by decide) (fun c5 => ?_) (fun c5 => ?_)
          · replace h := ot c5 h
            replace h := (Option.some.inj h).symm
            exact haj10 _ _ _ _ _ h hw (lv_sub hl [0, 2, 3] rfl)
          · replace h := oe c5 h
            refine lv_aload_n hx hb dX7_wouldBegin_18 rfl (lv_at hl 2 rfl) ?_
            refine m_gf hX hn hw 1 (v := .ref (gmd g 1)) (by decide +kernel) (by decide) (by decide +kernel) rfl dX7_wouldBegin_19 ?_
            refine lv_iload_n hx hb dX7_wouldBegin_22 rfl (lv_at hl 0 rfl) ?_
            obtain ⟨c6, h⟩ := og h
            refine m_ld hX hn hw 1 (by decide) (by decide) rfl c6 dX7_wouldBegin_23 ?_
            refine lv_iconst (v := 3) hx hb dX7_wouldBegin_24 (by decide) ?_
            refine lv_icmp_ne (tgt := 45) hx hb dX7_wouldBegin_25 (by decide) (fun c7 => ?_) (fun c7 => ?_)
            · replace h := oe c7 h
              replace h := (Option.some.inj h).symm
              exact haj10 _ _ _ _ _ h hw (lv_sub hl [0, 2, 3] rfl)
            · replace h := ot c7 h
              refine lv_aload_n hx hb dX7_wouldBegin_28 rfl (lv_at hl 2 rfl) ?_
              refine m_gf hX hn hw 2 (v := .ref (gmd g 2)) (by decide +kernel) (by decide) (by decide +kernel) rfl dX7_wouldBegin_29 ?_
              refine lv_iload_n hx hb dX7_wouldBegin_32 rfl (lv_at hl 0 rfl) ?_
              obtain ⟨c8, h⟩ := og h
              refine m_ld hX hn hw 2 (by decide) (by decide) rfl c8 dX7_wouldBegin_33 ?_
              refine lv_aload_n hx hb dX7_wouldBegin_34 rfl (lv_at hl 2 rfl) ?_
              refine m_gf hX hn hw 0 (v := .int (gs t 0)) (by decide +kernel) (by decide) (by decide +kernel) rfl dX7_wouldBegin_35 ?_
              refine lv_icmp_le (tgt := 45) hx hb dX7_wouldBegin_38 (by decide) (fun c9 => ?_) (fun c9 => ?_)
              · replace h := ot c9 h
                replace h := (Option.some.inj h).symm
                exact haj10 _ _ _ _ _ h hw (lv_sub hl [0, 2, 3] rfl)
              · replace h := oe c9 h
                replace h := (Option.some.inj h).symm
                replace h := raj10 _ h
                exact haj11 _ _ _ _ _ h hw (lv_sub hl [0, 2, 3] rfl)
  exact hkj27 FU 0 0 _ _ _ _ _ h1aj27 hw (lv_sub hl [0, 1, 2, 3] rfl)

set_option maxHeartbeats 4000000 in
set_option maxRecDepth 100000 in
theorem c_X7_looks (g : GG) (l : Launch) (hn : gnn g 4 = 1) (cs : CS) (t : MS) (t' : MS) (h : x_X7_looks t = some t') : MetV g l yX7_looks wsX7_looks 2 45 [.ref (gmd g 32)] (cs, t) (cs, t') := by
  refine mV_start (own := RX7) (by decide +kernel) rfl rfl (Nat.le_of_ble_eq_true rfl) ?_
  intro p e s mi args below meth cd ls Q hX hw hl hret
  have hl : lv_has ls 2 [(0, .ref (gmd g 32))] := hl
  obtain ⟨⟨hx, hb, -, hown, hts⟩, -⟩ := id hX
  unfold x_X7_looks at h
  refine lv_aload_n hx hb dX7_looks_0 rfl (lv_at hl 0 rfl) ?_
  obtain ⟨v2, e1, h⟩ := ob h
  refine m_callI hX hn hw (n := 0) (As := []) (rest := []) (c_X7_firstBlocked g l hn cs  t v2 e1) gX7_looks_X7_firstBlocked rfl (by decide +kernel) rfl hl.1 rfl (Nat.le_of_ble_eq_true rfl) ⟨by decide, by decide⟩ dX7_looks_1 (fun H lc cn sn hw => ?_)
  refine lv_istore_n (lv' := [(1, .int v2), (0, .ref (gmd g 32))]) hx hb dX7_looks_4 rfl hl (by decide) rfl (fun ls hl => ?_)
  obtain ⟨aj26, h1aj26, kaj26⟩ := ob1 h
  have haj26 : ∀ (t25 : MS) (H : Heap) (lc : List Loc) (cn sn : Nat) (ls : Array Slot), aj26 = t25 → wH g s.heap.size (cs, t25) H lc → lv_has ls 2 [] → W p l e (rmO g 2 45 s.heap) s mi args below meth cd H lc cn sn Q (F0 mi 76 ls []) := by
    intro t25 H lc cn sn ls h hw hl
    replace h := kaj26 _ h
    replace h := (Option.some.inj h).symm
    have hw : wH g s.heap.size (cs, t') H lc := by rw [h]; exact hw
    exact hret _ _ _ _ _ _ dX7_looks_76 hw
  have hkj26 : ∀ (n : Nat) (v3 : Int32) (t4 : MS) (H : Heap) (lc : List Loc) (cn sn : Nat) (ls : Array Slot), x_X7_looks_L1 n v3 t4 = some aj26 → wH g s.heap.size (cs, t4) H lc → lv_has ls 2 [(1, .int v3), (0, .ref (gmd g 32))] → W p l e (rmO g 2 45 s.heap) s mi args below meth cd H lc cn sn Q (F0 mi 5 ls []) := by
    intro n
    induction n with
    | zero =>
      intro v3 t4 H lc cn sn ls h
      rw [x_X7_looks_L1] at h
      cases h
    | succ n ih =>
      intro v3 t4 H lc cn sn ls h hw hl
      rw [x_X7_looks_L1] at h
      refine lv_iload_n hx hb dX7_looks_5 rfl (lv_at hl 0 rfl) ?_
      refine lv_iconst (v := (-1)) hx hb dX7_looks_6 (by decide) ?_
      refine lv_icmp_eq (tgt := 76) hx hb dX7_looks_7 (by decide) (fun c5 => ?_) (fun c5 => ?_)
      · replace h := ot c5 h
        replace h := (Option.some.inj h).symm
        exact haj26 _ _ _ _ _ _ h hw (lv_sub hl [] rfl)
      · replace h := oe c5 h
        refine lv_aload_n hx hb dX7_looks_10 rfl (lv_at hl 1 rfl) ?_
        refine lv_iconst (v := (-1)) hx hb dX7_looks_11 (by decide) ?_
        obtain ⟨v7, e6, h⟩ := ob h
        refine m_callI hX hn hw (n := 1) (As := [.int (-1)]) (rest := []) (c_X7_isBusy g l hn cs (-1) t4 v7 e6) gX7_looks_X7_isBusy rfl (by decide +kernel) rfl hl.1 rfl (Nat.le_of_ble_eq_true rfl) ⟨by decide, by decide⟩ dX7_looks_12 (fun H lc cn sn hw => ?_)
        refine lv_if_ne (tgt := 76) hx hb dX7_looks_15 (by decide) (fun c8 => ?_) (fun c8 => ?_)
        · replace h := oe c8 h
          replace h := (Option.some.inj h).symm
          exact haj26 _ _ _ _ _ _ h hw (lv_sub hl [] rfl)
        · replace h := ot c8 h
          refine lv_aload_n hx hb dX7_looks_18 rfl (lv_at hl 1 rfl) ?_
          refine m_gf hX hn hw 2 (v := .ref (gmd g 2)) (by decide +kernel) (by decide) (by decide +kernel) rfl dX7_looks_19 ?_
          refine lv_iload_n hx hb dX7_looks_22 rfl (lv_at hl 0 rfl) ?_
          obtain ⟨c9, h⟩ := og h
          refine m_ld hX hn hw 2 (by decide) (by decide) rfl c9 dX7_looks_23 ?_
          refine lv_aload_n hx hb dX7_looks_24 rfl (lv_at hl 1 rfl) ?_
          refine m_gf hX hn hw 0 (v := .int (gs t4 0)) (by decide +kernel) (by decide) (by decide +kernel) rfl dX7_looks_25 ?_
          obtain ⟨aj24, h1aj24, kaj24⟩ := ob1 h
          have haj24 : ∀ (t21 : MS) (H : Heap) (lc : List Loc) (cn sn : Nat) (ls : Array Slot), aj24 = t21 → wH g s.heap.size (cs, t21) H lc → lv_has ls 2 [(0, .ref (gmd g 32))] → W p l e (rmO g 2 45 s.heap) s mi args below meth cd H lc cn sn Q (F0 mi 68 ls []) := by
            intro t21 H lc cn sn ls h hw hl
            replace h := kaj24 _ h
            refine lv_aload_n hx hb dX7_looks_68 rfl (lv_at hl 0 rfl) ?_
            obtain ⟨v23, e22, h⟩ := ob h
            refine m_callI hX hn hw (n := 0) (As := []) (rest := []) (c_X7_firstBlocked g l hn cs  t21 v23 e22) gX7_looks_X7_firstBlocked rfl (by decide +kernel) rfl hl.1 rfl (Nat.le_of_ble_eq_true rfl) ⟨by decide, by decide⟩ dX7_looks_69 (fun H lc cn sn hw => ?_)
            refine lv_istore_n (lv' := [(1, .int v23), (0, .ref (gmd g 32))]) hx hb dX7_looks_72 rfl hl (by decide) rfl (fun ls hl => ?_)
            refine lv_goto (tgt := 5) hx hb dX7_looks_73 (by decide) ?_
            exact ih _ _ _ _ _ _ _ h hw (lv_sub hl [0, 1] rfl)
          replace h := h1aj24
          refine lv_icmp_le (tgt := 61) hx hb dX7_looks_28 (by decide) (fun c10 => ?_) (fun c10 => ?_)
          · replace h := ot c10 h
            refine lv_aload_n hx hb dX7_looks_61 rfl (lv_at hl 1 rfl) ?_
            refine m_gf hX hn hw 1 (v := .ref (gmd g 1)) (by decide +kernel) (by decide) (by decide +kernel) rfl dX7_looks_62 ?_
            refine lv_iload_n hx hb dX7_looks_65 rfl (lv_at hl 0 rfl) ?_
            refine lv_iconst (v := 0) hx hb dX7_looks_66 (by decide) ?_
            obtain ⟨c11, h⟩ := og h
            obtain ⟨t12, et12, h⟩ := ol h
            refine m_st hX hn hw 1 (by decide) (by decide) rfl c11 dX7_looks_67 (fun H lc hw => ?_)
            have hw : wH g s.heap.size (cs, t12) H lc := by rw [et12]; exact hw
            replace h := (Option.some.inj h).symm
            exact haj24 _ _ _ _ _ _ h hw (lv_sub hl [1] rfl)
          · replace h := oe c10 h
            refine lv_aload_n hx hb dX7_looks_31 rfl (lv_at hl 1 rfl) ?_
            refine m_gf hX hn hw 1 (v := .ref (gmd g 1)) (by decide +kernel) (by decide) (by decide +kernel) rfl dX7_looks_32 ?_
            refine lv_iload_n hx hb dX7_looks_35 rfl (lv_at hl 0 rfl) ?_
            refine lv_iconst (v := 2) hx hb dX7_looks_36 (by decide) ?_
            obtain ⟨c13, h⟩ := og h
            obtain ⟨t14, et14, h⟩ := ol h
            refine m_st hX hn hw 1 (by decide) (by decide) rfl c13 dX7_looks_37 (fun H lc hw => ?_)
            have hw : wH g s.heap.size (cs, t14) H lc := by rw [et14]; exact hw
            refine lv_aload_n hx hb dX7_looks_38 rfl (lv_at hl 1 rfl) ?_
            refine lv_aload_n hx hb dX7_looks_39 rfl (lv_at hl 1 rfl) ?_
            refine lv_iload_n hx hb dX7_looks_40 rfl (lv_at hl 0 rfl) ?_
            refine lv_bipush (v := 7) hx hb dX7_looks_41 (by decide) ?_
            refine lv_iconst (v := 1) hx hb dX7_looks_43 (by decide) ?_
            obtain ⟨v16, t17, e15, h⟩ := oc2 h
            refine m_callI hX hn hw (n := 3) (As := [.int v3, .int 7, .int 1]) (rest := [.ref (gmd g 32)]) (c_X7_adds g l hn cs v3 7 1 t14 v16 t17 e15) gX7_looks_X7_adds rfl (by decide +kernel) rfl hl.1 rfl (Nat.le_of_ble_eq_true rfl) ⟨by decide, by decide⟩ dX7_looks_44 (fun H lc cn sn hw => ?_)
            obtain ⟨t18, et18, h⟩ := ol h
            refine m_pf hX hn hw 5 (v := v16) (by decide +kernel) (by decide) (by decide +kernel) rfl (by decide +kernel) rfl dX7_looks_47 (fun H lc hw => ?_)
            have hw : wH g s.heap.size (cs, t18) H lc := by rw [et18]; exact hw
            refine lv_aload_n hx hb dX7_looks_50 rfl (lv_at hl 1 rfl) ?_
            refine lv_aload_n hx hb dX7_looks_51 rfl (lv_at hl 1 rfl) ?_
            refine m_gf hX hn hw 5 (v := .int (gs t18 5)) (by decide +kernel) (by decide) (by decide +kernel) rfl dX7_looks_52 ?_
            obtain ⟨t20, e19, h⟩ := ob h
            refine m_callV hX hn hw (n := 1) (As := [.int (gs t18 5)]) (rest := []) (c_X7_runs g l hn cs (gs t18 5) t18 t20 e19) gX7_looks_X7_runs rfl (by decide +kernel) rfl hl.1 rfl (Nat.le_of_ble_eq_true rfl) ⟨by decide, by decide⟩ dX7_looks_55 (fun H lc cn sn hw => ?_)
            refine lv_goto (tgt := 68) hx hb dX7_looks_58 (by decide) ?_
            replace h := (Option.some.inj h).symm
            exact haj24 _ _ _ _ _ _ h hw (lv_sub hl [1] rfl)
  exact hkj26 FU v2 t _ _ _ _ _ h1aj26 hw (lv_sub hl [0, 1] rfl)

set_option maxHeartbeats 4000000 in
set_option maxRecDepth 100000 in
theorem c_X7_aborts (g : GG) (l : Launch) (hn : gnn g 4 = 1) (cs : CS) (p0 : Int32) (t : MS) (t' : MS) (h : x_X7_aborts p0 t = some t') : MetV g l yX7_aborts wsX7_aborts 1 22 [.ref (gmd g 32), .int p0] (cs, t) (cs, t') := by
  refine mV_start (own := RX7) (by decide +kernel) rfl rfl (Nat.le_of_ble_eq_true rfl) ?_
  intro p e s mi args below meth cd ls Q hX hw hl hret
  have hl : lv_has ls 3 [(0, .ref (gmd g 32)), (1, .int p0)] := hl
  obtain ⟨⟨hx, hb, -, hown, hts⟩, -⟩ := id hX
  unfold x_X7_aborts at h
  refine lv_iconst (v := 0) hx hb dX7_aborts_0 (by decide) ?_
  refine lv_istore_n (lv' := [(2, .int 0), (0, .ref (gmd g 32)), (1, .int p0)]) hx hb dX7_aborts_1 rfl hl (by decide) rfl (fun ls hl => ?_)
  obtain ⟨aj24, h1aj24, kaj24⟩ := ob1 h
  have haj24 : ∀ (t14 : MS) (H : Heap) (lc : List Loc) (cn sn : Nat) (ls : Array Slot), aj24 = t14 → wH g s.heap.size (cs, t14) H lc → lv_has ls 3 [(0, .ref (gmd g 32)), (1, .int p0)] → W p l e (rmO g 1 22 s.heap) s mi args below meth cd H lc cn sn Q (F0 mi 51 ls []) := by
    intro t14 H lc cn sn ls h hw hl
    replace h := kaj24 _ h
    refine lv_aload_n hx hb dX7_aborts_51 rfl (lv_at hl 0 rfl) ?_
    refine m_gf hX hn hw 22 (v := .ref (gmd g 22)) (by decide +kernel) (by decide) (by decide +kernel) rfl dX7_aborts_52 ?_
    refine lv_iload_n hx hb dX7_aborts_55 rfl (lv_at hl 1 rfl) ?_
    refine lv_iconst (v := 3) hx hb dX7_aborts_56 (by decide) ?_
    obtain ⟨c15, h⟩ := og h
    obtain ⟨t16, et16, h⟩ := ol h
    refine m_st hX hn hw 22 (by decide) (by decide) rfl c15 dX7_aborts_57 (fun H lc hw => ?_)
    have hw : wH g s.heap.size (cs, t16) H lc := by rw [et16]; exact hw
    refine lv_iload_n hx hb dX7_aborts_58 rfl (lv_at hl 1 rfl) ?_
    refine lv_aload_n hx hb dX7_aborts_59 rfl (lv_at hl 0 rfl) ?_
    refine m_gf hX hn hw 5 (v := .int (gs t16 5)) (by decide +kernel) (by decide) (by decide +kernel) rfl dX7_aborts_60 ?_
    obtain ⟨aj23, h1aj23, kaj23⟩ := ob1 h
    have haj23 : ∀ (t22 : MS) (H : Heap) (lc : List Loc) (cn sn : Nat) (ls : Array Slot), aj23 = t22 → wH g s.heap.size (cs, t22) H lc → lv_has ls 3 [] → W p l e (rmO g 1 22 s.heap) s mi args below meth cd H lc cn sn Q (F0 mi 83 ls []) := by
      intro t22 H lc cn sn ls h hw hl
      replace h := kaj23 _ h
      replace h := (Option.some.inj h).symm
      have hw : wH g s.heap.size (cs, t') H lc := by rw [h]; exact hw
      exact hret _ _ _ _ _ _ dX7_aborts_83 hw
    replace h := h1aj23
    refine lv_icmp_ne (tgt := 83) hx hb dX7_aborts_63 (by decide) (fun c17 => ?_) (fun c17 => ?_)
    · replace h := oe c17 h
      replace h := (Option.some.inj h).symm
      exact haj23 _ _ _ _ _ _ h hw (lv_sub hl [] rfl)
    · replace h := ot c17 h
      refine lv_aload_n hx hb dX7_aborts_66 rfl (lv_at hl 0 rfl) ?_
      refine lv_iconst (v := (-1)) hx hb dX7_aborts_67 (by decide) ?_
      obtain ⟨t18, et18, h⟩ := ol h
      refine m_pf hX hn hw 5 (v := (-1)) (by decide +kernel) (by decide) (by decide +kernel) rfl (by decide +kernel) rfl dX7_aborts_68 (fun H lc hw => ?_)
      have hw : wH g s.heap.size (cs, t18) H lc := by rw [et18]; exact hw
      refine lv_aload_n hx hb dX7_aborts_71 rfl (lv_at hl 0 rfl) ?_
      refine m_gf hX hn hw 1 (v := .ref (gmd g 1)) (by decide +kernel) (by decide) (by decide +kernel) rfl dX7_aborts_72 ?_
      refine lv_aload_n hx hb dX7_aborts_75 rfl (lv_at hl 0 rfl) ?_
      refine m_gf hX hn hw 19 (v := .ref (gmd g 19)) (by decide +kernel) (by decide) (by decide +kernel) rfl dX7_aborts_76 ?_
      refine lv_iload_n hx hb dX7_aborts_79 rfl (lv_at hl 1 rfl) ?_
      obtain ⟨c19, h⟩ := og h
      refine m_ld hX hn hw 19 (by decide) (by decide) rfl c19 dX7_aborts_80 ?_
      refine lv_iconst (v := 0) hx hb dX7_aborts_81 (by decide) ?_
      obtain ⟨c20, h⟩ := og h
      obtain ⟨t21, et21, h⟩ := ol h
      refine m_st hX hn hw 1 (by decide) (by decide) rfl c20 dX7_aborts_82 (fun H lc hw => ?_)
      have hw : wH g s.heap.size (cs, t21) H lc := by rw [et21]; exact hw
      replace h := (Option.some.inj h).symm
      exact haj23 _ _ _ _ _ _ h hw (lv_sub hl [] rfl)
  have hkj24 : ∀ (n : Nat) (v1 : Int32) (t2 : MS) (H : Heap) (lc : List Loc) (cn sn : Nat) (ls : Array Slot), x_X7_aborts_L1 p0 n v1 t2 = some aj24 → wH g s.heap.size (cs, t2) H lc → lv_has ls 3 [(2, .int v1), (0, .ref (gmd g 32)), (1, .int p0)] → W p l e (rmO g 1 22 s.heap) s mi args below meth cd H lc cn sn Q (F0 mi 2 ls []) := by
    intro n
    induction n with
    | zero =>
      intro v1 t2 H lc cn sn ls h
      rw [x_X7_aborts_L1] at h
      cases h
    | succ n ih =>
      intro v1 t2 H lc cn sn ls h hw hl
      rw [x_X7_aborts_L1] at h
      refine lv_iload_n hx hb dX7_aborts_2 rfl (lv_at hl 0 rfl) ?_
      refine lv_iconst (v := 3) hx hb dX7_aborts_3 (by decide) ?_
      refine lv_icmp_ge (tgt := 51) hx hb dX7_aborts_4 (by decide) (fun c3 => ?_) (fun c3 => ?_)
      · replace h := ot c3 h
        replace h := (Option.some.inj h).symm
        exact haj24 _ _ _ _ _ _ h hw (lv_sub hl [1, 2] rfl)
      · replace h := oe c3 h
        refine lv_aload_n hx hb dX7_aborts_7 rfl (lv_at hl 1 rfl) ?_
        refine m_gf hX hn hw 22 (v := .ref (gmd g 22)) (by decide +kernel) (by decide) (by decide +kernel) rfl dX7_aborts_8 ?_
        refine lv_iload_n hx hb dX7_aborts_11 rfl (lv_at hl 2 rfl) ?_
        obtain ⟨c4, h⟩ := og h
        refine m_ld hX hn hw 22 (by decide) (by decide) rfl c4 dX7_aborts_12 ?_
        refine lv_iconst (v := 1) hx hb dX7_aborts_13 (by decide) ?_
        refine lv_icmp_ne (tgt := 51) hx hb dX7_aborts_14 (by decide) (fun c5 => ?_) (fun c5 => ?_)
        · replace h := oe c5 h
          replace h := (Option.some.inj h).symm
          exact haj24 _ _ _ _ _ _ h hw (lv_sub hl [1, 2] rfl)
        · replace h := ot c5 h
          refine lv_aload_n hx hb dX7_aborts_17 rfl (lv_at hl 1 rfl) ?_
          refine m_gf hX hn hw 21 (v := .ref (gmd g 21)) (by decide +kernel) (by decide) (by decide +kernel) rfl dX7_aborts_18 ?_
          refine lv_iload_n hx hb dX7_aborts_21 rfl (lv_at hl 2 rfl) ?_
          obtain ⟨c6, h⟩ := og h
          refine m_ldz hX hn hw 21 (by decide) (by decide) rfl c6 dX7_aborts_22 ?_
          refine lv_if_eq (tgt := 51) hx hb dX7_aborts_23 (by decide) (fun c7 => ?_) (fun c7 => ?_)
          · replace h := ot c7 h
            replace h := (Option.some.inj h).symm
            exact haj24 _ _ _ _ _ _ h hw (lv_sub hl [1, 2] rfl)
          · replace h := oe c7 h
            refine lv_aload_n hx hb dX7_aborts_26 rfl (lv_at hl 1 rfl) ?_
            refine m_gf hX hn hw 20 (v := .ref (gmd g 20)) (by decide +kernel) (by decide) (by decide +kernel) rfl dX7_aborts_27 ?_
            refine lv_iload_n hx hb dX7_aborts_30 rfl (lv_at hl 2 rfl) ?_
            obtain ⟨c8, h⟩ := og h
            refine m_ld hX hn hw 20 (by decide) (by decide) rfl c8 dX7_aborts_31 ?_
            refine lv_iload_n hx hb dX7_aborts_32 rfl (lv_at hl 0 rfl) ?_
            refine lv_ishr hx hb dX7_aborts_33 ?_
            refine lv_iconst (v := 1) hx hb dX7_aborts_34 (by decide) ?_
            refine lv_iand hx hb dX7_aborts_35 ?_
            refine lv_iconst (v := 1) hx hb dX7_aborts_36 (by decide) ?_
            obtain ⟨aj13, h1aj13, kaj13⟩ := ob1 h
            have haj13 : ∀ (t12 : MS) (H : Heap) (lc : List Loc) (cn sn : Nat) (ls : Array Slot), aj13 = t12 → wH g s.heap.size (cs, t12) H lc → lv_has ls 3 [(2, .int v1), (0, .ref (gmd g 32)), (1, .int p0)] → W p l e (rmO g 1 22 s.heap) s mi args below meth cd H lc cn sn Q (F0 mi 45 ls []) := by
              intro t12 H lc cn sn ls h hw hl
              replace h := kaj13 _ h
              refine lv_iinc (v := (v1 + 1)) (lv' := [(2, .int (v1 + 1)), (0, .ref (gmd g 32)), (1, .int p0)]) hx hb dX7_aborts_45 hl (k := 0) rfl (by rfl) (by decide) rfl (fun ls hl => ?_)
              refine lv_goto (tgt := 2) hx hb dX7_aborts_48 (by decide) ?_
              exact ih _ _ _ _ _ _ _ h hw (lv_sub hl [0, 1, 2] rfl)
            replace h := h1aj13
            refine lv_icmp_ne (tgt := 45) hx hb dX7_aborts_37 (by decide) (fun c9 => ?_) (fun c9 => ?_)
            · replace h := oe c9 h
              replace h := (Option.some.inj h).symm
              exact haj13 _ _ _ _ _ _ h hw (lv_sub hl [0, 1, 2] rfl)
            · replace h := ot c9 h
              refine lv_aload_n hx hb dX7_aborts_40 rfl (lv_at hl 1 rfl) ?_
              refine lv_iload_n hx hb dX7_aborts_41 rfl (lv_at hl 0 rfl) ?_
              obtain ⟨t11, e10, h⟩ := ob h
              refine m_callV hX hn hw (n := 1) (As := [.int v1]) (rest := []) (c_X7_restores g l hn cs v1 t2 t11 e10) gX7_aborts_X7_restores rfl (by decide +kernel) rfl hl.1 rfl (Nat.le_of_ble_eq_true rfl) ⟨by decide, by decide⟩ dX7_aborts_42 (fun H lc cn sn hw => ?_)
              replace h := (Option.some.inj h).symm
              exact haj13 _ _ _ _ _ _ h hw (lv_sub hl [0, 1, 2] rfl)
  exact hkj24 FU 0 t _ _ _ _ _ h1aj24 hw (lv_sub hl [0, 1, 2] rfl)

set_option maxHeartbeats 4000000 in
set_option maxRecDepth 100000 in
theorem c_X7_hasDoubles (g : GG) (l : Launch) (hn : gnn g 4 = 1) (cs : CS) (p0 : Int32) (p1 : Int32) (t : MS) (r : Int32) (h : x_X7_hasDoubles p0 p1 t = some r) : MetI g l yX7_hasDoubles wsX7_hasDoubles 0 0 [.ref (gmd g 32), .int p0, .int p1] (cs, t) r (cs, t) := by
  refine mZ_start (own := RX7) (by decide +kernel) rfl rfl (Nat.le_of_ble_eq_true rfl) ?_
  intro p e s mi args below meth cd ls Q hX hw hl hret
  have hl : lv_has ls 6 [(0, .ref (gmd g 32)), (1, .int p0), (2, .int p1)] := hl
  obtain ⟨⟨hx, hb, -, hown, hts⟩, -⟩ := id hX
  unfold x_X7_hasDoubles at h
  refine lv_iconst (v := 0) hx hb dX7_hasDoubles_0 (by decide) ?_
  refine lv_istore_n (lv' := [(3, .int 0), (0, .ref (gmd g 32)), (1, .int p0), (2, .int p1)]) hx hb dX7_hasDoubles_1 rfl hl (by decide) rfl (fun ls hl => ?_)
  refine lv_bipush (v := 40) hx hb dX7_hasDoubles_2 (by decide) ?_
  refine lv_iload_n hx hb dX7_hasDoubles_4 rfl (lv_at hl 2 rfl) ?_
  refine lv_imul hx hb dX7_hasDoubles_5 ?_
  refine lv_istore (lv' := [(4, .int (40 * p0)), (3, .int 0), (0, .ref (gmd g 32)), (1, .int p0), (2, .int p1)]) hx hb dX7_hasDoubles_6 hl (by decide) rfl (fun ls hl => ?_)
  obtain ⟨aj22, h1aj22, kaj22⟩ := ob1 h
  have haj22 : ∀ (v20 : Int32) (H : Heap) (lc : List Loc) (cn sn : Nat) (ls : Array Slot), aj22 = v20 → wH g s.heap.size (cs, t) H lc → lv_has ls 6 [(3, .int v20)] → W p l e (rmO g 0 0 s.heap) s mi args below meth cd H lc cn sn Q (F0 mi 99 ls []) := by
    intro v20 H lc cn sn ls h hw hl
    replace h := kaj22 _ h
    refine lv_iload_n hx hb dX7_hasDoubles_99 rfl (lv_at hl 0 rfl) ?_
    obtain ⟨c21, h⟩ := og h
    replace h := (Option.some.inj h).symm
    exact hret _ _ _ _ _ _ _ dX7_hasDoubles_100 c21 hw h.symm
  have hkj22 : ∀ (n : Nat) (v1 : Int32) (v2 : Int32) (H : Heap) (lc : List Loc) (cn sn : Nat) (ls : Array Slot), x_X7_hasDoubles_L1 p0 p1 t n v1 v2 = some aj22 → wH g s.heap.size (cs, t) H lc → lv_has ls 6 [(4, .int v1), (3, .int v2), (0, .ref (gmd g 32)), (1, .int p0), (2, .int p1)] → W p l e (rmO g 0 0 s.heap) s mi args below meth cd H lc cn sn Q (F0 mi 8 ls []) := by
    intro n
    induction n with
    | zero =>
      intro v1 v2 H lc cn sn ls h
      rw [x_X7_hasDoubles_L1] at h
      cases h
    | succ n ih =>
      intro v1 v2 H lc cn sn ls h hw hl
      rw [x_X7_hasDoubles_L1] at h
      refine lv_iload hx hb dX7_hasDoubles_8 (lv_at hl 0 rfl) ?_
      refine lv_bipush (v := 40) hx hb dX7_hasDoubles_10 (by decide) ?_
      refine lv_iload_n hx hb dX7_hasDoubles_12 rfl (lv_at hl 3 rfl) ?_
      refine lv_imul hx hb dX7_hasDoubles_13 ?_
      refine lv_aload_n hx hb dX7_hasDoubles_14 rfl (lv_at hl 2 rfl) ?_
      refine m_gf hX hn hw 8 (v := .ref (gmd g 8)) (by decide +kernel) (by decide) (by decide +kernel) rfl dX7_hasDoubles_15 ?_
      refine lv_iload_n hx hb dX7_hasDoubles_18 rfl (lv_at hl 3 rfl) ?_
      obtain ⟨c3, h⟩ := og h
      refine m_ld hX hn hw 8 (by decide) (by decide) rfl c3 dX7_hasDoubles_19 ?_
      refine lv_iadd hx hb dX7_hasDoubles_20 ?_
      refine lv_icmp_ge (tgt := 99) hx hb dX7_hasDoubles_21 (by decide) (fun c4 => ?_) (fun c4 => ?_)
      · replace h := ot c4 h
        replace h := (Option.some.inj h).symm
        exact haj22 _ _ _ _ _ _ h hw (lv_sub hl [1] rfl)
      · replace h := oe c4 h
        refine lv_bipush (v := 40) hx hb dX7_hasDoubles_24 (by decide) ?_
        refine lv_iload_n hx hb dX7_hasDoubles_26 rfl (lv_at hl 3 rfl) ?_
        refine lv_imul hx hb dX7_hasDoubles_27 ?_
        refine lv_istore (lv' := [(5, .int (40 * p0)), (4, .int v1), (3, .int v2), (0, .ref (gmd g 32)), (1, .int p0), (2, .int p1)]) hx hb dX7_hasDoubles_28 hl (by decide) rfl (fun ls hl => ?_)
        obtain ⟨aj19, h1aj19, kaj19⟩ := ob1 h
        have haj19 : ∀ (v18 : Int32) (H : Heap) (lc : List Loc) (cn sn : Nat) (ls : Array Slot), aj19 = v18 → wH g s.heap.size (cs, t) H lc → lv_has ls 6 [(4, .int v1), (3, .int v18), (0, .ref (gmd g 32)), (1, .int p0), (2, .int p1)] → W p l e (rmO g 0 0 s.heap) s mi args below meth cd H lc cn sn Q (F0 mi 93 ls []) := by
          intro v18 H lc cn sn ls h hw hl
          replace h := kaj19 _ h
          refine lv_iinc (v := (v1 + 1)) (lv' := [(4, .int (v1 + 1)), (3, .int v18), (0, .ref (gmd g 32)), (1, .int p0), (2, .int p1)]) hx hb dX7_hasDoubles_93 hl (k := 0) rfl (by rfl) (by decide) rfl (fun ls hl => ?_)
          refine lv_goto (tgt := 8) hx hb dX7_hasDoubles_96 (by decide) ?_
          exact ih _ _ _ _ _ _ _ h hw (lv_sub hl [0, 1, 2, 3, 4] rfl)
        have hkj19 : ∀ (n : Nat) (v5 : Int32) (v6 : Int32) (H : Heap) (lc : List Loc) (cn sn : Nat) (ls : Array Slot), x_X7_hasDoubles_L2 p1 t v1 n v5 v6 = some aj19 → wH g s.heap.size (cs, t) H lc → lv_has ls 6 [(5, .int v5), (4, .int v1), (3, .int v6), (0, .ref (gmd g 32)), (1, .int p0), (2, .int p1)] → W p l e (rmO g 0 0 s.heap) s mi args below meth cd H lc cn sn Q (F0 mi 30 ls []) := by
          intro n
          induction n with
          | zero =>
            intro v5 v6 H lc cn sn ls h
            rw [x_X7_hasDoubles_L2] at h
            cases h
          | succ n ih =>
            intro v5 v6 H lc cn sn ls h hw hl
            rw [x_X7_hasDoubles_L2] at h
            refine lv_iload hx hb dX7_hasDoubles_30 (lv_at hl 0 rfl) ?_
            refine lv_iload hx hb dX7_hasDoubles_32 (lv_at hl 1 rfl) ?_
            refine lv_icmp_ge (tgt := 93) hx hb dX7_hasDoubles_34 (by decide) (fun c7 => ?_) (fun c7 => ?_)
            · replace h := ot c7 h
              replace h := (Option.some.inj h).symm
              exact haj19 _ _ _ _ _ _ h hw (lv_sub hl [1, 2, 3, 4, 5] rfl)
            · replace h := oe c7 h
              refine lv_iload_n hx hb dX7_hasDoubles_37 rfl (lv_at hl 2 rfl) ?_
              obtain ⟨aj17, h1aj17, kaj17⟩ := ob1 h
              have haj17 : ∀ (v16 : Int32) (H : Heap) (lc : List Loc) (cn sn : Nat) (ls : Array Slot), aj17 = v16 → wH g s.heap.size (cs, t) H lc → lv_has ls 6 [(5, .int v5), (4, .int v1), (0, .ref (gmd g 32)), (1, .int p0), (2, .int p1)] → W p l e (rmO g 0 0 s.heap) s mi args below meth cd H lc cn sn Q (F0 mi 86 ls [.int v16]) := by
                intro v16 H lc cn sn ls h hw hl
                replace h := kaj17 _ h
                refine lv_istore_n (lv' := [(3, .int v16), (5, .int v5), (4, .int v1), (0, .ref (gmd g 32)), (1, .int p0), (2, .int p1)]) hx hb dX7_hasDoubles_86 rfl hl (by decide) rfl (fun ls hl => ?_)
                refine lv_iinc (v := (v5 + 1)) (lv' := [(5, .int (v5 + 1)), (3, .int v16), (4, .int v1), (0, .ref (gmd g 32)), (1, .int p0), (2, .int p1)]) hx hb dX7_hasDoubles_87 hl (k := 1) rfl (by rfl) (by decide) rfl (fun ls hl => ?_)
                refine lv_goto (tgt := 30) hx hb dX7_hasDoubles_90 (by decide) ?_
                exact ih _ _ _ _ _ _ _ h hw (lv_sub hl [0, 2, 1, 3, 4, 5] rfl)
              replace h := h1aj17
              obtain ⟨aj15, h1aj15, kaj15, raj15⟩ := ol0 h
              have haj15 : ∀ (H : Heap) (lc : List Loc) (cn sn : Nat) (ls : Array Slot), aj15 = Sum.inl () → wH g s.heap.size (cs, t) H lc → lv_has ls 6 [(5, .int v5), (4, .int v1), (0, .ref (gmd g 32)), (1, .int p0), (2, .int p1)] → W p l e (rmO g 0 0 s.heap) s mi args below meth cd H lc cn sn Q (F0 mi 81 ls []) := by
                intro H lc cn sn ls h hw hl
                replace h := kaj15 h
                refine lv_iconst (v := 1) hx hb dX7_hasDoubles_81 (by decide) ?_
                refine lv_goto (tgt := 86) hx hb dX7_hasDoubles_82 (by decide) ?_
                replace h := (Option.some.inj h).symm
                exact haj17 _ _ _ _ _ _ h hw (lv_sub hl [0, 1, 2, 3, 4] rfl)
              replace h := h1aj15
              refine lv_if_ne (tgt := 81) hx hb dX7_hasDoubles_38 (by decide) (fun c8 => ?_) (fun c8 => ?_)
              · replace h := oe c8 h
                replace h := (Option.some.inj h).symm
                exact haj15 _ _ _ _ _ h hw (lv_sub hl [0, 1, 3, 4, 5] rfl)
              · replace h := ot c8 h
                refine lv_aload_n hx hb dX7_hasDoubles_41 rfl (lv_at hl 3 rfl) ?_
                refine m_gf hX hn hw 11 (v := .ref (gmd g 11)) (by decide +kernel) (by decide) (by decide +kernel) rfl dX7_hasDoubles_42 ?_
                refine lv_iconst (v := 2) hx hb dX7_hasDoubles_45 (by decide) ?_
                refine lv_iload hx hb dX7_hasDoubles_46 (lv_at hl 1 rfl) ?_
                refine lv_imul hx hb dX7_hasDoubles_48 ?_
                refine lv_iload_n hx hb dX7_hasDoubles_49 rfl (lv_at hl 5 rfl) ?_
                refine lv_iadd hx hb dX7_hasDoubles_50 ?_
                obtain ⟨c9, h⟩ := og h
                refine m_ld hX hn hw 11 (by decide) (by decide) rfl c9 dX7_hasDoubles_51 ?_
                refine lv_iconst (v := (-1)) hx hb dX7_hasDoubles_52 (by decide) ?_
                obtain ⟨aj14, h1aj14, kaj14, raj14⟩ := ol0 h
                have haj14 : ∀ (H : Heap) (lc : List Loc) (cn sn : Nat) (ls : Array Slot), aj14 = Sum.inl () → wH g s.heap.size (cs, t) H lc → lv_has ls 6 [(5, .int v5), (4, .int v1), (0, .ref (gmd g 32)), (1, .int p0), (2, .int p1)] → W p l e (rmO g 0 0 s.heap) s mi args below meth cd H lc cn sn Q (F0 mi 85 ls []) := by
                  intro H lc cn sn ls h hw hl
                  replace h := kaj14 h
                  refine lv_iconst (v := 0) hx hb dX7_hasDoubles_85 (by decide) ?_
                  replace h := (Option.some.inj h).symm
                  replace h := raj15 _ h
                  exact haj17 _ _ _ _ _ _ h hw (lv_sub hl [0, 1, 2, 3, 4] rfl)
                replace h := h1aj14
                refine lv_icmp_eq (tgt := 85) hx hb dX7_hasDoubles_53 (by decide) (fun c10 => ?_) (fun c10 => ?_)
                · replace h := ot c10 h
                  replace h := (Option.some.inj h).symm
                  exact haj14 _ _ _ _ _ h hw (lv_sub hl [0, 1, 3, 4, 5] rfl)
                · replace h := oe c10 h
                  refine lv_aload_n hx hb dX7_hasDoubles_56 rfl (lv_at hl 3 rfl) ?_
                  refine m_gf hX hn hw 11 (v := .ref (gmd g 11)) (by decide +kernel) (by decide) (by decide +kernel) rfl dX7_hasDoubles_57 ?_
                  refine lv_iconst (v := 2) hx hb dX7_hasDoubles_60 (by decide) ?_
                  refine lv_iload hx hb dX7_hasDoubles_61 (lv_at hl 1 rfl) ?_
                  refine lv_imul hx hb dX7_hasDoubles_63 ?_
                  refine lv_iload_n hx hb dX7_hasDoubles_64 rfl (lv_at hl 5 rfl) ?_
                  refine lv_iadd hx hb dX7_hasDoubles_65 ?_
                  obtain ⟨c11, h⟩ := og h
                  refine m_ld hX hn hw 11 (by decide) (by decide) rfl c11 dX7_hasDoubles_66 ?_
                  refine lv_aload_n hx hb dX7_hasDoubles_67 rfl (lv_at hl 3 rfl) ?_
                  refine m_gf hX hn hw 11 (v := .ref (gmd g 11)) (by decide +kernel) (by decide) (by decide +kernel) rfl dX7_hasDoubles_68 ?_
                  refine lv_iconst (v := 2) hx hb dX7_hasDoubles_71 (by decide) ?_
                  refine lv_iload hx hb dX7_hasDoubles_72 (lv_at hl 0 rfl) ?_
                  refine lv_imul hx hb dX7_hasDoubles_74 ?_
                  refine lv_iload_n hx hb dX7_hasDoubles_75 rfl (lv_at hl 5 rfl) ?_
                  refine lv_iadd hx hb dX7_hasDoubles_76 ?_
                  obtain ⟨c12, h⟩ := og h
                  refine m_ld hX hn hw 11 (by decide) (by decide) rfl c12 dX7_hasDoubles_77 ?_
                  refine lv_icmp_ne (tgt := 85) hx hb dX7_hasDoubles_78 (by decide) (fun c13 => ?_) (fun c13 => ?_)
                  · replace h := oe c13 h
                    replace h := (Option.some.inj h).symm
                    exact haj14 _ _ _ _ _ h hw (lv_sub hl [0, 1, 3, 4, 5] rfl)
                  · replace h := ot c13 h
                    replace h := (Option.some.inj h).symm
                    replace h := raj14 _ h
                    exact haj15 _ _ _ _ _ h hw (lv_sub hl [0, 1, 3, 4, 5] rfl)
        exact hkj19 FU (40 * p0) v2 _ _ _ _ _ h1aj19 hw (lv_sub hl [0, 1, 2, 3, 4, 5] rfl)
  exact hkj22 FU (40 * p0) 0 _ _ _ _ _ h1aj22 hw (lv_sub hl [0, 1, 2, 3, 4] rfl)

set_option maxHeartbeats 4000000 in
set_option maxRecDepth 100000 in
theorem c_X7_can (g : GG) (l : Launch) (hn : gnn g 4 = 1) (cs : CS) (p0 : Int32) (p1 : Int32) (p2 : Int32) (t : MS) (r : Int32) (h : x_X7_can p0 p1 p2 t = some r) : MetI g l yX7_can wsX7_can 0 0 [.ref (gmd g 32), .int p0, .int p1, .int p2] (cs, t) r (cs, t) := by
  refine mZ_start (own := RX7) (by decide +kernel) rfl rfl (Nat.le_of_ble_eq_true rfl) ?_
  intro p e s mi args below meth cd ls Q hX hw hl hret
  have hl : lv_has ls 4 [(0, .ref (gmd g 32)), (1, .int p0), (2, .int p1), (3, .int p2)] := hl
  obtain ⟨⟨hx, hb, -, hown, hts⟩, -⟩ := id hX
  unfold x_X7_can at h
  refine lv_aload_n hx hb dX7_can_0 rfl (lv_at hl 0 rfl) ?_
  refine m_gf hX hn hw 22 (v := .ref (gmd g 22)) (by decide +kernel) (by decide) (by decide +kernel) rfl dX7_can_1 ?_
  refine lv_iload_n hx hb dX7_can_4 rfl (lv_at hl 1 rfl) ?_
  obtain ⟨c1, h⟩ := og h
  refine m_ld hX hn hw 22 (by decide) (by decide) rfl c1 dX7_can_5 ?_
  refine lv_iconst (v := 1) hx hb dX7_can_6 (by decide) ?_
  obtain ⟨aj12, h1aj12, kaj12⟩ := ob1 h
  have haj12 : ∀ (v10 : Int32) (H : Heap) (lc : List Loc) (cn sn : Nat) (ls : Array Slot), aj12 = v10 → wH g s.heap.size (cs, t) H lc → lv_has ls 4 [] → W p l e (rmO g 0 0 s.heap) s mi args below meth cd H lc cn sn Q (F0 mi 42 ls [.int v10]) := by
    intro v10 H lc cn sn ls h hw hl
    replace h := kaj12 _ h
    obtain ⟨c11, h⟩ := og h
    replace h := (Option.some.inj h).symm
    exact hret _ _ _ _ _ _ _ dX7_can_42 c11 hw h.symm
  replace h := h1aj12
  obtain ⟨aj9, h1aj9, kaj9, raj9⟩ := ol0 h
  have haj9 : ∀ (H : Heap) (lc : List Loc) (cn sn : Nat) (ls : Array Slot), aj9 = Sum.inl () → wH g s.heap.size (cs, t) H lc → lv_has ls 4 [] → W p l e (rmO g 0 0 s.heap) s mi args below meth cd H lc cn sn Q (F0 mi 41 ls []) := by
    intro H lc cn sn ls h hw hl
    replace h := kaj9 h
    refine lv_iconst (v := 0) hx hb dX7_can_41 (by decide) ?_
    replace h := (Option.some.inj h).symm
    exact haj12 _ _ _ _ _ _ h hw (lv_sub hl [] rfl)
  replace h := h1aj9
  refine lv_icmp_ne (tgt := 41) hx hb dX7_can_7 (by decide) (fun c2 => ?_) (fun c2 => ?_)
  · replace h := oe c2 h
    replace h := (Option.some.inj h).symm
    exact haj9 _ _ _ _ _ h hw (lv_sub hl [] rfl)
  · replace h := ot c2 h
    refine lv_aload_n hx hb dX7_can_10 rfl (lv_at hl 0 rfl) ?_
    refine m_gf hX hn hw 20 (v := .ref (gmd g 20)) (by decide +kernel) (by decide) (by decide +kernel) rfl dX7_can_11 ?_
    refine lv_iload_n hx hb dX7_can_14 rfl (lv_at hl 1 rfl) ?_
    obtain ⟨c3, h⟩ := og h
    refine m_ld hX hn hw 20 (by decide) (by decide) rfl c3 dX7_can_15 ?_
    refine lv_iload_n hx hb dX7_can_16 rfl (lv_at hl 2 rfl) ?_
    refine lv_ishr hx hb dX7_can_17 ?_
    refine lv_iconst (v := 1) hx hb dX7_can_18 (by decide) ?_
    refine lv_iand hx hb dX7_can_19 ?_
    refine lv_iconst (v := 1) hx hb dX7_can_20 (by decide) ?_
    refine lv_icmp_ne (tgt := 41) hx hb dX7_can_21 (by decide) (fun c4 => ?_) (fun c4 => ?_)
    · replace h := oe c4 h
      replace h := (Option.some.inj h).symm
      exact haj9 _ _ _ _ _ h hw (lv_sub hl [] rfl)
    · replace h := ot c4 h
      refine lv_aload_n hx hb dX7_can_24 rfl (lv_at hl 0 rfl) ?_
      refine m_gf hX hn hw 21 (v := .ref (gmd g 21)) (by decide +kernel) (by decide) (by decide +kernel) rfl dX7_can_25 ?_
      refine lv_iload_n hx hb dX7_can_28 rfl (lv_at hl 1 rfl) ?_
      obtain ⟨c5, h⟩ := og h
      refine m_ldz hX hn hw 21 (by decide) (by decide) rfl c5 dX7_can_29 ?_
      obtain ⟨aj8, h1aj8, kaj8, raj8⟩ := ol0 h
      have haj8 : ∀ (H : Heap) (lc : List Loc) (cn sn : Nat) (ls : Array Slot), aj8 = Sum.inl () → wH g s.heap.size (cs, t) H lc → lv_has ls 4 [] → W p l e (rmO g 0 0 s.heap) s mi args below meth cd H lc cn sn Q (F0 mi 37 ls []) := by
        intro H lc cn sn ls h hw hl
        replace h := kaj8 h
        refine lv_iconst (v := 1) hx hb dX7_can_37 (by decide) ?_
        refine lv_goto (tgt := 42) hx hb dX7_can_38 (by decide) ?_
        replace h := (Option.some.inj h).symm
        replace h := raj9 _ h
        exact haj12 _ _ _ _ _ _ h hw (lv_sub hl [] rfl)
      replace h := h1aj8
      refine lv_if_ne (tgt := 37) hx hb dX7_can_30 (by decide) (fun c6 => ?_) (fun c6 => ?_)
      · replace h := oe c6 h
        replace h := (Option.some.inj h).symm
        exact haj8 _ _ _ _ _ h hw (lv_sub hl [] rfl)
      · replace h := ot c6 h
        refine lv_iload_n hx hb dX7_can_33 rfl (lv_at hl 3 rfl) ?_
        refine lv_if_ne (tgt := 41) hx hb dX7_can_34 (by decide) (fun c7 => ?_) (fun c7 => ?_)
        · replace h := oe c7 h
          replace h := (Option.some.inj h).symm
          replace h := raj8 _ h
          exact haj9 _ _ _ _ _ h hw (lv_sub hl [] rfl)
        · replace h := ot c7 h
          replace h := (Option.some.inj h).symm
          exact haj8 _ _ _ _ _ h hw (lv_sub hl [] rfl)

set_option maxHeartbeats 4000000 in
set_option maxRecDepth 100000 in
theorem c_X7_find (g : GG) (l : Launch) (hn : gnn g 4 = 1) (cs : CS) (p0 : Int32) (p1 : Int32) (t : MS) (r : Int32) (h : x_X7_find p0 p1 t = some r) : MetI g l yX7_find wsX7_find 0 0 [.ref (gmd g 32), .int p0, .int p1] (cs, t) r (cs, t) := by
  refine mI_start (own := RX7) (by decide +kernel) rfl rfl (Nat.le_of_ble_eq_true rfl) ?_
  intro p e s mi args below meth cd ls Q hX hw hl hret
  have hl : lv_has ls 4 [(0, .ref (gmd g 32)), (1, .int p0), (2, .int p1)] := hl
  obtain ⟨⟨hx, hb, -, hown, hts⟩, -⟩ := id hX
  unfold x_X7_find at h
  refine lv_bipush (v := 40) hx hb dX7_find_0 (by decide) ?_
  refine lv_iload_n hx hb dX7_find_2 rfl (lv_at hl 1 rfl) ?_
  refine lv_imul hx hb dX7_find_3 ?_
  refine lv_istore_n (lv' := [(3, .int (40 * p0)), (0, .ref (gmd g 32)), (1, .int p0), (2, .int p1)]) hx hb dX7_find_4 rfl hl (by decide) rfl (fun ls hl => ?_)
  obtain ⟨aj6, h1aj6, kaj6, raj6⟩ := ol0 h
  have haj6 : ∀ (H : Heap) (lc : List Loc) (cn sn : Nat) (ls : Array Slot), aj6 = Sum.inl () → wH g s.heap.size (cs, t) H lc → lv_has ls 4 [] → W p l e (rmO g 0 0 s.heap) s mi args below meth cd H lc cn sn Q (F0 mi 38 ls []) := by
    intro H lc cn sn ls h hw hl
    replace h := kaj6 h
    refine lv_iconst (v := (-1)) hx hb dX7_find_38 (by decide) ?_
    replace h := (Option.some.inj h).symm
    exact hret _ _ _ _ _ _ _ dX7_find_39 hw h.symm
  have hkj6 : ∀ (n : Nat) (v1 : Int32) (H : Heap) (lc : List Loc) (cn sn : Nat) (ls : Array Slot), x_X7_find_L1 p0 p1 t n v1 = some aj6 → wH g s.heap.size (cs, t) H lc → lv_has ls 4 [(3, .int v1), (0, .ref (gmd g 32)), (1, .int p0), (2, .int p1)] → W p l e (rmO g 0 0 s.heap) s mi args below meth cd H lc cn sn Q (F0 mi 5 ls []) := by
    intro n
    induction n with
    | zero =>
      intro v1 H lc cn sn ls h
      rw [x_X7_find_L1] at h
      cases h
    | succ n ih =>
      intro v1 H lc cn sn ls h hw hl
      rw [x_X7_find_L1] at h
      refine lv_iload_n hx hb dX7_find_5 rfl (lv_at hl 0 rfl) ?_
      refine lv_bipush (v := 40) hx hb dX7_find_6 (by decide) ?_
      refine lv_iload_n hx hb dX7_find_8 rfl (lv_at hl 2 rfl) ?_
      refine lv_imul hx hb dX7_find_9 ?_
      refine lv_aload_n hx hb dX7_find_10 rfl (lv_at hl 1 rfl) ?_
      refine m_gf hX hn hw 8 (v := .ref (gmd g 8)) (by decide +kernel) (by decide) (by decide +kernel) rfl dX7_find_11 ?_
      refine lv_iload_n hx hb dX7_find_14 rfl (lv_at hl 2 rfl) ?_
      obtain ⟨c2, h⟩ := og h
      refine m_ld hX hn hw 8 (by decide) (by decide) rfl c2 dX7_find_15 ?_
      refine lv_iadd hx hb dX7_find_16 ?_
      refine lv_icmp_ge (tgt := 38) hx hb dX7_find_17 (by decide) (fun c3 => ?_) (fun c3 => ?_)
      · replace h := ot c3 h
        replace h := (Option.some.inj h).symm
        exact haj6 _ _ _ _ _ h hw (lv_sub hl [] rfl)
      · replace h := oe c3 h
        refine lv_aload_n hx hb dX7_find_20 rfl (lv_at hl 1 rfl) ?_
        refine m_gf hX hn hw 9 (v := .ref (gmd g 9)) (by decide +kernel) (by decide) (by decide +kernel) rfl dX7_find_21 ?_
        refine lv_iload_n hx hb dX7_find_24 rfl (lv_at hl 0 rfl) ?_
        obtain ⟨c4, h⟩ := og h
        refine m_ld hX hn hw 9 (by decide) (by decide) rfl c4 dX7_find_25 ?_
        refine lv_iload_n hx hb dX7_find_26 rfl (lv_at hl 3 rfl) ?_
        refine lv_icmp_ne (tgt := 32) hx hb dX7_find_27 (by decide) (fun c5 => ?_) (fun c5 => ?_)
        · replace h := oe c5 h
          refine lv_iinc (v := (v1 + 1)) (lv' := [(3, .int (v1 + 1)), (0, .ref (gmd g 32)), (1, .int p0), (2, .int p1)]) hx hb dX7_find_32 hl (k := 0) rfl (by rfl) (by decide) rfl (fun ls hl => ?_)
          refine lv_goto (tgt := 5) hx hb dX7_find_35 (by decide) ?_
          exact ih _ _ _ _ _ _ h hw (lv_sub hl [0, 1, 2, 3] rfl)
        · replace h := ot c5 h
          refine lv_iload_n hx hb dX7_find_30 rfl (lv_at hl 0 rfl) ?_
          replace h := (Option.some.inj h).symm
          replace h := raj6 _ h
          exact hret _ _ _ _ _ _ _ dX7_find_31 hw h.symm
  exact hkj6 FU (40 * p0) _ _ _ _ _ h1aj6 hw (lv_sub hl [0, 1, 2, 3] rfl)

set_option maxHeartbeats 4000000 in
set_option maxRecDepth 100000 in
theorem c_X7_isTaken (g : GG) (l : Launch) (hn : gnn g 4 = 1) (cs : CS) (p0 : Int32) (p1 : Int32) (p2 : Int32) (p3 : Int32) (t : MS) (r : Int32) (h : x_X7_isTaken p0 p1 p2 p3 t = some r) : MetI g l yX7_isTaken wsX7_isTaken 0 0 [.ref (gmd g 32), .int p0, .int p1, .int p2, .int p3] (cs, t) r (cs, t) := by
  refine mZ_start (own := RX7) (by decide +kernel) rfl rfl (Nat.le_of_ble_eq_true rfl) ?_
  intro p e s mi args below meth cd ls Q hX hw hl hret
  have hl : lv_has ls 7 [(0, .ref (gmd g 32)), (1, .int p0), (2, .int p1), (3, .int p2), (4, .int p3)] := hl
  obtain ⟨⟨hx, hb, -, hown, hts⟩, -⟩ := id hX
  unfold x_X7_isTaken at h
  refine lv_iconst (v := 0) hx hb dX7_isTaken_0 (by decide) ?_
  refine lv_istore (lv' := [(5, .int 0), (0, .ref (gmd g 32)), (1, .int p0), (2, .int p1), (3, .int p2), (4, .int p3)]) hx hb dX7_isTaken_1 hl (by decide) rfl (fun ls hl => ?_)
  refine lv_bipush (v := 40) hx hb dX7_isTaken_3 (by decide) ?_
  refine lv_iload_n hx hb dX7_isTaken_5 rfl (lv_at hl 2 rfl) ?_
  refine lv_imul hx hb dX7_isTaken_6 ?_
  refine lv_istore (lv' := [(6, .int (40 * p0)), (5, .int 0), (0, .ref (gmd g 32)), (1, .int p0), (2, .int p1), (3, .int p2), (4, .int p3)]) hx hb dX7_isTaken_7 hl (by decide) rfl (fun ls hl => ?_)
  obtain ⟨aj23, h1aj23, kaj23⟩ := ob1 h
  have haj23 : ∀ (v15 : Int32) (H : Heap) (lc : List Loc) (cn sn : Nat) (ls : Array Slot), aj23 = v15 → wH g s.heap.size (cs, t) H lc → lv_has ls 7 [(5, .int v15), (0, .ref (gmd g 32)), (1, .int p0), (3, .int p2)] → W p l e (rmO g 0 0 s.heap) s mi args below meth cd H lc cn sn Q (F0 mi 76 ls []) := by
    intro v15 H lc cn sn ls h hw hl
    replace h := kaj23 _ h
    refine lv_iload hx hb dX7_isTaken_76 (lv_at hl 0 rfl) ?_
    obtain ⟨aj22, h1aj22, kaj22⟩ := ob1 h
    have haj22 : ∀ (v20 : Int32) (H : Heap) (lc : List Loc) (cn sn : Nat) (ls : Array Slot), aj22 = v20 → wH g s.heap.size (cs, t) H lc → lv_has ls 7 [] → W p l e (rmO g 0 0 s.heap) s mi args below meth cd H lc cn sn Q (F0 mi 100 ls [.int v20]) := by
      intro v20 H lc cn sn ls h hw hl
      replace h := kaj22 _ h
      obtain ⟨c21, h⟩ := og h
      replace h := (Option.some.inj h).symm
      exact hret _ _ _ _ _ _ _ dX7_isTaken_100 c21 hw h.symm
    replace h := h1aj22
    obtain ⟨aj19, h1aj19, kaj19, raj19⟩ := ol0 h
    have haj19 : ∀ (H : Heap) (lc : List Loc) (cn sn : Nat) (ls : Array Slot), aj19 = Sum.inl () → wH g s.heap.size (cs, t) H lc → lv_has ls 7 [] → W p l e (rmO g 0 0 s.heap) s mi args below meth cd H lc cn sn Q (F0 mi 99 ls []) := by
      intro H lc cn sn ls h hw hl
      replace h := kaj19 h
      refine lv_iconst (v := 0) hx hb dX7_isTaken_99 (by decide) ?_
      replace h := (Option.some.inj h).symm
      exact haj22 _ _ _ _ _ _ h hw (lv_sub hl [] rfl)
    replace h := h1aj19
    refine lv_if_eq (tgt := 99) hx hb dX7_isTaken_78 (by decide) (fun c16 => ?_) (fun c16 => ?_)
    · replace h := ot c16 h
      replace h := (Option.some.inj h).symm
      exact haj19 _ _ _ _ _ h hw (lv_sub hl [] rfl)
    · replace h := oe c16 h
      refine lv_aload_n hx hb dX7_isTaken_81 rfl (lv_at hl 1 rfl) ?_
      refine m_gf hX hn hw 7 (v := .ref (gmd g 7)) (by decide +kernel) (by decide) (by decide +kernel) rfl dX7_isTaken_82 ?_
      refine lv_iconst (v := 2) hx hb dX7_isTaken_85 (by decide) ?_
      refine lv_iload_n hx hb dX7_isTaken_86 rfl (lv_at hl 2 rfl) ?_
      refine lv_imul hx hb dX7_isTaken_87 ?_
      refine lv_iload_n hx hb dX7_isTaken_88 rfl (lv_at hl 3 rfl) ?_
      refine lv_iadd hx hb dX7_isTaken_89 ?_
      obtain ⟨c17, h⟩ := og h
      refine m_ld hX hn hw 7 (by decide) (by decide) rfl c17 dX7_isTaken_90 ?_
      refine lv_iconst (v := 2) hx hb dX7_isTaken_91 (by decide) ?_
      refine lv_icmp_ne (tgt := 99) hx hb dX7_isTaken_92 (by decide) (fun c18 => ?_) (fun c18 => ?_)
      · replace h := oe c18 h
        replace h := (Option.some.inj h).symm
        exact haj19 _ _ _ _ _ h hw (lv_sub hl [] rfl)
      · replace h := ot c18 h
        refine lv_iconst (v := 1) hx hb dX7_isTaken_95 (by decide) ?_
        refine lv_goto (tgt := 100) hx hb dX7_isTaken_96 (by decide) ?_
        replace h := (Option.some.inj h).symm
        replace h := raj19 _ h
        exact haj22 _ _ _ _ _ _ h hw (lv_sub hl [] rfl)
  have hkj23 : ∀ (n : Nat) (v1 : Int32) (v2 : Int32) (H : Heap) (lc : List Loc) (cn sn : Nat) (ls : Array Slot), x_X7_isTaken_L1 p0 p1 p2 p3 t n v1 v2 = some aj23 → wH g s.heap.size (cs, t) H lc → lv_has ls 7 [(6, .int v1), (5, .int v2), (0, .ref (gmd g 32)), (1, .int p0), (2, .int p1), (3, .int p2), (4, .int p3)] → W p l e (rmO g 0 0 s.heap) s mi args below meth cd H lc cn sn Q (F0 mi 9 ls []) := by
    intro n
    induction n with
    | zero =>
      intro v1 v2 H lc cn sn ls h
      rw [x_X7_isTaken_L1] at h
      cases h
    | succ n ih =>
      intro v1 v2 H lc cn sn ls h hw hl
      rw [x_X7_isTaken_L1] at h
      refine lv_iload hx hb dX7_isTaken_9 (lv_at hl 0 rfl) ?_
      refine lv_bipush (v := 40) hx hb dX7_isTaken_11 (by decide) ?_
      refine lv_iload_n hx hb dX7_isTaken_13 rfl (lv_at hl 3 rfl) ?_
      refine lv_imul hx hb dX7_isTaken_14 ?_
      refine lv_aload_n hx hb dX7_isTaken_15 rfl (lv_at hl 2 rfl) ?_
      refine m_gf hX hn hw 8 (v := .ref (gmd g 8)) (by decide +kernel) (by decide) (by decide +kernel) rfl dX7_isTaken_16 ?_
      refine lv_iload_n hx hb dX7_isTaken_19 rfl (lv_at hl 3 rfl) ?_
      obtain ⟨c3, h⟩ := og h
      refine m_ld hX hn hw 8 (by decide) (by decide) rfl c3 dX7_isTaken_20 ?_
      refine lv_iadd hx hb dX7_isTaken_21 ?_
      refine lv_icmp_ge (tgt := 76) hx hb dX7_isTaken_22 (by decide) (fun c4 => ?_) (fun c4 => ?_)
      · replace h := ot c4 h
        replace h := (Option.some.inj h).symm
        exact haj23 _ _ _ _ _ _ h hw (lv_sub hl [1, 2, 3, 5] rfl)
      · replace h := oe c4 h
        refine lv_iload hx hb dX7_isTaken_25 (lv_at hl 1 rfl) ?_
        obtain ⟨aj14, h1aj14, kaj14⟩ := ob1 h
        have haj14 : ∀ (v13 : Int32) (H : Heap) (lc : List Loc) (cn sn : Nat) (ls : Array Slot), aj14 = v13 → wH g s.heap.size (cs, t) H lc → lv_has ls 7 [(6, .int v1), (0, .ref (gmd g 32)), (1, .int p0), (2, .int p1), (3, .int p2), (4, .int p3)] → W p l e (rmO g 0 0 s.heap) s mi args below meth cd H lc cn sn Q (F0 mi 68 ls [.int v13]) := by
          intro v13 H lc cn sn ls h hw hl
          replace h := kaj14 _ h
          refine lv_istore (lv' := [(5, .int v13), (6, .int v1), (0, .ref (gmd g 32)), (1, .int p0), (2, .int p1), (3, .int p2), (4, .int p3)]) hx hb dX7_isTaken_68 hl (by decide) rfl (fun ls hl => ?_)
          refine lv_iinc (v := (v1 + 1)) (lv' := [(6, .int (v1 + 1)), (5, .int v13), (0, .ref (gmd g 32)), (1, .int p0), (2, .int p1), (3, .int p2), (4, .int p3)]) hx hb dX7_isTaken_70 hl (k := 1) rfl (by rfl) (by decide) rfl (fun ls hl => ?_)
          refine lv_goto (tgt := 9) hx hb dX7_isTaken_73 (by decide) ?_
          exact ih _ _ _ _ _ _ _ h hw (lv_sub hl [0, 1, 2, 3, 4, 5, 6] rfl)
        replace h := h1aj14
        obtain ⟨aj12, h1aj12, kaj12, raj12⟩ := ol0 h
        have haj12 : ∀ (H : Heap) (lc : List Loc) (cn sn : Nat) (ls : Array Slot), aj12 = Sum.inl () → wH g s.heap.size (cs, t) H lc → lv_has ls 7 [(6, .int v1), (0, .ref (gmd g 32)), (1, .int p0), (2, .int p1), (3, .int p2), (4, .int p3)] → W p l e (rmO g 0 0 s.heap) s mi args below meth cd H lc cn sn Q (F0 mi 63 ls []) := by
          intro H lc cn sn ls h hw hl
          replace h := kaj12 h
          refine lv_iconst (v := 1) hx hb dX7_isTaken_63 (by decide) ?_
          refine lv_goto (tgt := 68) hx hb dX7_isTaken_64 (by decide) ?_
          replace h := (Option.some.inj h).symm
          exact haj14 _ _ _ _ _ _ h hw (lv_sub hl [0, 1, 2, 3, 4, 5] rfl)
        replace h := h1aj12
        refine lv_if_ne (tgt := 63) hx hb dX7_isTaken_27 (by decide) (fun c5 => ?_) (fun c5 => ?_)
        · replace h := oe c5 h
          replace h := (Option.some.inj h).symm
          exact haj12 _ _ _ _ _ h hw (lv_sub hl [0, 2, 3, 4, 5, 6] rfl)
        · replace h := ot c5 h
          refine lv_aload_n hx hb dX7_isTaken_30 rfl (lv_at hl 2 rfl) ?_
          refine m_gf hX hn hw 9 (v := .ref (gmd g 9)) (by decide +kernel) (by decide) (by decide +kernel) rfl dX7_isTaken_31 ?_
          refine lv_iload hx hb dX7_isTaken_34 (lv_at hl 0 rfl) ?_
          obtain ⟨c6, h⟩ := og h
          refine m_ld hX hn hw 9 (by decide) (by decide) rfl c6 dX7_isTaken_36 ?_
          refine lv_iload_n hx hb dX7_isTaken_37 rfl (lv_at hl 4 rfl) ?_
          obtain ⟨aj11, h1aj11, kaj11, raj11⟩ := ol0 h
          have haj11 : ∀ (H : Heap) (lc : List Loc) (cn sn : Nat) (ls : Array Slot), aj11 = Sum.inl () → wH g s.heap.size (cs, t) H lc → lv_has ls 7 [(6, .int v1), (0, .ref (gmd g 32)), (1, .int p0), (2, .int p1), (3, .int p2), (4, .int p3)] → W p l e (rmO g 0 0 s.heap) s mi args below meth cd H lc cn sn Q (F0 mi 67 ls []) := by
            intro H lc cn sn ls h hw hl
            replace h := kaj11 h
            refine lv_iconst (v := 0) hx hb dX7_isTaken_67 (by decide) ?_
            replace h := (Option.some.inj h).symm
            replace h := raj12 _ h
            exact haj14 _ _ _ _ _ _ h hw (lv_sub hl [0, 1, 2, 3, 4, 5] rfl)
          replace h := h1aj11
          refine lv_icmp_eq (tgt := 67) hx hb dX7_isTaken_38 (by decide) (fun c7 => ?_) (fun c7 => ?_)
          · replace h := ot c7 h
            replace h := (Option.some.inj h).symm
            exact haj11 _ _ _ _ _ h hw (lv_sub hl [0, 2, 3, 4, 5, 6] rfl)
          · replace h := oe c7 h
            refine lv_iload hx hb dX7_isTaken_41 (lv_at hl 6 rfl) ?_
            refine lv_iconst (v := (-1)) hx hb dX7_isTaken_43 (by decide) ?_
            refine lv_icmp_eq (tgt := 67) hx hb dX7_isTaken_44 (by decide) (fun c8 => ?_) (fun c8 => ?_)
            · replace h := ot c8 h
              replace h := (Option.some.inj h).symm
              exact haj11 _ _ _ _ _ h hw (lv_sub hl [0, 2, 3, 4, 5, 6] rfl)
            · replace h := oe c8 h
              refine lv_aload_n hx hb dX7_isTaken_47 rfl (lv_at hl 2 rfl) ?_
              refine m_gf hX hn hw 11 (v := .ref (gmd g 11)) (by decide +kernel) (by decide) (by decide +kernel) rfl dX7_isTaken_48 ?_
              refine lv_iconst (v := 2) hx hb dX7_isTaken_51 (by decide) ?_
              refine lv_iload hx hb dX7_isTaken_52 (lv_at hl 0 rfl) ?_
              refine lv_imul hx hb dX7_isTaken_54 ?_
              refine lv_iload_n hx hb dX7_isTaken_55 rfl (lv_at hl 5 rfl) ?_
              refine lv_iadd hx hb dX7_isTaken_56 ?_
              obtain ⟨c9, h⟩ := og h
              refine m_ld hX hn hw 11 (by decide) (by decide) rfl c9 dX7_isTaken_57 ?_
              refine lv_iload hx hb dX7_isTaken_58 (lv_at hl 6 rfl) ?_
              refine lv_icmp_ne (tgt := 67) hx hb dX7_isTaken_60 (by decide) (fun c10 => ?_) (fun c10 => ?_)
              · replace h := oe c10 h
                replace h := (Option.some.inj h).symm
                exact haj11 _ _ _ _ _ h hw (lv_sub hl [0, 2, 3, 4, 5, 6] rfl)
              · replace h := ot c10 h
                replace h := (Option.some.inj h).symm
                replace h := raj11 _ h
                exact haj12 _ _ _ _ _ h hw (lv_sub hl [0, 2, 3, 4, 5, 6] rfl)
  exact hkj23 FU (40 * p0) 0 _ _ _ _ _ h1aj23 hw (lv_sub hl [0, 1, 2, 3, 4, 5, 6] rfl)

set_option maxHeartbeats 4000000 in
set_option maxRecDepth 100000 in
theorem c_X7_isBetween (g : GG) (l : Launch) (hn : gnn g 4 = 1) (cs : CS) (p0 : Int32) (p1 : Int32) (p2 : Int32) (t : MS) (r : Int32) (h : x_X7_isBetween p0 p1 p2 = some r) : MetI g l yX7_isBetween wsX7_isBetween 1 21 [.int p0, .int p1, .int p2] (cs, t) r (cs, t) := by
  refine mZ_start (own := RX7) (by decide +kernel) rfl rfl (Nat.le_of_ble_eq_true rfl) ?_
  intro p e s mi args below meth cd ls Q hX hw hl hret
  have hl : lv_has ls 3 [(0, .int p0), (1, .int p1), (2, .int p2)] := hl
  obtain ⟨⟨hx, hb, -, hown, hts⟩, -⟩ := id hX
  unfold x_X7_isBetween at h
  refine lv_iload_n hx hb dX7_isBetween_0 rfl (lv_at hl 0 rfl) ?_
  obtain ⟨v2, e1, h⟩ := ob h
  refine tw_callSI hX hw (n := 1) (As := [.int p0]) (rest := []) (c_X7_rank g l hn cs p0 t v2 e1) gX7_isBetween_X7_rank rfl (by decide +kernel) rfl hl.1 rfl (Nat.le_of_ble_eq_true rfl) ⟨by decide, by decide⟩ dX7_isBetween_1 (fun H lc cn sn hw => ?_)
  refine lv_iload_n hx hb dX7_isBetween_4 rfl (lv_at hl 1 rfl) ?_
  obtain ⟨v4, e3, h⟩ := ob h
  refine tw_callSI hX hw (n := 1) (As := [.int p1]) (rest := [.int v2]) (c_X7_rank g l hn cs p1 t v4 e3) gX7_isBetween_X7_rank rfl (by decide +kernel) rfl hl.1 rfl (Nat.le_of_ble_eq_true rfl) ⟨by decide, by decide⟩ dX7_isBetween_5 (fun H lc cn sn hw => ?_)
  obtain ⟨aj14, h1aj14, kaj14⟩ := ob1 h
  have haj14 : ∀ (v12 : Int32) (H : Heap) (lc : List Loc) (cn sn : Nat) (ls : Array Slot), aj14 = v12 → wH g s.heap.size (cs, t) H lc → lv_has ls 3 [] → W p l e (rmO g 1 21 s.heap) s mi args below meth cd H lc cn sn Q (F0 mi 27 ls [.int v12]) := by
    intro v12 H lc cn sn ls h hw hl
    replace h := kaj14 _ h
    obtain ⟨c13, h⟩ := og h
    replace h := (Option.some.inj h).symm
    exact hret _ _ _ _ _ _ _ dX7_isBetween_27 c13 hw h.symm
  replace h := h1aj14
  obtain ⟨aj11, h1aj11, kaj11, raj11⟩ := ol0 h
  have haj11 : ∀ (H : Heap) (lc : List Loc) (cn sn : Nat) (ls : Array Slot), aj11 = Sum.inl () → wH g s.heap.size (cs, t) H lc → lv_has ls 3 [] → W p l e (rmO g 1 21 s.heap) s mi args below meth cd H lc cn sn Q (F0 mi 26 ls []) := by
    intro H lc cn sn ls h hw hl
    replace h := kaj11 h
    refine lv_iconst (v := 0) hx hb dX7_isBetween_26 (by decide) ?_
    replace h := (Option.some.inj h).symm
    exact haj14 _ _ _ _ _ _ h hw (lv_sub hl [] rfl)
  replace h := h1aj11
  refine lv_icmp_lt (tgt := 26) hx hb dX7_isBetween_8 (by decide) (fun c5 => ?_) (fun c5 => ?_)
  · replace h := ot c5 h
    replace h := (Option.some.inj h).symm
    exact haj11 _ _ _ _ _ h hw (lv_sub hl [] rfl)
  · replace h := oe c5 h
    refine lv_iload_n hx hb dX7_isBetween_11 rfl (lv_at hl 0 rfl) ?_
    obtain ⟨v7, e6, h⟩ := ob h
    refine tw_callSI hX hw (n := 1) (As := [.int p0]) (rest := []) (c_X7_rank g l hn cs p0 t v7 e6) gX7_isBetween_X7_rank rfl (by decide +kernel) rfl hl.1 rfl (Nat.le_of_ble_eq_true rfl) ⟨by decide, by decide⟩ dX7_isBetween_12 (fun H lc cn sn hw => ?_)
    refine lv_iload_n hx hb dX7_isBetween_15 rfl (lv_at hl 2 rfl) ?_
    obtain ⟨v9, e8, h⟩ := ob h
    refine tw_callSI hX hw (n := 1) (As := [.int p2]) (rest := [.int v7]) (c_X7_rank g l hn cs p2 t v9 e8) gX7_isBetween_X7_rank rfl (by decide +kernel) rfl hl.1 rfl (Nat.le_of_ble_eq_true rfl) ⟨by decide, by decide⟩ dX7_isBetween_16 (fun H lc cn sn hw => ?_)
    refine lv_icmp_gt (tgt := 26) hx hb dX7_isBetween_19 (by decide) (fun c10 => ?_) (fun c10 => ?_)
    · replace h := ot c10 h
      replace h := (Option.some.inj h).symm
      exact haj11 _ _ _ _ _ h hw (lv_sub hl [] rfl)
    · replace h := oe c10 h
      refine lv_iconst (v := 1) hx hb dX7_isBetween_22 (by decide) ?_
      refine lv_goto (tgt := 27) hx hb dX7_isBetween_23 (by decide) ?_
      replace h := (Option.some.inj h).symm
      replace h := raj11 _ h
      exact haj14 _ _ _ _ _ _ h hw (lv_sub hl [] rfl)

set_option maxHeartbeats 4000000 in
set_option maxRecDepth 100000 in
theorem c_X7_misses (g : GG) (l : Launch) (hn : gnn g 4 = 1) (cs : CS) (p0 : Int32) (p1 : Int32) (p2 : Int32) (p3 : Int32) (p4 : Int32) (t : MS) (r : Int32) (h : x_X7_misses p0 p1 p2 p3 p4 t = some r) : MetI g l yX7_misses wsX7_misses 2 46 [.ref (gmd g 32), .int p0, .int p1, .int p2, .int p3, .int p4] (cs, t) r (cs, t) := by
  refine mI_start (own := RX7) (by decide +kernel) rfl rfl (Nat.le_of_ble_eq_true rfl) ?_
  intro p e s mi args below meth cd ls Q hX hw hl hret
  have hl : lv_has ls 7 [(0, .ref (gmd g 32)), (1, .int p0), (2, .int p1), (3, .int p2), (4, .int p3), (5, .int p4)] := hl
  obtain ⟨⟨hx, hb, -, hown, hts⟩, -⟩ := id hX
  unfold x_X7_misses at h
  refine lv_aload_n hx hb dX7_misses_0 rfl (lv_at hl 0 rfl) ?_
  refine lv_iload_n hx hb dX7_misses_1 rfl (lv_at hl 1 rfl) ?_
  obtain ⟨v2, e1, h⟩ := ob h
  refine m_callI hX hn hw (n := 1) (As := [.int p0]) (rest := []) (c_X7_isTransaction g l hn cs p0 t v2 e1) gX7_misses_X7_isTransaction rfl (by decide +kernel) rfl hl.1 rfl (Nat.le_of_ble_eq_true rfl) ⟨by decide, by decide⟩ dX7_misses_2 (fun H lc cn sn hw => ?_)
  obtain ⟨aj22, h1aj22, kaj22⟩ := ob1 h
  have haj22 : ∀ (v8 : Int32) (H : Heap) (lc : List Loc) (cn sn : Nat) (ls : Array Slot), aj22 = v8 → wH g s.heap.size (cs, t) H lc → lv_has ls 7 [(0, .ref (gmd g 32)), (1, .int p0), (2, .int p1), (3, .int p2), (4, .int p3), (5, .int p4)] → W p l e (rmO g 2 46 s.heap) s mi args below meth cd H lc cn sn Q (F0 mi 21 ls [.int v8]) := by
    intro v8 H lc cn sn ls h hw hl
    replace h := kaj22 _ h
    refine lv_istore (lv' := [(6, .int v8), (0, .ref (gmd g 32)), (1, .int p0), (2, .int p1), (3, .int p2), (4, .int p3), (5, .int p4)]) hx hb dX7_misses_21 hl (by decide) rfl (fun ls hl => ?_)
    refine lv_iload hx hb dX7_misses_23 (lv_at hl 0 rfl) ?_
    obtain ⟨aj21, h1aj21, kaj21⟩ := ob1 h
    have haj21 : ∀ (v20 : Int32) (H : Heap) (lc : List Loc) (cn sn : Nat) (ls : Array Slot), aj21 = v20 → wH g s.heap.size (cs, t) H lc → lv_has ls 7 [] → W p l e (rmO g 2 46 s.heap) s mi args below meth cd H lc cn sn Q (F0 mi 67 ls [.int v20]) := by
      intro v20 H lc cn sn ls h hw hl
      replace h := kaj21 _ h
      replace h := (Option.some.inj h).symm
      exact hret _ _ _ _ _ _ _ dX7_misses_67 hw h.symm
    replace h := h1aj21
    refine lv_if_ne (tgt := 32) hx hb dX7_misses_25 (by decide) (fun c9 => ?_) (fun c9 => ?_)
    · replace h := oe c9 h
      refine lv_iload_n hx hb dX7_misses_32 rfl (lv_at hl 4 rfl) ?_
      obtain ⟨v11, e10, h⟩ := ob h
      refine tw_callSI hX hw (n := 1) (As := [.int p2]) (rest := []) (c_X7_isKey g l hn cs p2 t v11 e10) gX7_misses_X7_isKey rfl (by decide +kernel) rfl hl.1 rfl (Nat.le_of_ble_eq_true rfl) ⟨by decide, by decide⟩ dX7_misses_33 (fun H lc cn sn hw => ?_)
      obtain ⟨aj19, h1aj19, kaj19, raj19⟩ := ol0 h
      have haj19 : ∀ (H : Heap) (lc : List Loc) (cn sn : Nat) (ls : Array Slot), aj19 = Sum.inl () → wH g s.heap.size (cs, t) H lc → lv_has ls 7 [] → W p l e (rmO g 2 46 s.heap) s mi args below meth cd H lc cn sn Q (F0 mi 47 ls []) := by
        intro H lc cn sn ls h hw hl
        replace h := kaj19 h
        refine lv_iconst (v := 2) hx hb dX7_misses_47 (by decide) ?_
        refine lv_goto (tgt := 67) hx hb dX7_misses_48 (by decide) ?_
        replace h := (Option.some.inj h).symm
        exact haj21 _ _ _ _ _ _ h hw (lv_sub hl [] rfl)
      replace h := h1aj19
      refine lv_if_eq (tgt := 47) hx hb dX7_misses_36 (by decide) (fun c12 => ?_) (fun c12 => ?_)
      · replace h := ot c12 h
        replace h := (Option.some.inj h).symm
        exact haj19 _ _ _ _ _ h hw (lv_sub hl [] rfl)
      · replace h := oe c12 h
        refine lv_iload hx hb dX7_misses_39 (lv_at hl 5 rfl) ?_
        obtain ⟨v14, e13, h⟩ := ob h
        refine tw_callSI hX hw (n := 1) (As := [.int p3]) (rest := []) (c_X7_isKey g l hn cs p3 t v14 e13) gX7_misses_X7_isKey rfl (by decide +kernel) rfl hl.1 rfl (Nat.le_of_ble_eq_true rfl) ⟨by decide, by decide⟩ dX7_misses_41 (fun H lc cn sn hw => ?_)
        refine lv_if_ne (tgt := 51) hx hb dX7_misses_44 (by decide) (fun c15 => ?_) (fun c15 => ?_)
        · replace h := oe c15 h
          refine lv_aload_n hx hb dX7_misses_51 rfl (lv_at hl 1 rfl) ?_
          refine lv_iload_n hx hb dX7_misses_52 rfl (lv_at hl 2 rfl) ?_
          refine lv_iload_n hx hb dX7_misses_53 rfl (lv_at hl 3 rfl) ?_
          refine lv_iload hx hb dX7_misses_54 (lv_at hl 6 rfl) ?_
          obtain ⟨v17, e16, h⟩ := ob h
          refine m_callI hX hn hw (n := 3) (As := [.int p0, .int p1, .int p4]) (rest := []) (c_X7_can g l hn cs p0 p1 p4 t v17 e16) gX7_misses_X7_can rfl (by decide +kernel) rfl hl.1 rfl (Nat.le_of_ble_eq_true rfl) ⟨by decide, by decide⟩ dX7_misses_56 (fun H lc cn sn hw => ?_)
          refine lv_if_eq (tgt := 66) hx hb dX7_misses_59 (by decide) (fun c18 => ?_) (fun c18 => ?_)
          · replace h := ot c18 h
            refine lv_iconst (v := 3) hx hb dX7_misses_66 (by decide) ?_
            replace h := (Option.some.inj h).symm
            replace h := raj19 _ h
            exact haj21 _ _ _ _ _ _ h hw (lv_sub hl [] rfl)
          · replace h := oe c18 h
            refine lv_iconst (v := 0) hx hb dX7_misses_62 (by decide) ?_
            refine lv_goto (tgt := 67) hx hb dX7_misses_63 (by decide) ?_
            replace h := (Option.some.inj h).symm
            replace h := raj19 _ h
            exact haj21 _ _ _ _ _ _ h hw (lv_sub hl [] rfl)
        · replace h := ot c15 h
          replace h := (Option.some.inj h).symm
          exact haj19 _ _ _ _ _ h hw (lv_sub hl [] rfl)
    · replace h := ot c9 h
      refine lv_iconst (v := 1) hx hb dX7_misses_28 (by decide) ?_
      refine lv_goto (tgt := 67) hx hb dX7_misses_29 (by decide) ?_
      replace h := (Option.some.inj h).symm
      exact haj21 _ _ _ _ _ _ h hw (lv_sub hl [] rfl)
  replace h := h1aj22
  obtain ⟨aj7, h1aj7, kaj7, raj7⟩ := ol0 h
  have haj7 : ∀ (H : Heap) (lc : List Loc) (cn sn : Nat) (ls : Array Slot), aj7 = Sum.inl () → wH g s.heap.size (cs, t) H lc → lv_has ls 7 [(0, .ref (gmd g 32)), (1, .int p0), (2, .int p1), (3, .int p2), (4, .int p3), (5, .int p4)] → W p l e (rmO g 2 46 s.heap) s mi args below meth cd H lc cn sn Q (F0 mi 20 ls []) := by
    intro H lc cn sn ls h hw hl
    replace h := kaj7 h
    refine lv_iconst (v := 0) hx hb dX7_misses_20 (by decide) ?_
    replace h := (Option.some.inj h).symm
    exact haj22 _ _ _ _ _ _ h hw (lv_sub hl [0, 1, 2, 3, 4, 5] rfl)
  replace h := h1aj7
  refine lv_if_eq (tgt := 20) hx hb dX7_misses_5 (by decide) (fun c3 => ?_) (fun c3 => ?_)
  · replace h := ot c3 h
    replace h := (Option.some.inj h).symm
    exact haj7 _ _ _ _ _ h hw (lv_sub hl [0, 1, 2, 3, 4, 5] rfl)
  · replace h := oe c3 h
    refine lv_aload_n hx hb dX7_misses_8 rfl (lv_at hl 0 rfl) ?_
    refine lv_iload_n hx hb dX7_misses_9 rfl (lv_at hl 2 rfl) ?_
    obtain ⟨v5, e4, h⟩ := ob h
    refine m_callI hX hn hw (n := 1) (As := [.int p1]) (rest := []) (c_X7_isStore g l hn cs p1 t v5 e4) gX7_misses_X7_isStore rfl (by decide +kernel) rfl hl.1 rfl (Nat.le_of_ble_eq_true rfl) ⟨by decide, by decide⟩ dX7_misses_10 (fun H lc cn sn hw => ?_)
    refine lv_if_eq (tgt := 20) hx hb dX7_misses_13 (by decide) (fun c6 => ?_) (fun c6 => ?_)
    · replace h := ot c6 h
      replace h := (Option.some.inj h).symm
      exact haj7 _ _ _ _ _ h hw (lv_sub hl [0, 1, 2, 3, 4, 5] rfl)
    · replace h := oe c6 h
      refine lv_iconst (v := 1) hx hb dX7_misses_16 (by decide) ?_
      refine lv_goto (tgt := 21) hx hb dX7_misses_17 (by decide) ?_
      replace h := (Option.some.inj h).symm
      replace h := raj7 _ h
      exact haj22 _ _ _ _ _ _ h hw (lv_sub hl [0, 1, 2, 3, 4, 5] rfl)

set_option maxHeartbeats 4000000 in
set_option maxRecDepth 100000 in
theorem c_X7_isCursor (g : GG) (l : Launch) (hn : gnn g 4 = 1) (cs : CS) (p0 : Int32) (t : MS) (r : Int32) (h : x_X7_isCursor p0 t = some r) : MetI g l yX7_isCursor wsX7_isCursor 1 22 [.ref (gmd g 32), .int p0] (cs, t) r (cs, t) := by
  refine mZ_start (own := RX7) (by decide +kernel) rfl rfl (Nat.le_of_ble_eq_true rfl) ?_
  intro p e s mi args below meth cd ls Q hX hw hl hret
  have hl : lv_has ls 2 [(0, .ref (gmd g 32)), (1, .int p0)] := hl
  obtain ⟨⟨hx, hb, -, hown, hts⟩, -⟩ := id hX
  unfold x_X7_isCursor at h
  refine lv_iload_n hx hb dX7_isCursor_0 rfl (lv_at hl 1 rfl) ?_
  refine lv_iconst (v := 0) hx hb dX7_isCursor_1 (by decide) ?_
  refine lv_aload_n hx hb dX7_isCursor_2 rfl (lv_at hl 0 rfl) ?_
  refine m_gf hX hn hw 23 (v := .int (gs t 23)) (by decide +kernel) (by decide) (by decide +kernel) rfl dX7_isCursor_3 ?_
  refine lv_iconst (v := 1) hx hb dX7_isCursor_6 (by decide) ?_
  refine lv_isub hx hb dX7_isCursor_7 ?_
  obtain ⟨v2, e1, h⟩ := ob h
  refine tw_callSI hX hw (n := 3) (As := [.int p0, .int 0, .int ((gs t 23) - 1)]) (rest := []) (c_X7_isIn g l hn cs p0 0 ((gs t 23) - 1) t v2 e1) gX7_isCursor_X7_isIn rfl (by decide +kernel) rfl hl.1 rfl (Nat.le_of_ble_eq_true rfl) ⟨by decide, by decide⟩ dX7_isCursor_8 (fun H lc cn sn hw => ?_)
  obtain ⟨c3, h⟩ := og h
  replace h := (Option.some.inj h).symm
  exact hret _ _ _ _ _ _ _ dX7_isCursor_11 c3 hw h.symm

set_option maxHeartbeats 4000000 in
set_option maxRecDepth 100000 in
theorem c_X7_entry (g : GG) (l : Launch) (hn : gnn g 4 = 1) (cs : CS) (p0 : Int32) (p1 : Int32) (t : MS) (r : Int32) (h : x_X7_entry p0 p1 t = some r) : MetI g l yX7_entry wsX7_entry 0 0 [.ref (gmd g 32), .int p0, .int p1] (cs, t) r (cs, t) := by
  refine mI_start (own := RX7) (by decide +kernel) rfl rfl (Nat.le_of_ble_eq_true rfl) ?_
  intro p e s mi args below meth cd ls Q hX hw hl hret
  have hl : lv_has ls 3 [(0, .ref (gmd g 32)), (1, .int p0), (2, .int p1)] := hl
  obtain ⟨⟨hx, hb, -, hown, hts⟩, -⟩ := id hX
  unfold x_X7_entry at h
  refine lv_aload_n hx hb dX7_entry_0 rfl (lv_at hl 0 rfl) ?_
  refine m_gf hX hn hw 26 (v := .ref (gmd g 26)) (by decide +kernel) (by decide) (by decide +kernel) rfl dX7_entry_1 ?_
  refine lv_iload_n hx hb dX7_entry_4 rfl (lv_at hl 1 rfl) ?_
  obtain ⟨c1, h⟩ := og h
  refine m_ld hX hn hw 26 (by decide) (by decide) rfl c1 dX7_entry_5 ?_
  refine lv_iconst (v := (-1)) hx hb dX7_entry_6 (by decide) ?_
  obtain ⟨aj6, h1aj6, kaj6⟩ := ob1 h
  have haj6 : ∀ (v5 : Int32) (H : Heap) (lc : List Loc) (cn sn : Nat) (ls : Array Slot), aj6 = v5 → wH g s.heap.size (cs, t) H lc → lv_has ls 3 [] → W p l e (rmO g 0 0 s.heap) s mi args below meth cd H lc cn sn Q (F0 mi 29 ls [.int v5]) := by
    intro v5 H lc cn sn ls h hw hl
    replace h := kaj6 _ h
    replace h := (Option.some.inj h).symm
    exact hret _ _ _ _ _ _ _ dX7_entry_29 hw h.symm
  replace h := h1aj6
  refine lv_icmp_ne (tgt := 14) hx hb dX7_entry_7 (by decide) (fun c2 => ?_) (fun c2 => ?_)
  · replace h := oe c2 h
    refine lv_aload_n hx hb dX7_entry_14 rfl (lv_at hl 0 rfl) ?_
    refine m_gf hX hn hw 11 (v := .ref (gmd g 11)) (by decide +kernel) (by decide) (by decide +kernel) rfl dX7_entry_15 ?_
    refine lv_iconst (v := 2) hx hb dX7_entry_18 (by decide) ?_
    refine lv_iload_n hx hb dX7_entry_19 rfl (lv_at hl 2 rfl) ?_
    refine lv_imul hx hb dX7_entry_20 ?_
    refine lv_aload_n hx hb dX7_entry_21 rfl (lv_at hl 0 rfl) ?_
    refine m_gf hX hn hw 26 (v := .ref (gmd g 26)) (by decide +kernel) (by decide) (by decide +kernel) rfl dX7_entry_22 ?_
    refine lv_iload_n hx hb dX7_entry_25 rfl (lv_at hl 1 rfl) ?_
    obtain ⟨c3, h⟩ := og h
    refine m_ld hX hn hw 26 (by decide) (by decide) rfl c3 dX7_entry_26 ?_
    refine lv_iadd hx hb dX7_entry_27 ?_
    obtain ⟨c4, h⟩ := og h
    refine m_ld hX hn hw 11 (by decide) (by decide) rfl c4 dX7_entry_28 ?_
    replace h := (Option.some.inj h).symm
    exact haj6 _ _ _ _ _ _ h hw (lv_sub hl [] rfl)
  · replace h := ot c2 h
    refine lv_iconst (v := 0) hx hb dX7_entry_10 (by decide) ?_
    refine lv_goto (tgt := 29) hx hb dX7_entry_11 (by decide) ?_
    replace h := (Option.some.inj h).symm
    exact haj6 _ _ _ _ _ _ h hw (lv_sub hl [] rfl)

set_option maxHeartbeats 4000000 in
set_option maxRecDepth 100000 in
theorem c_X7_apart (g : GG) (l : Launch) (hn : gnn g 4 = 1) (cs : CS) (p0 : Int32) (p1 : Int32) (p2 : Int32) (p3 : Int32) (t : MS) (r : Int32) (h : x_X7_apart p0 p1 p2 p3 = some r) : MetI g l yX7_apart wsX7_apart 1 21 [.int p0, .int p1, .int p2, .int p3] (cs, t) r (cs, t) := by
  refine mI_start (own := RX7) (by decide +kernel) rfl rfl (Nat.le_of_ble_eq_true rfl) ?_
  intro p e s mi args below meth cd ls Q hX hw hl hret
  have hl : lv_has ls 4 [(0, .int p0), (1, .int p1), (2, .int p2), (3, .int p3)] := hl
  obtain ⟨⟨hx, hb, -, hown, hts⟩, -⟩ := id hX
  unfold x_X7_apart at h
  refine lv_iload_n hx hb dX7_apart_0 rfl (lv_at hl 0 rfl) ?_
  refine lv_iload_n hx hb dX7_apart_1 rfl (lv_at hl 2 rfl) ?_
  obtain ⟨aj10, h1aj10, kaj10⟩ := ob1 h
  have haj10 : ∀ (v9 : Int32) (H : Heap) (lc : List Loc) (cn sn : Nat) (ls : Array Slot), aj10 = v9 → wH g s.heap.size (cs, t) H lc → lv_has ls 4 [] → W p l e (rmO g 1 21 s.heap) s mi args below meth cd H lc cn sn Q (F0 mi 43 ls [.int v9]) := by
    intro v9 H lc cn sn ls h hw hl
    replace h := kaj10 _ h
    replace h := (Option.some.inj h).symm
    exact hret _ _ _ _ _ _ _ dX7_apart_43 hw h.symm
  replace h := h1aj10
  refine lv_icmp_eq (tgt := 18) hx hb dX7_apart_2 (by decide) (fun c1 => ?_) (fun c1 => ?_)
  · replace h := ot c1 h
    refine lv_iload_n hx hb dX7_apart_18 rfl (lv_at hl 1 rfl) ?_
    obtain ⟨v3, e2, h⟩ := ob h
    refine tw_callSI hX hw (n := 1) (As := [.int p1]) (rest := []) (c_X7_rank g l hn cs p1 t v3 e2) gX7_apart_X7_rank rfl (by decide +kernel) rfl hl.1 rfl (Nat.le_of_ble_eq_true rfl) ⟨by decide, by decide⟩ dX7_apart_19 (fun H lc cn sn hw => ?_)
    refine lv_iload_n hx hb dX7_apart_22 rfl (lv_at hl 3 rfl) ?_
    obtain ⟨v5, e4, h⟩ := ob h
    refine tw_callSI hX hw (n := 1) (As := [.int p3]) (rest := [.int v3]) (c_X7_rank g l hn cs p3 t v5 e4) gX7_apart_X7_rank rfl (by decide +kernel) rfl hl.1 rfl (Nat.le_of_ble_eq_true rfl) ⟨by decide, by decide⟩ dX7_apart_23 (fun H lc cn sn hw => ?_)
    refine lv_icmp_ge (tgt := 33) hx hb dX7_apart_26 (by decide) (fun c6 => ?_) (fun c6 => ?_)
    · replace h := ot c6 h
      refine lv_iload_n hx hb dX7_apart_33 rfl (lv_at hl 1 rfl) ?_
      refine lv_iload_n hx hb dX7_apart_34 rfl (lv_at hl 3 rfl) ?_
      refine lv_icmp_ne (tgt := 42) hx hb dX7_apart_35 (by decide) (fun c7 => ?_) (fun c7 => ?_)
      · replace h := oe c7 h
        refine lv_iconst (v := 1) hx hb dX7_apart_42 (by decide) ?_
        replace h := (Option.some.inj h).symm
        exact haj10 _ _ _ _ _ _ h hw (lv_sub hl [] rfl)
      · replace h := ot c7 h
        refine lv_iconst (v := 0) hx hb dX7_apart_38 (by decide) ?_
        refine lv_goto (tgt := 43) hx hb dX7_apart_39 (by decide) ?_
        replace h := (Option.some.inj h).symm
        exact haj10 _ _ _ _ _ _ h hw (lv_sub hl [] rfl)
    · replace h := oe c6 h
      refine lv_iconst (v := (-1)) hx hb dX7_apart_29 (by decide) ?_
      refine lv_goto (tgt := 43) hx hb dX7_apart_30 (by decide) ?_
      replace h := (Option.some.inj h).symm
      exact haj10 _ _ _ _ _ _ h hw (lv_sub hl [] rfl)
  · replace h := oe c1 h
    refine lv_iload_n hx hb dX7_apart_5 rfl (lv_at hl 0 rfl) ?_
    refine lv_iload_n hx hb dX7_apart_6 rfl (lv_at hl 2 rfl) ?_
    refine lv_icmp_ge (tgt := 14) hx hb dX7_apart_7 (by decide) (fun c8 => ?_) (fun c8 => ?_)
    · replace h := ot c8 h
      refine lv_iconst (v := 1) hx hb dX7_apart_14 (by decide) ?_
      refine lv_goto (tgt := 43) hx hb dX7_apart_15 (by decide) ?_
      replace h := (Option.some.inj h).symm
      exact haj10 _ _ _ _ _ _ h hw (lv_sub hl [] rfl)
    · replace h := oe c8 h
      refine lv_iconst (v := (-1)) hx hb dX7_apart_10 (by decide) ?_
      refine lv_goto (tgt := 43) hx hb dX7_apart_11 (by decide) ?_
      replace h := (Option.some.inj h).symm
      exact haj10 _ _ _ _ _ _ h hw (lv_sub hl [] rfl)

set_option maxHeartbeats 4000000 in
set_option maxRecDepth 100000 in
theorem c_X7_isBehind (g : GG) (l : Launch) (hn : gnn g 4 = 1) (cs : CS) (p0 : Int32) (p1 : Int32) (t : MS) (r : Int32) (h : x_X7_isBehind p0 p1 t = some r) : MetI g l yX7_isBehind wsX7_isBehind 2 44 [.ref (gmd g 32), .int p0, .int p1] (cs, t) r (cs, t) := by
  refine mZ_start (own := RX7) (by decide +kernel) rfl rfl (Nat.le_of_ble_eq_true rfl) ?_
  intro p e s mi args below meth cd ls Q hX hw hl hret
  have hl : lv_has ls 6 [(0, .ref (gmd g 32)), (1, .int p0), (2, .int p1)] := hl
  obtain ⟨⟨hx, hb, -, hown, hts⟩, -⟩ := id hX
  unfold x_X7_isBehind at h
  refine lv_aload_n hx hb dX7_isBehind_0 rfl (lv_at hl 0 rfl) ?_
  refine lv_iload_n hx hb dX7_isBehind_1 rfl (lv_at hl 1 rfl) ?_
  refine lv_iload_n hx hb dX7_isBehind_2 rfl (lv_at hl 2 rfl) ?_
  obtain ⟨v2, e1, h⟩ := ob h
  refine m_callI hX hn hw (n := 2) (As := [.int p0, .int p1]) (rest := []) (c_X7_entry g l hn cs p0 p1 t v2 e1) gX7_isBehind_X7_entry rfl (by decide +kernel) rfl hl.1 rfl (Nat.le_of_ble_eq_true rfl) ⟨by decide, by decide⟩ dX7_isBehind_3 (fun H lc cn sn hw => ?_)
  refine lv_istore_n (lv' := [(3, .int v2), (0, .ref (gmd g 32)), (1, .int p0), (2, .int p1)]) hx hb dX7_isBehind_6 rfl hl (by decide) rfl (fun ls hl => ?_)
  refine lv_aload_n hx hb dX7_isBehind_7 rfl (lv_at hl 1 rfl) ?_
  refine m_gf hX hn hw 27 (v := .ref (gmd g 27)) (by decide +kernel) (by decide) (by decide +kernel) rfl dX7_isBehind_8 ?_
  refine lv_iload_n hx hb dX7_isBehind_11 rfl (lv_at hl 2 rfl) ?_
  obtain ⟨c3, h⟩ := og h
  refine m_ld hX hn hw 27 (by decide) (by decide) rfl c3 dX7_isBehind_12 ?_
  refine lv_iconst (v := 2) hx hb dX7_isBehind_13 (by decide) ?_
  refine lv_irem hx hb dX7_isBehind_14 (by decide) ?_
  refine lv_iconst (v := 1) hx hb dX7_isBehind_15 (by decide) ?_
  obtain ⟨aj38, h1aj38, kaj38⟩ := ob1 h
  have haj38 : ∀ (v5 : Int32) (H : Heap) (lc : List Loc) (cn sn : Nat) (ls : Array Slot), aj38 = v5 → wH g s.heap.size (cs, t) H lc → lv_has ls 6 [(3, .int v2), (0, .ref (gmd g 32)), (1, .int p0), (2, .int p1)] → W p l e (rmO g 2 44 s.heap) s mi args below meth cd H lc cn sn Q (F0 mi 24 ls [.int v5]) := by
    intro v5 H lc cn sn ls h hw hl
    replace h := kaj38 _ h
    refine lv_istore (lv' := [(4, .int v5), (3, .int v2), (0, .ref (gmd g 32)), (1, .int p0), (2, .int p1)]) hx hb dX7_isBehind_24 hl (by decide) rfl (fun ls hl => ?_)
    refine lv_iload_n hx hb dX7_isBehind_26 rfl (lv_at hl 1 rfl) ?_
    refine lv_iconst (v := (-1)) hx hb dX7_isBehind_27 (by decide) ?_
    obtain ⟨aj37, h1aj37, kaj37, raj37⟩ := ol0 h
    have haj37 : ∀ (H : Heap) (lc : List Loc) (cn sn : Nat) (ls : Array Slot), aj37 = Sum.inl () → wH g s.heap.size (cs, t) H lc → lv_has ls 6 [(3, .int v2)] → W p l e (rmO g 2 44 s.heap) s mi args below meth cd H lc cn sn Q (F0 mi 40 ls []) := by
      intro H lc cn sn ls h hw hl
      replace h := kaj37 h
      refine lv_iload_n hx hb dX7_isBehind_40 rfl (lv_at hl 0 rfl) ?_
      refine lv_iconst (v := (-1)) hx hb dX7_isBehind_41 (by decide) ?_
      obtain ⟨aj36, h1aj36, kaj36⟩ := ob1 h
      have haj36 : ∀ (v34 : Int32) (H : Heap) (lc : List Loc) (cn sn : Nat) (ls : Array Slot), aj36 = v34 → wH g s.heap.size (cs, t) H lc → lv_has ls 6 [] → W p l e (rmO g 2 44 s.heap) s mi args below meth cd H lc cn sn Q (F0 mi 50 ls [.int v34]) := by
        intro v34 H lc cn sn ls h hw hl
        replace h := kaj36 _ h
        obtain ⟨c35, h⟩ := og h
        replace h := (Option.some.inj h).symm
        exact hret _ _ _ _ _ _ _ dX7_isBehind_50 c35 hw h.symm
      replace h := h1aj36
      refine lv_icmp_eq (tgt := 49) hx hb dX7_isBehind_42 (by decide) (fun c33 => ?_) (fun c33 => ?_)
      · replace h := ot c33 h
        refine lv_iconst (v := 0) hx hb dX7_isBehind_49 (by decide) ?_
        replace h := (Option.some.inj h).symm
        exact haj36 _ _ _ _ _ _ h hw (lv_sub hl [] rfl)
      · replace h := oe c33 h
        refine lv_iconst (v := 1) hx hb dX7_isBehind_45 (by decide) ?_
        refine lv_goto (tgt := 50) hx hb dX7_isBehind_46 (by decide) ?_
        replace h := (Option.some.inj h).symm
        exact haj36 _ _ _ _ _ _ h hw (lv_sub hl [] rfl)
    replace h := h1aj37
    refine lv_icmp_eq (tgt := 40) hx hb dX7_isBehind_28 (by decide) (fun c6 => ?_) (fun c6 => ?_)
    · replace h := ot c6 h
      replace h := (Option.some.inj h).symm
      exact haj37 _ _ _ _ _ h hw (lv_sub hl [1] rfl)
    · replace h := oe c6 h
      refine lv_aload_n hx hb dX7_isBehind_31 rfl (lv_at hl 2 rfl) ?_
      refine m_gf hX hn hw 28 (v := .ref (gmd g 28)) (by decide +kernel) (by decide) (by decide +kernel) rfl dX7_isBehind_32 ?_
      refine lv_iload_n hx hb dX7_isBehind_35 rfl (lv_at hl 3 rfl) ?_
      obtain ⟨c7, h⟩ := og h
      refine m_ld hX hn hw 28 (by decide) (by decide) rfl c7 dX7_isBehind_36 ?_
      refine lv_if_ne (tgt := 51) hx hb dX7_isBehind_37 (by decide) (fun c8 => ?_) (fun c8 => ?_)
      · replace h := oe c8 h
        refine lv_aload_n hx hb dX7_isBehind_51 rfl (lv_at hl 2 rfl) ?_
        refine m_gf hX hn hw 27 (v := .ref (gmd g 27)) (by decide +kernel) (by decide) (by decide +kernel) rfl dX7_isBehind_52 ?_
        refine lv_iload_n hx hb dX7_isBehind_55 rfl (lv_at hl 3 rfl) ?_
        obtain ⟨c9, h⟩ := og h
        refine m_ld hX hn hw 27 (by decide) (by decide) rfl c9 dX7_isBehind_56 ?_
        refine lv_iconst (v := 1) hx hb dX7_isBehind_57 (by decide) ?_
        obtain ⟨aj32, h1aj32, kaj32, raj32⟩ := ol0 h
        have haj32 : ∀ (H : Heap) (lc : List Loc) (cn sn : Nat) (ls : Array Slot), aj32 = Sum.inl () → wH g s.heap.size (cs, t) H lc → lv_has ls 6 [(4, .int v5), (3, .int v2), (0, .ref (gmd g 32)), (1, .int p0), (2, .int p1)] → W p l e (rmO g 2 44 s.heap) s mi args below meth cd H lc cn sn Q (F0 mi 110 ls []) := by
          intro H lc cn sn ls h hw hl
          replace h := kaj32 h
          refine lv_iload_n hx hb dX7_isBehind_110 rfl (lv_at hl 1 rfl) ?_
          refine lv_aload_n hx hb dX7_isBehind_111 rfl (lv_at hl 2 rfl) ?_
          refine m_gf hX hn hw 9 (v := .ref (gmd g 9)) (by decide +kernel) (by decide) (by decide +kernel) rfl dX7_isBehind_112 ?_
          refine lv_iload_n hx hb dX7_isBehind_115 rfl (lv_at hl 4 rfl) ?_
          obtain ⟨c21, h⟩ := og h
          refine m_ld hX hn hw 9 (by decide) (by decide) rfl c21 dX7_isBehind_116 ?_
          refine lv_aload_n hx hb dX7_isBehind_117 rfl (lv_at hl 2 rfl) ?_
          refine m_gf hX hn hw 29 (v := .ref (gmd g 29)) (by decide +kernel) (by decide) (by decide +kernel) rfl dX7_isBehind_118 ?_
          refine lv_iload_n hx hb dX7_isBehind_121 rfl (lv_at hl 3 rfl) ?_
          obtain ⟨c22, h⟩ := og h
          refine m_ld hX hn hw 29 (by decide) (by decide) rfl c22 dX7_isBehind_122 ?_
          refine lv_aload_n hx hb dX7_isBehind_123 rfl (lv_at hl 2 rfl) ?_
          refine m_gf hX hn hw 30 (v := .ref (gmd g 30)) (by decide +kernel) (by decide) (by decide +kernel) rfl dX7_isBehind_124 ?_
          refine lv_iload_n hx hb dX7_isBehind_127 rfl (lv_at hl 3 rfl) ?_
          obtain ⟨c23, h⟩ := og h
          refine m_ld hX hn hw 30 (by decide) (by decide) rfl c23 dX7_isBehind_128 ?_
          obtain ⟨v25, e24, h⟩ := ob h
          refine tw_callSI hX hw (n := 4) (As := [.int v2, .int (ga t 9 p1.toNatClampNeg), .int (ga t 29 p0.toNatClampNeg), .int (ga t 30 p0.toNatClampNeg)]) (rest := []) (c_X7_apart g l hn cs v2 (ga t 9 p1.toNatClampNeg) (ga t 29 p0.toNatClampNeg) (ga t 30 p0.toNatClampNeg) t v25 e24) gX7_isBehind_X7_apart rfl (by decide +kernel) rfl hl.1 rfl (Nat.le_of_ble_eq_true rfl) ⟨by decide, by decide⟩ dX7_isBehind_129 (fun H lc cn sn hw => ?_)
          refine lv_istore (lv' := [(5, .int v25), (4, .int v5), (3, .int v2), (0, .ref (gmd g 32)), (1, .int p0), (2, .int p1)]) hx hb dX7_isBehind_132 hl (by decide) rfl (fun ls hl => ?_)
          refine lv_iload hx hb dX7_isBehind_134 (lv_at hl 1 rfl) ?_
          obtain ⟨aj31, h1aj31, kaj31⟩ := ob1 h
          have haj31 : ∀ (v29 : Int32) (H : Heap) (lc : List Loc) (cn sn : Nat) (ls : Array Slot), aj31 = v29 → wH g s.heap.size (cs, t) H lc → lv_has ls 6 [] → W p l e (rmO g 2 44 s.heap) s mi args below meth cd H lc cn sn Q (F0 mi 162 ls [.int v29]) := by
            intro v29 H lc cn sn ls h hw hl
            replace h := kaj31 _ h
            obtain ⟨c30, h⟩ := og h
            replace h := (Option.some.inj h).symm
            replace h := raj37 _ h
            exact hret _ _ _ _ _ _ _ dX7_isBehind_162 c30 hw h.symm
          replace h := h1aj31
          refine lv_if_eq (tgt := 152) hx hb dX7_isBehind_136 (by decide) (fun c26 => ?_) (fun c26 => ?_)
          · replace h := ot c26 h
            refine lv_iload hx hb dX7_isBehind_152 (lv_at hl 0 rfl) ?_
            refine lv_if_le (tgt := 161) hx hb dX7_isBehind_154 (by decide) (fun c27 => ?_) (fun c27 => ?_)
            · replace h := ot c27 h
              refine lv_iconst (v := 0) hx hb dX7_isBehind_161 (by decide) ?_
              replace h := (Option.some.inj h).symm
              exact haj31 _ _ _ _ _ _ h hw (lv_sub hl [] rfl)
            · replace h := oe c27 h
              refine lv_iconst (v := 1) hx hb dX7_isBehind_157 (by decide) ?_
              refine lv_goto (tgt := 162) hx hb dX7_isBehind_158 (by decide) ?_
              replace h := (Option.some.inj h).symm
              exact haj31 _ _ _ _ _ _ h hw (lv_sub hl [] rfl)
          · replace h := oe c26 h
            refine lv_iload hx hb dX7_isBehind_139 (lv_at hl 0 rfl) ?_
            refine lv_if_ge (tgt := 148) hx hb dX7_isBehind_141 (by decide) (fun c28 => ?_) (fun c28 => ?_)
            · replace h := ot c28 h
              refine lv_iconst (v := 0) hx hb dX7_isBehind_148 (by decide) ?_
              refine lv_goto (tgt := 162) hx hb dX7_isBehind_149 (by decide) ?_
              replace h := (Option.some.inj h).symm
              exact haj31 _ _ _ _ _ _ h hw (lv_sub hl [] rfl)
            · replace h := oe c28 h
              refine lv_iconst (v := 1) hx hb dX7_isBehind_144 (by decide) ?_
              refine lv_goto (tgt := 162) hx hb dX7_isBehind_145 (by decide) ?_
              replace h := (Option.some.inj h).symm
              exact haj31 _ _ _ _ _ _ h hw (lv_sub hl [] rfl)
        replace h := h1aj32
        refine lv_icmp_le (tgt := 110) hx hb dX7_isBehind_58 (by decide) (fun c10 => ?_) (fun c10 => ?_)
        · replace h := ot c10 h
          replace h := (Option.some.inj h).symm
          exact haj32 _ _ _ _ _ h hw (lv_sub hl [0, 1, 2, 3, 4] rfl)
        · replace h := oe c10 h
          refine lv_aload_n hx hb dX7_isBehind_61 rfl (lv_at hl 2 rfl) ?_
          refine m_gf hX hn hw 26 (v := .ref (gmd g 26)) (by decide +kernel) (by decide) (by decide +kernel) rfl dX7_isBehind_62 ?_
          refine lv_iload_n hx hb dX7_isBehind_65 rfl (lv_at hl 3 rfl) ?_
          obtain ⟨c11, h⟩ := og h
          refine m_ld hX hn hw 26 (by decide) (by decide) rfl c11 dX7_isBehind_66 ?_
          refine lv_iconst (v := (-1)) hx hb dX7_isBehind_67 (by decide) ?_
          refine lv_icmp_eq (tgt := 110) hx hb dX7_isBehind_68 (by decide) (fun c12 => ?_) (fun c12 => ?_)
          · replace h := ot c12 h
            replace h := (Option.some.inj h).symm
            exact haj32 _ _ _ _ _ h hw (lv_sub hl [0, 1, 2, 3, 4] rfl)
          · replace h := oe c12 h
            refine lv_iload hx hb dX7_isBehind_71 (lv_at hl 0 rfl) ?_
            obtain ⟨aj20, h1aj20, kaj20⟩ := ob1 h
            have haj20 : ∀ (v18 : Int32) (H : Heap) (lc : List Loc) (cn sn : Nat) (ls : Array Slot), aj20 = v18 → wH g s.heap.size (cs, t) H lc → lv_has ls 6 [] → W p l e (rmO g 2 44 s.heap) s mi args below meth cd H lc cn sn Q (F0 mi 109 ls [.int v18]) := by
              intro v18 H lc cn sn ls h hw hl
              replace h := kaj20 _ h
              obtain ⟨c19, h⟩ := og h
              replace h := (Option.some.inj h).symm
              replace h := raj32 _ h
              replace h := raj37 _ h
              exact hret _ _ _ _ _ _ _ dX7_isBehind_109 c19 hw h.symm
            replace h := h1aj20
            refine lv_if_eq (tgt := 94) hx hb dX7_isBehind_73 (by decide) (fun c13 => ?_) (fun c13 => ?_)
            · replace h := ot c13 h
              refine lv_iload_n hx hb dX7_isBehind_94 rfl (lv_at hl 1 rfl) ?_
              refine lv_aload_n hx hb dX7_isBehind_95 rfl (lv_at hl 2 rfl) ?_
              refine m_gf hX hn hw 29 (v := .ref (gmd g 29)) (by decide +kernel) (by decide) (by decide +kernel) rfl dX7_isBehind_96 ?_
              refine lv_iload_n hx hb dX7_isBehind_99 rfl (lv_at hl 3 rfl) ?_
              obtain ⟨c14, h⟩ := og h
              refine m_ld hX hn hw 29 (by decide) (by decide) rfl c14 dX7_isBehind_100 ?_
              refine lv_icmp_le (tgt := 108) hx hb dX7_isBehind_101 (by decide) (fun c15 => ?_) (fun c15 => ?_)
              · replace h := ot c15 h
                refine lv_iconst (v := 0) hx hb dX7_isBehind_108 (by decide) ?_
                replace h := (Option.some.inj h).symm
                exact haj20 _ _ _ _ _ _ h hw (lv_sub hl [] rfl)
              · replace h := oe c15 h
                refine lv_iconst (v := 1) hx hb dX7_isBehind_104 (by decide) ?_
                refine lv_goto (tgt := 109) hx hb dX7_isBehind_105 (by decide) ?_
                replace h := (Option.some.inj h).symm
                exact haj20 _ _ _ _ _ _ h hw (lv_sub hl [] rfl)
            · replace h := oe c13 h
              refine lv_iload_n hx hb dX7_isBehind_76 rfl (lv_at hl 1 rfl) ?_
              refine lv_aload_n hx hb dX7_isBehind_77 rfl (lv_at hl 2 rfl) ?_
              refine m_gf hX hn hw 29 (v := .ref (gmd g 29)) (by decide +kernel) (by decide) (by decide +kernel) rfl dX7_isBehind_78 ?_
              refine lv_iload_n hx hb dX7_isBehind_81 rfl (lv_at hl 3 rfl) ?_
              obtain ⟨c16, h⟩ := og h
              refine m_ld hX hn hw 29 (by decide) (by decide) rfl c16 dX7_isBehind_82 ?_
              refine lv_icmp_ge (tgt := 90) hx hb dX7_isBehind_83 (by decide) (fun c17 => ?_) (fun c17 => ?_)
              · replace h := ot c17 h
                refine lv_iconst (v := 0) hx hb dX7_isBehind_90 (by decide) ?_
                refine lv_goto (tgt := 109) hx hb dX7_isBehind_91 (by decide) ?_
                replace h := (Option.some.inj h).symm
                exact haj20 _ _ _ _ _ _ h hw (lv_sub hl [] rfl)
              · replace h := oe c17 h
                refine lv_iconst (v := 1) hx hb dX7_isBehind_86 (by decide) ?_
                refine lv_goto (tgt := 109) hx hb dX7_isBehind_87 (by decide) ?_
                replace h := (Option.some.inj h).symm
                exact haj20 _ _ _ _ _ _ h hw (lv_sub hl [] rfl)
      · replace h := ot c8 h
        replace h := (Option.some.inj h).symm
        exact haj37 _ _ _ _ _ h hw (lv_sub hl [1] rfl)
  replace h := h1aj38
  refine lv_icmp_ne (tgt := 23) hx hb dX7_isBehind_16 (by decide) (fun c4 => ?_) (fun c4 => ?_)
  · replace h := oe c4 h
    refine lv_iconst (v := 0) hx hb dX7_isBehind_23 (by decide) ?_
    replace h := (Option.some.inj h).symm
    exact haj38 _ _ _ _ _ _ h hw (lv_sub hl [0, 1, 2, 3] rfl)
  · replace h := ot c4 h
    refine lv_iconst (v := 1) hx hb dX7_isBehind_19 (by decide) ?_
    refine lv_goto (tgt := 24) hx hb dX7_isBehind_20 (by decide) ?_
    replace h := (Option.some.inj h).symm
    exact haj38 _ _ _ _ _ _ h hw (lv_sub hl [0, 1, 2, 3] rfl)

set_option maxHeartbeats 4000000 in
set_option maxRecDepth 100000 in
theorem c_X7_isSooner (g : GG) (l : Launch) (hn : gnn g 4 = 1) (cs : CS) (p0 : Int32) (p1 : Int32) (p2 : Int32) (t : MS) (r : Int32) (h : x_X7_isSooner p0 p1 p2 t = some r) : MetI g l yX7_isSooner wsX7_isSooner 2 44 [.ref (gmd g 32), .int p0, .int p1, .int p2] (cs, t) r (cs, t) := by
  refine mZ_start (own := RX7) (by decide +kernel) rfl rfl (Nat.le_of_ble_eq_true rfl) ?_
  intro p e s mi args below meth cd ls Q hX hw hl hret
  have hl : lv_has ls 8 [(0, .ref (gmd g 32)), (1, .int p0), (2, .int p1), (3, .int p2)] := hl
  obtain ⟨⟨hx, hb, -, hown, hts⟩, -⟩ := id hX
  unfold x_X7_isSooner at h
  refine lv_aload_n hx hb dX7_isSooner_0 rfl (lv_at hl 0 rfl) ?_
  refine lv_iload_n hx hb dX7_isSooner_1 rfl (lv_at hl 1 rfl) ?_
  refine lv_iload_n hx hb dX7_isSooner_2 rfl (lv_at hl 2 rfl) ?_
  obtain ⟨v2, e1, h⟩ := ob h
  refine m_callI hX hn hw (n := 2) (As := [.int p0, .int p1]) (rest := []) (c_X7_entry g l hn cs p0 p1 t v2 e1) gX7_isSooner_X7_entry rfl (by decide +kernel) rfl hl.1 rfl (Nat.le_of_ble_eq_true rfl) ⟨by decide, by decide⟩ dX7_isSooner_3 (fun H lc cn sn hw => ?_)
  refine lv_istore (lv' := [(4, .int v2), (0, .ref (gmd g 32)), (1, .int p0), (2, .int p1), (3, .int p2)]) hx hb dX7_isSooner_6 hl (by decide) rfl (fun ls hl => ?_)
  refine lv_aload_n hx hb dX7_isSooner_8 rfl (lv_at hl 1 rfl) ?_
  refine lv_iload_n hx hb dX7_isSooner_9 rfl (lv_at hl 2 rfl) ?_
  refine lv_iload_n hx hb dX7_isSooner_10 rfl (lv_at hl 4 rfl) ?_
  obtain ⟨v4, e3, h⟩ := ob h
  refine m_callI hX hn hw (n := 2) (As := [.int p0, .int p2]) (rest := []) (c_X7_entry g l hn cs p0 p2 t v4 e3) gX7_isSooner_X7_entry rfl (by decide +kernel) rfl hl.1 rfl (Nat.le_of_ble_eq_true rfl) ⟨by decide, by decide⟩ dX7_isSooner_11 (fun H lc cn sn hw => ?_)
  refine lv_istore (lv' := [(5, .int v4), (4, .int v2), (0, .ref (gmd g 32)), (1, .int p0), (2, .int p1), (3, .int p2)]) hx hb dX7_isSooner_14 hl (by decide) rfl (fun ls hl => ?_)
  refine lv_aload_n hx hb dX7_isSooner_16 rfl (lv_at hl 2 rfl) ?_
  refine m_gf hX hn hw 27 (v := .ref (gmd g 27)) (by decide +kernel) (by decide) (by decide +kernel) rfl dX7_isSooner_17 ?_
  refine lv_iload_n hx hb dX7_isSooner_20 rfl (lv_at hl 3 rfl) ?_
  obtain ⟨c5, h⟩ := og h
  refine m_ld hX hn hw 27 (by decide) (by decide) rfl c5 dX7_isSooner_21 ?_
  refine lv_iconst (v := 2) hx hb dX7_isSooner_22 (by decide) ?_
  refine lv_irem hx hb dX7_isSooner_23 (by decide) ?_
  refine lv_iconst (v := 1) hx hb dX7_isSooner_24 (by decide) ?_
  obtain ⟨aj34, h1aj34, kaj34⟩ := ob1 h
  have haj34 : ∀ (v7 : Int32) (H : Heap) (lc : List Loc) (cn sn : Nat) (ls : Array Slot), aj34 = v7 → wH g s.heap.size (cs, t) H lc → lv_has ls 8 [(5, .int v4), (4, .int v2), (0, .ref (gmd g 32)), (1, .int p0), (2, .int p1), (3, .int p2)] → W p l e (rmO g 2 44 s.heap) s mi args below meth cd H lc cn sn Q (F0 mi 33 ls [.int v7]) := by
    intro v7 H lc cn sn ls h hw hl
    replace h := kaj34 _ h
    refine lv_istore (lv' := [(6, .int v7), (5, .int v4), (4, .int v2), (0, .ref (gmd g 32)), (1, .int p0), (2, .int p1), (3, .int p2)]) hx hb dX7_isSooner_33 hl (by decide) rfl (fun ls hl => ?_)
    refine lv_aload_n hx hb dX7_isSooner_35 rfl (lv_at hl 3 rfl) ?_
    refine m_gf hX hn hw 27 (v := .ref (gmd g 27)) (by decide +kernel) (by decide) (by decide +kernel) rfl dX7_isSooner_36 ?_
    refine lv_iload_n hx hb dX7_isSooner_39 rfl (lv_at hl 4 rfl) ?_
    obtain ⟨c8, h⟩ := og h
    refine m_ld hX hn hw 27 (by decide) (by decide) rfl c8 dX7_isSooner_40 ?_
    refine lv_iconst (v := 1) hx hb dX7_isSooner_41 (by decide) ?_
    obtain ⟨aj33, h1aj33, kaj33, raj33⟩ := ol0 h
    have haj33 : ∀ (H : Heap) (lc : List Loc) (cn sn : Nat) (ls : Array Slot), aj33 = Sum.inl () → wH g s.heap.size (cs, t) H lc → lv_has ls 8 [(6, .int v7), (5, .int v4), (4, .int v2), (0, .ref (gmd g 32)), (2, .int p1), (3, .int p2)] → W p l e (rmO g 2 44 s.heap) s mi args below meth cd H lc cn sn Q (F0 mi 89 ls []) := by
      intro H lc cn sn ls h hw hl
      replace h := kaj33 h
      refine lv_iload hx hb dX7_isSooner_89 (lv_at hl 2 rfl) ?_
      refine lv_aload_n hx hb dX7_isSooner_91 rfl (lv_at hl 3 rfl) ?_
      refine m_gf hX hn hw 9 (v := .ref (gmd g 9)) (by decide +kernel) (by decide) (by decide +kernel) rfl dX7_isSooner_92 ?_
      refine lv_iload_n hx hb dX7_isSooner_95 rfl (lv_at hl 4 rfl) ?_
      obtain ⟨c23, h⟩ := og h
      refine m_ld hX hn hw 9 (by decide) (by decide) rfl c23 dX7_isSooner_96 ?_
      refine lv_iload hx hb dX7_isSooner_97 (lv_at hl 1 rfl) ?_
      refine lv_aload_n hx hb dX7_isSooner_99 rfl (lv_at hl 3 rfl) ?_
      refine m_gf hX hn hw 9 (v := .ref (gmd g 9)) (by decide +kernel) (by decide) (by decide +kernel) rfl dX7_isSooner_100 ?_
      refine lv_iload_n hx hb dX7_isSooner_103 rfl (lv_at hl 5 rfl) ?_
      obtain ⟨c24, h⟩ := og h
      refine m_ld hX hn hw 9 (by decide) (by decide) rfl c24 dX7_isSooner_104 ?_
      obtain ⟨v26, e25, h⟩ := ob h
      refine tw_callSI hX hw (n := 4) (As := [.int v2, .int (ga t 9 p1.toNatClampNeg), .int v4, .int (ga t 9 p2.toNatClampNeg)]) (rest := []) (c_X7_apart g l hn cs v2 (ga t 9 p1.toNatClampNeg) v4 (ga t 9 p2.toNatClampNeg) t v26 e25) gX7_isSooner_X7_apart rfl (by decide +kernel) rfl hl.1 rfl (Nat.le_of_ble_eq_true rfl) ⟨by decide, by decide⟩ dX7_isSooner_105 (fun H lc cn sn hw => ?_)
      refine lv_istore (lv' := [(7, .int v26), (6, .int v7), (5, .int v4), (4, .int v2), (0, .ref (gmd g 32)), (2, .int p1), (3, .int p2)]) hx hb dX7_isSooner_108 hl (by decide) rfl (fun ls hl => ?_)
      refine lv_iload hx hb dX7_isSooner_110 (lv_at hl 1 rfl) ?_
      obtain ⟨aj32, h1aj32, kaj32⟩ := ob1 h
      have haj32 : ∀ (v30 : Int32) (H : Heap) (lc : List Loc) (cn sn : Nat) (ls : Array Slot), aj32 = v30 → wH g s.heap.size (cs, t) H lc → lv_has ls 8 [] → W p l e (rmO g 2 44 s.heap) s mi args below meth cd H lc cn sn Q (F0 mi 138 ls [.int v30]) := by
        intro v30 H lc cn sn ls h hw hl
        replace h := kaj32 _ h
        obtain ⟨c31, h⟩ := og h
        replace h := (Option.some.inj h).symm
        exact hret _ _ _ _ _ _ _ dX7_isSooner_138 c31 hw h.symm
      replace h := h1aj32
      refine lv_if_eq (tgt := 128) hx hb dX7_isSooner_112 (by decide) (fun c27 => ?_) (fun c27 => ?_)
      · replace h := ot c27 h
        refine lv_iload hx hb dX7_isSooner_128 (lv_at hl 0 rfl) ?_
        refine lv_if_ge (tgt := 137) hx hb dX7_isSooner_130 (by decide) (fun c28 => ?_) (fun c28 => ?_)
        · replace h := ot c28 h
          refine lv_iconst (v := 0) hx hb dX7_isSooner_137 (by decide) ?_
          replace h := (Option.some.inj h).symm
          exact haj32 _ _ _ _ _ _ h hw (lv_sub hl [] rfl)
        · replace h := oe c28 h
          refine lv_iconst (v := 1) hx hb dX7_isSooner_133 (by decide) ?_
          refine lv_goto (tgt := 138) hx hb dX7_isSooner_134 (by decide) ?_
          replace h := (Option.some.inj h).symm
          exact haj32 _ _ _ _ _ _ h hw (lv_sub hl [] rfl)
      · replace h := oe c27 h
        refine lv_iload hx hb dX7_isSooner_115 (lv_at hl 0 rfl) ?_
        refine lv_if_le (tgt := 124) hx hb dX7_isSooner_117 (by decide) (fun c29 => ?_) (fun c29 => ?_)
        · replace h := ot c29 h
          refine lv_iconst (v := 0) hx hb dX7_isSooner_124 (by decide) ?_
          refine lv_goto (tgt := 138) hx hb dX7_isSooner_125 (by decide) ?_
          replace h := (Option.some.inj h).symm
          exact haj32 _ _ _ _ _ _ h hw (lv_sub hl [] rfl)
        · replace h := oe c29 h
          refine lv_iconst (v := 1) hx hb dX7_isSooner_120 (by decide) ?_
          refine lv_goto (tgt := 138) hx hb dX7_isSooner_121 (by decide) ?_
          replace h := (Option.some.inj h).symm
          exact haj32 _ _ _ _ _ _ h hw (lv_sub hl [] rfl)
    replace h := h1aj33
    refine lv_icmp_le (tgt := 89) hx hb dX7_isSooner_42 (by decide) (fun c9 => ?_) (fun c9 => ?_)
    · replace h := ot c9 h
      replace h := (Option.some.inj h).symm
      exact haj33 _ _ _ _ _ h hw (lv_sub hl [0, 1, 2, 3, 5, 6] rfl)
    · replace h := oe c9 h
      refine lv_aload_n hx hb dX7_isSooner_45 rfl (lv_at hl 3 rfl) ?_
      refine m_gf hX hn hw 26 (v := .ref (gmd g 26)) (by decide +kernel) (by decide) (by decide +kernel) rfl dX7_isSooner_46 ?_
      refine lv_iload_n hx hb dX7_isSooner_49 rfl (lv_at hl 4 rfl) ?_
      obtain ⟨c10, h⟩ := og h
      refine m_ld hX hn hw 26 (by decide) (by decide) rfl c10 dX7_isSooner_50 ?_
      refine lv_iconst (v := (-1)) hx hb dX7_isSooner_51 (by decide) ?_
      refine lv_icmp_eq (tgt := 89) hx hb dX7_isSooner_52 (by decide) (fun c11 => ?_) (fun c11 => ?_)
      · replace h := ot c11 h
        replace h := (Option.some.inj h).symm
        exact haj33 _ _ _ _ _ h hw (lv_sub hl [0, 1, 2, 3, 5, 6] rfl)
      · replace h := oe c11 h
        refine lv_iload hx hb dX7_isSooner_55 (lv_at hl 2 rfl) ?_
        refine lv_iload hx hb dX7_isSooner_57 (lv_at hl 1 rfl) ?_
        refine lv_icmp_ne (tgt := 89) hx hb dX7_isSooner_59 (by decide) (fun c12 => ?_) (fun c12 => ?_)
        · replace h := oe c12 h
          replace h := (Option.some.inj h).symm
          exact haj33 _ _ _ _ _ h hw (lv_sub hl [0, 1, 2, 3, 5, 6] rfl)
        · replace h := ot c12 h
          refine lv_aload_n hx hb dX7_isSooner_62 rfl (lv_at hl 3 rfl) ?_
          refine m_gf hX hn hw 9 (v := .ref (gmd g 9)) (by decide +kernel) (by decide) (by decide +kernel) rfl dX7_isSooner_63 ?_
          refine lv_iload_n hx hb dX7_isSooner_66 rfl (lv_at hl 5 rfl) ?_
          obtain ⟨c13, h⟩ := og h
          refine m_ld hX hn hw 9 (by decide) (by decide) rfl c13 dX7_isSooner_67 ?_
          obtain ⟨v15, e14, h⟩ := ob h
          refine tw_callSI hX hw (n := 1) (As := [.int (ga t 9 p1.toNatClampNeg)]) (rest := []) (c_X7_rank g l hn cs (ga t 9 p1.toNatClampNeg) t v15 e14) gX7_isSooner_X7_rank rfl (by decide +kernel) rfl hl.1 rfl (Nat.le_of_ble_eq_true rfl) ⟨by decide, by decide⟩ dX7_isSooner_68 (fun H lc cn sn hw => ?_)
          refine lv_aload_n hx hb dX7_isSooner_71 rfl (lv_at hl 3 rfl) ?_
          refine m_gf hX hn hw 9 (v := .ref (gmd g 9)) (by decide +kernel) (by decide) (by decide +kernel) rfl dX7_isSooner_72 ?_
          refine lv_iload_n hx hb dX7_isSooner_75 rfl (lv_at hl 6 rfl) ?_
          obtain ⟨c16, h⟩ := og h
          refine m_ld hX hn hw 9 (by decide) (by decide) rfl c16 dX7_isSooner_76 ?_
          obtain ⟨v18, e17, h⟩ := ob h
          refine tw_callSI hX hw (n := 1) (As := [.int (ga t 9 p2.toNatClampNeg)]) (rest := [.int v15]) (c_X7_rank g l hn cs (ga t 9 p2.toNatClampNeg) t v18 e17) gX7_isSooner_X7_rank rfl (by decide +kernel) rfl hl.1 rfl (Nat.le_of_ble_eq_true rfl) ⟨by decide, by decide⟩ dX7_isSooner_77 (fun H lc cn sn hw => ?_)
          obtain ⟨aj22, h1aj22, kaj22⟩ := ob1 h
          have haj22 : ∀ (v20 : Int32) (H : Heap) (lc : List Loc) (cn sn : Nat) (ls : Array Slot), aj22 = v20 → wH g s.heap.size (cs, t) H lc → lv_has ls 8 [] → W p l e (rmO g 2 44 s.heap) s mi args below meth cd H lc cn sn Q (F0 mi 88 ls [.int v20]) := by
            intro v20 H lc cn sn ls h hw hl
            replace h := kaj22 _ h
            obtain ⟨c21, h⟩ := og h
            replace h := (Option.some.inj h).symm
            replace h := raj33 _ h
            exact hret _ _ _ _ _ _ _ dX7_isSooner_88 c21 hw h.symm
          replace h := h1aj22
          refine lv_icmp_ge (tgt := 87) hx hb dX7_isSooner_80 (by decide) (fun c19 => ?_) (fun c19 => ?_)
          · replace h := ot c19 h
            refine lv_iconst (v := 0) hx hb dX7_isSooner_87 (by decide) ?_
            replace h := (Option.some.inj h).symm
            exact haj22 _ _ _ _ _ _ h hw (lv_sub hl [] rfl)
          · replace h := oe c19 h
            refine lv_iconst (v := 1) hx hb dX7_isSooner_83 (by decide) ?_
            refine lv_goto (tgt := 88) hx hb dX7_isSooner_84 (by decide) ?_
            replace h := (Option.some.inj h).symm
            exact haj22 _ _ _ _ _ _ h hw (lv_sub hl [] rfl)
  replace h := h1aj34
  refine lv_icmp_ne (tgt := 32) hx hb dX7_isSooner_25 (by decide) (fun c6 => ?_) (fun c6 => ?_)
  · replace h := oe c6 h
    refine lv_iconst (v := 0) hx hb dX7_isSooner_32 (by decide) ?_
    replace h := (Option.some.inj h).symm
    exact haj34 _ _ _ _ _ _ h hw (lv_sub hl [0, 1, 2, 3, 4, 5] rfl)
  · replace h := ot c6 h
    refine lv_iconst (v := 1) hx hb dX7_isSooner_28 (by decide) ?_
    refine lv_goto (tgt := 33) hx hb dX7_isSooner_29 (by decide) ?_
    replace h := (Option.some.inj h).symm
    exact haj34 _ _ _ _ _ _ h hw (lv_sub hl [0, 1, 2, 3, 4, 5] rfl)

set_option maxHeartbeats 4000000 in
set_option maxRecDepth 100000 in
theorem c_X7_thrown (g : GG) (l : Launch) (hn : gnn g 4 = 1) (cs : CS) (t : MS) (r : Int32) (h : x_X7_thrown t = some r) : MetI g l yX7_thrown wsX7_thrown 0 0 [.ref (gmd g 32)] (cs, t) r (cs, t) := by
  refine mI_start (own := RX7) (by decide +kernel) rfl rfl (Nat.le_of_ble_eq_true rfl) ?_
  intro p e s mi args below meth cd ls Q hX hw hl hret
  have hl : lv_has ls 1 [(0, .ref (gmd g 32))] := hl
  obtain ⟨⟨hx, hb, -, hown, hts⟩, -⟩ := id hX
  unfold x_X7_thrown at h
  refine lv_aload_n hx hb dX7_thrown_0 rfl (lv_at hl 0 rfl) ?_
  refine m_gf hX hn hw 31 (v := .int (gs t 31)) (by decide +kernel) (by decide) (by decide +kernel) rfl dX7_thrown_1 ?_
  replace h := (Option.some.inj h).symm
  exact hret _ _ _ _ _ _ _ dX7_thrown_4 hw h.symm

set_option maxHeartbeats 4000000 in
set_option maxRecDepth 100000 in
theorem c_X7_open (g : GG) (l : Launch) (hn : gnn g 4 = 1) (cs : CS) (p0 : Int32) (p1 : Int32) (t : MS) (r : Int32) (t' : MS) (h : x_X7_open p0 p1 t = some (r, t')) : MetI g l yX7_open wsX7_open 3 66 [.ref (gmd g 32), .int p0, .int p1] (cs, t) r (cs, t') := by
  refine mI_start (own := RX7) (by decide +kernel) rfl rfl (Nat.le_of_ble_eq_true rfl) ?_
  intro p e s mi args below meth cd ls Q hX hw hl hret
  have hl : lv_has ls 7 [(0, .ref (gmd g 32)), (1, .int p0), (2, .int p1)] := hl
  obtain ⟨⟨hx, hb, -, hown, hts⟩, -⟩ := id hX
  unfold x_X7_open at h
  refine lv_iload_n hx hb dX7_open_0 rfl (lv_at hl 1 rfl) ?_
  obtain ⟨v2, e1, h⟩ := ob h
  refine tw_callSI hX hw (n := 1) (As := [.int p0]) (rest := []) (c_X7_isTab g l hn cs p0 t v2 e1) gX7_open_X7_isTab rfl (by decide +kernel) rfl hl.1 rfl (Nat.le_of_ble_eq_true rfl) ⟨by decide, by decide⟩ dX7_open_1 (fun H lc cn sn hw => ?_)
  refine lv_istore_n (lv' := [(3, .int v2), (0, .ref (gmd g 32)), (1, .int p0), (2, .int p1)]) hx hb dX7_open_4 rfl hl (by decide) rfl (fun ls hl => ?_)
  refine lv_iload_n hx hb dX7_open_5 rfl (lv_at hl 3 rfl) ?_
  refine lv_iconst (v := 1) hx hb dX7_open_6 (by decide) ?_
  refine lv_bipush (v := 100) hx hb dX7_open_7 (by decide) ?_
  obtain ⟨v4, e3, h⟩ := ob h
  refine tw_callSI hX hw (n := 3) (As := [.int p1, .int 1, .int 100]) (rest := []) (c_X7_isIn g l hn cs p1 1 100 t v4 e3) gX7_open_X7_isIn rfl (by decide +kernel) rfl hl.1 rfl (Nat.le_of_ble_eq_true rfl) ⟨by decide, by decide⟩ dX7_open_9 (fun H lc cn sn hw => ?_)
  refine lv_istore (lv' := [(4, .int v4), (3, .int v2), (0, .ref (gmd g 32)), (1, .int p0), (2, .int p1)]) hx hb dX7_open_12 hl (by decide) rfl (fun ls hl => ?_)
  refine lv_iload_n hx hb dX7_open_14 rfl (lv_at hl 1 rfl) ?_
  obtain ⟨aj47, h1aj47, kaj47⟩ := ob1 h
  have haj47 : ∀ (v13 : Int32) (H : Heap) (lc : List Loc) (cn sn : Nat) (ls : Array Slot), aj47 = v13 → wH g s.heap.size (cs, t) H lc → lv_has ls 7 [(4, .int v4), (3, .int v2), (0, .ref (gmd g 32)), (1, .int p0), (2, .int p1)] → W p l e (rmO g 3 66 s.heap) s mi args below meth cd H lc cn sn Q (F0 mi 56 ls [.int v13]) := by
    intro v13 H lc cn sn ls h hw hl
    replace h := kaj47 _ h
    refine lv_istore (lv' := [(5, .int v13), (4, .int v4), (3, .int v2), (0, .ref (gmd g 32)), (1, .int p0), (2, .int p1)]) hx hb dX7_open_56 hl (by decide) rfl (fun ls hl => ?_)
    refine lv_iload_n hx hb dX7_open_58 rfl (lv_at hl 2 rfl) ?_
    obtain ⟨aj46, h1aj46, kaj46⟩ := ob1 h
    have haj46 : ∀ (v21 : Int32) (H : Heap) (lc : List Loc) (cn sn : Nat) (ls : Array Slot), aj46 = v21 → wH g s.heap.size (cs, t) H lc → lv_has ls 7 [(5, .int v13), (4, .int v4), (3, .int v2), (0, .ref (gmd g 32)), (1, .int p0), (2, .int p1)] → W p l e (rmO g 3 66 s.heap) s mi args below meth cd H lc cn sn Q (F0 mi 92 ls [.int v21]) := by
      intro v21 H lc cn sn ls h hw hl
      replace h := kaj46 _ h
      refine lv_istore (lv' := [(6, .int v21), (5, .int v13), (4, .int v4), (3, .int v2), (0, .ref (gmd g 32)), (1, .int p0), (2, .int p1)]) hx hb dX7_open_92 hl (by decide) rfl (fun ls hl => ?_)
      refine lv_aload_n hx hb dX7_open_94 rfl (lv_at hl 4 rfl) ?_
      refine lv_iload_n hx hb dX7_open_95 rfl (lv_at hl 3 rfl) ?_
      obtain ⟨aj45, h1aj45, kaj45⟩ := ob1 h
      have haj45 : ∀ (v27 : Int32) (H : Heap) (lc : List Loc) (cn sn : Nat) (ls : Array Slot), aj45 = v27 → wH g s.heap.size (cs, t) H lc → lv_has ls 7 [(0, .ref (gmd g 32)), (1, .int p0), (2, .int p1)] → W p l e (rmO g 3 66 s.heap) s mi args below meth cd H lc cn sn Q (F0 mi 127 ls [.int v27, .ref (gmd g 32)]) := by
        intro v27 H lc cn sn ls h hw hl
        replace h := kaj45 _ h
        obtain ⟨v29, t30, e28, h⟩ := oc2 h
        refine m_callI hX hn hw (n := 1) (As := [.int v27]) (rest := []) (c_X7_fails g l hn cs v27 t v29 t30 e28) gX7_open_X7_fails rfl (by decide +kernel) rfl hl.1 rfl (Nat.le_of_ble_eq_true rfl) ⟨by decide, by decide⟩ dX7_open_127 (fun H lc cn sn hw => ?_)
        refine lv_if_eq (tgt := 135) hx hb dX7_open_130 (by decide) (fun c31 => ?_) (fun c31 => ?_)
        · replace h := ot c31 h
          refine lv_aload_n hx hb dX7_open_135 rfl (lv_at hl 0 rfl) ?_
          refine m_gf hX hn hw 1 (v := .ref (gmd g 1)) (by decide +kernel) (by decide) (by decide +kernel) rfl dX7_open_136 ?_
          refine lv_iload_n hx hb dX7_open_139 rfl (lv_at hl 1 rfl) ?_
          refine lv_iload_n hx hb dX7_open_140 rfl (lv_at hl 2 rfl) ?_
          refine lv_aload_n hx hb dX7_open_141 rfl (lv_at hl 0 rfl) ?_
          refine m_gf hX hn hw 0 (v := .int (gs t30 0)) (by decide +kernel) (by decide) (by decide +kernel) rfl dX7_open_142 ?_
          obtain ⟨aj44, h1aj44, kaj44⟩ := ob1 h
          have haj44 : ∀ (v33 : Int32) (H : Heap) (lc : List Loc) (cn sn : Nat) (ls : Array Slot), aj44 = v33 → wH g s.heap.size (cs, t30) H lc → lv_has ls 7 [(0, .ref (gmd g 32)), (1, .int p0), (2, .int p1)] → W p l e (rmO g 3 66 s.heap) s mi args below meth cd H lc cn sn Q (F0 mi 153 ls [.int v33, .int p0, .ref (gmd g 1)]) := by
            intro v33 H lc cn sn ls h hw hl
            replace h := kaj44 _ h
            obtain ⟨c34, h⟩ := og h
            obtain ⟨t35, et35, h⟩ := ol h
            refine m_st hX hn hw 1 (by decide) (by decide) rfl c34 dX7_open_153 (fun H lc hw => ?_)
            have hw : wH g s.heap.size (cs, t35) H lc := by rw [et35]; exact hw
            refine lv_aload_n hx hb dX7_open_154 rfl (lv_at hl 0 rfl) ?_
            refine m_gf hX hn hw 2 (v := .ref (gmd g 2)) (by decide +kernel) (by decide) (by decide +kernel) rfl dX7_open_155 ?_
            refine lv_iload_n hx hb dX7_open_158 rfl (lv_at hl 1 rfl) ?_
            refine lv_iload_n hx hb dX7_open_159 rfl (lv_at hl 2 rfl) ?_
            obtain ⟨c36, h⟩ := og h
            obtain ⟨t37, et37, h⟩ := ol h
            refine m_st hX hn hw 2 (by decide) (by decide) rfl c36 dX7_open_160 (fun H lc hw => ?_)
            have hw : wH g s.heap.size (cs, t37) H lc := by rw [et37]; exact hw
            refine lv_aload_n hx hb dX7_open_161 rfl (lv_at hl 0 rfl) ?_
            refine m_gf hX hn hw 3 (v := .ref (gmd g 3)) (by decide +kernel) (by decide) (by decide +kernel) rfl dX7_open_162 ?_
            refine lv_iload_n hx hb dX7_open_165 rfl (lv_at hl 1 rfl) ?_
            refine lv_aload_n hx hb dX7_open_166 rfl (lv_at hl 0 rfl) ?_
            refine m_gf hX hn hw 4 (v := .int (gs t37 4)) (by decide +kernel) (by decide) (by decide +kernel) rfl dX7_open_167 ?_
            obtain ⟨c38, h⟩ := og h
            obtain ⟨t39, et39, h⟩ := ol h
            refine m_st hX hn hw 3 (by decide) (by decide) rfl c38 dX7_open_170 (fun H lc hw => ?_)
            have hw : wH g s.heap.size (cs, t39) H lc := by rw [et39]; exact hw
            refine lv_aload_n hx hb dX7_open_171 rfl (lv_at hl 0 rfl) ?_
            refine lv_dup hx hb dX7_open_172 rfl ?_
            refine m_gf hX hn hw 4 (v := .int (gs t39 4)) (by decide +kernel) (by decide) (by decide +kernel) rfl dX7_open_173 ?_
            refine lv_iconst (v := 1) hx hb dX7_open_176 (by decide) ?_
            refine lv_iadd hx hb dX7_open_177 ?_
            obtain ⟨t40, et40, h⟩ := ol h
            refine m_pf hX hn hw 4 (v := ((gs t39 4) + 1)) (by decide +kernel) (by decide) (by decide +kernel) rfl (by decide +kernel) rfl dX7_open_178 (fun H lc hw => ?_)
            have hw : wH g s.heap.size (cs, t40) H lc := by rw [et40]; exact hw
            refine lv_aload_n hx hb dX7_open_181 rfl (lv_at hl 0 rfl) ?_
            obtain ⟨t42, e41, h⟩ := ob h
            refine m_callV hX hn hw (n := 0) (As := []) (rest := []) (c_X7_looks g l hn cs  t40 t42 e41) gX7_open_X7_looks rfl (by decide +kernel) rfl hl.1 rfl (Nat.le_of_ble_eq_true rfl) ⟨by decide, by decide⟩ dX7_open_182 (fun H lc cn sn hw => ?_)
            refine lv_aload_n hx hb dX7_open_185 rfl (lv_at hl 0 rfl) ?_
            refine m_gf hX hn hw 1 (v := .ref (gmd g 1)) (by decide +kernel) (by decide) (by decide +kernel) rfl dX7_open_186 ?_
            refine lv_iload_n hx hb dX7_open_189 rfl (lv_at hl 1 rfl) ?_
            obtain ⟨c43, h⟩ := og h
            refine m_ld hX hn hw 1 (by decide) (by decide) rfl c43 dX7_open_190 ?_
            replace h := (Option.some.inj h).symm
            have h9 : t' = t42 := congrArg Prod.snd h
            have hw : wH g s.heap.size (cs, t') H lc := by rw [h9]; exact hw
            exact hret _ _ _ _ _ _ _ dX7_open_191 hw (congrArg Prod.fst h).symm
          replace h := h1aj44
          refine lv_icmp_ne (tgt := 152) hx hb dX7_open_145 (by decide) (fun c32 => ?_) (fun c32 => ?_)
          · replace h := oe c32 h
            refine lv_iconst (v := 3) hx hb dX7_open_152 (by decide) ?_
            replace h := (Option.some.inj h).symm
            exact haj44 _ _ _ _ _ _ h hw (lv_sub hl [0, 1, 2] rfl)
          · replace h := ot c32 h
            refine lv_iconst (v := 1) hx hb dX7_open_148 (by decide) ?_
            refine lv_goto (tgt := 153) hx hb dX7_open_149 (by decide) ?_
            replace h := (Option.some.inj h).symm
            exact haj44 _ _ _ _ _ _ h hw (lv_sub hl [0, 1, 2] rfl)
        · replace h := oe c31 h
          refine lv_iconst (v := 0) hx hb dX7_open_133 (by decide) ?_
          replace h := (Option.some.inj h).symm
          have h9 : t' = t30 := congrArg Prod.snd h
          have hw : wH g s.heap.size (cs, t') H lc := by rw [h9]; exact hw
          exact hret _ _ _ _ _ _ _ dX7_open_134 hw (congrArg Prod.fst h).symm
      replace h := h1aj45
      refine lv_if_ne (tgt := 103) hx hb dX7_open_96 (by decide) (fun c22 => ?_) (fun c22 => ?_)
      · replace h := oe c22 h
        refine lv_iload hx hb dX7_open_103 (lv_at hl 2 rfl) ?_
        refine lv_if_ne (tgt := 112) hx hb dX7_open_105 (by decide) (fun c23 => ?_) (fun c23 => ?_)
        · replace h := oe c23 h
          refine lv_iload hx hb dX7_open_112 (lv_at hl 1 rfl) ?_
          obtain ⟨aj26, h1aj26, kaj26, raj26⟩ := ol0 h
          have haj26 : ∀ (H : Heap) (lc : List Loc) (cn sn : Nat) (ls : Array Slot), aj26 = Sum.inl () → wH g s.heap.size (cs, t) H lc → lv_has ls 7 [(0, .ref (gmd g 32)), (1, .int p0), (2, .int p1)] → W p l e (rmO g 3 66 s.heap) s mi args below meth cd H lc cn sn Q (F0 mi 122 ls [.ref (gmd g 32)]) := by
            intro H lc cn sn ls h hw hl
            replace h := kaj26 h
            refine lv_iconst (v := 3) hx hb dX7_open_122 (by decide) ?_
            refine lv_goto (tgt := 127) hx hb dX7_open_123 (by decide) ?_
            replace h := (Option.some.inj h).symm
            exact haj45 _ _ _ _ _ _ h hw (lv_sub hl [0, 1, 2] rfl)
          replace h := h1aj26
          refine lv_if_ne (tgt := 122) hx hb dX7_open_114 (by decide) (fun c24 => ?_) (fun c24 => ?_)
          · replace h := oe c24 h
            replace h := (Option.some.inj h).symm
            exact haj26 _ _ _ _ _ h hw (lv_sub hl [4, 5, 6] rfl)
          · replace h := ot c24 h
            refine lv_iload hx hb dX7_open_117 (lv_at hl 0 rfl) ?_
            refine lv_if_eq (tgt := 126) hx hb dX7_open_119 (by decide) (fun c25 => ?_) (fun c25 => ?_)
            · replace h := ot c25 h
              refine lv_iconst (v := 0) hx hb dX7_open_126 (by decide) ?_
              replace h := (Option.some.inj h).symm
              replace h := raj26 _ h
              exact haj45 _ _ _ _ _ _ h hw (lv_sub hl [4, 5, 6] rfl)
            · replace h := oe c25 h
              replace h := (Option.some.inj h).symm
              exact haj26 _ _ _ _ _ h hw (lv_sub hl [4, 5, 6] rfl)
        · replace h := ot c23 h
          refine lv_iconst (v := 2) hx hb dX7_open_108 (by decide) ?_
          refine lv_goto (tgt := 127) hx hb dX7_open_109 (by decide) ?_
          replace h := (Option.some.inj h).symm
          exact haj45 _ _ _ _ _ _ h hw (lv_sub hl [4, 5, 6] rfl)
      · replace h := ot c22 h
        refine lv_iconst (v := 1) hx hb dX7_open_99 (by decide) ?_
        refine lv_goto (tgt := 127) hx hb dX7_open_100 (by decide) ?_
        replace h := (Option.some.inj h).symm
        exact haj45 _ _ _ _ _ _ h hw (lv_sub hl [4, 5, 6] rfl)
    replace h := h1aj46
    obtain ⟨aj20, h1aj20, kaj20, raj20⟩ := ol0 h
    have haj20 : ∀ (H : Heap) (lc : List Loc) (cn sn : Nat) (ls : Array Slot), aj20 = Sum.inl () → wH g s.heap.size (cs, t) H lc → lv_has ls 7 [(5, .int v13), (4, .int v4), (3, .int v2), (0, .ref (gmd g 32)), (1, .int p0), (2, .int p1)] → W p l e (rmO g 3 66 s.heap) s mi args below meth cd H lc cn sn Q (F0 mi 91 ls []) := by
      intro H lc cn sn ls h hw hl
      replace h := kaj20 h
      refine lv_iconst (v := 0) hx hb dX7_open_91 (by decide) ?_
      replace h := (Option.some.inj h).symm
      exact haj46 _ _ _ _ _ _ h hw (lv_sub hl [0, 1, 2, 3, 4, 5] rfl)
    replace h := h1aj20
    refine lv_if_eq (tgt := 91) hx hb dX7_open_59 (by decide) (fun c14 => ?_) (fun c14 => ?_)
    · replace h := ot c14 h
      replace h := (Option.some.inj h).symm
      exact haj20 _ _ _ _ _ h hw (lv_sub hl [0, 1, 2, 3, 4, 5] rfl)
    · replace h := oe c14 h
      refine lv_iload_n hx hb dX7_open_62 rfl (lv_at hl 5 rfl) ?_
      refine lv_aload_n hx hb dX7_open_63 rfl (lv_at hl 3 rfl) ?_
      refine m_gf hX hn hw 0 (v := .int (gs t 0)) (by decide +kernel) (by decide) (by decide +kernel) rfl dX7_open_64 ?_
      refine lv_icmp_le (tgt := 91) hx hb dX7_open_67 (by decide) (fun c15 => ?_) (fun c15 => ?_)
      · replace h := ot c15 h
        replace h := (Option.some.inj h).symm
        exact haj20 _ _ _ _ _ h hw (lv_sub hl [0, 1, 2, 3, 4, 5] rfl)
      · replace h := oe c15 h
        refine lv_aload_n hx hb dX7_open_70 rfl (lv_at hl 3 rfl) ?_
        refine lv_iconst (v := (-1)) hx hb dX7_open_71 (by decide) ?_
        obtain ⟨v17, e16, h⟩ := ob h
        refine m_callI hX hn hw (n := 1) (As := [.int (-1)]) (rest := []) (c_X7_isBusy g l hn cs (-1) t v17 e16) gX7_open_X7_isBusy rfl (by decide +kernel) rfl hl.1 rfl (Nat.le_of_ble_eq_true rfl) ⟨by decide, by decide⟩ dX7_open_72 (fun H lc cn sn hw => ?_)
        refine lv_if_ne (tgt := 91) hx hb dX7_open_75 (by decide) (fun c18 => ?_) (fun c18 => ?_)
        · replace h := oe c18 h
          replace h := (Option.some.inj h).symm
          exact haj20 _ _ _ _ _ h hw (lv_sub hl [0, 1, 2, 3, 4, 5] rfl)
        · replace h := ot c18 h
          refine lv_aload_n hx hb dX7_open_78 rfl (lv_at hl 3 rfl) ?_
          refine m_gf hX hn hw 18 (v := .int (gs t 18)) (by decide +kernel) (by decide) (by decide +kernel) rfl dX7_open_79 ?_
          refine lv_bipush (v := 60) hx hb dX7_open_82 (by decide) ?_
          refine lv_icmp_ne (tgt := 91) hx hb dX7_open_84 (by decide) (fun c19 => ?_) (fun c19 => ?_)
          · replace h := oe c19 h
            replace h := (Option.some.inj h).symm
            exact haj20 _ _ _ _ _ h hw (lv_sub hl [0, 1, 2, 3, 4, 5] rfl)
          · replace h := ot c19 h
            refine lv_iconst (v := 1) hx hb dX7_open_87 (by decide) ?_
            refine lv_goto (tgt := 92) hx hb dX7_open_88 (by decide) ?_
            replace h := (Option.some.inj h).symm
            replace h := raj20 _ h
            exact haj46 _ _ _ _ _ _ h hw (lv_sub hl [0, 1, 2, 3, 4, 5] rfl)
  replace h := h1aj47
  obtain ⟨aj12, h1aj12, kaj12, raj12⟩ := ol0 h
  have haj12 : ∀ (H : Heap) (lc : List Loc) (cn sn : Nat) (ls : Array Slot), aj12 = Sum.inl () → wH g s.heap.size (cs, t) H lc → lv_has ls 7 [(4, .int v4), (3, .int v2), (0, .ref (gmd g 32)), (1, .int p0), (2, .int p1)] → W p l e (rmO g 3 66 s.heap) s mi args below meth cd H lc cn sn Q (F0 mi 55 ls []) := by
    intro H lc cn sn ls h hw hl
    replace h := kaj12 h
    refine lv_iconst (v := 0) hx hb dX7_open_55 (by decide) ?_
    replace h := (Option.some.inj h).symm
    exact haj47 _ _ _ _ _ _ h hw (lv_sub hl [0, 1, 2, 3, 4] rfl)
  replace h := h1aj12
  refine lv_if_eq (tgt := 55) hx hb dX7_open_15 (by decide) (fun c5 => ?_) (fun c5 => ?_)
  · replace h := ot c5 h
    replace h := (Option.some.inj h).symm
    exact haj12 _ _ _ _ _ h hw (lv_sub hl [0, 1, 2, 3, 4] rfl)
  · replace h := oe c5 h
    refine lv_aload_n hx hb dX7_open_18 rfl (lv_at hl 2 rfl) ?_
    refine m_gf hX hn hw 1 (v := .ref (gmd g 1)) (by decide +kernel) (by decide) (by decide +kernel) rfl dX7_open_19 ?_
    refine lv_iload_n hx hb dX7_open_22 rfl (lv_at hl 3 rfl) ?_
    obtain ⟨c6, h⟩ := og h
    refine m_ld hX hn hw 1 (by decide) (by decide) rfl c6 dX7_open_23 ?_
    obtain ⟨aj11, h1aj11, kaj11, raj11⟩ := ol0 h
    have haj11 : ∀ (H : Heap) (lc : List Loc) (cn sn : Nat) (ls : Array Slot), aj11 = Sum.inl () → wH g s.heap.size (cs, t) H lc → lv_has ls 7 [(4, .int v4), (3, .int v2), (0, .ref (gmd g 32)), (1, .int p0), (2, .int p1)] → W p l e (rmO g 3 66 s.heap) s mi args below meth cd H lc cn sn Q (F0 mi 51 ls []) := by
      intro H lc cn sn ls h hw hl
      replace h := kaj11 h
      refine lv_iconst (v := 1) hx hb dX7_open_51 (by decide) ?_
      refine lv_goto (tgt := 56) hx hb dX7_open_52 (by decide) ?_
      replace h := (Option.some.inj h).symm
      replace h := raj12 _ h
      exact haj47 _ _ _ _ _ _ h hw (lv_sub hl [0, 1, 2, 3, 4] rfl)
    replace h := h1aj11
    refine lv_if_ne (tgt := 51) hx hb dX7_open_24 (by decide) (fun c7 => ?_) (fun c7 => ?_)
    · replace h := oe c7 h
      replace h := (Option.some.inj h).symm
      exact haj11 _ _ _ _ _ h hw (lv_sub hl [0, 1, 2, 3, 4] rfl)
    · replace h := ot c7 h
      refine lv_iload_n hx hb dX7_open_27 rfl (lv_at hl 4 rfl) ?_
      refine lv_aload_n hx hb dX7_open_28 rfl (lv_at hl 2 rfl) ?_
      refine m_gf hX hn hw 0 (v := .int (gs t 0)) (by decide +kernel) (by decide) (by decide +kernel) rfl dX7_open_29 ?_
      refine lv_icmp_lt (tgt := 51) hx hb dX7_open_32 (by decide) (fun c8 => ?_) (fun c8 => ?_)
      · replace h := ot c8 h
        replace h := (Option.some.inj h).symm
        exact haj11 _ _ _ _ _ h hw (lv_sub hl [0, 1, 2, 3, 4] rfl)
      · replace h := oe c8 h
        refine lv_iload_n hx hb dX7_open_35 rfl (lv_at hl 4 rfl) ?_
        refine lv_aload_n hx hb dX7_open_36 rfl (lv_at hl 2 rfl) ?_
        refine m_gf hX hn hw 0 (v := .int (gs t 0)) (by decide +kernel) (by decide) (by decide +kernel) rfl dX7_open_37 ?_
        refine lv_icmp_ne (tgt := 55) hx hb dX7_open_40 (by decide) (fun c9 => ?_) (fun c9 => ?_)
        · replace h := oe c9 h
          replace h := (Option.some.inj h).symm
          replace h := raj11 _ h
          exact haj12 _ _ _ _ _ h hw (lv_sub hl [0, 1, 2, 3, 4] rfl)
        · replace h := ot c9 h
          refine lv_aload_n hx hb dX7_open_43 rfl (lv_at hl 2 rfl) ?_
          refine m_gf hX hn hw 5 (v := .int (gs t 5)) (by decide +kernel) (by decide) (by decide +kernel) rfl dX7_open_44 ?_
          refine lv_iconst (v := (-1)) hx hb dX7_open_47 (by decide) ?_
          refine lv_icmp_eq (tgt := 55) hx hb dX7_open_48 (by decide) (fun c10 => ?_) (fun c10 => ?_)
          · replace h := ot c10 h
            replace h := (Option.some.inj h).symm
            replace h := raj11 _ h
            exact haj12 _ _ _ _ _ h hw (lv_sub hl [0, 1, 2, 3, 4] rfl)
          · replace h := oe c10 h
            replace h := (Option.some.inj h).symm
            exact haj11 _ _ _ _ _ h hw (lv_sub hl [0, 1, 2, 3, 4] rfl)

set_option maxHeartbeats 4000000 in
set_option maxRecDepth 100000 in
theorem c_X7_close (g : GG) (l : Launch) (hn : gnn g 4 = 1) (cs : CS) (p0 : Int32) (t : MS) (r : Int32) (t' : MS) (h : x_X7_close p0 t = some (r, t')) : MetI g l yX7_close wsX7_close 3 68 [.ref (gmd g 32), .int p0] (cs, t) r (cs, t') := by
  refine mI_start (own := RX7) (by decide +kernel) rfl rfl (Nat.le_of_ble_eq_true rfl) ?_
  intro p e s mi args below meth cd ls Q hX hw hl hret
  have hl : lv_has ls 5 [(0, .ref (gmd g 32)), (1, .int p0)] := hl
  obtain ⟨⟨hx, hb, -, hown, hts⟩, -⟩ := id hX
  unfold x_X7_close at h
  refine lv_iload_n hx hb dX7_close_0 rfl (lv_at hl 1 rfl) ?_
  obtain ⟨v2, e1, h⟩ := ob h
  refine tw_callSI hX hw (n := 1) (As := [.int p0]) (rest := []) (c_X7_isTab g l hn cs p0 t v2 e1) gX7_close_X7_isTab rfl (by decide +kernel) rfl hl.1 rfl (Nat.le_of_ble_eq_true rfl) ⟨by decide, by decide⟩ dX7_close_1 (fun H lc cn sn hw => ?_)
  refine lv_istore_n (lv' := [(2, .int v2), (0, .ref (gmd g 32)), (1, .int p0)]) hx hb dX7_close_4 rfl hl (by decide) rfl (fun ls hl => ?_)
  refine lv_aload_n hx hb dX7_close_5 rfl (lv_at hl 1 rfl) ?_
  refine lv_iload_n hx hb dX7_close_6 rfl (lv_at hl 0 rfl) ?_
  obtain ⟨aj39, h1aj39, kaj39⟩ := ob1 h
  have haj39 : ∀ (v12 : Int32) (H : Heap) (lc : List Loc) (cn sn : Nat) (ls : Array Slot), aj39 = v12 → wH g s.heap.size (cs, t) H lc → lv_has ls 5 [(0, .ref (gmd g 32)), (1, .int p0)] → W p l e (rmO g 3 68 s.heap) s mi args below meth cd H lc cn sn Q (F0 mi 45 ls [.int v12, .ref (gmd g 32)]) := by
    intro v12 H lc cn sn ls h hw hl
    replace h := kaj39 _ h
    obtain ⟨v14, t15, e13, h⟩ := oc2 h
    refine m_callI hX hn hw (n := 1) (As := [.int v12]) (rest := []) (c_X7_fails g l hn cs v12 t v14 t15 e13) gX7_close_X7_fails rfl (by decide +kernel) rfl hl.1 rfl (Nat.le_of_ble_eq_true rfl) ⟨by decide, by decide⟩ dX7_close_45 (fun H lc cn sn hw => ?_)
    refine lv_if_eq (tgt := 53) hx hb dX7_close_48 (by decide) (fun c16 => ?_) (fun c16 => ?_)
    · replace h := ot c16 h
      refine lv_aload_n hx hb dX7_close_53 rfl (lv_at hl 0 rfl) ?_
      refine m_gf hX hn hw 1 (v := .ref (gmd g 1)) (by decide +kernel) (by decide) (by decide +kernel) rfl dX7_close_54 ?_
      refine lv_iload_n hx hb dX7_close_57 rfl (lv_at hl 1 rfl) ?_
      obtain ⟨c17, h⟩ := og h
      refine m_ld hX hn hw 1 (by decide) (by decide) rfl c17 dX7_close_58 ?_
      refine lv_istore_n (lv' := [(3, .int (ga t15 1 p0.toNatClampNeg)), (0, .ref (gmd g 32)), (1, .int p0)]) hx hb dX7_close_59 rfl hl (by decide) rfl (fun ls hl => ?_)
      refine lv_aload_n hx hb dX7_close_60 rfl (lv_at hl 1 rfl) ?_
      refine m_gf hX hn hw 18 (v := .int (gs t15 18)) (by decide +kernel) (by decide) (by decide +kernel) rfl dX7_close_61 ?_
      refine lv_iconst (v := 1) hx hb dX7_close_64 (by decide) ?_
      refine lv_isub hx hb dX7_close_65 ?_
      refine lv_istore (lv' := [(4, .int ((gs t15 18) - 1)), (3, .int (ga t15 1 p0.toNatClampNeg)), (0, .ref (gmd g 32)), (1, .int p0)]) hx hb dX7_close_66 hl (by decide) rfl (fun ls hl => ?_)
      obtain ⟨aj38, h1aj38, kaj38⟩ := ob1 h
      have haj38 : ∀ (t30 : MS) (H : Heap) (lc : List Loc) (cn sn : Nat) (ls : Array Slot), aj38 = t30 → wH g s.heap.size (cs, t30) H lc → lv_has ls 5 [(3, .int (ga t15 1 p0.toNatClampNeg)), (0, .ref (gmd g 32)), (1, .int p0)] → W p l e (rmO g 3 68 s.heap) s mi args below meth cd H lc cn sn Q (F0 mi 105 ls []) := by
        intro t30 H lc cn sn ls h hw hl
        replace h := kaj38 _ h
        refine lv_aload_n hx hb dX7_close_105 rfl (lv_at hl 1 rfl) ?_
        refine m_gf hX hn hw 1 (v := .ref (gmd g 1)) (by decide +kernel) (by decide) (by decide +kernel) rfl dX7_close_106 ?_
        refine lv_iload_n hx hb dX7_close_109 rfl (lv_at hl 2 rfl) ?_
        refine lv_iconst (v := 0) hx hb dX7_close_110 (by decide) ?_
        obtain ⟨c31, h⟩ := og h
        obtain ⟨t32, et32, h⟩ := ol h
        refine m_st hX hn hw 1 (by decide) (by decide) rfl c31 dX7_close_111 (fun H lc hw => ?_)
        have hw : wH g s.heap.size (cs, t32) H lc := by rw [et32]; exact hw
        refine lv_aload_n hx hb dX7_close_112 rfl (lv_at hl 1 rfl) ?_
        obtain ⟨v34, t35, e33, h⟩ := oc2 h
        refine m_callI hX hn hw (n := 0) (As := []) (rest := []) (c_X7_goesOn g l hn cs  t32 v34 t35 e33) gX7_close_X7_goesOn rfl (by decide +kernel) rfl hl.1 rfl (Nat.le_of_ble_eq_true rfl) ⟨by decide, by decide⟩ dX7_close_113 (fun H lc cn sn hw => ?_)
        refine lv_pop hx hb dX7_close_116 rfl ?_
        refine lv_aload_n hx hb dX7_close_117 rfl (lv_at hl 1 rfl) ?_
        obtain ⟨t37, e36, h⟩ := ob h
        refine m_callV hX hn hw (n := 0) (As := []) (rest := []) (c_X7_looks g l hn cs  t35 t37 e36) gX7_close_X7_looks rfl (by decide +kernel) rfl hl.1 rfl (Nat.le_of_ble_eq_true rfl) ⟨by decide, by decide⟩ dX7_close_118 (fun H lc cn sn hw => ?_)
        refine lv_iload_n hx hb dX7_close_121 rfl (lv_at hl 0 rfl) ?_
        replace h := (Option.some.inj h).symm
        have h9 : t' = t37 := congrArg Prod.snd h
        have hw : wH g s.heap.size (cs, t') H lc := by rw [h9]; exact hw
        exact hret _ _ _ _ _ _ _ dX7_close_122 hw (congrArg Prod.fst h).symm
      have hkj38 : ∀ (n : Nat) (v18 : Int32) (t19 : MS) (H : Heap) (lc : List Loc) (cn sn : Nat) (ls : Array Slot), x_X7_close_L1 p0 n v18 t19 = some aj38 → wH g s.heap.size (cs, t19) H lc → lv_has ls 5 [(4, .int v18), (3, .int (ga t15 1 p0.toNatClampNeg)), (0, .ref (gmd g 32)), (1, .int p0)] → W p l e (rmO g 3 68 s.heap) s mi args below meth cd H lc cn sn Q (F0 mi 68 ls []) := by
        intro n
        induction n with
        | zero =>
          intro v18 t19 H lc cn sn ls h
          rw [x_X7_close_L1] at h
          cases h
        | succ n ih =>
          intro v18 t19 H lc cn sn ls h hw hl
          rw [x_X7_close_L1] at h
          refine lv_iload hx hb dX7_close_68 (lv_at hl 0 rfl) ?_
          refine lv_if_lt (tgt := 105) hx hb dX7_close_70 (by decide) (fun c20 => ?_) (fun c20 => ?_)
          · replace h := ot c20 h
            replace h := (Option.some.inj h).symm
            exact haj38 _ _ _ _ _ _ h hw (lv_sub hl [1, 2, 3] rfl)
          · replace h := oe c20 h
            refine lv_aload_n hx hb dX7_close_73 rfl (lv_at hl 2 rfl) ?_
            refine m_gf hX hn hw 19 (v := .ref (gmd g 19)) (by decide +kernel) (by decide) (by decide +kernel) rfl dX7_close_74 ?_
            refine lv_iload hx hb dX7_close_77 (lv_at hl 0 rfl) ?_
            obtain ⟨c21, h⟩ := og h
            refine m_ld hX hn hw 19 (by decide) (by decide) rfl c21 dX7_close_79 ?_
            refine lv_iload_n hx hb dX7_close_80 rfl (lv_at hl 3 rfl) ?_
            obtain ⟨aj29, h1aj29, kaj29⟩ := ob1 h
            have haj29 : ∀ (t28 : MS) (H : Heap) (lc : List Loc) (cn sn : Nat) (ls : Array Slot), aj29 = t28 → wH g s.heap.size (cs, t28) H lc → lv_has ls 5 [(4, .int v18), (3, .int (ga t15 1 p0.toNatClampNeg)), (0, .ref (gmd g 32)), (1, .int p0)] → W p l e (rmO g 3 68 s.heap) s mi args below meth cd H lc cn sn Q (F0 mi 99 ls []) := by
              intro t28 H lc cn sn ls h hw hl
              replace h := kaj29 _ h
              refine lv_iinc (v := (v18 + (-1))) (lv' := [(4, .int (v18 + (-1))), (3, .int (ga t15 1 p0.toNatClampNeg)), (0, .ref (gmd g 32)), (1, .int p0)]) hx hb dX7_close_99 hl (k := 0) rfl (by rfl) (by decide) rfl (fun ls hl => ?_)
              refine lv_goto (tgt := 68) hx hb dX7_close_102 (by decide) ?_
              exact ih _ _ _ _ _ _ _ h hw (lv_sub hl [0, 1, 2, 3] rfl)
            replace h := h1aj29
            refine lv_icmp_ne (tgt := 99) hx hb dX7_close_81 (by decide) (fun c22 => ?_) (fun c22 => ?_)
            · replace h := oe c22 h
              replace h := (Option.some.inj h).symm
              exact haj29 _ _ _ _ _ _ h hw (lv_sub hl [0, 1, 2, 3] rfl)
            · replace h := ot c22 h
              refine lv_aload_n hx hb dX7_close_84 rfl (lv_at hl 2 rfl) ?_
              refine lv_iload hx hb dX7_close_85 (lv_at hl 0 rfl) ?_
              obtain ⟨v24, e23, h⟩ := ob h
              refine m_callI hX hn hw (n := 1) (As := [.int v18]) (rest := []) (c_X7_isAlive g l hn cs v18 t19 v24 e23) gX7_close_X7_isAlive rfl (by decide +kernel) rfl hl.1 rfl (Nat.le_of_ble_eq_true rfl) ⟨by decide, by decide⟩ dX7_close_87 (fun H lc cn sn hw => ?_)
              refine lv_if_eq (tgt := 99) hx hb dX7_close_90 (by decide) (fun c25 => ?_) (fun c25 => ?_)
              · replace h := ot c25 h
                replace h := (Option.some.inj h).symm
                exact haj29 _ _ _ _ _ _ h hw (lv_sub hl [0, 1, 2, 3] rfl)
              · replace h := oe c25 h
                refine lv_aload_n hx hb dX7_close_93 rfl (lv_at hl 2 rfl) ?_
                refine lv_iload hx hb dX7_close_94 (lv_at hl 0 rfl) ?_
                obtain ⟨t27, e26, h⟩ := ob h
                refine m_callV hX hn hw (n := 1) (As := [.int v18]) (rest := []) (c_X7_aborts g l hn cs v18 t19 t27 e26) gX7_close_X7_aborts rfl (by decide +kernel) rfl hl.1 rfl (Nat.le_of_ble_eq_true rfl) ⟨by decide, by decide⟩ dX7_close_96 (fun H lc cn sn hw => ?_)
                replace h := (Option.some.inj h).symm
                exact haj29 _ _ _ _ _ _ h hw (lv_sub hl [0, 1, 2, 3] rfl)
      exact hkj38 FU ((gs t15 18) - 1) t15 _ _ _ _ _ h1aj38 hw (lv_sub hl [0, 1, 2, 3] rfl)
    · replace h := oe c16 h
      refine lv_iconst (v := 0) hx hb dX7_close_51 (by decide) ?_
      replace h := (Option.some.inj h).symm
      have h9 : t' = t15 := congrArg Prod.snd h
      have hw : wH g s.heap.size (cs, t') H lc := by rw [h9]; exact hw
      exact hret _ _ _ _ _ _ _ dX7_close_52 hw (congrArg Prod.fst h).symm
  replace h := h1aj39
  refine lv_if_ne (tgt := 14) hx hb dX7_close_7 (by decide) (fun c3 => ?_) (fun c3 => ?_)
  · replace h := oe c3 h
    refine lv_aload_n hx hb dX7_close_14 rfl (lv_at hl 1 rfl) ?_
    refine m_gf hX hn hw 1 (v := .ref (gmd g 1)) (by decide +kernel) (by decide) (by decide +kernel) rfl dX7_close_15 ?_
    refine lv_iload_n hx hb dX7_close_18 rfl (lv_at hl 2 rfl) ?_
    obtain ⟨c4, h⟩ := og h
    refine m_ld hX hn hw 1 (by decide) (by decide) rfl c4 dX7_close_19 ?_
    obtain ⟨aj11, h1aj11, kaj11, raj11⟩ := ol0 h
    have haj11 : ∀ (H : Heap) (lc : List Loc) (cn sn : Nat) (ls : Array Slot), aj11 = Sum.inl () → wH g s.heap.size (cs, t) H lc → lv_has ls 5 [(0, .ref (gmd g 32)), (1, .int p0)] → W p l e (rmO g 3 68 s.heap) s mi args below meth cd H lc cn sn Q (F0 mi 40 ls [.ref (gmd g 32)]) := by
      intro H lc cn sn ls h hw hl
      replace h := kaj11 h
      refine lv_iconst (v := 2) hx hb dX7_close_40 (by decide) ?_
      refine lv_goto (tgt := 45) hx hb dX7_close_41 (by decide) ?_
      replace h := (Option.some.inj h).symm
      exact haj39 _ _ _ _ _ _ h hw (lv_sub hl [0, 1] rfl)
    replace h := h1aj11
    refine lv_if_eq (tgt := 40) hx hb dX7_close_20 (by decide) (fun c5 => ?_) (fun c5 => ?_)
    · replace h := ot c5 h
      replace h := (Option.some.inj h).symm
      exact haj11 _ _ _ _ _ h hw (lv_sub hl [1, 2] rfl)
    · replace h := oe c5 h
      refine lv_aload_n hx hb dX7_close_23 rfl (lv_at hl 1 rfl) ?_
      refine lv_iload_n hx hb dX7_close_24 rfl (lv_at hl 2 rfl) ?_
      obtain ⟨v7, e6, h⟩ := ob h
      refine m_callI hX hn hw (n := 1) (As := [.int p0]) (rest := [.ref (gmd g 32)]) (c_X7_wouldBegin g l hn cs p0 t v7 e6) gX7_close_X7_wouldBegin rfl (by decide +kernel) rfl hl.1 rfl (Nat.le_of_ble_eq_true rfl) ⟨by decide, by decide⟩ dX7_close_25 (fun H lc cn sn hw => ?_)
      obtain ⟨aj10, h1aj10, kaj10, raj10⟩ := ol0 h
      have haj10 : ∀ (H : Heap) (lc : List Loc) (cn sn : Nat) (ls : Array Slot), aj10 = Sum.inl () → wH g s.heap.size (cs, t) H lc → lv_has ls 5 [(0, .ref (gmd g 32)), (1, .int p0)] → W p l e (rmO g 3 68 s.heap) s mi args below meth cd H lc cn sn Q (F0 mi 44 ls [.ref (gmd g 32)]) := by
        intro H lc cn sn ls h hw hl
        replace h := kaj10 h
        refine lv_iconst (v := 0) hx hb dX7_close_44 (by decide) ?_
        replace h := (Option.some.inj h).symm
        replace h := raj11 _ h
        exact haj39 _ _ _ _ _ _ h hw (lv_sub hl [0, 1] rfl)
      replace h := h1aj10
      refine lv_if_eq (tgt := 44) hx hb dX7_close_28 (by decide) (fun c8 => ?_) (fun c8 => ?_)
      · replace h := ot c8 h
        replace h := (Option.some.inj h).symm
        exact haj10 _ _ _ _ _ h hw (lv_sub hl [1, 2] rfl)
      · replace h := oe c8 h
        refine lv_aload_n hx hb dX7_close_31 rfl (lv_at hl 1 rfl) ?_
        refine m_gf hX hn hw 18 (v := .int (gs t 18)) (by decide +kernel) (by decide) (by decide +kernel) rfl dX7_close_32 ?_
        refine lv_bipush (v := 60) hx hb dX7_close_35 (by decide) ?_
        refine lv_icmp_ne (tgt := 44) hx hb dX7_close_37 (by decide) (fun c9 => ?_) (fun c9 => ?_)
        · replace h := oe c9 h
          replace h := (Option.some.inj h).symm
          exact haj10 _ _ _ _ _ h hw (lv_sub hl [1, 2] rfl)
        · replace h := ot c9 h
          replace h := (Option.some.inj h).symm
          replace h := raj10 _ h
          exact haj11 _ _ _ _ _ h hw (lv_sub hl [1, 2] rfl)
  · replace h := ot c3 h
    refine lv_iconst (v := 1) hx hb dX7_close_10 (by decide) ?_
    refine lv_goto (tgt := 45) hx hb dX7_close_11 (by decide) ?_
    replace h := (Option.some.inj h).symm
    exact haj39 _ _ _ _ _ _ h hw (lv_sub hl [1, 2] rfl)

set_option maxHeartbeats 4000000 in
set_option maxRecDepth 100000 in
theorem c_X7_state (g : GG) (l : Launch) (hn : gnn g 4 = 1) (cs : CS) (p0 : Int32) (t : MS) (r : Int32) (t' : MS) (h : x_X7_state p0 t = some (r, t')) : MetI g l yX7_state wsX7_state 2 42 [.ref (gmd g 32), .int p0] (cs, t) r (cs, t') := by
  refine mI_start (own := RX7) (by decide +kernel) rfl rfl (Nat.le_of_ble_eq_true rfl) ?_
  intro p e s mi args below meth cd ls Q hX hw hl hret
  have hl : lv_has ls 2 [(0, .ref (gmd g 32)), (1, .int p0)] := hl
  obtain ⟨⟨hx, hb, -, hown, hts⟩, -⟩ := id hX
  unfold x_X7_state at h
  refine lv_aload_n hx hb dX7_state_0 rfl (lv_at hl 0 rfl) ?_
  refine lv_iload_n hx hb dX7_state_1 rfl (lv_at hl 1 rfl) ?_
  obtain ⟨v2, e1, h⟩ := ob h
  refine tw_callSI hX hw (n := 1) (As := [.int p0]) (rest := [.ref (gmd g 32)]) (c_X7_isTab g l hn cs p0 t v2 e1) gX7_state_X7_isTab rfl (by decide +kernel) rfl hl.1 rfl (Nat.le_of_ble_eq_true rfl) ⟨by decide, by decide⟩ dX7_state_2 (fun H lc cn sn hw => ?_)
  obtain ⟨aj12, h1aj12, kaj12⟩ := ob1 h
  have haj12 : ∀ (v4 : Int32) (H : Heap) (lc : List Loc) (cn sn : Nat) (ls : Array Slot), aj12 = v4 → wH g s.heap.size (cs, t) H lc → lv_has ls 2 [(0, .ref (gmd g 32)), (1, .int p0)] → W p l e (rmO g 2 42 s.heap) s mi args below meth cd H lc cn sn Q (F0 mi 13 ls [.int v4, .ref (gmd g 32)]) := by
    intro v4 H lc cn sn ls h hw hl
    replace h := kaj12 _ h
    obtain ⟨v6, t7, e5, h⟩ := oc2 h
    refine m_callI hX hn hw (n := 1) (As := [.int v4]) (rest := []) (c_X7_fails g l hn cs v4 t v6 t7 e5) gX7_state_X7_fails rfl (by decide +kernel) rfl hl.1 rfl (Nat.le_of_ble_eq_true rfl) ⟨by decide, by decide⟩ dX7_state_13 (fun H lc cn sn hw => ?_)
    obtain ⟨aj11, h1aj11, kaj11⟩ := ob1 h
    have haj11 : ∀ (v10 : Int32) (H : Heap) (lc : List Loc) (cn sn : Nat) (ls : Array Slot), aj11 = v10 → wH g s.heap.size (cs, t7) H lc → lv_has ls 2 [] → W p l e (rmO g 2 42 s.heap) s mi args below meth cd H lc cn sn Q (F0 mi 29 ls [.int v10]) := by
      intro v10 H lc cn sn ls h hw hl
      replace h := kaj11 _ h
      replace h := (Option.some.inj h).symm
      have h9 : t' = t7 := congrArg Prod.snd h
      have hw : wH g s.heap.size (cs, t') H lc := by rw [h9]; exact hw
      exact hret _ _ _ _ _ _ _ dX7_state_29 hw (congrArg Prod.fst h).symm
    replace h := h1aj11
    refine lv_if_eq (tgt := 23) hx hb dX7_state_16 (by decide) (fun c8 => ?_) (fun c8 => ?_)
    · replace h := ot c8 h
      refine lv_aload_n hx hb dX7_state_23 rfl (lv_at hl 0 rfl) ?_
      refine m_gf hX hn hw 1 (v := .ref (gmd g 1)) (by decide +kernel) (by decide) (by decide +kernel) rfl dX7_state_24 ?_
      refine lv_iload_n hx hb dX7_state_27 rfl (lv_at hl 1 rfl) ?_
      obtain ⟨c9, h⟩ := og h
      refine m_ld hX hn hw 1 (by decide) (by decide) rfl c9 dX7_state_28 ?_
      replace h := (Option.some.inj h).symm
      exact haj11 _ _ _ _ _ _ h hw (lv_sub hl [] rfl)
    · replace h := oe c8 h
      refine lv_iconst (v := 0) hx hb dX7_state_19 (by decide) ?_
      refine lv_goto (tgt := 29) hx hb dX7_state_20 (by decide) ?_
      replace h := (Option.some.inj h).symm
      exact haj11 _ _ _ _ _ _ h hw (lv_sub hl [] rfl)
  replace h := h1aj12
  refine lv_if_eq (tgt := 12) hx hb dX7_state_5 (by decide) (fun c3 => ?_) (fun c3 => ?_)
  · replace h := ot c3 h
    refine lv_iconst (v := 1) hx hb dX7_state_12 (by decide) ?_
    replace h := (Option.some.inj h).symm
    exact haj12 _ _ _ _ _ _ h hw (lv_sub hl [0, 1] rfl)
  · replace h := oe c3 h
    refine lv_iconst (v := 0) hx hb dX7_state_8 (by decide) ?_
    refine lv_goto (tgt := 13) hx hb dX7_state_9 (by decide) ?_
    replace h := (Option.some.inj h).symm
    exact haj12 _ _ _ _ _ _ h hw (lv_sub hl [0, 1] rfl)

set_option maxHeartbeats 4000000 in
set_option maxRecDepth 100000 in
theorem c_X7_version (g : GG) (l : Launch) (hn : gnn g 4 = 1) (cs : CS) (t : MS) (r : Int32) (t' : MS) (h : x_X7_version t = some (r, t')) : MetI g l yX7_version wsX7_version 0 0 [.ref (gmd g 32)] (cs, t) r (cs, t') := by
  refine mI_start (own := RX7) (by decide +kernel) rfl rfl (Nat.le_of_ble_eq_true rfl) ?_
  intro p e s mi args below meth cd ls Q hX hw hl hret
  have hl : lv_has ls 1 [(0, .ref (gmd g 32))] := hl
  obtain ⟨⟨hx, hb, -, hown, hts⟩, -⟩ := id hX
  unfold x_X7_version at h
  refine lv_aload_n hx hb dX7_version_0 rfl (lv_at hl 0 rfl) ?_
  refine lv_iconst (v := 0) hx hb dX7_version_1 (by decide) ?_
  obtain ⟨t1, et1, h⟩ := ol h
  refine m_pf hX hn hw 31 (v := 0) (by decide +kernel) (by decide) (by decide +kernel) rfl (by decide +kernel) rfl dX7_version_2 (fun H lc hw => ?_)
  have hw : wH g s.heap.size (cs, t1) H lc := by rw [et1]; exact hw
  refine lv_aload_n hx hb dX7_version_5 rfl (lv_at hl 0 rfl) ?_
  refine m_gf hX hn hw 0 (v := .int (gs t1 0)) (by decide +kernel) (by decide) (by decide +kernel) rfl dX7_version_6 ?_
  replace h := (Option.some.inj h).symm
  have h9 : t' = t1 := congrArg Prod.snd h
  have hw : wH g s.heap.size (cs, t') H lc := by rw [h9]; exact hw
  exact hret _ _ _ _ _ _ _ dX7_version_9 hw (congrArg Prod.fst h).symm

set_option maxHeartbeats 4000000 in
set_option maxRecDepth 100000 in
theorem c_X7_upgrade (g : GG) (l : Launch) (hn : gnn g 4 = 1) (cs : CS) (t : MS) (r : Int32) (t' : MS) (h : x_X7_upgrade t = some (r, t')) : MetI g l yX7_upgrade wsX7_upgrade 0 0 [.ref (gmd g 32)] (cs, t) r (cs, t') := by
  refine mI_start (own := RX7) (by decide +kernel) rfl rfl (Nat.le_of_ble_eq_true rfl) ?_
  intro p e s mi args below meth cd ls Q hX hw hl hret
  have hl : lv_has ls 1 [(0, .ref (gmd g 32))] := hl
  obtain ⟨⟨hx, hb, -, hown, hts⟩, -⟩ := id hX
  unfold x_X7_upgrade at h
  refine lv_aload_n hx hb dX7_upgrade_0 rfl (lv_at hl 0 rfl) ?_
  refine lv_iconst (v := 0) hx hb dX7_upgrade_1 (by decide) ?_
  obtain ⟨t1, et1, h⟩ := ol h
  refine m_pf hX hn hw 31 (v := 0) (by decide +kernel) (by decide) (by decide +kernel) rfl (by decide +kernel) rfl dX7_upgrade_2 (fun H lc hw => ?_)
  have hw : wH g s.heap.size (cs, t1) H lc := by rw [et1]; exact hw
  refine lv_aload_n hx hb dX7_upgrade_5 rfl (lv_at hl 0 rfl) ?_
  refine m_gf hX hn hw 5 (v := .int (gs t1 5)) (by decide +kernel) (by decide) (by decide +kernel) rfl dX7_upgrade_6 ?_
  replace h := (Option.some.inj h).symm
  have h9 : t' = t1 := congrArg Prod.snd h
  have hw : wH g s.heap.size (cs, t') H lc := by rw [h9]; exact hw
  exact hret _ _ _ _ _ _ _ dX7_upgrade_9 hw (congrArg Prod.fst h).symm

set_option maxHeartbeats 4000000 in
set_option maxRecDepth 100000 in
theorem c_X7_makeStore (g : GG) (l : Launch) (hn : gnn g 4 = 1) (cs : CS) (p0 : Int32) (p1 : Int32) (t : MS) (t' : MS) (h : x_X7_makeStore p0 p1 t = some t') : MetV g l yX7_makeStore wsX7_makeStore 2 43 [.ref (gmd g 32), .int p0, .int p1] (cs, t) (cs, t') := by
  refine mV_start (own := RX7) (by decide +kernel) rfl rfl (Nat.le_of_ble_eq_true rfl) ?_
  intro p e s mi args below meth cd ls Q hX hw hl hret
  have hl : lv_has ls 4 [(0, .ref (gmd g 32)), (1, .int p0), (2, .int p1)] := hl
  obtain ⟨⟨hx, hb, -, hown, hts⟩, -⟩ := id hX
  unfold x_X7_makeStore at h
  refine lv_aload_n hx hb dX7_makeStore_0 rfl (lv_at hl 0 rfl) ?_
  refine lv_iload_n hx hb dX7_makeStore_1 rfl (lv_at hl 1 rfl) ?_
  obtain ⟨v2, e1, h⟩ := ob h
  refine m_callI hX hn hw (n := 1) (As := [.int p0]) (rest := []) (c_X7_isTransaction g l hn cs p0 t v2 e1) gX7_makeStore_X7_isTransaction rfl (by decide +kernel) rfl hl.1 rfl (Nat.le_of_ble_eq_true rfl) ⟨by decide, by decide⟩ dX7_makeStore_2 (fun H lc cn sn hw => ?_)
  obtain ⟨aj31, h1aj31, kaj31⟩ := ob1 h
  have haj31 : ∀ (v8 : Int32) (H : Heap) (lc : List Loc) (cn sn : Nat) (ls : Array Slot), aj31 = v8 → wH g s.heap.size (cs, t) H lc → lv_has ls 4 [(0, .ref (gmd g 32)), (1, .int p0), (2, .int p1)] → W p l e (rmO g 2 43 s.heap) s mi args below meth cd H lc cn sn Q (F0 mi 22 ls [.int v8]) := by
    intro v8 H lc cn sn ls h hw hl
    replace h := kaj31 _ h
    refine lv_istore_n (lv' := [(3, .int v8), (0, .ref (gmd g 32)), (1, .int p0), (2, .int p1)]) hx hb dX7_makeStore_22 rfl hl (by decide) rfl (fun ls hl => ?_)
    refine lv_aload_n hx hb dX7_makeStore_23 rfl (lv_at hl 1 rfl) ?_
    refine lv_iload_n hx hb dX7_makeStore_24 rfl (lv_at hl 0 rfl) ?_
    obtain ⟨aj30, h1aj30, kaj30⟩ := ob1 h
    have haj30 : ∀ (v14 : Int32) (H : Heap) (lc : List Loc) (cn sn : Nat) (ls : Array Slot), aj30 = v14 → wH g s.heap.size (cs, t) H lc → lv_has ls 4 [(0, .ref (gmd g 32)), (2, .int p1)] → W p l e (rmO g 2 43 s.heap) s mi args below meth cd H lc cn sn Q (F0 mi 54 ls [.int v14, .ref (gmd g 32)]) := by
      intro v14 H lc cn sn ls h hw hl
      replace h := kaj30 _ h
      obtain ⟨v16, t17, e15, h⟩ := oc2 h
      refine m_callI hX hn hw (n := 1) (As := [.int v14]) (rest := []) (c_X7_fails g l hn cs v14 t v16 t17 e15) gX7_makeStore_X7_fails rfl (by decide +kernel) rfl hl.1 rfl (Nat.le_of_ble_eq_true rfl) ⟨by decide, by decide⟩ dX7_makeStore_54 (fun H lc cn sn hw => ?_)
      obtain ⟨aj29, h1aj29, kaj29⟩ := ob1 h
      have haj29 : ∀ (t28 : MS) (H : Heap) (lc : List Loc) (cn sn : Nat) (ls : Array Slot), aj29 = t28 → wH g s.heap.size (cs, t28) H lc → lv_has ls 4 [] → W p l e (rmO g 2 43 s.heap) s mi args below meth cd H lc cn sn Q (F0 mi 94 ls []) := by
        intro t28 H lc cn sn ls h hw hl
        replace h := kaj29 _ h
        replace h := (Option.some.inj h).symm
        have hw : wH g s.heap.size (cs, t') H lc := by rw [h]; exact hw
        exact hret _ _ _ _ _ _ dX7_makeStore_94 hw
      replace h := h1aj29
      refine lv_if_ne (tgt := 94) hx hb dX7_makeStore_57 (by decide) (fun c18 => ?_) (fun c18 => ?_)
      · replace h := oe c18 h
        replace h := (Option.some.inj h).symm
        exact haj29 _ _ _ _ _ _ h hw (lv_sub hl [] rfl)
      · replace h := ot c18 h
        refine lv_aload_n hx hb dX7_makeStore_60 rfl (lv_at hl 0 rfl) ?_
        refine m_gf hX hn hw 6 (v := .ref (gmd g 6)) (by decide +kernel) (by decide) (by decide +kernel) rfl dX7_makeStore_61 ?_
        refine lv_iload_n hx hb dX7_makeStore_64 rfl (lv_at hl 1 rfl) ?_
        refine lv_iconst (v := 1) hx hb dX7_makeStore_65 (by decide) ?_
        obtain ⟨c19, h⟩ := og h
        obtain ⟨c27, h⟩ := og h
        obtain ⟨t20, et20, h⟩ := ol h
        refine m_stz hX hn hw 6 (by decide) (by decide) rfl c19 c27 dX7_makeStore_66 (fun H lc hw => ?_)
        have hw : wH g s.heap.size (cs, t20) H lc := by rw [et20]; exact hw
        refine lv_aload_n hx hb dX7_makeStore_67 rfl (lv_at hl 0 rfl) ?_
        refine m_gf hX hn hw 8 (v := .ref (gmd g 8)) (by decide +kernel) (by decide) (by decide +kernel) rfl dX7_makeStore_68 ?_
        refine lv_iload_n hx hb dX7_makeStore_71 rfl (lv_at hl 1 rfl) ?_
        refine lv_iconst (v := 0) hx hb dX7_makeStore_72 (by decide) ?_
        obtain ⟨c21, h⟩ := og h
        obtain ⟨t22, et22, h⟩ := ol h
        refine m_st hX hn hw 8 (by decide) (by decide) rfl c21 dX7_makeStore_73 (fun H lc hw => ?_)
        have hw : wH g s.heap.size (cs, t22) H lc := by rw [et22]; exact hw
        refine lv_aload_n hx hb dX7_makeStore_74 rfl (lv_at hl 0 rfl) ?_
        refine m_gf hX hn hw 7 (v := .ref (gmd g 7)) (by decide +kernel) (by decide) (by decide +kernel) rfl dX7_makeStore_75 ?_
        refine lv_iconst (v := 2) hx hb dX7_makeStore_78 (by decide) ?_
        refine lv_iload_n hx hb dX7_makeStore_79 rfl (lv_at hl 1 rfl) ?_
        refine lv_imul hx hb dX7_makeStore_80 ?_
        refine lv_iconst (v := 0) hx hb dX7_makeStore_81 (by decide) ?_
        obtain ⟨c23, h⟩ := og h
        obtain ⟨t24, et24, h⟩ := ol h
        refine m_st hX hn hw 7 (by decide) (by decide) rfl c23 dX7_makeStore_82 (fun H lc hw => ?_)
        have hw : wH g s.heap.size (cs, t24) H lc := by rw [et24]; exact hw
        refine lv_aload_n hx hb dX7_makeStore_83 rfl (lv_at hl 0 rfl) ?_
        refine m_gf hX hn hw 7 (v := .ref (gmd g 7)) (by decide +kernel) (by decide) (by decide +kernel) rfl dX7_makeStore_84 ?_
        refine lv_iconst (v := 2) hx hb dX7_makeStore_87 (by decide) ?_
        refine lv_iload_n hx hb dX7_makeStore_88 rfl (lv_at hl 1 rfl) ?_
        refine lv_imul hx hb dX7_makeStore_89 ?_
        refine lv_iconst (v := 1) hx hb dX7_makeStore_90 (by decide) ?_
        refine lv_iadd hx hb dX7_makeStore_91 ?_
        refine lv_iconst (v := 0) hx hb dX7_makeStore_92 (by decide) ?_
        obtain ⟨c25, h⟩ := og h
        obtain ⟨t26, et26, h⟩ := ol h
        refine m_st hX hn hw 7 (by decide) (by decide) rfl c25 dX7_makeStore_93 (fun H lc hw => ?_)
        have hw : wH g s.heap.size (cs, t26) H lc := by rw [et26]; exact hw
        replace h := (Option.some.inj h).symm
        exact haj29 _ _ _ _ _ _ h hw (lv_sub hl [] rfl)
    replace h := h1aj30
    refine lv_if_ne (tgt := 32) hx hb dX7_makeStore_25 (by decide) (fun c9 => ?_) (fun c9 => ?_)
    · replace h := oe c9 h
      refine lv_iload_n hx hb dX7_makeStore_32 rfl (lv_at hl 2 rfl) ?_
      refine lv_aload_n hx hb dX7_makeStore_33 rfl (lv_at hl 1 rfl) ?_
      refine m_gf hX hn hw 5 (v := .int (gs t 5)) (by decide +kernel) (by decide) (by decide +kernel) rfl dX7_makeStore_34 ?_
      obtain ⟨aj13, h1aj13, kaj13, raj13⟩ := ol0 h
      have haj13 : ∀ (H : Heap) (lc : List Loc) (cn sn : Nat) (ls : Array Slot), aj13 = Sum.inl () → wH g s.heap.size (cs, t) H lc → lv_has ls 4 [(0, .ref (gmd g 32)), (2, .int p1)] → W p l e (rmO g 2 43 s.heap) s mi args below meth cd H lc cn sn Q (F0 mi 49 ls [.ref (gmd g 32)]) := by
        intro H lc cn sn ls h hw hl
        replace h := kaj13 h
        refine lv_iconst (v := 2) hx hb dX7_makeStore_49 (by decide) ?_
        refine lv_goto (tgt := 54) hx hb dX7_makeStore_50 (by decide) ?_
        replace h := (Option.some.inj h).symm
        exact haj30 _ _ _ _ _ _ h hw (lv_sub hl [0, 1] rfl)
      replace h := h1aj13
      refine lv_icmp_ne (tgt := 49) hx hb dX7_makeStore_37 (by decide) (fun c10 => ?_) (fun c10 => ?_)
      · replace h := oe c10 h
        replace h := (Option.some.inj h).symm
        exact haj13 _ _ _ _ _ h hw (lv_sub hl [1, 3] rfl)
      · replace h := ot c10 h
        refine lv_aload_n hx hb dX7_makeStore_40 rfl (lv_at hl 1 rfl) ?_
        refine m_gf hX hn hw 6 (v := .ref (gmd g 6)) (by decide +kernel) (by decide) (by decide +kernel) rfl dX7_makeStore_41 ?_
        refine lv_iload_n hx hb dX7_makeStore_44 rfl (lv_at hl 3 rfl) ?_
        obtain ⟨c11, h⟩ := og h
        refine m_ldz hX hn hw 6 (by decide) (by decide) rfl c11 dX7_makeStore_45 ?_
        refine lv_if_eq (tgt := 53) hx hb dX7_makeStore_46 (by decide) (fun c12 => ?_) (fun c12 => ?_)
        · replace h := ot c12 h
          refine lv_iconst (v := 0) hx hb dX7_makeStore_53 (by decide) ?_
          replace h := (Option.some.inj h).symm
          replace h := raj13 _ h
          exact haj30 _ _ _ _ _ _ h hw (lv_sub hl [1, 3] rfl)
        · replace h := oe c12 h
          replace h := (Option.some.inj h).symm
          exact haj13 _ _ _ _ _ h hw (lv_sub hl [1, 3] rfl)
    · replace h := ot c9 h
      refine lv_iconst (v := 1) hx hb dX7_makeStore_28 (by decide) ?_
      refine lv_goto (tgt := 54) hx hb dX7_makeStore_29 (by decide) ?_
      replace h := (Option.some.inj h).symm
      exact haj30 _ _ _ _ _ _ h hw (lv_sub hl [1, 3] rfl)
  replace h := h1aj31
  obtain ⟨aj7, h1aj7, kaj7, raj7⟩ := ol0 h
  have haj7 : ∀ (H : Heap) (lc : List Loc) (cn sn : Nat) (ls : Array Slot), aj7 = Sum.inl () → wH g s.heap.size (cs, t) H lc → lv_has ls 4 [(0, .ref (gmd g 32)), (1, .int p0), (2, .int p1)] → W p l e (rmO g 2 43 s.heap) s mi args below meth cd H lc cn sn Q (F0 mi 21 ls []) := by
    intro H lc cn sn ls h hw hl
    replace h := kaj7 h
    refine lv_iconst (v := 0) hx hb dX7_makeStore_21 (by decide) ?_
    replace h := (Option.some.inj h).symm
    exact haj31 _ _ _ _ _ _ h hw (lv_sub hl [0, 1, 2] rfl)
  replace h := h1aj7
  refine lv_if_eq (tgt := 21) hx hb dX7_makeStore_5 (by decide) (fun c3 => ?_) (fun c3 => ?_)
  · replace h := ot c3 h
    replace h := (Option.some.inj h).symm
    exact haj7 _ _ _ _ _ h hw (lv_sub hl [0, 1, 2] rfl)
  · replace h := oe c3 h
    refine lv_iload_n hx hb dX7_makeStore_8 rfl (lv_at hl 2 rfl) ?_
    refine lv_iconst (v := 0) hx hb dX7_makeStore_9 (by decide) ?_
    refine lv_iconst (v := 2) hx hb dX7_makeStore_10 (by decide) ?_
    obtain ⟨v5, e4, h⟩ := ob h
    refine tw_callSI hX hw (n := 3) (As := [.int p1, .int 0, .int 2]) (rest := []) (c_X7_isIn g l hn cs p1 0 2 t v5 e4) gX7_makeStore_X7_isIn rfl (by decide +kernel) rfl hl.1 rfl (Nat.le_of_ble_eq_true rfl) ⟨by decide, by decide⟩ dX7_makeStore_11 (fun H lc cn sn hw => ?_)
    refine lv_if_eq (tgt := 21) hx hb dX7_makeStore_14 (by decide) (fun c6 => ?_) (fun c6 => ?_)
    · replace h := ot c6 h
      replace h := (Option.some.inj h).symm
      exact haj7 _ _ _ _ _ h hw (lv_sub hl [0, 1, 2] rfl)
    · replace h := oe c6 h
      refine lv_iconst (v := 1) hx hb dX7_makeStore_17 (by decide) ?_
      refine lv_goto (tgt := 22) hx hb dX7_makeStore_18 (by decide) ?_
      replace h := (Option.some.inj h).symm
      replace h := raj7 _ h
      exact haj31 _ _ _ _ _ _ h hw (lv_sub hl [0, 1, 2] rfl)

set_option maxHeartbeats 4000000 in
set_option maxRecDepth 100000 in
theorem c_X7_deleteStore (g : GG) (l : Launch) (hn : gnn g 4 = 1) (cs : CS) (p0 : Int32) (p1 : Int32) (t : MS) (r : Int32) (t' : MS) (h : x_X7_deleteStore p0 p1 t = some (r, t')) : MetI g l yX7_deleteStore wsX7_deleteStore 2 43 [.ref (gmd g 32), .int p0, .int p1] (cs, t) r (cs, t') := by
  refine mI_start (own := RX7) (by decide +kernel) rfl rfl (Nat.le_of_ble_eq_true rfl) ?_
  intro p e s mi args below meth cd ls Q hX hw hl hret
  have hl : lv_has ls 5 [(0, .ref (gmd g 32)), (1, .int p0), (2, .int p1)] := hl
  obtain ⟨⟨hx, hb, -, hown, hts⟩, -⟩ := id hX
  unfold x_X7_deleteStore at h
  refine lv_aload_n hx hb dX7_deleteStore_0 rfl (lv_at hl 0 rfl) ?_
  refine lv_iload_n hx hb dX7_deleteStore_1 rfl (lv_at hl 1 rfl) ?_
  obtain ⟨v2, e1, h⟩ := ob h
  refine m_callI hX hn hw (n := 1) (As := [.int p0]) (rest := []) (c_X7_isTransaction g l hn cs p0 t v2 e1) gX7_deleteStore_X7_isTransaction rfl (by decide +kernel) rfl hl.1 rfl (Nat.le_of_ble_eq_true rfl) ⟨by decide, by decide⟩ dX7_deleteStore_2 (fun H lc cn sn hw => ?_)
  obtain ⟨aj23, h1aj23, kaj23⟩ := ob1 h
  have haj23 : ∀ (v8 : Int32) (H : Heap) (lc : List Loc) (cn sn : Nat) (ls : Array Slot), aj23 = v8 → wH g s.heap.size (cs, t) H lc → lv_has ls 5 [(0, .ref (gmd g 32)), (1, .int p0), (2, .int p1)] → W p l e (rmO g 2 43 s.heap) s mi args below meth cd H lc cn sn Q (F0 mi 21 ls [.int v8]) := by
    intro v8 H lc cn sn ls h hw hl
    replace h := kaj23 _ h
    refine lv_istore_n (lv' := [(3, .int v8), (0, .ref (gmd g 32)), (1, .int p0), (2, .int p1)]) hx hb dX7_deleteStore_21 rfl hl (by decide) rfl (fun ls hl => ?_)
    refine lv_aload_n hx hb dX7_deleteStore_22 rfl (lv_at hl 1 rfl) ?_
    refine lv_iload_n hx hb dX7_deleteStore_23 rfl (lv_at hl 0 rfl) ?_
    obtain ⟨aj22, h1aj22, kaj22⟩ := ob1 h
    have haj22 : ∀ (v11 : Int32) (H : Heap) (lc : List Loc) (cn sn : Nat) (ls : Array Slot), aj22 = v11 → wH g s.heap.size (cs, t) H lc → lv_has ls 5 [(0, .ref (gmd g 32)), (2, .int p1)] → W p l e (rmO g 2 43 s.heap) s mi args below meth cd H lc cn sn Q (F0 mi 44 ls [.int v11, .ref (gmd g 32)]) := by
      intro v11 H lc cn sn ls h hw hl
      replace h := kaj22 _ h
      obtain ⟨v13, t14, e12, h⟩ := oc2 h
      refine m_callI hX hn hw (n := 1) (As := [.int v11]) (rest := []) (c_X7_fails g l hn cs v11 t v13 t14 e12) gX7_deleteStore_X7_fails rfl (by decide +kernel) rfl hl.1 rfl (Nat.le_of_ble_eq_true rfl) ⟨by decide, by decide⟩ dX7_deleteStore_44 (fun H lc cn sn hw => ?_)
      refine lv_if_eq (tgt := 52) hx hb dX7_deleteStore_47 (by decide) (fun c15 => ?_) (fun c15 => ?_)
      · replace h := ot c15 h
        refine lv_aload_n hx hb dX7_deleteStore_52 rfl (lv_at hl 0 rfl) ?_
        refine m_gf hX hn hw 8 (v := .ref (gmd g 8)) (by decide +kernel) (by decide) (by decide +kernel) rfl dX7_deleteStore_53 ?_
        refine lv_iload_n hx hb dX7_deleteStore_56 rfl (lv_at hl 1 rfl) ?_
        obtain ⟨c16, h⟩ := og h
        refine m_ld hX hn hw 8 (by decide) (by decide) rfl c16 dX7_deleteStore_57 ?_
        refine lv_istore (lv' := [(4, .int (ga t14 8 p1.toNatClampNeg)), (0, .ref (gmd g 32)), (2, .int p1)]) hx hb dX7_deleteStore_58 hl (by decide) rfl (fun ls hl => ?_)
        refine lv_aload_n hx hb dX7_deleteStore_60 rfl (lv_at hl 1 rfl) ?_
        refine m_gf hX hn hw 6 (v := .ref (gmd g 6)) (by decide +kernel) (by decide) (by decide +kernel) rfl dX7_deleteStore_61 ?_
        refine lv_iload_n hx hb dX7_deleteStore_64 rfl (lv_at hl 2 rfl) ?_
        refine lv_iconst (v := 0) hx hb dX7_deleteStore_65 (by decide) ?_
        obtain ⟨c17, h⟩ := og h
        obtain ⟨c21, h⟩ := og h
        obtain ⟨t18, et18, h⟩ := ol h
        refine m_stz hX hn hw 6 (by decide) (by decide) rfl c17 c21 dX7_deleteStore_66 (fun H lc hw => ?_)
        have hw : wH g s.heap.size (cs, t18) H lc := by rw [et18]; exact hw
        refine lv_aload_n hx hb dX7_deleteStore_67 rfl (lv_at hl 1 rfl) ?_
        refine m_gf hX hn hw 8 (v := .ref (gmd g 8)) (by decide +kernel) (by decide) (by decide +kernel) rfl dX7_deleteStore_68 ?_
        refine lv_iload_n hx hb dX7_deleteStore_71 rfl (lv_at hl 2 rfl) ?_
        refine lv_iconst (v := 0) hx hb dX7_deleteStore_72 (by decide) ?_
        obtain ⟨c19, h⟩ := og h
        obtain ⟨t20, et20, h⟩ := ol h
        refine m_st hX hn hw 8 (by decide) (by decide) rfl c19 dX7_deleteStore_73 (fun H lc hw => ?_)
        have hw : wH g s.heap.size (cs, t20) H lc := by rw [et20]; exact hw
        refine lv_iload hx hb dX7_deleteStore_74 (lv_at hl 0 rfl) ?_
        replace h := (Option.some.inj h).symm
        have h9 : t' = t20 := congrArg Prod.snd h
        have hw : wH g s.heap.size (cs, t') H lc := by rw [h9]; exact hw
        exact hret _ _ _ _ _ _ _ dX7_deleteStore_76 hw (congrArg Prod.fst h).symm
      · replace h := oe c15 h
        refine lv_iconst (v := 0) hx hb dX7_deleteStore_50 (by decide) ?_
        replace h := (Option.some.inj h).symm
        have h9 : t' = t14 := congrArg Prod.snd h
        have hw : wH g s.heap.size (cs, t') H lc := by rw [h9]; exact hw
        exact hret _ _ _ _ _ _ _ dX7_deleteStore_51 hw (congrArg Prod.fst h).symm
    replace h := h1aj22
    refine lv_if_ne (tgt := 31) hx hb dX7_deleteStore_24 (by decide) (fun c9 => ?_) (fun c9 => ?_)
    · replace h := oe c9 h
      refine lv_iload_n hx hb dX7_deleteStore_31 rfl (lv_at hl 2 rfl) ?_
      refine lv_aload_n hx hb dX7_deleteStore_32 rfl (lv_at hl 1 rfl) ?_
      refine m_gf hX hn hw 5 (v := .int (gs t 5)) (by decide +kernel) (by decide) (by decide +kernel) rfl dX7_deleteStore_33 ?_
      refine lv_icmp_eq (tgt := 43) hx hb dX7_deleteStore_36 (by decide) (fun c10 => ?_) (fun c10 => ?_)
      · replace h := ot c10 h
        refine lv_iconst (v := 0) hx hb dX7_deleteStore_43 (by decide) ?_
        replace h := (Option.some.inj h).symm
        exact haj22 _ _ _ _ _ _ h hw (lv_sub hl [1, 3] rfl)
      · replace h := oe c10 h
        refine lv_iconst (v := 2) hx hb dX7_deleteStore_39 (by decide) ?_
        refine lv_goto (tgt := 44) hx hb dX7_deleteStore_40 (by decide) ?_
        replace h := (Option.some.inj h).symm
        exact haj22 _ _ _ _ _ _ h hw (lv_sub hl [1, 3] rfl)
    · replace h := ot c9 h
      refine lv_iconst (v := 1) hx hb dX7_deleteStore_27 (by decide) ?_
      refine lv_goto (tgt := 44) hx hb dX7_deleteStore_28 (by decide) ?_
      replace h := (Option.some.inj h).symm
      exact haj22 _ _ _ _ _ _ h hw (lv_sub hl [1, 3] rfl)
  replace h := h1aj23
  obtain ⟨aj7, h1aj7, kaj7, raj7⟩ := ol0 h
  have haj7 : ∀ (H : Heap) (lc : List Loc) (cn sn : Nat) (ls : Array Slot), aj7 = Sum.inl () → wH g s.heap.size (cs, t) H lc → lv_has ls 5 [(0, .ref (gmd g 32)), (1, .int p0), (2, .int p1)] → W p l e (rmO g 2 43 s.heap) s mi args below meth cd H lc cn sn Q (F0 mi 20 ls []) := by
    intro H lc cn sn ls h hw hl
    replace h := kaj7 h
    refine lv_iconst (v := 0) hx hb dX7_deleteStore_20 (by decide) ?_
    replace h := (Option.some.inj h).symm
    exact haj23 _ _ _ _ _ _ h hw (lv_sub hl [0, 1, 2] rfl)
  replace h := h1aj7
  refine lv_if_eq (tgt := 20) hx hb dX7_deleteStore_5 (by decide) (fun c3 => ?_) (fun c3 => ?_)
  · replace h := ot c3 h
    replace h := (Option.some.inj h).symm
    exact haj7 _ _ _ _ _ h hw (lv_sub hl [0, 1, 2] rfl)
  · replace h := oe c3 h
    refine lv_aload_n hx hb dX7_deleteStore_8 rfl (lv_at hl 0 rfl) ?_
    refine lv_iload_n hx hb dX7_deleteStore_9 rfl (lv_at hl 2 rfl) ?_
    obtain ⟨v5, e4, h⟩ := ob h
    refine m_callI hX hn hw (n := 1) (As := [.int p1]) (rest := []) (c_X7_isStore g l hn cs p1 t v5 e4) gX7_deleteStore_X7_isStore rfl (by decide +kernel) rfl hl.1 rfl (Nat.le_of_ble_eq_true rfl) ⟨by decide, by decide⟩ dX7_deleteStore_10 (fun H lc cn sn hw => ?_)
    refine lv_if_eq (tgt := 20) hx hb dX7_deleteStore_13 (by decide) (fun c6 => ?_) (fun c6 => ?_)
    · replace h := ot c6 h
      replace h := (Option.some.inj h).symm
      exact haj7 _ _ _ _ _ h hw (lv_sub hl [0, 1, 2] rfl)
    · replace h := oe c6 h
      refine lv_iconst (v := 1) hx hb dX7_deleteStore_16 (by decide) ?_
      refine lv_goto (tgt := 21) hx hb dX7_deleteStore_17 (by decide) ?_
      replace h := (Option.some.inj h).symm
      replace h := raj7 _ h
      exact haj23 _ _ _ _ _ _ h hw (lv_sub hl [0, 1, 2] rfl)

set_option maxHeartbeats 4000000 in
set_option maxRecDepth 100000 in
theorem c_X7_makeIndex (g : GG) (l : Launch) (hn : gnn g 4 = 1) (cs : CS) (p0 : Int32) (p1 : Int32) (p2 : Int32) (p3 : Int32) (t : MS) (t' : MS) (h : x_X7_makeIndex p0 p1 p2 p3 t = some t') : MetV g l yX7_makeIndex wsX7_makeIndex 2 43 [.ref (gmd g 32), .int p0, .int p1, .int p2, .int p3] (cs, t) (cs, t') := by
  refine mV_start (own := RX7) (by decide +kernel) rfl rfl (Nat.le_of_ble_eq_true rfl) ?_
  intro p e s mi args below meth cd ls Q hX hw hl hret
  have hl : lv_has ls 7 [(0, .ref (gmd g 32)), (1, .int p0), (2, .int p1), (3, .int p2), (4, .int p3)] := hl
  obtain ⟨⟨hx, hb, -, hown, hts⟩, -⟩ := id hX
  unfold x_X7_makeIndex at h
  refine lv_aload_n hx hb dX7_makeIndex_0 rfl (lv_at hl 0 rfl) ?_
  refine lv_iload_n hx hb dX7_makeIndex_1 rfl (lv_at hl 1 rfl) ?_
  obtain ⟨v2, e1, h⟩ := ob h
  refine m_callI hX hn hw (n := 1) (As := [.int p0]) (rest := []) (c_X7_isTransaction g l hn cs p0 t v2 e1) gX7_makeIndex_X7_isTransaction rfl (by decide +kernel) rfl hl.1 rfl (Nat.le_of_ble_eq_true rfl) ⟨by decide, by decide⟩ dX7_makeIndex_2 (fun H lc cn sn hw => ?_)
  obtain ⟨aj39, h1aj39, kaj39⟩ := ob1 h
  have haj39 : ∀ (v11 : Int32) (H : Heap) (lc : List Loc) (cn sn : Nat) (ls : Array Slot), aj39 = v11 → wH g s.heap.size (cs, t) H lc → lv_has ls 7 [(0, .ref (gmd g 32)), (1, .int p0), (2, .int p1), (3, .int p2), (4, .int p3)] → W p l e (rmO g 2 43 s.heap) s mi args below meth cd H lc cn sn Q (F0 mi 30 ls [.int v11]) := by
    intro v11 H lc cn sn ls h hw hl
    replace h := kaj39 _ h
    refine lv_istore (lv' := [(5, .int v11), (0, .ref (gmd g 32)), (1, .int p0), (2, .int p1), (3, .int p2), (4, .int p3)]) hx hb dX7_makeIndex_30 hl (by decide) rfl (fun ls hl => ?_)
    refine lv_iload hx hb dX7_makeIndex_32 (lv_at hl 0 rfl) ?_
    obtain ⟨aj38, h1aj38, kaj38⟩ := ob1 h
    have haj38 : ∀ (v22 : Int32) (H : Heap) (lc : List Loc) (cn sn : Nat) (ls : Array Slot), aj38 = v22 → wH g s.heap.size (cs, t) H lc → lv_has ls 7 [(5, .int v11), (0, .ref (gmd g 32)), (2, .int p1), (3, .int p2), (4, .int p3)] → W p l e (rmO g 2 43 s.heap) s mi args below meth cd H lc cn sn Q (F0 mi 77 ls [.int v22]) := by
      intro v22 H lc cn sn ls h hw hl
      replace h := kaj38 _ h
      refine lv_istore (lv' := [(6, .int v22), (5, .int v11), (0, .ref (gmd g 32)), (2, .int p1), (3, .int p2), (4, .int p3)]) hx hb dX7_makeIndex_77 hl (by decide) rfl (fun ls hl => ?_)
      refine lv_aload_n hx hb dX7_makeIndex_79 rfl (lv_at hl 2 rfl) ?_
      refine lv_iload hx hb dX7_makeIndex_80 (lv_at hl 1 rfl) ?_
      obtain ⟨aj37, h1aj37, kaj37⟩ := ob1 h
      have haj37 : ∀ (v25 : Int32) (H : Heap) (lc : List Loc) (cn sn : Nat) (ls : Array Slot), aj37 = v25 → wH g s.heap.size (cs, t) H lc → lv_has ls 7 [(0, .ref (gmd g 32)), (2, .int p1), (3, .int p2), (4, .int p3)] → W p l e (rmO g 2 43 s.heap) s mi args below meth cd H lc cn sn Q (F0 mi 99 ls [.int v25, .ref (gmd g 32)]) := by
        intro v25 H lc cn sn ls h hw hl
        replace h := kaj37 _ h
        obtain ⟨v27, t28, e26, h⟩ := oc2 h
        refine m_callI hX hn hw (n := 1) (As := [.int v25]) (rest := []) (c_X7_fails g l hn cs v25 t v27 t28 e26) gX7_makeIndex_X7_fails rfl (by decide +kernel) rfl hl.1 rfl (Nat.le_of_ble_eq_true rfl) ⟨by decide, by decide⟩ dX7_makeIndex_99 (fun H lc cn sn hw => ?_)
        obtain ⟨aj36, h1aj36, kaj36⟩ := ob1 h
        have haj36 : ∀ (t35 : MS) (H : Heap) (lc : List Loc) (cn sn : Nat) (ls : Array Slot), aj36 = t35 → wH g s.heap.size (cs, t35) H lc → lv_has ls 7 [] → W p l e (rmO g 2 43 s.heap) s mi args below meth cd H lc cn sn Q (F0 mi 125 ls []) := by
          intro t35 H lc cn sn ls h hw hl
          replace h := kaj36 _ h
          replace h := (Option.some.inj h).symm
          have hw : wH g s.heap.size (cs, t') H lc := by rw [h]; exact hw
          exact hret _ _ _ _ _ _ dX7_makeIndex_125 hw
        replace h := h1aj36
        refine lv_if_ne (tgt := 125) hx hb dX7_makeIndex_102 (by decide) (fun c29 => ?_) (fun c29 => ?_)
        · replace h := oe c29 h
          replace h := (Option.some.inj h).symm
          exact haj36 _ _ _ _ _ _ h hw (lv_sub hl [] rfl)
        · replace h := ot c29 h
          refine lv_aload_n hx hb dX7_makeIndex_105 rfl (lv_at hl 0 rfl) ?_
          refine m_gf hX hn hw 7 (v := .ref (gmd g 7)) (by decide +kernel) (by decide) (by decide +kernel) rfl dX7_makeIndex_106 ?_
          refine lv_iconst (v := 2) hx hb dX7_makeIndex_109 (by decide) ?_
          refine lv_iload_n hx hb dX7_makeIndex_110 rfl (lv_at hl 1 rfl) ?_
          refine lv_imul hx hb dX7_makeIndex_111 ?_
          refine lv_iload_n hx hb dX7_makeIndex_112 rfl (lv_at hl 2 rfl) ?_
          refine lv_iadd hx hb dX7_makeIndex_113 ?_
          refine lv_iload hx hb dX7_makeIndex_114 (lv_at hl 3 rfl) ?_
          obtain ⟨aj34, h1aj34, kaj34⟩ := ob1 h
          have haj34 : ∀ (v31 : Int32) (H : Heap) (lc : List Loc) (cn sn : Nat) (ls : Array Slot), aj34 = v31 → wH g s.heap.size (cs, t28) H lc → lv_has ls 7 [] → W p l e (rmO g 2 43 s.heap) s mi args below meth cd H lc cn sn Q (F0 mi 124 ls [.int v31, .int ((2 * p1) + p2), .ref (gmd g 7)]) := by
            intro v31 H lc cn sn ls h hw hl
            replace h := kaj34 _ h
            obtain ⟨c32, h⟩ := og h
            obtain ⟨t33, et33, h⟩ := ol h
            refine m_st hX hn hw 7 (by decide) (by decide) rfl c32 dX7_makeIndex_124 (fun H lc hw => ?_)
            have hw : wH g s.heap.size (cs, t33) H lc := by rw [et33]; exact hw
            replace h := (Option.some.inj h).symm
            exact haj36 _ _ _ _ _ _ h hw (lv_sub hl [] rfl)
          replace h := h1aj34
          refine lv_if_eq (tgt := 123) hx hb dX7_makeIndex_116 (by decide) (fun c30 => ?_) (fun c30 => ?_)
          · replace h := ot c30 h
            refine lv_iconst (v := 1) hx hb dX7_makeIndex_123 (by decide) ?_
            replace h := (Option.some.inj h).symm
            exact haj34 _ _ _ _ _ _ h hw (lv_sub hl [] rfl)
          · replace h := oe c30 h
            refine lv_iconst (v := 2) hx hb dX7_makeIndex_119 (by decide) ?_
            refine lv_goto (tgt := 124) hx hb dX7_makeIndex_120 (by decide) ?_
            replace h := (Option.some.inj h).symm
            exact haj34 _ _ _ _ _ _ h hw (lv_sub hl [] rfl)
      replace h := h1aj37
      refine lv_if_ne (tgt := 89) hx hb dX7_makeIndex_82 (by decide) (fun c23 => ?_) (fun c23 => ?_)
      · replace h := oe c23 h
        refine lv_iload hx hb dX7_makeIndex_89 (lv_at hl 0 rfl) ?_
        refine lv_if_eq (tgt := 98) hx hb dX7_makeIndex_91 (by decide) (fun c24 => ?_) (fun c24 => ?_)
        · replace h := ot c24 h
          refine lv_iconst (v := 2) hx hb dX7_makeIndex_98 (by decide) ?_
          replace h := (Option.some.inj h).symm
          exact haj37 _ _ _ _ _ _ h hw (lv_sub hl [2, 3, 4, 5] rfl)
        · replace h := oe c24 h
          refine lv_iconst (v := 0) hx hb dX7_makeIndex_94 (by decide) ?_
          refine lv_goto (tgt := 99) hx hb dX7_makeIndex_95 (by decide) ?_
          replace h := (Option.some.inj h).symm
          exact haj37 _ _ _ _ _ _ h hw (lv_sub hl [2, 3, 4, 5] rfl)
      · replace h := ot c23 h
        refine lv_iconst (v := 1) hx hb dX7_makeIndex_85 (by decide) ?_
        refine lv_goto (tgt := 99) hx hb dX7_makeIndex_86 (by decide) ?_
        replace h := (Option.some.inj h).symm
        exact haj37 _ _ _ _ _ _ h hw (lv_sub hl [2, 3, 4, 5] rfl)
    replace h := h1aj38
    obtain ⟨aj21, h1aj21, kaj21, raj21⟩ := ol0 h
    have haj21 : ∀ (H : Heap) (lc : List Loc) (cn sn : Nat) (ls : Array Slot), aj21 = Sum.inl () → wH g s.heap.size (cs, t) H lc → lv_has ls 7 [(5, .int v11), (0, .ref (gmd g 32)), (2, .int p1), (3, .int p2), (4, .int p3)] → W p l e (rmO g 2 43 s.heap) s mi args below meth cd H lc cn sn Q (F0 mi 76 ls []) := by
      intro H lc cn sn ls h hw hl
      replace h := kaj21 h
      refine lv_iconst (v := 0) hx hb dX7_makeIndex_76 (by decide) ?_
      replace h := (Option.some.inj h).symm
      exact haj38 _ _ _ _ _ _ h hw (lv_sub hl [0, 1, 2, 3, 4] rfl)
    replace h := h1aj21
    refine lv_if_eq (tgt := 76) hx hb dX7_makeIndex_34 (by decide) (fun c12 => ?_) (fun c12 => ?_)
    · replace h := ot c12 h
      replace h := (Option.some.inj h).symm
      exact haj21 _ _ _ _ _ h hw (lv_sub hl [0, 1, 3, 4, 5] rfl)
    · replace h := oe c12 h
      refine lv_iload_n hx hb dX7_makeIndex_37 rfl (lv_at hl 2 rfl) ?_
      refine lv_aload_n hx hb dX7_makeIndex_38 rfl (lv_at hl 1 rfl) ?_
      refine m_gf hX hn hw 5 (v := .int (gs t 5)) (by decide +kernel) (by decide) (by decide +kernel) rfl dX7_makeIndex_39 ?_
      refine lv_icmp_ne (tgt := 76) hx hb dX7_makeIndex_42 (by decide) (fun c13 => ?_) (fun c13 => ?_)
      · replace h := oe c13 h
        replace h := (Option.some.inj h).symm
        exact haj21 _ _ _ _ _ h hw (lv_sub hl [0, 1, 3, 4, 5] rfl)
      · replace h := ot c13 h
        refine lv_aload_n hx hb dX7_makeIndex_45 rfl (lv_at hl 1 rfl) ?_
        refine m_gf hX hn hw 7 (v := .ref (gmd g 7)) (by decide +kernel) (by decide) (by decide +kernel) rfl dX7_makeIndex_46 ?_
        refine lv_iconst (v := 2) hx hb dX7_makeIndex_49 (by decide) ?_
        refine lv_iload_n hx hb dX7_makeIndex_50 rfl (lv_at hl 3 rfl) ?_
        refine lv_imul hx hb dX7_makeIndex_51 ?_
        refine lv_iload_n hx hb dX7_makeIndex_52 rfl (lv_at hl 4 rfl) ?_
        refine lv_iadd hx hb dX7_makeIndex_53 ?_
        obtain ⟨c14, h⟩ := og h
        refine m_ld hX hn hw 7 (by decide) (by decide) rfl c14 dX7_makeIndex_54 ?_
        refine lv_if_ne (tgt := 76) hx hb dX7_makeIndex_55 (by decide) (fun c15 => ?_) (fun c15 => ?_)
        · replace h := oe c15 h
          replace h := (Option.some.inj h).symm
          exact haj21 _ _ _ _ _ h hw (lv_sub hl [0, 1, 3, 4, 5] rfl)
        · replace h := ot c15 h
          refine lv_iload hx hb dX7_makeIndex_58 (lv_at hl 5 rfl) ?_
          obtain ⟨aj20, h1aj20, kaj20, raj20⟩ := ol0 h
          have haj20 : ∀ (H : Heap) (lc : List Loc) (cn sn : Nat) (ls : Array Slot), aj20 = Sum.inl () → wH g s.heap.size (cs, t) H lc → lv_has ls 7 [(5, .int v11), (0, .ref (gmd g 32)), (2, .int p1), (3, .int p2), (4, .int p3)] → W p l e (rmO g 2 43 s.heap) s mi args below meth cd H lc cn sn Q (F0 mi 72 ls []) := by
            intro H lc cn sn ls h hw hl
            replace h := kaj20 h
            refine lv_iconst (v := 1) hx hb dX7_makeIndex_72 (by decide) ?_
            refine lv_goto (tgt := 77) hx hb dX7_makeIndex_73 (by decide) ?_
            replace h := (Option.some.inj h).symm
            replace h := raj21 _ h
            exact haj38 _ _ _ _ _ _ h hw (lv_sub hl [0, 1, 2, 3, 4] rfl)
          replace h := h1aj20
          refine lv_if_eq (tgt := 72) hx hb dX7_makeIndex_60 (by decide) (fun c16 => ?_) (fun c16 => ?_)
          · replace h := ot c16 h
            replace h := (Option.some.inj h).symm
            exact haj20 _ _ _ _ _ h hw (lv_sub hl [0, 1, 3, 4, 5] rfl)
          · replace h := oe c16 h
            refine lv_aload_n hx hb dX7_makeIndex_63 rfl (lv_at hl 1 rfl) ?_
            refine lv_iload_n hx hb dX7_makeIndex_64 rfl (lv_at hl 3 rfl) ?_
            refine lv_iload_n hx hb dX7_makeIndex_65 rfl (lv_at hl 4 rfl) ?_
            obtain ⟨v18, e17, h⟩ := ob h
            refine m_callI hX hn hw (n := 2) (As := [.int p1, .int p2]) (rest := []) (c_X7_hasDoubles g l hn cs p1 p2 t v18 e17) gX7_makeIndex_X7_hasDoubles rfl (by decide +kernel) rfl hl.1 rfl (Nat.le_of_ble_eq_true rfl) ⟨by decide, by decide⟩ dX7_makeIndex_66 (fun H lc cn sn hw => ?_)
            refine lv_if_ne (tgt := 76) hx hb dX7_makeIndex_69 (by decide) (fun c19 => ?_) (fun c19 => ?_)
            · replace h := oe c19 h
              replace h := (Option.some.inj h).symm
              replace h := raj20 _ h
              exact haj21 _ _ _ _ _ h hw (lv_sub hl [0, 1, 3, 4, 5] rfl)
            · replace h := ot c19 h
              replace h := (Option.some.inj h).symm
              exact haj20 _ _ _ _ _ h hw (lv_sub hl [0, 1, 3, 4, 5] rfl)
  replace h := h1aj39
  obtain ⟨aj10, h1aj10, kaj10, raj10⟩ := ol0 h
  have haj10 : ∀ (H : Heap) (lc : List Loc) (cn sn : Nat) (ls : Array Slot), aj10 = Sum.inl () → wH g s.heap.size (cs, t) H lc → lv_has ls 7 [(0, .ref (gmd g 32)), (1, .int p0), (2, .int p1), (3, .int p2), (4, .int p3)] → W p l e (rmO g 2 43 s.heap) s mi args below meth cd H lc cn sn Q (F0 mi 29 ls []) := by
    intro H lc cn sn ls h hw hl
    replace h := kaj10 h
    refine lv_iconst (v := 0) hx hb dX7_makeIndex_29 (by decide) ?_
    replace h := (Option.some.inj h).symm
    exact haj39 _ _ _ _ _ _ h hw (lv_sub hl [0, 1, 2, 3, 4] rfl)
  replace h := h1aj10
  refine lv_if_eq (tgt := 29) hx hb dX7_makeIndex_5 (by decide) (fun c3 => ?_) (fun c3 => ?_)
  · replace h := ot c3 h
    replace h := (Option.some.inj h).symm
    exact haj10 _ _ _ _ _ h hw (lv_sub hl [0, 1, 2, 3, 4] rfl)
  · replace h := oe c3 h
    refine lv_aload_n hx hb dX7_makeIndex_8 rfl (lv_at hl 0 rfl) ?_
    refine lv_iload_n hx hb dX7_makeIndex_9 rfl (lv_at hl 2 rfl) ?_
    obtain ⟨v5, e4, h⟩ := ob h
    refine m_callI hX hn hw (n := 1) (As := [.int p1]) (rest := []) (c_X7_isStore g l hn cs p1 t v5 e4) gX7_makeIndex_X7_isStore rfl (by decide +kernel) rfl hl.1 rfl (Nat.le_of_ble_eq_true rfl) ⟨by decide, by decide⟩ dX7_makeIndex_10 (fun H lc cn sn hw => ?_)
    refine lv_if_eq (tgt := 29) hx hb dX7_makeIndex_13 (by decide) (fun c6 => ?_) (fun c6 => ?_)
    · replace h := ot c6 h
      replace h := (Option.some.inj h).symm
      exact haj10 _ _ _ _ _ h hw (lv_sub hl [0, 1, 2, 3, 4] rfl)
    · replace h := oe c6 h
      refine lv_iload_n hx hb dX7_makeIndex_16 rfl (lv_at hl 3 rfl) ?_
      refine lv_iconst (v := 0) hx hb dX7_makeIndex_17 (by decide) ?_
      refine lv_iconst (v := 1) hx hb dX7_makeIndex_18 (by decide) ?_
      obtain ⟨v8, e7, h⟩ := ob h
      refine tw_callSI hX hw (n := 3) (As := [.int p2, .int 0, .int 1]) (rest := []) (c_X7_isIn g l hn cs p2 0 1 t v8 e7) gX7_makeIndex_X7_isIn rfl (by decide +kernel) rfl hl.1 rfl (Nat.le_of_ble_eq_true rfl) ⟨by decide, by decide⟩ dX7_makeIndex_19 (fun H lc cn sn hw => ?_)
      refine lv_if_eq (tgt := 29) hx hb dX7_makeIndex_22 (by decide) (fun c9 => ?_) (fun c9 => ?_)
      · replace h := ot c9 h
        replace h := (Option.some.inj h).symm
        exact haj10 _ _ _ _ _ h hw (lv_sub hl [0, 1, 2, 3, 4] rfl)
      · replace h := oe c9 h
        refine lv_iconst (v := 1) hx hb dX7_makeIndex_25 (by decide) ?_
        refine lv_goto (tgt := 30) hx hb dX7_makeIndex_26 (by decide) ?_
        replace h := (Option.some.inj h).symm
        replace h := raj10 _ h
        exact haj39 _ _ _ _ _ _ h hw (lv_sub hl [0, 1, 2, 3, 4] rfl)

set_option maxHeartbeats 4000000 in
set_option maxRecDepth 100000 in
theorem c_X7_begin (g : GG) (l : Launch) (hn : gnn g 4 = 1) (cs : CS) (p0 : Int32) (p1 : Int32) (p2 : Int32) (t : MS) (r : Int32) (t' : MS) (h : x_X7_begin p0 p1 p2 t = some (r, t')) : MetI g l yX7_begin wsX7_begin 3 66 [.ref (gmd g 32), .int p0, .int p1, .int p2] (cs, t) r (cs, t') := by
  refine mI_start (own := RX7) (by decide +kernel) rfl rfl (Nat.le_of_ble_eq_true rfl) ?_
  intro p e s mi args below meth cd ls Q hX hw hl hret
  have hl : lv_has ls 7 [(0, .ref (gmd g 32)), (1, .int p0), (2, .int p1), (3, .int p2)] := hl
  obtain ⟨⟨hx, hb, -, hown, hts⟩, -⟩ := id hX
  unfold x_X7_begin at h
  refine lv_iload_n hx hb dX7_begin_0 rfl (lv_at hl 2 rfl) ?_
  refine lv_iconst (v := 1) hx hb dX7_begin_1 (by decide) ?_
  refine lv_bipush (v := 7) hx hb dX7_begin_2 (by decide) ?_
  obtain ⟨v2, e1, h⟩ := ob h
  refine tw_callSI hX hw (n := 3) (As := [.int p1, .int 1, .int 7]) (rest := []) (c_X7_isIn g l hn cs p1 1 7 t v2 e1) gX7_begin_X7_isIn rfl (by decide +kernel) rfl hl.1 rfl (Nat.le_of_ble_eq_true rfl) ⟨by decide, by decide⟩ dX7_begin_4 (fun H lc cn sn hw => ?_)
  refine lv_istore (lv' := [(4, .int v2), (0, .ref (gmd g 32)), (1, .int p0), (2, .int p1), (3, .int p2)]) hx hb dX7_begin_7 hl (by decide) rfl (fun ls hl => ?_)
  refine lv_iload_n hx hb dX7_begin_9 rfl (lv_at hl 2 rfl) ?_
  obtain ⟨v4, e3, h⟩ := ob h
  refine tw_callSI hX hw (n := 1) (As := [.int p0]) (rest := []) (c_X7_isTab g l hn cs p0 t v4 e3) gX7_begin_X7_isTab rfl (by decide +kernel) rfl hl.1 rfl (Nat.le_of_ble_eq_true rfl) ⟨by decide, by decide⟩ dX7_begin_10 (fun H lc cn sn hw => ?_)
  refine lv_istore (lv' := [(5, .int v4), (4, .int v2), (0, .ref (gmd g 32)), (1, .int p0), (2, .int p1), (3, .int p2)]) hx hb dX7_begin_13 hl (by decide) rfl (fun ls hl => ?_)
  refine lv_iconst (v := 0) hx hb dX7_begin_15 (by decide) ?_
  refine lv_istore (lv' := [(6, .int 0), (5, .int v4), (4, .int v2), (0, .ref (gmd g 32)), (1, .int p0), (2, .int p1), (3, .int p2)]) hx hb dX7_begin_16 hl (by decide) rfl (fun ls hl => ?_)
  obtain ⟨aj36, h1aj36, kaj36⟩ := ob1 h
  have haj36 : ∀ (v17 : Int32) (H : Heap) (lc : List Loc) (cn sn : Nat) (ls : Array Slot), aj36 = v17 → wH g s.heap.size (cs, t) H lc → lv_has ls 7 [(5, .int v17), (4, .int v2), (0, .ref (gmd g 32)), (1, .int p0), (2, .int p1), (3, .int p2)] → W p l e (rmO g 3 66 s.heap) s mi args below meth cd H lc cn sn Q (F0 mi 66 ls []) := by
    intro v17 H lc cn sn ls h hw hl
    replace h := kaj36 _ h
    refine lv_aload_n hx hb dX7_begin_66 rfl (lv_at hl 2 rfl) ?_
    refine lv_iload hx hb dX7_begin_67 (lv_at hl 0 rfl) ?_
    obtain ⟨aj35, h1aj35, kaj35⟩ := ob1 h
    have haj35 : ∀ (v24 : Int32) (H : Heap) (lc : List Loc) (cn sn : Nat) (ls : Array Slot), aj35 = v24 → wH g s.heap.size (cs, t) H lc → lv_has ls 7 [(0, .ref (gmd g 32)), (1, .int p0), (2, .int p1), (3, .int p2)] → W p l e (rmO g 3 66 s.heap) s mi args below meth cd H lc cn sn Q (F0 mi 109 ls [.int v24, .ref (gmd g 32)]) := by
      intro v24 H lc cn sn ls h hw hl
      replace h := kaj35 _ h
      obtain ⟨v26, t27, e25, h⟩ := oc2 h
      refine m_callI hX hn hw (n := 1) (As := [.int v24]) (rest := []) (c_X7_fails g l hn cs v24 t v26 t27 e25) gX7_begin_X7_fails rfl (by decide +kernel) rfl hl.1 rfl (Nat.le_of_ble_eq_true rfl) ⟨by decide, by decide⟩ dX7_begin_109 (fun H lc cn sn hw => ?_)
      refine lv_if_eq (tgt := 117) hx hb dX7_begin_112 (by decide) (fun c28 => ?_) (fun c28 => ?_)
      · replace h := ot c28 h
        refine lv_aload_n hx hb dX7_begin_117 rfl (lv_at hl 0 rfl) ?_
        refine lv_iload_n hx hb dX7_begin_118 rfl (lv_at hl 1 rfl) ?_
        refine lv_iload_n hx hb dX7_begin_119 rfl (lv_at hl 2 rfl) ?_
        refine lv_iload_n hx hb dX7_begin_120 rfl (lv_at hl 3 rfl) ?_
        obtain ⟨v30, t31, e29, h⟩ := oc2 h
        refine m_callI hX hn hw (n := 3) (As := [.int p0, .int p1, .int p2]) (rest := []) (c_X7_adds g l hn cs p0 p1 p2 t27 v30 t31 e29) gX7_begin_X7_adds rfl (by decide +kernel) rfl hl.1 rfl (Nat.le_of_ble_eq_true rfl) ⟨by decide, by decide⟩ dX7_begin_121 (fun H lc cn sn hw => ?_)
        refine lv_istore (lv' := [(6, .int v30), (0, .ref (gmd g 32)), (1, .int p0), (2, .int p1), (3, .int p2)]) hx hb dX7_begin_124 hl (by decide) rfl (fun ls hl => ?_)
        refine lv_aload_n hx hb dX7_begin_126 rfl (lv_at hl 1 rfl) ?_
        obtain ⟨v33, t34, e32, h⟩ := oc2 h
        refine m_callI hX hn hw (n := 0) (As := []) (rest := []) (c_X7_goesOn g l hn cs  t31 v33 t34 e32) gX7_begin_X7_goesOn rfl (by decide +kernel) rfl hl.1 rfl (Nat.le_of_ble_eq_true rfl) ⟨by decide, by decide⟩ dX7_begin_127 (fun H lc cn sn hw => ?_)
        refine lv_pop hx hb dX7_begin_130 rfl ?_
        refine lv_iload hx hb dX7_begin_131 (lv_at hl 0 rfl) ?_
        replace h := (Option.some.inj h).symm
        have h9 : t' = t34 := congrArg Prod.snd h
        have hw : wH g s.heap.size (cs, t') H lc := by rw [h9]; exact hw
        exact hret _ _ _ _ _ _ _ dX7_begin_133 hw (congrArg Prod.fst h).symm
      · replace h := oe c28 h
        refine lv_iconst (v := 0) hx hb dX7_begin_115 (by decide) ?_
        replace h := (Option.some.inj h).symm
        have h9 : t' = t27 := congrArg Prod.snd h
        have hw : wH g s.heap.size (cs, t') H lc := by rw [h9]; exact hw
        exact hret _ _ _ _ _ _ _ dX7_begin_116 hw (congrArg Prod.fst h).symm
    replace h := h1aj35
    refine lv_if_ne (tgt := 76) hx hb dX7_begin_69 (by decide) (fun c18 => ?_) (fun c18 => ?_)
    · replace h := oe c18 h
      refine lv_iload hx hb dX7_begin_76 (lv_at hl 1 rfl) ?_
      refine lv_if_ne (tgt := 85) hx hb dX7_begin_78 (by decide) (fun c19 => ?_) (fun c19 => ?_)
      · replace h := oe c19 h
        refine lv_aload_n hx hb dX7_begin_85 rfl (lv_at hl 2 rfl) ?_
        refine m_gf hX hn hw 1 (v := .ref (gmd g 1)) (by decide +kernel) (by decide) (by decide +kernel) rfl dX7_begin_86 ?_
        refine lv_iload_n hx hb dX7_begin_89 rfl (lv_at hl 3 rfl) ?_
        obtain ⟨c20, h⟩ := og h
        refine m_ld hX hn hw 1 (by decide) (by decide) rfl c20 dX7_begin_90 ?_
        refine lv_iconst (v := 1) hx hb dX7_begin_91 (by decide) ?_
        obtain ⟨aj23, h1aj23, kaj23, raj23⟩ := ol0 h
        have haj23 : ∀ (H : Heap) (lc : List Loc) (cn sn : Nat) (ls : Array Slot), aj23 = Sum.inl () → wH g s.heap.size (cs, t) H lc → lv_has ls 7 [(0, .ref (gmd g 32)), (1, .int p0), (2, .int p1), (3, .int p2)] → W p l e (rmO g 3 66 s.heap) s mi args below meth cd H lc cn sn Q (F0 mi 104 ls [.ref (gmd g 32)]) := by
          intro H lc cn sn ls h hw hl
          replace h := kaj23 h
          refine lv_iconst (v := 3) hx hb dX7_begin_104 (by decide) ?_
          refine lv_goto (tgt := 109) hx hb dX7_begin_105 (by decide) ?_
          replace h := (Option.some.inj h).symm
          exact haj35 _ _ _ _ _ _ h hw (lv_sub hl [0, 1, 2, 3] rfl)
        replace h := h1aj23
        refine lv_icmp_ne (tgt := 104) hx hb dX7_begin_92 (by decide) (fun c21 => ?_) (fun c21 => ?_)
        · replace h := oe c21 h
          replace h := (Option.some.inj h).symm
          exact haj23 _ _ _ _ _ h hw (lv_sub hl [2, 3, 4, 5] rfl)
        · replace h := ot c21 h
          refine lv_aload_n hx hb dX7_begin_95 rfl (lv_at hl 2 rfl) ?_
          refine m_gf hX hn hw 18 (v := .int (gs t 18)) (by decide +kernel) (by decide) (by decide +kernel) rfl dX7_begin_96 ?_
          refine lv_bipush (v := 60) hx hb dX7_begin_99 (by decide) ?_
          refine lv_icmp_ne (tgt := 108) hx hb dX7_begin_101 (by decide) (fun c22 => ?_) (fun c22 => ?_)
          · replace h := oe c22 h
            refine lv_iconst (v := 0) hx hb dX7_begin_108 (by decide) ?_
            replace h := (Option.some.inj h).symm
            replace h := raj23 _ h
            exact haj35 _ _ _ _ _ _ h hw (lv_sub hl [2, 3, 4, 5] rfl)
          · replace h := ot c22 h
            replace h := (Option.some.inj h).symm
            exact haj23 _ _ _ _ _ h hw (lv_sub hl [2, 3, 4, 5] rfl)
      · replace h := ot c19 h
        refine lv_iconst (v := 2) hx hb dX7_begin_81 (by decide) ?_
        refine lv_goto (tgt := 109) hx hb dX7_begin_82 (by decide) ?_
        replace h := (Option.some.inj h).symm
        exact haj35 _ _ _ _ _ _ h hw (lv_sub hl [2, 3, 4, 5] rfl)
    · replace h := ot c18 h
      refine lv_iconst (v := 1) hx hb dX7_begin_72 (by decide) ?_
      refine lv_goto (tgt := 109) hx hb dX7_begin_73 (by decide) ?_
      replace h := (Option.some.inj h).symm
      exact haj35 _ _ _ _ _ _ h hw (lv_sub hl [2, 3, 4, 5] rfl)
  have hkj36 : ∀ (n : Nat) (v5 : Int32) (v6 : Int32) (H : Heap) (lc : List Loc) (cn sn : Nat) (ls : Array Slot), x_X7_begin_L1 p1 t v2 n v5 v6 = some aj36 → wH g s.heap.size (cs, t) H lc → lv_has ls 7 [(6, .int v5), (5, .int v6), (4, .int v2), (0, .ref (gmd g 32)), (1, .int p0), (2, .int p1), (3, .int p2)] → W p l e (rmO g 3 66 s.heap) s mi args below meth cd H lc cn sn Q (F0 mi 18 ls []) := by
    intro n
    induction n with
    | zero =>
      intro v5 v6 H lc cn sn ls h
      rw [x_X7_begin_L1] at h
      cases h
    | succ n ih =>
      intro v5 v6 H lc cn sn ls h hw hl
      rw [x_X7_begin_L1] at h
      refine lv_iload hx hb dX7_begin_18 (lv_at hl 0 rfl) ?_
      refine lv_iconst (v := 3) hx hb dX7_begin_20 (by decide) ?_
      refine lv_icmp_ge (tgt := 66) hx hb dX7_begin_21 (by decide) (fun c7 => ?_) (fun c7 => ?_)
      · replace h := ot c7 h
        replace h := (Option.some.inj h).symm
        exact haj36 _ _ _ _ _ _ h hw (lv_sub hl [1, 2, 3, 4, 5, 6] rfl)
      · replace h := oe c7 h
        refine lv_iload hx hb dX7_begin_24 (lv_at hl 2 rfl) ?_
        refine lv_if_eq (tgt := 66) hx hb dX7_begin_26 (by decide) (fun c8 => ?_) (fun c8 => ?_)
        · replace h := ot c8 h
          replace h := (Option.some.inj h).symm
          exact haj36 _ _ _ _ _ _ h hw (lv_sub hl [1, 2, 3, 4, 5, 6] rfl)
        · replace h := oe c8 h
          refine lv_iload hx hb dX7_begin_29 (lv_at hl 1 rfl) ?_
          obtain ⟨aj16, h1aj16, kaj16⟩ := ob1 h
          have haj16 : ∀ (v15 : Int32) (H : Heap) (lc : List Loc) (cn sn : Nat) (ls : Array Slot), aj16 = v15 → wH g s.heap.size (cs, t) H lc → lv_has ls 7 [(6, .int v5), (4, .int v2), (0, .ref (gmd g 32)), (1, .int p0), (2, .int p1), (3, .int p2)] → W p l e (rmO g 3 66 s.heap) s mi args below meth cd H lc cn sn Q (F0 mi 58 ls [.int v15]) := by
            intro v15 H lc cn sn ls h hw hl
            replace h := kaj16 _ h
            refine lv_istore (lv' := [(5, .int v15), (6, .int v5), (4, .int v2), (0, .ref (gmd g 32)), (1, .int p0), (2, .int p1), (3, .int p2)]) hx hb dX7_begin_58 hl (by decide) rfl (fun ls hl => ?_)
            refine lv_iinc (v := (v5 + 1)) (lv' := [(6, .int (v5 + 1)), (5, .int v15), (4, .int v2), (0, .ref (gmd g 32)), (1, .int p0), (2, .int p1), (3, .int p2)]) hx hb dX7_begin_60 hl (k := 1) rfl (by rfl) (by decide) rfl (fun ls hl => ?_)
            refine lv_goto (tgt := 18) hx hb dX7_begin_63 (by decide) ?_
            exact ih _ _ _ _ _ _ _ h hw (lv_sub hl [0, 1, 2, 3, 4, 5, 6] rfl)
          replace h := h1aj16
          obtain ⟨aj14, h1aj14, kaj14, raj14⟩ := ol0 h
          have haj14 : ∀ (H : Heap) (lc : List Loc) (cn sn : Nat) (ls : Array Slot), aj14 = Sum.inl () → wH g s.heap.size (cs, t) H lc → lv_has ls 7 [(6, .int v5), (4, .int v2), (0, .ref (gmd g 32)), (1, .int p0), (2, .int p1), (3, .int p2)] → W p l e (rmO g 3 66 s.heap) s mi args below meth cd H lc cn sn Q (F0 mi 57 ls []) := by
            intro H lc cn sn ls h hw hl
            replace h := kaj14 h
            refine lv_iconst (v := 0) hx hb dX7_begin_57 (by decide) ?_
            replace h := (Option.some.inj h).symm
            exact haj16 _ _ _ _ _ _ h hw (lv_sub hl [0, 1, 2, 3, 4, 5] rfl)
          replace h := h1aj14
          refine lv_if_eq (tgt := 57) hx hb dX7_begin_31 (by decide) (fun c9 => ?_) (fun c9 => ?_)
          · replace h := ot c9 h
            replace h := (Option.some.inj h).symm
            exact haj14 _ _ _ _ _ h hw (lv_sub hl [0, 2, 3, 4, 5, 6] rfl)
          · replace h := oe c9 h
            refine lv_iload_n hx hb dX7_begin_34 rfl (lv_at hl 5 rfl) ?_
            refine lv_iload hx hb dX7_begin_35 (lv_at hl 0 rfl) ?_
            refine lv_ishr hx hb dX7_begin_37 ?_
            refine lv_iconst (v := 1) hx hb dX7_begin_38 (by decide) ?_
            refine lv_iand hx hb dX7_begin_39 ?_
            obtain ⟨aj13, h1aj13, kaj13, raj13⟩ := ol0 h
            have haj13 : ∀ (H : Heap) (lc : List Loc) (cn sn : Nat) (ls : Array Slot), aj13 = Sum.inl () → wH g s.heap.size (cs, t) H lc → lv_has ls 7 [(6, .int v5), (4, .int v2), (0, .ref (gmd g 32)), (1, .int p0), (2, .int p1), (3, .int p2)] → W p l e (rmO g 3 66 s.heap) s mi args below meth cd H lc cn sn Q (F0 mi 53 ls []) := by
              intro H lc cn sn ls h hw hl
              replace h := kaj13 h
              refine lv_iconst (v := 1) hx hb dX7_begin_53 (by decide) ?_
              refine lv_goto (tgt := 58) hx hb dX7_begin_54 (by decide) ?_
              replace h := (Option.some.inj h).symm
              replace h := raj14 _ h
              exact haj16 _ _ _ _ _ _ h hw (lv_sub hl [0, 1, 2, 3, 4, 5] rfl)
            replace h := h1aj13
            refine lv_if_eq (tgt := 53) hx hb dX7_begin_40 (by decide) (fun c10 => ?_) (fun c10 => ?_)
            · replace h := ot c10 h
              replace h := (Option.some.inj h).symm
              exact haj13 _ _ _ _ _ h hw (lv_sub hl [0, 2, 3, 4, 5, 6] rfl)
            · replace h := oe c10 h
              refine lv_aload_n hx hb dX7_begin_43 rfl (lv_at hl 3 rfl) ?_
              refine m_gf hX hn hw 6 (v := .ref (gmd g 6)) (by decide +kernel) (by decide) (by decide +kernel) rfl dX7_begin_44 ?_
              refine lv_iload hx hb dX7_begin_47 (lv_at hl 0 rfl) ?_
              obtain ⟨c11, h⟩ := og h
              refine m_ldz hX hn hw 6 (by decide) (by decide) rfl c11 dX7_begin_49 ?_
              refine lv_if_eq (tgt := 57) hx hb dX7_begin_50 (by decide) (fun c12 => ?_) (fun c12 => ?_)
              · replace h := ot c12 h
                replace h := (Option.some.inj h).symm
                replace h := raj13 _ h
                exact haj14 _ _ _ _ _ h hw (lv_sub hl [0, 2, 3, 4, 5, 6] rfl)
              · replace h := oe c12 h
                replace h := (Option.some.inj h).symm
                exact haj13 _ _ _ _ _ h hw (lv_sub hl [0, 2, 3, 4, 5, 6] rfl)
  exact hkj36 FU 0 v4 _ _ _ _ _ h1aj36 hw (lv_sub hl [0, 1, 2, 3, 4, 5, 6] rfl)

set_option maxHeartbeats 4000000 in
set_option maxRecDepth 100000 in
theorem c_X7_standing (g : GG) (l : Launch) (hn : gnn g 4 = 1) (cs : CS) (p0 : Int32) (t : MS) (r : Int32) (t' : MS) (h : x_X7_standing p0 t = some (r, t')) : MetI g l yX7_standing wsX7_standing 2 43 [.ref (gmd g 32), .int p0] (cs, t) r (cs, t') := by
  refine mI_start (own := RX7) (by decide +kernel) rfl rfl (Nat.le_of_ble_eq_true rfl) ?_
  intro p e s mi args below meth cd ls Q hX hw hl hret
  have hl : lv_has ls 2 [(0, .ref (gmd g 32)), (1, .int p0)] := hl
  obtain ⟨⟨hx, hb, -, hown, hts⟩, -⟩ := id hX
  unfold x_X7_standing at h
  refine lv_aload_n hx hb dX7_standing_0 rfl (lv_at hl 0 rfl) ?_
  refine lv_aload_n hx hb dX7_standing_1 rfl (lv_at hl 0 rfl) ?_
  refine lv_iload_n hx hb dX7_standing_2 rfl (lv_at hl 1 rfl) ?_
  obtain ⟨v2, e1, h⟩ := ob h
  refine m_callI hX hn hw (n := 1) (As := [.int p0]) (rest := [.ref (gmd g 32)]) (c_X7_isTransaction g l hn cs p0 t v2 e1) gX7_standing_X7_isTransaction rfl (by decide +kernel) rfl hl.1 rfl (Nat.le_of_ble_eq_true rfl) ⟨by decide, by decide⟩ dX7_standing_3 (fun H lc cn sn hw => ?_)
  obtain ⟨aj12, h1aj12, kaj12⟩ := ob1 h
  have haj12 : ∀ (v4 : Int32) (H : Heap) (lc : List Loc) (cn sn : Nat) (ls : Array Slot), aj12 = v4 → wH g s.heap.size (cs, t) H lc → lv_has ls 2 [(0, .ref (gmd g 32)), (1, .int p0)] → W p l e (rmO g 2 43 s.heap) s mi args below meth cd H lc cn sn Q (F0 mi 14 ls [.int v4, .ref (gmd g 32)]) := by
    intro v4 H lc cn sn ls h hw hl
    replace h := kaj12 _ h
    obtain ⟨v6, t7, e5, h⟩ := oc2 h
    refine m_callI hX hn hw (n := 1) (As := [.int v4]) (rest := []) (c_X7_fails g l hn cs v4 t v6 t7 e5) gX7_standing_X7_fails rfl (by decide +kernel) rfl hl.1 rfl (Nat.le_of_ble_eq_true rfl) ⟨by decide, by decide⟩ dX7_standing_14 (fun H lc cn sn hw => ?_)
    obtain ⟨aj11, h1aj11, kaj11⟩ := ob1 h
    have haj11 : ∀ (v10 : Int32) (H : Heap) (lc : List Loc) (cn sn : Nat) (ls : Array Slot), aj11 = v10 → wH g s.heap.size (cs, t7) H lc → lv_has ls 2 [] → W p l e (rmO g 2 43 s.heap) s mi args below meth cd H lc cn sn Q (F0 mi 30 ls [.int v10]) := by
      intro v10 H lc cn sn ls h hw hl
      replace h := kaj11 _ h
      replace h := (Option.some.inj h).symm
      have h9 : t' = t7 := congrArg Prod.snd h
      have hw : wH g s.heap.size (cs, t') H lc := by rw [h9]; exact hw
      exact hret _ _ _ _ _ _ _ dX7_standing_30 hw (congrArg Prod.fst h).symm
    replace h := h1aj11
    refine lv_if_eq (tgt := 24) hx hb dX7_standing_17 (by decide) (fun c8 => ?_) (fun c8 => ?_)
    · replace h := ot c8 h
      refine lv_aload_n hx hb dX7_standing_24 rfl (lv_at hl 0 rfl) ?_
      refine m_gf hX hn hw 22 (v := .ref (gmd g 22)) (by decide +kernel) (by decide) (by decide +kernel) rfl dX7_standing_25 ?_
      refine lv_iload_n hx hb dX7_standing_28 rfl (lv_at hl 1 rfl) ?_
      obtain ⟨c9, h⟩ := og h
      refine m_ld hX hn hw 22 (by decide) (by decide) rfl c9 dX7_standing_29 ?_
      replace h := (Option.some.inj h).symm
      exact haj11 _ _ _ _ _ _ h hw (lv_sub hl [] rfl)
    · replace h := oe c8 h
      refine lv_iconst (v := 0) hx hb dX7_standing_20 (by decide) ?_
      refine lv_goto (tgt := 30) hx hb dX7_standing_21 (by decide) ?_
      replace h := (Option.some.inj h).symm
      exact haj11 _ _ _ _ _ _ h hw (lv_sub hl [] rfl)
  replace h := h1aj12
  refine lv_if_eq (tgt := 13) hx hb dX7_standing_6 (by decide) (fun c3 => ?_) (fun c3 => ?_)
  · replace h := ot c3 h
    refine lv_iconst (v := 1) hx hb dX7_standing_13 (by decide) ?_
    replace h := (Option.some.inj h).symm
    exact haj12 _ _ _ _ _ _ h hw (lv_sub hl [0, 1] rfl)
  · replace h := oe c3 h
    refine lv_iconst (v := 0) hx hb dX7_standing_9 (by decide) ?_
    refine lv_goto (tgt := 14) hx hb dX7_standing_10 (by decide) ?_
    replace h := (Option.some.inj h).symm
    exact haj12 _ _ _ _ _ _ h hw (lv_sub hl [0, 1] rfl)

set_option maxHeartbeats 4000000 in
set_option maxRecDepth 100000 in
theorem c_X7_commit (g : GG) (l : Launch) (hn : gnn g 4 = 1) (cs : CS) (p0 : Int32) (t : MS) (r : Int32) (t' : MS) (h : x_X7_commit p0 t = some (r, t')) : MetI g l yX7_commit wsX7_commit 3 66 [.ref (gmd g 32), .int p0] (cs, t) r (cs, t') := by
  refine mI_start (own := RX7) (by decide +kernel) rfl rfl (Nat.le_of_ble_eq_true rfl) ?_
  intro p e s mi args below meth cd ls Q hX hw hl hret
  have hl : lv_has ls 3 [(0, .ref (gmd g 32)), (1, .int p0)] := hl
  obtain ⟨⟨hx, hb, -, hown, hts⟩, -⟩ := id hX
  unfold x_X7_commit at h
  refine lv_aload_n hx hb dX7_commit_0 rfl (lv_at hl 0 rfl) ?_
  refine lv_iload_n hx hb dX7_commit_1 rfl (lv_at hl 1 rfl) ?_
  obtain ⟨v2, e1, h⟩ := ob h
  refine m_callI hX hn hw (n := 1) (As := [.int p0]) (rest := []) (c_X7_isTransaction g l hn cs p0 t v2 e1) gX7_commit_X7_isTransaction rfl (by decide +kernel) rfl hl.1 rfl (Nat.le_of_ble_eq_true rfl) ⟨by decide, by decide⟩ dX7_commit_2 (fun H lc cn sn hw => ?_)
  refine lv_istore_n (lv' := [(2, .int v2), (0, .ref (gmd g 32)), (1, .int p0)]) hx hb dX7_commit_5 rfl hl (by decide) rfl (fun ls hl => ?_)
  refine lv_aload_n hx hb dX7_commit_6 rfl (lv_at hl 1 rfl) ?_
  refine lv_iload_n hx hb dX7_commit_7 rfl (lv_at hl 0 rfl) ?_
  obtain ⟨aj26, h1aj26, kaj26⟩ := ob1 h
  have haj26 : ∀ (v6 : Int32) (H : Heap) (lc : List Loc) (cn sn : Nat) (ls : Array Slot), aj26 = v6 → wH g s.heap.size (cs, t) H lc → lv_has ls 3 [(0, .ref (gmd g 32)), (1, .int p0)] → W p l e (rmO g 3 66 s.heap) s mi args below meth cd H lc cn sn Q (F0 mi 30 ls [.int v6, .ref (gmd g 32)]) := by
    intro v6 H lc cn sn ls h hw hl
    replace h := kaj26 _ h
    obtain ⟨v8, t9, e7, h⟩ := oc2 h
    refine m_callI hX hn hw (n := 1) (As := [.int v6]) (rest := []) (c_X7_fails g l hn cs v6 t v8 t9 e7) gX7_commit_X7_fails rfl (by decide +kernel) rfl hl.1 rfl (Nat.le_of_ble_eq_true rfl) ⟨by decide, by decide⟩ dX7_commit_30 (fun H lc cn sn hw => ?_)
    refine lv_if_eq (tgt := 38) hx hb dX7_commit_33 (by decide) (fun c10 => ?_) (fun c10 => ?_)
    · replace h := ot c10 h
      refine lv_aload_n hx hb dX7_commit_38 rfl (lv_at hl 0 rfl) ?_
      refine m_gf hX hn hw 22 (v := .ref (gmd g 22)) (by decide +kernel) (by decide) (by decide +kernel) rfl dX7_commit_39 ?_
      refine lv_iload_n hx hb dX7_commit_42 rfl (lv_at hl 1 rfl) ?_
      refine lv_iconst (v := 2) hx hb dX7_commit_43 (by decide) ?_
      obtain ⟨c11, h⟩ := og h
      obtain ⟨t12, et12, h⟩ := ol h
      refine m_st hX hn hw 22 (by decide) (by decide) rfl c11 dX7_commit_44 (fun H lc hw => ?_)
      have hw : wH g s.heap.size (cs, t12) H lc := by rw [et12]; exact hw
      refine lv_iload_n hx hb dX7_commit_45 rfl (lv_at hl 1 rfl) ?_
      refine lv_aload_n hx hb dX7_commit_46 rfl (lv_at hl 0 rfl) ?_
      refine m_gf hX hn hw 5 (v := .int (gs t12 5)) (by decide +kernel) (by decide) (by decide +kernel) rfl dX7_commit_47 ?_
      obtain ⟨aj25, h1aj25, kaj25⟩ := ob1 h
      have haj25 : ∀ (t21 : MS) (H : Heap) (lc : List Loc) (cn sn : Nat) (ls : Array Slot), aj25 = t21 → wH g s.heap.size (cs, t21) H lc → lv_has ls 3 [(0, .ref (gmd g 32))] → W p l e (rmO g 3 66 s.heap) s mi args below meth cd H lc cn sn Q (F0 mi 85 ls []) := by
        intro t21 H lc cn sn ls h hw hl
        replace h := kaj25 _ h
        refine lv_aload_n hx hb dX7_commit_85 rfl (lv_at hl 0 rfl) ?_
        obtain ⟨v23, t24, e22, h⟩ := oc2 h
        refine m_callI hX hn hw (n := 0) (As := []) (rest := []) (c_X7_goesOn g l hn cs  t21 v23 t24 e22) gX7_commit_X7_goesOn rfl (by decide +kernel) rfl hl.1 rfl (Nat.le_of_ble_eq_true rfl) ⟨by decide, by decide⟩ dX7_commit_86 (fun H lc cn sn hw => ?_)
        replace h := (Option.some.inj h).symm
        have h9 : t' = t24 := congrArg Prod.snd h
        have hw : wH g s.heap.size (cs, t') H lc := by rw [h9]; exact hw
        exact hret _ _ _ _ _ _ _ dX7_commit_89 hw (congrArg Prod.fst h).symm
      replace h := h1aj25
      refine lv_icmp_ne (tgt := 85) hx hb dX7_commit_50 (by decide) (fun c13 => ?_) (fun c13 => ?_)
      · replace h := oe c13 h
        replace h := (Option.some.inj h).symm
        exact haj25 _ _ _ _ _ _ h hw (lv_sub hl [0] rfl)
      · replace h := ot c13 h
        refine lv_aload_n hx hb dX7_commit_53 rfl (lv_at hl 0 rfl) ?_
        refine lv_iconst (v := (-1)) hx hb dX7_commit_54 (by decide) ?_
        obtain ⟨t14, et14, h⟩ := ol h
        refine m_pf hX hn hw 5 (v := (-1)) (by decide +kernel) (by decide) (by decide +kernel) rfl (by decide +kernel) rfl dX7_commit_55 (fun H lc hw => ?_)
        have hw : wH g s.heap.size (cs, t14) H lc := by rw [et14]; exact hw
        refine lv_aload_n hx hb dX7_commit_58 rfl (lv_at hl 0 rfl) ?_
        refine lv_aload_n hx hb dX7_commit_59 rfl (lv_at hl 0 rfl) ?_
        refine m_gf hX hn hw 2 (v := .ref (gmd g 2)) (by decide +kernel) (by decide) (by decide +kernel) rfl dX7_commit_60 ?_
        refine lv_aload_n hx hb dX7_commit_63 rfl (lv_at hl 0 rfl) ?_
        refine m_gf hX hn hw 19 (v := .ref (gmd g 19)) (by decide +kernel) (by decide) (by decide +kernel) rfl dX7_commit_64 ?_
        refine lv_iload_n hx hb dX7_commit_67 rfl (lv_at hl 1 rfl) ?_
        obtain ⟨c15, h⟩ := og h
        refine m_ld hX hn hw 19 (by decide) (by decide) rfl c15 dX7_commit_68 ?_
        obtain ⟨c16, h⟩ := og h
        refine m_ld hX hn hw 2 (by decide) (by decide) rfl c16 dX7_commit_69 ?_
        obtain ⟨t17, et17, h⟩ := ol h
        refine m_pf hX hn hw 0 (v := (ga t14 2 (ga t14 19 p0.toNatClampNeg).toNatClampNeg)) (by decide +kernel) (by decide) (by decide +kernel) rfl (by decide +kernel) rfl dX7_commit_70 (fun H lc hw => ?_)
        have hw : wH g s.heap.size (cs, t17) H lc := by rw [et17]; exact hw
        refine lv_aload_n hx hb dX7_commit_73 rfl (lv_at hl 0 rfl) ?_
        refine m_gf hX hn hw 1 (v := .ref (gmd g 1)) (by decide +kernel) (by decide) (by decide +kernel) rfl dX7_commit_74 ?_
        refine lv_aload_n hx hb dX7_commit_77 rfl (lv_at hl 0 rfl) ?_
        refine m_gf hX hn hw 19 (v := .ref (gmd g 19)) (by decide +kernel) (by decide) (by decide +kernel) rfl dX7_commit_78 ?_
        refine lv_iload_n hx hb dX7_commit_81 rfl (lv_at hl 1 rfl) ?_
        obtain ⟨c18, h⟩ := og h
        refine m_ld hX hn hw 19 (by decide) (by decide) rfl c18 dX7_commit_82 ?_
        refine lv_iconst (v := 1) hx hb dX7_commit_83 (by decide) ?_
        obtain ⟨c19, h⟩ := og h
        obtain ⟨t20, et20, h⟩ := ol h
        refine m_st hX hn hw 1 (by decide) (by decide) rfl c19 dX7_commit_84 (fun H lc hw => ?_)
        have hw : wH g s.heap.size (cs, t20) H lc := by rw [et20]; exact hw
        replace h := (Option.some.inj h).symm
        exact haj25 _ _ _ _ _ _ h hw (lv_sub hl [0] rfl)
    · replace h := oe c10 h
      refine lv_iconst (v := 0) hx hb dX7_commit_36 (by decide) ?_
      replace h := (Option.some.inj h).symm
      have h9 : t' = t9 := congrArg Prod.snd h
      have hw : wH g s.heap.size (cs, t') H lc := by rw [h9]; exact hw
      exact hret _ _ _ _ _ _ _ dX7_commit_37 hw (congrArg Prod.fst h).symm
  replace h := h1aj26
  refine lv_if_ne (tgt := 15) hx hb dX7_commit_8 (by decide) (fun c3 => ?_) (fun c3 => ?_)
  · replace h := oe c3 h
    refine lv_aload_n hx hb dX7_commit_15 rfl (lv_at hl 1 rfl) ?_
    refine m_gf hX hn hw 22 (v := .ref (gmd g 22)) (by decide +kernel) (by decide) (by decide +kernel) rfl dX7_commit_16 ?_
    refine lv_iload_n hx hb dX7_commit_19 rfl (lv_at hl 2 rfl) ?_
    obtain ⟨c4, h⟩ := og h
    refine m_ld hX hn hw 22 (by decide) (by decide) rfl c4 dX7_commit_20 ?_
    refine lv_iconst (v := 1) hx hb dX7_commit_21 (by decide) ?_
    refine lv_icmp_ne (tgt := 29) hx hb dX7_commit_22 (by decide) (fun c5 => ?_) (fun c5 => ?_)
    · replace h := oe c5 h
      refine lv_iconst (v := 2) hx hb dX7_commit_29 (by decide) ?_
      replace h := (Option.some.inj h).symm
      exact haj26 _ _ _ _ _ _ h hw (lv_sub hl [1, 2] rfl)
    · replace h := ot c5 h
      refine lv_iconst (v := 0) hx hb dX7_commit_25 (by decide) ?_
      refine lv_goto (tgt := 30) hx hb dX7_commit_26 (by decide) ?_
      replace h := (Option.some.inj h).symm
      exact haj26 _ _ _ _ _ _ h hw (lv_sub hl [1, 2] rfl)
  · replace h := ot c3 h
    refine lv_iconst (v := 1) hx hb dX7_commit_11 (by decide) ?_
    refine lv_goto (tgt := 30) hx hb dX7_commit_12 (by decide) ?_
    replace h := (Option.some.inj h).symm
    exact haj26 _ _ _ _ _ _ h hw (lv_sub hl [1, 2] rfl)

set_option maxHeartbeats 4000000 in
set_option maxRecDepth 100000 in
theorem c_X7_abort (g : GG) (l : Launch) (hn : gnn g 4 = 1) (cs : CS) (p0 : Int32) (t : MS) (r : Int32) (t' : MS) (h : x_X7_abort p0 t = some (r, t')) : MetI g l yX7_abort wsX7_abort 3 68 [.ref (gmd g 32), .int p0] (cs, t) r (cs, t') := by
  refine mI_start (own := RX7) (by decide +kernel) rfl rfl (Nat.le_of_ble_eq_true rfl) ?_
  intro p e s mi args below meth cd ls Q hX hw hl hret
  have hl : lv_has ls 5 [(0, .ref (gmd g 32)), (1, .int p0)] := hl
  obtain ⟨⟨hx, hb, -, hown, hts⟩, -⟩ := id hX
  unfold x_X7_abort at h
  refine lv_aload_n hx hb dX7_abort_0 rfl (lv_at hl 0 rfl) ?_
  refine lv_iload_n hx hb dX7_abort_1 rfl (lv_at hl 1 rfl) ?_
  obtain ⟨v2, e1, h⟩ := ob h
  refine m_callI hX hn hw (n := 1) (As := [.int p0]) (rest := []) (c_X7_isTransaction g l hn cs p0 t v2 e1) gX7_abort_X7_isTransaction rfl (by decide +kernel) rfl hl.1 rfl (Nat.le_of_ble_eq_true rfl) ⟨by decide, by decide⟩ dX7_abort_2 (fun H lc cn sn hw => ?_)
  refine lv_istore_n (lv' := [(2, .int v2), (0, .ref (gmd g 32)), (1, .int p0)]) hx hb dX7_abort_5 rfl hl (by decide) rfl (fun ls hl => ?_)
  refine lv_iload_n hx hb dX7_abort_6 rfl (lv_at hl 0 rfl) ?_
  obtain ⟨aj31, h1aj31, kaj31⟩ := ob1 h
  have haj31 : ∀ (v15 : Int32) (H : Heap) (lc : List Loc) (cn sn : Nat) (ls : Array Slot), aj31 = v15 → wH g s.heap.size (cs, t) H lc → lv_has ls 5 [(2, .int v2), (0, .ref (gmd g 32)), (1, .int p0)] → W p l e (rmO g 3 68 s.heap) s mi args below meth cd H lc cn sn Q (F0 mi 53 ls [.int v15]) := by
    intro v15 H lc cn sn ls h hw hl
    replace h := kaj31 _ h
    refine lv_istore_n (lv' := [(3, .int v15), (2, .int v2), (0, .ref (gmd g 32)), (1, .int p0)]) hx hb dX7_abort_53 rfl hl (by decide) rfl (fun ls hl => ?_)
    refine lv_aload_n hx hb dX7_abort_54 rfl (lv_at hl 2 rfl) ?_
    refine lv_iload_n hx hb dX7_abort_55 rfl (lv_at hl 1 rfl) ?_
    obtain ⟨aj30, h1aj30, kaj30⟩ := ob1 h
    have haj30 : ∀ (v18 : Int32) (H : Heap) (lc : List Loc) (cn sn : Nat) (ls : Array Slot), aj30 = v18 → wH g s.heap.size (cs, t) H lc → lv_has ls 5 [(0, .ref (gmd g 32)), (1, .int p0)] → W p l e (rmO g 3 68 s.heap) s mi args below meth cd H lc cn sn Q (F0 mi 72 ls [.int v18, .ref (gmd g 32)]) := by
      intro v18 H lc cn sn ls h hw hl
      replace h := kaj30 _ h
      obtain ⟨v20, t21, e19, h⟩ := oc2 h
      refine m_callI hX hn hw (n := 1) (As := [.int v18]) (rest := []) (c_X7_fails g l hn cs v18 t v20 t21 e19) gX7_abort_X7_fails rfl (by decide +kernel) rfl hl.1 rfl (Nat.le_of_ble_eq_true rfl) ⟨by decide, by decide⟩ dX7_abort_72 (fun H lc cn sn hw => ?_)
      refine lv_if_eq (tgt := 80) hx hb dX7_abort_75 (by decide) (fun c22 => ?_) (fun c22 => ?_)
      · replace h := ot c22 h
        refine lv_aload_n hx hb dX7_abort_80 rfl (lv_at hl 0 rfl) ?_
        refine lv_iload_n hx hb dX7_abort_81 rfl (lv_at hl 1 rfl) ?_
        obtain ⟨t24, e23, h⟩ := ob h
        refine m_callV hX hn hw (n := 1) (As := [.int p0]) (rest := []) (c_X7_aborts g l hn cs p0 t21 t24 e23) gX7_abort_X7_aborts rfl (by decide +kernel) rfl hl.1 rfl (Nat.le_of_ble_eq_true rfl) ⟨by decide, by decide⟩ dX7_abort_82 (fun H lc cn sn hw => ?_)
        refine lv_aload_n hx hb dX7_abort_85 rfl (lv_at hl 0 rfl) ?_
        obtain ⟨v26, t27, e25, h⟩ := oc2 h
        refine m_callI hX hn hw (n := 0) (As := []) (rest := []) (c_X7_goesOn g l hn cs  t24 v26 t27 e25) gX7_abort_X7_goesOn rfl (by decide +kernel) rfl hl.1 rfl (Nat.le_of_ble_eq_true rfl) ⟨by decide, by decide⟩ dX7_abort_86 (fun H lc cn sn hw => ?_)
        refine lv_istore (lv' := [(4, .int v26), (0, .ref (gmd g 32)), (1, .int p0)]) hx hb dX7_abort_89 hl (by decide) rfl (fun ls hl => ?_)
        refine lv_aload_n hx hb dX7_abort_91 rfl (lv_at hl 1 rfl) ?_
        obtain ⟨t29, e28, h⟩ := ob h
        refine m_callV hX hn hw (n := 0) (As := []) (rest := []) (c_X7_looks g l hn cs  t27 t29 e28) gX7_abort_X7_looks rfl (by decide +kernel) rfl hl.1 rfl (Nat.le_of_ble_eq_true rfl) ⟨by decide, by decide⟩ dX7_abort_92 (fun H lc cn sn hw => ?_)
        refine lv_iload hx hb dX7_abort_95 (lv_at hl 0 rfl) ?_
        replace h := (Option.some.inj h).symm
        have h9 : t' = t29 := congrArg Prod.snd h
        have hw : wH g s.heap.size (cs, t') H lc := by rw [h9]; exact hw
        exact hret _ _ _ _ _ _ _ dX7_abort_97 hw (congrArg Prod.fst h).symm
      · replace h := oe c22 h
        refine lv_iconst (v := 0) hx hb dX7_abort_78 (by decide) ?_
        replace h := (Option.some.inj h).symm
        have h9 : t' = t21 := congrArg Prod.snd h
        have hw : wH g s.heap.size (cs, t') H lc := by rw [h9]; exact hw
        exact hret _ _ _ _ _ _ _ dX7_abort_79 hw (congrArg Prod.fst h).symm
    replace h := h1aj30
    refine lv_if_ne (tgt := 63) hx hb dX7_abort_56 (by decide) (fun c16 => ?_) (fun c16 => ?_)
    · replace h := oe c16 h
      refine lv_iload_n hx hb dX7_abort_63 rfl (lv_at hl 0 rfl) ?_
      refine lv_if_eq (tgt := 71) hx hb dX7_abort_64 (by decide) (fun c17 => ?_) (fun c17 => ?_)
      · replace h := ot c17 h
        refine lv_iconst (v := 2) hx hb dX7_abort_71 (by decide) ?_
        replace h := (Option.some.inj h).symm
        exact haj30 _ _ _ _ _ _ h hw (lv_sub hl [2, 3] rfl)
      · replace h := oe c17 h
        refine lv_iconst (v := 0) hx hb dX7_abort_67 (by decide) ?_
        refine lv_goto (tgt := 72) hx hb dX7_abort_68 (by decide) ?_
        replace h := (Option.some.inj h).symm
        exact haj30 _ _ _ _ _ _ h hw (lv_sub hl [2, 3] rfl)
    · replace h := ot c16 h
      refine lv_iconst (v := 1) hx hb dX7_abort_59 (by decide) ?_
      refine lv_goto (tgt := 72) hx hb dX7_abort_60 (by decide) ?_
      replace h := (Option.some.inj h).symm
      exact haj30 _ _ _ _ _ _ h hw (lv_sub hl [2, 3] rfl)
  replace h := h1aj31
  obtain ⟨aj14, h1aj14, kaj14, raj14⟩ := ol0 h
  have haj14 : ∀ (H : Heap) (lc : List Loc) (cn sn : Nat) (ls : Array Slot), aj14 = Sum.inl () → wH g s.heap.size (cs, t) H lc → lv_has ls 5 [(2, .int v2), (0, .ref (gmd g 32)), (1, .int p0)] → W p l e (rmO g 3 68 s.heap) s mi args below meth cd H lc cn sn Q (F0 mi 52 ls []) := by
    intro H lc cn sn ls h hw hl
    replace h := kaj14 h
    refine lv_iconst (v := 0) hx hb dX7_abort_52 (by decide) ?_
    replace h := (Option.some.inj h).symm
    exact haj31 _ _ _ _ _ _ h hw (lv_sub hl [0, 1, 2] rfl)
  replace h := h1aj14
  refine lv_if_eq (tgt := 52) hx hb dX7_abort_7 (by decide) (fun c3 => ?_) (fun c3 => ?_)
  · replace h := ot c3 h
    replace h := (Option.some.inj h).symm
    exact haj14 _ _ _ _ _ h hw (lv_sub hl [0, 1, 2] rfl)
  · replace h := oe c3 h
    refine lv_aload_n hx hb dX7_abort_10 rfl (lv_at hl 1 rfl) ?_
    refine lv_iload_n hx hb dX7_abort_11 rfl (lv_at hl 2 rfl) ?_
    obtain ⟨v5, e4, h⟩ := ob h
    refine m_callI hX hn hw (n := 1) (As := [.int p0]) (rest := []) (c_X7_isAlive g l hn cs p0 t v5 e4) gX7_abort_X7_isAlive rfl (by decide +kernel) rfl hl.1 rfl (Nat.le_of_ble_eq_true rfl) ⟨by decide, by decide⟩ dX7_abort_12 (fun H lc cn sn hw => ?_)
    refine lv_if_eq (tgt := 52) hx hb dX7_abort_15 (by decide) (fun c6 => ?_) (fun c6 => ?_)
    · replace h := ot c6 h
      replace h := (Option.some.inj h).symm
      exact haj14 _ _ _ _ _ h hw (lv_sub hl [0, 1, 2] rfl)
    · replace h := oe c6 h
      refine lv_iload_n hx hb dX7_abort_18 rfl (lv_at hl 2 rfl) ?_
      refine lv_aload_n hx hb dX7_abort_19 rfl (lv_at hl 1 rfl) ?_
      refine m_gf hX hn hw 5 (v := .int (gs t 5)) (by decide +kernel) (by decide) (by decide +kernel) rfl dX7_abort_20 ?_
      obtain ⟨aj13, h1aj13, kaj13, raj13⟩ := ol0 h
      have haj13 : ∀ (H : Heap) (lc : List Loc) (cn sn : Nat) (ls : Array Slot), aj13 = Sum.inl () → wH g s.heap.size (cs, t) H lc → lv_has ls 5 [(2, .int v2), (0, .ref (gmd g 32)), (1, .int p0)] → W p l e (rmO g 3 68 s.heap) s mi args below meth cd H lc cn sn Q (F0 mi 48 ls []) := by
        intro H lc cn sn ls h hw hl
        replace h := kaj13 h
        refine lv_iconst (v := 1) hx hb dX7_abort_48 (by decide) ?_
        refine lv_goto (tgt := 53) hx hb dX7_abort_49 (by decide) ?_
        replace h := (Option.some.inj h).symm
        replace h := raj14 _ h
        exact haj31 _ _ _ _ _ _ h hw (lv_sub hl [0, 1, 2] rfl)
      replace h := h1aj13
      refine lv_icmp_ne (tgt := 48) hx hb dX7_abort_23 (by decide) (fun c7 => ?_) (fun c7 => ?_)
      · replace h := oe c7 h
        replace h := (Option.some.inj h).symm
        exact haj13 _ _ _ _ _ h hw (lv_sub hl [0, 1, 2] rfl)
      · replace h := ot c7 h
        refine lv_aload_n hx hb dX7_abort_26 rfl (lv_at hl 1 rfl) ?_
        refine lv_aload_n hx hb dX7_abort_27 rfl (lv_at hl 1 rfl) ?_
        refine m_gf hX hn hw 19 (v := .ref (gmd g 19)) (by decide +kernel) (by decide) (by decide +kernel) rfl dX7_abort_28 ?_
        refine lv_iload_n hx hb dX7_abort_31 rfl (lv_at hl 2 rfl) ?_
        obtain ⟨c8, h⟩ := og h
        refine m_ld hX hn hw 19 (by decide) (by decide) rfl c8 dX7_abort_32 ?_
        obtain ⟨v10, e9, h⟩ := ob h
        refine m_callI hX hn hw (n := 1) (As := [.int (ga t 19 p0.toNatClampNeg)]) (rest := []) (c_X7_wouldBegin g l hn cs (ga t 19 p0.toNatClampNeg) t v10 e9) gX7_abort_X7_wouldBegin rfl (by decide +kernel) rfl hl.1 rfl (Nat.le_of_ble_eq_true rfl) ⟨by decide, by decide⟩ dX7_abort_33 (fun H lc cn sn hw => ?_)
        refine lv_if_eq (tgt := 48) hx hb dX7_abort_36 (by decide) (fun c11 => ?_) (fun c11 => ?_)
        · replace h := ot c11 h
          replace h := (Option.some.inj h).symm
          exact haj13 _ _ _ _ _ h hw (lv_sub hl [0, 1, 2] rfl)
        · replace h := oe c11 h
          refine lv_aload_n hx hb dX7_abort_39 rfl (lv_at hl 1 rfl) ?_
          refine m_gf hX hn hw 18 (v := .int (gs t 18)) (by decide +kernel) (by decide) (by decide +kernel) rfl dX7_abort_40 ?_
          refine lv_bipush (v := 60) hx hb dX7_abort_43 (by decide) ?_
          refine lv_icmp_eq (tgt := 52) hx hb dX7_abort_45 (by decide) (fun c12 => ?_) (fun c12 => ?_)
          · replace h := ot c12 h
            replace h := (Option.some.inj h).symm
            replace h := raj13 _ h
            exact haj14 _ _ _ _ _ h hw (lv_sub hl [0, 1, 2] rfl)
          · replace h := oe c12 h
            replace h := (Option.some.inj h).symm
            exact haj13 _ _ _ _ _ h hw (lv_sub hl [0, 1, 2] rfl)

set_option maxHeartbeats 4000000 in
set_option maxRecDepth 100000 in
theorem c_X7_put (g : GG) (l : Launch) (hn : gnn g 4 = 1) (cs : CS) (p0 : Int32) (p1 : Int32) (p2 : Int32) (p3 : Int32) (p4 : Int32) (p5 : Int32) (t : MS) (r : Int32) (t' : MS) (h : x_X7_put p0 p1 p2 p3 p4 p5 t = some (r, t')) : MetI g l yX7_put wsX7_put 2 46 [.ref (gmd g 32), .int p0, .int p1, .int p2, .int p3, .int p4, .int p5] (cs, t) r (cs, t') := by
  refine mZ_start (own := RX7) (by decide +kernel) rfl rfl (Nat.le_of_ble_eq_true rfl) ?_
  intro p e s mi args below meth cd ls Q hX hw hl hret
  have hl : lv_has ls 13 [(0, .ref (gmd g 32)), (1, .int p0), (2, .int p1), (3, .int p2), (4, .int p3), (5, .int p4), (6, .int p5)] := hl
  obtain ⟨⟨hx, hb, -, hown, hts⟩, -⟩ := id hX
  unfold x_X7_put at h
  refine lv_aload_n hx hb dX7_put_0 rfl (lv_at hl 0 rfl) ?_
  refine lv_iload_n hx hb dX7_put_1 rfl (lv_at hl 1 rfl) ?_
  obtain ⟨v2, e1, h⟩ := ob h
  refine m_callI hX hn hw (n := 1) (As := [.int p0]) (rest := []) (c_X7_isTransaction g l hn cs p0 t v2 e1) gX7_put_X7_isTransaction rfl (by decide +kernel) rfl hl.1 rfl (Nat.le_of_ble_eq_true rfl) ⟨by decide, by decide⟩ dX7_put_2 (fun H lc cn sn hw => ?_)
  obtain ⟨aj82, h1aj82, kaj82⟩ := ob1 h
  have haj82 : ∀ (v8 : Int32) (H : Heap) (lc : List Loc) (cn sn : Nat) (ls : Array Slot), aj82 = v8 → wH g s.heap.size (cs, t) H lc → lv_has ls 13 [(0, .ref (gmd g 32)), (1, .int p0), (2, .int p1), (3, .int p2), (4, .int p3), (5, .int p4), (6, .int p5)] → W p l e (rmO g 2 46 s.heap) s mi args below meth cd H lc cn sn Q (F0 mi 21 ls [.int v8]) := by
    intro v8 H lc cn sn ls h hw hl
    replace h := kaj82 _ h
    refine lv_istore (lv' := [(7, .int v8), (0, .ref (gmd g 32)), (1, .int p0), (2, .int p1), (3, .int p2), (4, .int p3), (5, .int p4), (6, .int p5)]) hx hb dX7_put_21 hl (by decide) rfl (fun ls hl => ?_)
    refine lv_iload_n hx hb dX7_put_23 rfl (lv_at hl 4 rfl) ?_
    obtain ⟨v10, e9, h⟩ := ob h
    refine tw_callSI hX hw (n := 1) (As := [.int p2]) (rest := []) (c_X7_isKey g l hn cs p2 t v10 e9) gX7_put_X7_isKey rfl (by decide +kernel) rfl hl.1 rfl (Nat.le_of_ble_eq_true rfl) ⟨by decide, by decide⟩ dX7_put_24 (fun H lc cn sn hw => ?_)
    obtain ⟨aj81, h1aj81, kaj81⟩ := ob1 h
    have haj81 : ∀ (v22 : Int32) (H : Heap) (lc : List Loc) (cn sn : Nat) (ls : Array Slot), aj81 = v22 → wH g s.heap.size (cs, t) H lc → lv_has ls 13 [(7, .int v8), (0, .ref (gmd g 32)), (1, .int p0), (2, .int p1), (3, .int p2), (4, .int p3), (5, .int p4), (6, .int p5)] → W p l e (rmO g 2 46 s.heap) s mi args below meth cd H lc cn sn Q (F0 mi 71 ls [.int v22]) := by
      intro v22 H lc cn sn ls h hw hl
      replace h := kaj81 _ h
      refine lv_istore (lv' := [(8, .int v22), (7, .int v8), (0, .ref (gmd g 32)), (1, .int p0), (2, .int p1), (3, .int p2), (4, .int p3), (5, .int p4), (6, .int p5)]) hx hb dX7_put_71 hl (by decide) rfl (fun ls hl => ?_)
      refine lv_iload hx hb dX7_put_73 (lv_at hl 1 rfl) ?_
      obtain ⟨aj80, h1aj80, kaj80⟩ := ob1 h
      have haj80 : ∀ (v26 : Int32) (H : Heap) (lc : List Loc) (cn sn : Nat) (ls : Array Slot), aj80 = v26 → wH g s.heap.size (cs, t) H lc → lv_has ls 13 [(8, .int v22), (7, .int v8), (0, .ref (gmd g 32)), (1, .int p0), (2, .int p1), (3, .int p2), (4, .int p3), (5, .int p4), (6, .int p5)] → W p l e (rmO g 2 46 s.heap) s mi args below meth cd H lc cn sn Q (F0 mi 88 ls [.int v26]) := by
        intro v26 H lc cn sn ls h hw hl
        replace h := kaj80 _ h
        refine lv_istore (lv' := [(9, .int v26), (8, .int v22), (7, .int v8), (0, .ref (gmd g 32)), (1, .int p0), (2, .int p1), (3, .int p2), (4, .int p3), (5, .int p4), (6, .int p5)]) hx hb dX7_put_88 hl (by decide) rfl (fun ls hl => ?_)
        refine lv_iload hx hb dX7_put_90 (lv_at hl 0 rfl) ?_
        refine lv_iconst (v := (-1)) hx hb dX7_put_92 (by decide) ?_
        obtain ⟨aj79, h1aj79, kaj79⟩ := ob1 h
        have haj79 : ∀ (v33 : Int32) (H : Heap) (lc : List Loc) (cn sn : Nat) (ls : Array Slot), aj79 = v33 → wH g s.heap.size (cs, t) H lc → lv_has ls 13 [(9, .int v26), (8, .int v22), (7, .int v8), (0, .ref (gmd g 32)), (1, .int p0), (2, .int p1), (3, .int p2), (4, .int p3), (5, .int p4), (6, .int p5)] → W p l e (rmO g 2 46 s.heap) s mi args below meth cd H lc cn sn Q (F0 mi 126 ls [.int v33]) := by
          intro v33 H lc cn sn ls h hw hl
          replace h := kaj79 _ h
          refine lv_istore (lv' := [(10, .int v33), (9, .int v26), (8, .int v22), (7, .int v8), (0, .ref (gmd g 32)), (1, .int p0), (2, .int p1), (3, .int p2), (4, .int p3), (5, .int p4), (6, .int p5)]) hx hb dX7_put_126 hl (by decide) rfl (fun ls hl => ?_)
          refine lv_iload hx hb dX7_put_128 (lv_at hl 3 rfl) ?_
          obtain ⟨aj78, h1aj78, kaj78⟩ := ob1 h
          have haj78 : ∀ (v47 : Int32) (H : Heap) (lc : List Loc) (cn sn : Nat) (ls : Array Slot), aj78 = v47 → wH g s.heap.size (cs, t) H lc → lv_has ls 13 [(9, .int v26), (8, .int v22), (7, .int v8), (0, .ref (gmd g 32)), (2, .int p1), (3, .int p2), (4, .int p3), (5, .int p4), (6, .int p5)] → W p l e (rmO g 2 46 s.heap) s mi args below meth cd H lc cn sn Q (F0 mi 182 ls [.int v47]) := by
            intro v47 H lc cn sn ls h hw hl
            replace h := kaj78 _ h
            refine lv_istore (lv' := [(11, .int v47), (9, .int v26), (8, .int v22), (7, .int v8), (0, .ref (gmd g 32)), (2, .int p1), (3, .int p2), (4, .int p3), (5, .int p4), (6, .int p5)]) hx hb dX7_put_182 hl (by decide) rfl (fun ls hl => ?_)
            refine lv_aload_n hx hb dX7_put_184 rfl (lv_at hl 4 rfl) ?_
            refine lv_iload hx hb dX7_put_185 (lv_at hl 3 rfl) ?_
            obtain ⟨aj77, h1aj77, kaj77⟩ := ob1 h
            have haj77 : ∀ (v51 : Int32) (H : Heap) (lc : List Loc) (cn sn : Nat) (ls : Array Slot), aj77 = v51 → wH g s.heap.size (cs, t) H lc → lv_has ls 13 [(9, .int v26), (0, .ref (gmd g 32)), (2, .int p1), (3, .int p2), (4, .int p3), (5, .int p4), (6, .int p5)] → W p l e (rmO g 2 46 s.heap) s mi args below meth cd H lc cn sn Q (F0 mi 213 ls [.int v51, .ref (gmd g 32)]) := by
              intro v51 H lc cn sn ls h hw hl
              replace h := kaj77 _ h
              obtain ⟨v53, t54, e52, h⟩ := oc2 h
              refine m_callI hX hn hw (n := 1) (As := [.int v51]) (rest := []) (c_X7_fails g l hn cs v51 t v53 t54 e52) gX7_put_X7_fails rfl (by decide +kernel) rfl hl.1 rfl (Nat.le_of_ble_eq_true rfl) ⟨by decide, by decide⟩ dX7_put_213 (fun H lc cn sn hw => ?_)
              refine lv_if_eq (tgt := 221) hx hb dX7_put_216 (by decide) (fun c55 => ?_) (fun c55 => ?_)
              · replace h := ot c55 h
                refine lv_iload hx hb dX7_put_221 (lv_at hl 0 rfl) ?_
                refine lv_istore (lv' := [(12, .int v26), (9, .int v26), (0, .ref (gmd g 32)), (2, .int p1), (3, .int p2), (4, .int p3), (5, .int p4), (6, .int p5)]) hx hb dX7_put_223 hl (by decide) rfl (fun ls hl => ?_)
                refine lv_iload hx hb dX7_put_225 (lv_at hl 1 rfl) ?_
                refine lv_iconst (v := (-1)) hx hb dX7_put_227 (by decide) ?_
                obtain ⟨aj75, h1aj75, kaj75⟩ := ob2 h
                have haj75 : ∀ (v61 : Int32) (t62 : MS) (H : Heap) (lc : List Loc) (cn sn : Nat) (ls : Array Slot), aj75 = (v61, t62) → wH g s.heap.size (cs, t62) H lc → lv_has ls 13 [(12, .int v61), (9, .int v26), (0, .ref (gmd g 32)), (3, .int p2), (4, .int p3), (5, .int p4), (6, .int p5)] → W p l e (rmO g 2 46 s.heap) s mi args below meth cd H lc cn sn Q (F0 mi 254 ls []) := by
                  intro v61 t62 H lc cn sn ls h hw hl
                  replace h := kaj75 _ _ h
                  refine lv_aload_n hx hb dX7_put_254 rfl (lv_at hl 2 rfl) ?_
                  refine m_gf hX hn hw 9 (v := .ref (gmd g 9)) (by decide +kernel) (by decide) (by decide +kernel) rfl dX7_put_255 ?_
                  refine lv_iload hx hb dX7_put_258 (lv_at hl 0 rfl) ?_
                  refine lv_iload_n hx hb dX7_put_260 rfl (lv_at hl 3 rfl) ?_
                  obtain ⟨c63, h⟩ := og h
                  obtain ⟨t64, et64, h⟩ := ol h
                  refine m_st hX hn hw 9 (by decide) (by decide) rfl c63 dX7_put_261 (fun H lc hw => ?_)
                  have hw : wH g s.heap.size (cs, t64) H lc := by rw [et64]; exact hw
                  refine lv_aload_n hx hb dX7_put_262 rfl (lv_at hl 2 rfl) ?_
                  refine m_gf hX hn hw 10 (v := .ref (gmd g 10)) (by decide +kernel) (by decide) (by decide +kernel) rfl dX7_put_263 ?_
                  refine lv_iload hx hb dX7_put_266 (lv_at hl 0 rfl) ?_
                  refine lv_iload hx hb dX7_put_268 (lv_at hl 4 rfl) ?_
                  obtain ⟨c65, h⟩ := og h
                  obtain ⟨t66, et66, h⟩ := ol h
                  refine m_st hX hn hw 10 (by decide) (by decide) rfl c65 dX7_put_270 (fun H lc hw => ?_)
                  have hw : wH g s.heap.size (cs, t66) H lc := by rw [et66]; exact hw
                  refine lv_aload_n hx hb dX7_put_271 rfl (lv_at hl 2 rfl) ?_
                  refine m_gf hX hn hw 11 (v := .ref (gmd g 11)) (by decide +kernel) (by decide) (by decide +kernel) rfl dX7_put_272 ?_
                  refine lv_iconst (v := 2) hx hb dX7_put_275 (by decide) ?_
                  refine lv_iload hx hb dX7_put_276 (lv_at hl 0 rfl) ?_
                  refine lv_imul hx hb dX7_put_278 ?_
                  refine lv_iload hx hb dX7_put_279 (lv_at hl 5 rfl) ?_
                  obtain ⟨c67, h⟩ := og h
                  obtain ⟨t68, et68, h⟩ := ol h
                  refine m_st hX hn hw 11 (by decide) (by decide) rfl c67 dX7_put_281 (fun H lc hw => ?_)
                  have hw : wH g s.heap.size (cs, t68) H lc := by rw [et68]; exact hw
                  refine lv_aload_n hx hb dX7_put_282 rfl (lv_at hl 2 rfl) ?_
                  refine m_gf hX hn hw 11 (v := .ref (gmd g 11)) (by decide +kernel) (by decide) (by decide +kernel) rfl dX7_put_283 ?_
                  refine lv_iconst (v := 2) hx hb dX7_put_286 (by decide) ?_
                  refine lv_iload hx hb dX7_put_287 (lv_at hl 0 rfl) ?_
                  refine lv_imul hx hb dX7_put_289 ?_
                  refine lv_iconst (v := 1) hx hb dX7_put_290 (by decide) ?_
                  refine lv_iadd hx hb dX7_put_291 ?_
                  refine lv_iload hx hb dX7_put_292 (lv_at hl 6 rfl) ?_
                  obtain ⟨c69, h⟩ := og h
                  obtain ⟨t70, et70, h⟩ := ol h
                  refine m_st hX hn hw 11 (by decide) (by decide) rfl c69 dX7_put_294 (fun H lc hw => ?_)
                  have hw : wH g s.heap.size (cs, t70) H lc := by rw [et70]; exact hw
                  refine lv_iload hx hb dX7_put_295 (lv_at hl 1 rfl) ?_
                  refine lv_iconst (v := (-1)) hx hb dX7_put_297 (by decide) ?_
                  obtain ⟨aj74, h1aj74, kaj74⟩ := ob1 h
                  have haj74 : ∀ (v72 : Int32) (H : Heap) (lc : List Loc) (cn sn : Nat) (ls : Array Slot), aj74 = v72 → wH g s.heap.size (cs, t70) H lc → lv_has ls 13 [] → W p l e (rmO g 2 46 s.heap) s mi args below meth cd H lc cn sn Q (F0 mi 306 ls [.int v72]) := by
                    intro v72 H lc cn sn ls h hw hl
                    replace h := kaj74 _ h
                    obtain ⟨c73, h⟩ := og h
                    replace h := (Option.some.inj h).symm
                    have h9 : t' = t70 := congrArg Prod.snd h
                    have hw : wH g s.heap.size (cs, t') H lc := by rw [h9]; exact hw
                    exact hret _ _ _ _ _ _ _ dX7_put_306 c73 hw (congrArg Prod.fst h).symm
                  replace h := h1aj74
                  refine lv_icmp_ne (tgt := 305) hx hb dX7_put_298 (by decide) (fun c71 => ?_) (fun c71 => ?_)
                  · replace h := oe c71 h
                    refine lv_iconst (v := 0) hx hb dX7_put_305 (by decide) ?_
                    replace h := (Option.some.inj h).symm
                    exact haj74 _ _ _ _ _ _ h hw (lv_sub hl [] rfl)
                  · replace h := ot c71 h
                    refine lv_iconst (v := 1) hx hb dX7_put_301 (by decide) ?_
                    refine lv_goto (tgt := 306) hx hb dX7_put_302 (by decide) ?_
                    replace h := (Option.some.inj h).symm
                    exact haj74 _ _ _ _ _ _ h hw (lv_sub hl [] rfl)
                replace h := h1aj75
                refine lv_icmp_ne (tgt := 254) hx hb dX7_put_228 (by decide) (fun c56 => ?_) (fun c56 => ?_)
                · replace h := oe c56 h
                  replace h := (Option.some.inj h).symm
                  exact haj75 _ _ _ _ _ _ _ h hw (lv_sub hl [0, 1, 2, 4, 5, 6, 7] rfl)
                · replace h := ot c56 h
                  refine lv_bipush (v := 40) hx hb dX7_put_231 (by decide) ?_
                  refine lv_iload_n hx hb dX7_put_233 rfl (lv_at hl 3 rfl) ?_
                  refine lv_imul hx hb dX7_put_234 ?_
                  refine lv_aload_n hx hb dX7_put_235 rfl (lv_at hl 2 rfl) ?_
                  refine m_gf hX hn hw 8 (v := .ref (gmd g 8)) (by decide +kernel) (by decide) (by decide +kernel) rfl dX7_put_236 ?_
                  refine lv_iload_n hx hb dX7_put_239 rfl (lv_at hl 3 rfl) ?_
                  obtain ⟨c57, h⟩ := og h
                  refine m_ld hX hn hw 8 (by decide) (by decide) rfl c57 dX7_put_240 ?_
                  refine lv_iadd hx hb dX7_put_241 ?_
                  refine lv_istore (lv' := [(12, .int ((40 * p1) + (ga t54 8 p1.toNatClampNeg))), (9, .int v26), (0, .ref (gmd g 32)), (2, .int p1), (3, .int p2), (4, .int p3), (5, .int p4), (6, .int p5)]) hx hb dX7_put_242 hl (by decide) rfl (fun ls hl => ?_)
                  refine lv_aload_n hx hb dX7_put_244 rfl (lv_at hl 2 rfl) ?_
                  refine m_gf hX hn hw 8 (v := .ref (gmd g 8)) (by decide +kernel) (by decide) (by decide +kernel) rfl dX7_put_245 ?_
                  refine lv_iload_n hx hb dX7_put_248 rfl (lv_at hl 3 rfl) ?_
                  refine lv_dup2_11 hx hb dX7_put_249 rfl rfl ?_
                  obtain ⟨c58, h⟩ := og h
                  refine m_ld hX hn hw 8 (by decide) (by decide) rfl c58 dX7_put_250 ?_
                  refine lv_iconst (v := 1) hx hb dX7_put_251 (by decide) ?_
                  refine lv_iadd hx hb dX7_put_252 ?_
                  obtain ⟨c59, h⟩ := og h
                  obtain ⟨t60, et60, h⟩ := ol h
                  refine m_st hX hn hw 8 (by decide) (by decide) rfl c59 dX7_put_253 (fun H lc hw => ?_)
                  have hw : wH g s.heap.size (cs, t60) H lc := by rw [et60]; exact hw
                  replace h := (Option.some.inj h).symm
                  exact haj75 _ _ _ _ _ _ _ h hw (lv_sub hl [0, 1, 2, 4, 5, 6, 7] rfl)
              · replace h := oe c55 h
                refine lv_iconst (v := 0) hx hb dX7_put_219 (by decide) ?_
                obtain ⟨c76, h⟩ := og h
                replace h := (Option.some.inj h).symm
                have h9 : t' = t54 := congrArg Prod.snd h
                have hw : wH g s.heap.size (cs, t') H lc := by rw [h9]; exact hw
                exact hret _ _ _ _ _ _ _ dX7_put_220 c76 hw (congrArg Prod.fst h).symm
            replace h := h1aj77
            refine lv_if_ne (tgt := 194) hx hb dX7_put_187 (by decide) (fun c48 => ?_) (fun c48 => ?_)
            · replace h := oe c48 h
              refine lv_iload hx hb dX7_put_194 (lv_at hl 2 rfl) ?_
              refine lv_if_ne (tgt := 203) hx hb dX7_put_196 (by decide) (fun c49 => ?_) (fun c49 => ?_)
              · replace h := oe c49 h
                refine lv_iload hx hb dX7_put_203 (lv_at hl 0 rfl) ?_
                refine lv_if_eq (tgt := 212) hx hb dX7_put_205 (by decide) (fun c50 => ?_) (fun c50 => ?_)
                · replace h := ot c50 h
                  refine lv_iconst (v := 3) hx hb dX7_put_212 (by decide) ?_
                  replace h := (Option.some.inj h).symm
                  exact haj77 _ _ _ _ _ _ h hw (lv_sub hl [1, 4, 5, 6, 7, 8, 9] rfl)
                · replace h := oe c50 h
                  refine lv_iconst (v := 0) hx hb dX7_put_208 (by decide) ?_
                  refine lv_goto (tgt := 213) hx hb dX7_put_209 (by decide) ?_
                  replace h := (Option.some.inj h).symm
                  exact haj77 _ _ _ _ _ _ h hw (lv_sub hl [1, 4, 5, 6, 7, 8, 9] rfl)
              · replace h := ot c49 h
                refine lv_iconst (v := 2) hx hb dX7_put_199 (by decide) ?_
                refine lv_goto (tgt := 213) hx hb dX7_put_200 (by decide) ?_
                replace h := (Option.some.inj h).symm
                exact haj77 _ _ _ _ _ _ h hw (lv_sub hl [1, 4, 5, 6, 7, 8, 9] rfl)
            · replace h := ot c48 h
              refine lv_iconst (v := 1) hx hb dX7_put_190 (by decide) ?_
              refine lv_goto (tgt := 213) hx hb dX7_put_191 (by decide) ?_
              replace h := (Option.some.inj h).symm
              exact haj77 _ _ _ _ _ _ h hw (lv_sub hl [1, 4, 5, 6, 7, 8, 9] rfl)
          replace h := h1aj78
          obtain ⟨aj46, h1aj46, kaj46, raj46⟩ := ol0 h
          have haj46 : ∀ (H : Heap) (lc : List Loc) (cn sn : Nat) (ls : Array Slot), aj46 = Sum.inl () → wH g s.heap.size (cs, t) H lc → lv_has ls 13 [(9, .int v26), (8, .int v22), (7, .int v8), (0, .ref (gmd g 32)), (2, .int p1), (3, .int p2), (4, .int p3), (5, .int p4), (6, .int p5)] → W p l e (rmO g 2 46 s.heap) s mi args below meth cd H lc cn sn Q (F0 mi 181 ls []) := by
            intro H lc cn sn ls h hw hl
            replace h := kaj46 h
            refine lv_iconst (v := 0) hx hb dX7_put_181 (by decide) ?_
            replace h := (Option.some.inj h).symm
            exact haj78 _ _ _ _ _ _ h hw (lv_sub hl [0, 1, 2, 3, 4, 5, 6, 7, 8] rfl)
          replace h := h1aj46
          refine lv_if_eq (tgt := 181) hx hb dX7_put_130 (by decide) (fun c34 => ?_) (fun c34 => ?_)
          · replace h := ot c34 h
            replace h := (Option.some.inj h).symm
            exact haj46 _ _ _ _ _ h hw (lv_sub hl [1, 2, 3, 4, 6, 7, 8, 9, 10] rfl)
          · replace h := oe c34 h
            refine lv_iload hx hb dX7_put_133 (lv_at hl 2 rfl) ?_
            refine lv_if_eq (tgt := 181) hx hb dX7_put_135 (by decide) (fun c35 => ?_) (fun c35 => ?_)
            · replace h := ot c35 h
              replace h := (Option.some.inj h).symm
              exact haj46 _ _ _ _ _ h hw (lv_sub hl [1, 2, 3, 4, 6, 7, 8, 9, 10] rfl)
            · replace h := oe c35 h
              refine lv_aload_n hx hb dX7_put_138 rfl (lv_at hl 4 rfl) ?_
              refine lv_iload_n hx hb dX7_put_139 rfl (lv_at hl 5 rfl) ?_
              refine lv_iload_n hx hb dX7_put_140 rfl (lv_at hl 6 rfl) ?_
              refine lv_iconst (v := 1) hx hb dX7_put_141 (by decide) ?_
              obtain ⟨v37, e36, h⟩ := ob h
              refine m_callI hX hn hw (n := 3) (As := [.int p0, .int p1, .int 1]) (rest := []) (c_X7_can g l hn cs p0 p1 1 t v37 e36) gX7_put_X7_can rfl (by decide +kernel) rfl hl.1 rfl (Nat.le_of_ble_eq_true rfl) ⟨by decide, by decide⟩ dX7_put_142 (fun H lc cn sn hw => ?_)
              refine lv_if_eq (tgt := 181) hx hb dX7_put_145 (by decide) (fun c38 => ?_) (fun c38 => ?_)
              · replace h := ot c38 h
                replace h := (Option.some.inj h).symm
                exact haj46 _ _ _ _ _ h hw (lv_sub hl [1, 2, 3, 4, 6, 7, 8, 9, 10] rfl)
              · replace h := oe c38 h
                refine lv_aload_n hx hb dX7_put_148 rfl (lv_at hl 4 rfl) ?_
                refine lv_iload_n hx hb dX7_put_149 rfl (lv_at hl 6 rfl) ?_
                refine lv_iload_n hx hb dX7_put_150 rfl (lv_at hl 7 rfl) ?_
                refine lv_iconst (v := 0) hx hb dX7_put_151 (by decide) ?_
                refine lv_iload hx hb dX7_put_152 (lv_at hl 9 rfl) ?_
                obtain ⟨v40, e39, h⟩ := ob h
                refine m_callI hX hn hw (n := 4) (As := [.int p1, .int p2, .int 0, .int p4]) (rest := []) (c_X7_isTaken g l hn cs p1 p2 0 p4 t v40 e39) gX7_put_X7_isTaken rfl (by decide +kernel) rfl hl.1 rfl (Nat.le_of_ble_eq_true rfl) ⟨by decide, by decide⟩ dX7_put_154 (fun H lc cn sn hw => ?_)
                refine lv_if_ne (tgt := 181) hx hb dX7_put_157 (by decide) (fun c41 => ?_) (fun c41 => ?_)
                · replace h := oe c41 h
                  replace h := (Option.some.inj h).symm
                  exact haj46 _ _ _ _ _ h hw (lv_sub hl [1, 2, 3, 4, 6, 7, 8, 9, 10] rfl)
                · replace h := ot c41 h
                  refine lv_aload_n hx hb dX7_put_160 rfl (lv_at hl 4 rfl) ?_
                  refine lv_iload_n hx hb dX7_put_161 rfl (lv_at hl 6 rfl) ?_
                  refine lv_iload_n hx hb dX7_put_162 rfl (lv_at hl 7 rfl) ?_
                  refine lv_iconst (v := 1) hx hb dX7_put_163 (by decide) ?_
                  refine lv_iload hx hb dX7_put_164 (lv_at hl 10 rfl) ?_
                  obtain ⟨v43, e42, h⟩ := ob h
                  refine m_callI hX hn hw (n := 4) (As := [.int p1, .int p2, .int 1, .int p5]) (rest := []) (c_X7_isTaken g l hn cs p1 p2 1 p5 t v43 e42) gX7_put_X7_isTaken rfl (by decide +kernel) rfl hl.1 rfl (Nat.le_of_ble_eq_true rfl) ⟨by decide, by decide⟩ dX7_put_166 (fun H lc cn sn hw => ?_)
                  refine lv_if_ne (tgt := 181) hx hb dX7_put_169 (by decide) (fun c44 => ?_) (fun c44 => ?_)
                  · replace h := oe c44 h
                    replace h := (Option.some.inj h).symm
                    exact haj46 _ _ _ _ _ h hw (lv_sub hl [1, 2, 3, 4, 6, 7, 8, 9, 10] rfl)
                  · replace h := ot c44 h
                    refine lv_iload hx hb dX7_put_172 (lv_at hl 0 rfl) ?_
                    refine lv_if_ne (tgt := 181) hx hb dX7_put_174 (by decide) (fun c45 => ?_) (fun c45 => ?_)
                    · replace h := oe c45 h
                      replace h := (Option.some.inj h).symm
                      exact haj46 _ _ _ _ _ h hw (lv_sub hl [1, 2, 3, 4, 6, 7, 8, 9, 10] rfl)
                    · replace h := ot c45 h
                      refine lv_iconst (v := 1) hx hb dX7_put_177 (by decide) ?_
                      refine lv_goto (tgt := 182) hx hb dX7_put_178 (by decide) ?_
                      replace h := (Option.some.inj h).symm
                      replace h := raj46 _ h
                      exact haj78 _ _ _ _ _ _ h hw (lv_sub hl [1, 2, 3, 4, 6, 7, 8, 9, 10] rfl)
        replace h := h1aj79
        obtain ⟨aj32, h1aj32, kaj32, raj32⟩ := ol0 h
        have haj32 : ∀ (H : Heap) (lc : List Loc) (cn sn : Nat) (ls : Array Slot), aj32 = Sum.inl () → wH g s.heap.size (cs, t) H lc → lv_has ls 13 [(9, .int v26), (8, .int v22), (7, .int v8), (0, .ref (gmd g 32)), (1, .int p0), (2, .int p1), (3, .int p2), (4, .int p3), (5, .int p4), (6, .int p5)] → W p l e (rmO g 2 46 s.heap) s mi args below meth cd H lc cn sn Q (F0 mi 125 ls []) := by
          intro H lc cn sn ls h hw hl
          replace h := kaj32 h
          refine lv_iconst (v := 0) hx hb dX7_put_125 (by decide) ?_
          replace h := (Option.some.inj h).symm
          exact haj79 _ _ _ _ _ _ h hw (lv_sub hl [0, 1, 2, 3, 4, 5, 6, 7, 8, 9] rfl)
        replace h := h1aj32
        refine lv_icmp_ne (tgt := 125) hx hb dX7_put_93 (by decide) (fun c27 => ?_) (fun c27 => ?_)
        · replace h := oe c27 h
          replace h := (Option.some.inj h).symm
          exact haj32 _ _ _ _ _ h hw (lv_sub hl [0, 1, 2, 3, 4, 5, 6, 7, 8, 9] rfl)
        · replace h := ot c27 h
          refine lv_aload_n hx hb dX7_put_96 rfl (lv_at hl 3 rfl) ?_
          refine m_gf hX hn hw 8 (v := .ref (gmd g 8)) (by decide +kernel) (by decide) (by decide +kernel) rfl dX7_put_97 ?_
          refine lv_iconst (v := 0) hx hb dX7_put_100 (by decide) ?_
          obtain ⟨c28, h⟩ := og h
          refine m_ld hX hn hw 8 (by decide) (by decide) rfl c28 dX7_put_101 ?_
          refine lv_aload_n hx hb dX7_put_102 rfl (lv_at hl 3 rfl) ?_
          refine m_gf hX hn hw 8 (v := .ref (gmd g 8)) (by decide +kernel) (by decide) (by decide +kernel) rfl dX7_put_103 ?_
          refine lv_iconst (v := 1) hx hb dX7_put_106 (by decide) ?_
          obtain ⟨c29, h⟩ := og h
          refine m_ld hX hn hw 8 (by decide) (by decide) rfl c29 dX7_put_107 ?_
          refine lv_iadd hx hb dX7_put_108 ?_
          refine lv_aload_n hx hb dX7_put_109 rfl (lv_at hl 3 rfl) ?_
          refine m_gf hX hn hw 8 (v := .ref (gmd g 8)) (by decide +kernel) (by decide) (by decide +kernel) rfl dX7_put_110 ?_
          refine lv_iconst (v := 2) hx hb dX7_put_113 (by decide) ?_
          obtain ⟨c30, h⟩ := og h
          refine m_ld hX hn hw 8 (by decide) (by decide) rfl c30 dX7_put_114 ?_
          refine lv_iadd hx hb dX7_put_115 ?_
          refine lv_bipush (v := 40) hx hb dX7_put_116 (by decide) ?_
          refine lv_icmp_lt (tgt := 125) hx hb dX7_put_118 (by decide) (fun c31 => ?_) (fun c31 => ?_)
          · replace h := ot c31 h
            replace h := (Option.some.inj h).symm
            exact haj32 _ _ _ _ _ h hw (lv_sub hl [0, 1, 2, 3, 4, 5, 6, 7, 8, 9] rfl)
          · replace h := oe c31 h
            refine lv_iconst (v := 1) hx hb dX7_put_121 (by decide) ?_
            refine lv_goto (tgt := 126) hx hb dX7_put_122 (by decide) ?_
            replace h := (Option.some.inj h).symm
            replace h := raj32 _ h
            exact haj79 _ _ _ _ _ _ h hw (lv_sub hl [0, 1, 2, 3, 4, 5, 6, 7, 8, 9] rfl)
      replace h := h1aj80
      refine lv_if_eq (tgt := 87) hx hb dX7_put_75 (by decide) (fun c23 => ?_) (fun c23 => ?_)
      · replace h := ot c23 h
        refine lv_iconst (v := (-1)) hx hb dX7_put_87 (by decide) ?_
        replace h := (Option.some.inj h).symm
        exact haj80 _ _ _ _ _ _ h hw (lv_sub hl [0, 1, 2, 3, 4, 5, 6, 7, 8] rfl)
      · replace h := oe c23 h
        refine lv_aload_n hx hb dX7_put_78 rfl (lv_at hl 2 rfl) ?_
        refine lv_iload_n hx hb dX7_put_79 rfl (lv_at hl 4 rfl) ?_
        refine lv_iload_n hx hb dX7_put_80 rfl (lv_at hl 5 rfl) ?_
        obtain ⟨v25, e24, h⟩ := ob h
        refine m_callI hX hn hw (n := 2) (As := [.int p1, .int p2]) (rest := []) (c_X7_find g l hn cs p1 p2 t v25 e24) gX7_put_X7_find rfl (by decide +kernel) rfl hl.1 rfl (Nat.le_of_ble_eq_true rfl) ⟨by decide, by decide⟩ dX7_put_81 (fun H lc cn sn hw => ?_)
        refine lv_goto (tgt := 88) hx hb dX7_put_84 (by decide) ?_
        replace h := (Option.some.inj h).symm
        exact haj80 _ _ _ _ _ _ h hw (lv_sub hl [0, 1, 2, 3, 4, 5, 6, 7, 8] rfl)
    replace h := h1aj81
    obtain ⟨aj21, h1aj21, kaj21, raj21⟩ := ol0 h
    have haj21 : ∀ (H : Heap) (lc : List Loc) (cn sn : Nat) (ls : Array Slot), aj21 = Sum.inl () → wH g s.heap.size (cs, t) H lc → lv_has ls 13 [(7, .int v8), (0, .ref (gmd g 32)), (1, .int p0), (2, .int p1), (3, .int p2), (4, .int p3), (5, .int p4), (6, .int p5)] → W p l e (rmO g 2 46 s.heap) s mi args below meth cd H lc cn sn Q (F0 mi 70 ls []) := by
      intro H lc cn sn ls h hw hl
      replace h := kaj21 h
      refine lv_iconst (v := 0) hx hb dX7_put_70 (by decide) ?_
      replace h := (Option.some.inj h).symm
      exact haj81 _ _ _ _ _ _ h hw (lv_sub hl [0, 1, 2, 3, 4, 5, 6, 7] rfl)
    replace h := h1aj21
    refine lv_if_eq (tgt := 70) hx hb dX7_put_27 (by decide) (fun c11 => ?_) (fun c11 => ?_)
    · replace h := ot c11 h
      replace h := (Option.some.inj h).symm
      exact haj21 _ _ _ _ _ h hw (lv_sub hl [0, 1, 2, 3, 4, 5, 6, 7] rfl)
    · replace h := oe c11 h
      refine lv_iload hx hb dX7_put_30 (lv_at hl 5 rfl) ?_
      refine lv_iconst (v := 0) hx hb dX7_put_32 (by decide) ?_
      refine lv_sipush (v := 9999) hx hb dX7_put_33 (by decide) ?_
      obtain ⟨v13, e12, h⟩ := ob h
      refine tw_callSI hX hw (n := 3) (As := [.int p3, .int 0, .int 9999]) (rest := []) (c_X7_isIn g l hn cs p3 0 9999 t v13 e12) gX7_put_X7_isIn rfl (by decide +kernel) rfl hl.1 rfl (Nat.le_of_ble_eq_true rfl) ⟨by decide, by decide⟩ dX7_put_36 (fun H lc cn sn hw => ?_)
      refine lv_if_eq (tgt := 70) hx hb dX7_put_39 (by decide) (fun c14 => ?_) (fun c14 => ?_)
      · replace h := ot c14 h
        replace h := (Option.some.inj h).symm
        exact haj21 _ _ _ _ _ h hw (lv_sub hl [0, 1, 2, 3, 4, 5, 6, 7] rfl)
      · replace h := oe c14 h
        refine lv_iload hx hb dX7_put_42 (lv_at hl 6 rfl) ?_
        refine lv_iconst (v := (-1)) hx hb dX7_put_44 (by decide) ?_
        refine lv_sipush (v := 999) hx hb dX7_put_45 (by decide) ?_
        obtain ⟨v16, e15, h⟩ := ob h
        refine tw_callSI hX hw (n := 3) (As := [.int p4, .int (-1), .int 999]) (rest := []) (c_X7_isIn g l hn cs p4 (-1) 999 t v16 e15) gX7_put_X7_isIn rfl (by decide +kernel) rfl hl.1 rfl (Nat.le_of_ble_eq_true rfl) ⟨by decide, by decide⟩ dX7_put_48 (fun H lc cn sn hw => ?_)
        refine lv_if_eq (tgt := 70) hx hb dX7_put_51 (by decide) (fun c17 => ?_) (fun c17 => ?_)
        · replace h := ot c17 h
          replace h := (Option.some.inj h).symm
          exact haj21 _ _ _ _ _ h hw (lv_sub hl [0, 1, 2, 3, 4, 5, 6, 7] rfl)
        · replace h := oe c17 h
          refine lv_iload hx hb dX7_put_54 (lv_at hl 7 rfl) ?_
          refine lv_iconst (v := (-1)) hx hb dX7_put_56 (by decide) ?_
          refine lv_sipush (v := 999) hx hb dX7_put_57 (by decide) ?_
          obtain ⟨v19, e18, h⟩ := ob h
          refine tw_callSI hX hw (n := 3) (As := [.int p5, .int (-1), .int 999]) (rest := []) (c_X7_isIn g l hn cs p5 (-1) 999 t v19 e18) gX7_put_X7_isIn rfl (by decide +kernel) rfl hl.1 rfl (Nat.le_of_ble_eq_true rfl) ⟨by decide, by decide⟩ dX7_put_60 (fun H lc cn sn hw => ?_)
          refine lv_if_eq (tgt := 70) hx hb dX7_put_63 (by decide) (fun c20 => ?_) (fun c20 => ?_)
          · replace h := ot c20 h
            replace h := (Option.some.inj h).symm
            exact haj21 _ _ _ _ _ h hw (lv_sub hl [0, 1, 2, 3, 4, 5, 6, 7] rfl)
          · replace h := oe c20 h
            refine lv_iconst (v := 1) hx hb dX7_put_66 (by decide) ?_
            refine lv_goto (tgt := 71) hx hb dX7_put_67 (by decide) ?_
            replace h := (Option.some.inj h).symm
            replace h := raj21 _ h
            exact haj81 _ _ _ _ _ _ h hw (lv_sub hl [0, 1, 2, 3, 4, 5, 6, 7] rfl)
  replace h := h1aj82
  obtain ⟨aj7, h1aj7, kaj7, raj7⟩ := ol0 h
  have haj7 : ∀ (H : Heap) (lc : List Loc) (cn sn : Nat) (ls : Array Slot), aj7 = Sum.inl () → wH g s.heap.size (cs, t) H lc → lv_has ls 13 [(0, .ref (gmd g 32)), (1, .int p0), (2, .int p1), (3, .int p2), (4, .int p3), (5, .int p4), (6, .int p5)] → W p l e (rmO g 2 46 s.heap) s mi args below meth cd H lc cn sn Q (F0 mi 20 ls []) := by
    intro H lc cn sn ls h hw hl
    replace h := kaj7 h
    refine lv_iconst (v := 0) hx hb dX7_put_20 (by decide) ?_
    replace h := (Option.some.inj h).symm
    exact haj82 _ _ _ _ _ _ h hw (lv_sub hl [0, 1, 2, 3, 4, 5, 6] rfl)
  replace h := h1aj7
  refine lv_if_eq (tgt := 20) hx hb dX7_put_5 (by decide) (fun c3 => ?_) (fun c3 => ?_)
  · replace h := ot c3 h
    replace h := (Option.some.inj h).symm
    exact haj7 _ _ _ _ _ h hw (lv_sub hl [0, 1, 2, 3, 4, 5, 6] rfl)
  · replace h := oe c3 h
    refine lv_aload_n hx hb dX7_put_8 rfl (lv_at hl 0 rfl) ?_
    refine lv_iload_n hx hb dX7_put_9 rfl (lv_at hl 2 rfl) ?_
    obtain ⟨v5, e4, h⟩ := ob h
    refine m_callI hX hn hw (n := 1) (As := [.int p1]) (rest := []) (c_X7_isStore g l hn cs p1 t v5 e4) gX7_put_X7_isStore rfl (by decide +kernel) rfl hl.1 rfl (Nat.le_of_ble_eq_true rfl) ⟨by decide, by decide⟩ dX7_put_10 (fun H lc cn sn hw => ?_)
    refine lv_if_eq (tgt := 20) hx hb dX7_put_13 (by decide) (fun c6 => ?_) (fun c6 => ?_)
    · replace h := ot c6 h
      replace h := (Option.some.inj h).symm
      exact haj7 _ _ _ _ _ h hw (lv_sub hl [0, 1, 2, 3, 4, 5, 6] rfl)
    · replace h := oe c6 h
      refine lv_iconst (v := 1) hx hb dX7_put_16 (by decide) ?_
      refine lv_goto (tgt := 21) hx hb dX7_put_17 (by decide) ?_
      replace h := (Option.some.inj h).symm
      replace h := raj7 _ h
      exact haj82 _ _ _ _ _ _ h hw (lv_sub hl [0, 1, 2, 3, 4, 5, 6] rfl)

set_option maxHeartbeats 4000000 in
set_option maxRecDepth 100000 in
theorem c_X7_remove (g : GG) (l : Launch) (hn : gnn g 4 = 1) (cs : CS) (p0 : Int32) (p1 : Int32) (p2 : Int32) (p3 : Int32) (t : MS) (r : Int32) (t' : MS) (h : x_X7_remove p0 p1 p2 p3 t = some (r, t')) : MetI g l yX7_remove wsX7_remove 3 72 [.ref (gmd g 32), .int p0, .int p1, .int p2, .int p3] (cs, t) r (cs, t') := by
  refine mI_start (own := RX7) (by decide +kernel) rfl rfl (Nat.le_of_ble_eq_true rfl) ?_
  intro p e s mi args below meth cd ls Q hX hw hl hret
  have hl : lv_has ls 7 [(0, .ref (gmd g 32)), (1, .int p0), (2, .int p1), (3, .int p2), (4, .int p3)] := hl
  obtain ⟨⟨hx, hb, -, hown, hts⟩, -⟩ := id hX
  unfold x_X7_remove at h
  refine lv_aload_n hx hb dX7_remove_0 rfl (lv_at hl 0 rfl) ?_
  refine lv_aload_n hx hb dX7_remove_1 rfl (lv_at hl 0 rfl) ?_
  refine lv_iload_n hx hb dX7_remove_2 rfl (lv_at hl 1 rfl) ?_
  refine lv_iload_n hx hb dX7_remove_3 rfl (lv_at hl 2 rfl) ?_
  refine lv_iload_n hx hb dX7_remove_4 rfl (lv_at hl 3 rfl) ?_
  refine lv_iload hx hb dX7_remove_5 (lv_at hl 4 rfl) ?_
  refine lv_iconst (v := 1) hx hb dX7_remove_7 (by decide) ?_
  obtain ⟨v2, e1, h⟩ := ob h
  refine m_callI hX hn hw (n := 5) (As := [.int p0, .int p1, .int p2, .int p3, .int 1]) (rest := [.ref (gmd g 32)]) (c_X7_misses g l hn cs p0 p1 p2 p3 1 t v2 e1) gX7_remove_X7_misses rfl (by decide +kernel) rfl hl.1 rfl (Nat.le_of_ble_eq_true rfl) ⟨by decide, by decide⟩ dX7_remove_8 (fun H lc cn sn hw => ?_)
  obtain ⟨v4, t5, e3, h⟩ := oc2 h
  refine m_callI hX hn hw (n := 1) (As := [.int v2]) (rest := []) (c_X7_fails g l hn cs v2 t v4 t5 e3) gX7_remove_X7_fails rfl (by decide +kernel) rfl hl.1 rfl (Nat.le_of_ble_eq_true rfl) ⟨by decide, by decide⟩ dX7_remove_11 (fun H lc cn sn hw => ?_)
  refine lv_if_eq (tgt := 19) hx hb dX7_remove_14 (by decide) (fun c6 => ?_) (fun c6 => ?_)
  · replace h := ot c6 h
    refine lv_bipush (v := 40) hx hb dX7_remove_19 (by decide) ?_
    refine lv_iload_n hx hb dX7_remove_21 rfl (lv_at hl 2 rfl) ?_
    refine lv_imul hx hb dX7_remove_22 ?_
    refine lv_istore (lv' := [(5, .int (40 * p1)), (0, .ref (gmd g 32)), (1, .int p0), (2, .int p1), (3, .int p2), (4, .int p3)]) hx hb dX7_remove_23 hl (by decide) rfl (fun ls hl => ?_)
    refine lv_bipush (v := 40) hx hb dX7_remove_25 (by decide) ?_
    refine lv_iload_n hx hb dX7_remove_27 rfl (lv_at hl 3 rfl) ?_
    refine lv_imul hx hb dX7_remove_28 ?_
    refine lv_istore (lv' := [(6, .int (40 * p1)), (5, .int (40 * p1)), (0, .ref (gmd g 32)), (1, .int p0), (2, .int p1), (3, .int p2), (4, .int p3)]) hx hb dX7_remove_29 hl (by decide) rfl (fun ls hl => ?_)
    obtain ⟨aj37, h1aj37, kaj37⟩ := ob2 h
    have haj37 : ∀ (v31 : Int32) (t32 : MS) (H : Heap) (lc : List Loc) (cn sn : Nat) (ls : Array Slot), aj37 = (v31, t32) → wH g s.heap.size (cs, t32) H lc → lv_has ls 7 [(5, .int v31), (0, .ref (gmd g 32)), (2, .int p1)] → W p l e (rmO g 3 72 s.heap) s mi args below meth cd H lc cn sn Q (F0 mi 140 ls []) := by
      intro v31 t32 H lc cn sn ls h hw hl
      replace h := kaj37 _ _ h
      refine lv_bipush (v := 40) hx hb dX7_remove_140 (by decide) ?_
      refine lv_iload_n hx hb dX7_remove_142 rfl (lv_at hl 2 rfl) ?_
      refine lv_imul hx hb dX7_remove_143 ?_
      refine lv_aload_n hx hb dX7_remove_144 rfl (lv_at hl 1 rfl) ?_
      refine m_gf hX hn hw 8 (v := .ref (gmd g 8)) (by decide +kernel) (by decide) (by decide +kernel) rfl dX7_remove_145 ?_
      refine lv_iload_n hx hb dX7_remove_148 rfl (lv_at hl 2 rfl) ?_
      obtain ⟨c33, h⟩ := og h
      refine m_ld hX hn hw 8 (by decide) (by decide) rfl c33 dX7_remove_149 ?_
      refine lv_iadd hx hb dX7_remove_150 ?_
      refine lv_iload hx hb dX7_remove_151 (lv_at hl 0 rfl) ?_
      refine lv_isub hx hb dX7_remove_153 ?_
      refine lv_istore (lv' := [(6, .int (((40 * p1) + (ga t32 8 p1.toNatClampNeg)) - v31)), (5, .int v31), (0, .ref (gmd g 32)), (2, .int p1)]) hx hb dX7_remove_154 hl (by decide) rfl (fun ls hl => ?_)
      refine lv_aload_n hx hb dX7_remove_156 rfl (lv_at hl 2 rfl) ?_
      refine m_gf hX hn hw 8 (v := .ref (gmd g 8)) (by decide +kernel) (by decide) (by decide +kernel) rfl dX7_remove_157 ?_
      refine lv_iload_n hx hb dX7_remove_160 rfl (lv_at hl 3 rfl) ?_
      refine lv_dup2_11 hx hb dX7_remove_161 rfl rfl ?_
      obtain ⟨c34, h⟩ := og h
      refine m_ld hX hn hw 8 (by decide) (by decide) rfl c34 dX7_remove_162 ?_
      refine lv_iload hx hb dX7_remove_163 (lv_at hl 0 rfl) ?_
      refine lv_isub hx hb dX7_remove_165 ?_
      obtain ⟨c35, h⟩ := og h
      obtain ⟨t36, et36, h⟩ := ol h
      refine m_st hX hn hw 8 (by decide) (by decide) rfl c35 dX7_remove_166 (fun H lc hw => ?_)
      have hw : wH g s.heap.size (cs, t36) H lc := by rw [et36]; exact hw
      refine lv_iload hx hb dX7_remove_167 (lv_at hl 0 rfl) ?_
      replace h := (Option.some.inj h).symm
      have h9 : t' = t36 := congrArg Prod.snd h
      have hw : wH g s.heap.size (cs, t') H lc := by rw [h9]; exact hw
      exact hret _ _ _ _ _ _ _ dX7_remove_169 hw (congrArg Prod.fst h).symm
    have hkj37 : ∀ (n : Nat) (v7 : Int32) (v8 : Int32) (t9 : MS) (H : Heap) (lc : List Loc) (cn sn : Nat) (ls : Array Slot), x_X7_remove_L1 p1 p2 p3 n v7 v8 t9 = some aj37 → wH g s.heap.size (cs, t9) H lc → lv_has ls 7 [(6, .int v7), (5, .int v8), (0, .ref (gmd g 32)), (2, .int p1), (3, .int p2), (4, .int p3)] → W p l e (rmO g 3 72 s.heap) s mi args below meth cd H lc cn sn Q (F0 mi 31 ls []) := by
      intro n
      induction n with
      | zero =>
        intro v7 v8 t9 H lc cn sn ls h
        rw [x_X7_remove_L1] at h
        cases h
      | succ n ih =>
        intro v7 v8 t9 H lc cn sn ls h hw hl
        rw [x_X7_remove_L1] at h
        refine lv_iload hx hb dX7_remove_31 (lv_at hl 0 rfl) ?_
        refine lv_bipush (v := 40) hx hb dX7_remove_33 (by decide) ?_
        refine lv_iload_n hx hb dX7_remove_35 rfl (lv_at hl 3 rfl) ?_
        refine lv_imul hx hb dX7_remove_36 ?_
        refine lv_aload_n hx hb dX7_remove_37 rfl (lv_at hl 2 rfl) ?_
        refine m_gf hX hn hw 8 (v := .ref (gmd g 8)) (by decide +kernel) (by decide) (by decide +kernel) rfl dX7_remove_38 ?_
        refine lv_iload_n hx hb dX7_remove_41 rfl (lv_at hl 3 rfl) ?_
        obtain ⟨c10, h⟩ := og h
        refine m_ld hX hn hw 8 (by decide) (by decide) rfl c10 dX7_remove_42 ?_
        refine lv_iadd hx hb dX7_remove_43 ?_
        refine lv_icmp_ge (tgt := 140) hx hb dX7_remove_44 (by decide) (fun c11 => ?_) (fun c11 => ?_)
        · replace h := ot c11 h
          replace h := (Option.some.inj h).symm
          exact haj37 _ _ _ _ _ _ _ h hw (lv_sub hl [1, 2, 3] rfl)
        · replace h := oe c11 h
          refine lv_aload_n hx hb dX7_remove_47 rfl (lv_at hl 2 rfl) ?_
          refine m_gf hX hn hw 9 (v := .ref (gmd g 9)) (by decide +kernel) (by decide) (by decide +kernel) rfl dX7_remove_48 ?_
          refine lv_iload hx hb dX7_remove_51 (lv_at hl 0 rfl) ?_
          obtain ⟨c12, h⟩ := og h
          refine m_ld hX hn hw 9 (by decide) (by decide) rfl c12 dX7_remove_53 ?_
          refine lv_iload_n hx hb dX7_remove_54 rfl (lv_at hl 4 rfl) ?_
          refine lv_iload hx hb dX7_remove_55 (lv_at hl 5 rfl) ?_
          obtain ⟨v14, e13, h⟩ := ob h
          refine tw_callSI hX hw (n := 3) (As := [.int (ga t9 9 v7.toNatClampNeg), .int p2, .int p3]) (rest := []) (c_X7_isBetween g l hn cs (ga t9 9 v7.toNatClampNeg) p2 p3 t9 v14 e13) gX7_remove_X7_isBetween rfl (by decide +kernel) rfl hl.1 rfl (Nat.le_of_ble_eq_true rfl) ⟨by decide, by decide⟩ dX7_remove_57 (fun H lc cn sn hw => ?_)
          obtain ⟨aj30, h1aj30, kaj30⟩ := ob2 h
          have haj30 : ∀ (v28 : Int32) (t29 : MS) (H : Heap) (lc : List Loc) (cn sn : Nat) (ls : Array Slot), aj30 = (v28, t29) → wH g s.heap.size (cs, t29) H lc → lv_has ls 7 [(6, .int v7), (5, .int v28), (0, .ref (gmd g 32)), (2, .int p1), (3, .int p2), (4, .int p3)] → W p l e (rmO g 3 72 s.heap) s mi args below meth cd H lc cn sn Q (F0 mi 134 ls []) := by
            intro v28 t29 H lc cn sn ls h hw hl
            replace h := kaj30 _ _ h
            refine lv_iinc (v := (v7 + 1)) (lv' := [(6, .int (v7 + 1)), (5, .int v28), (0, .ref (gmd g 32)), (2, .int p1), (3, .int p2), (4, .int p3)]) hx hb dX7_remove_134 hl (k := 0) rfl (by rfl) (by decide) rfl (fun ls hl => ?_)
            refine lv_goto (tgt := 31) hx hb dX7_remove_137 (by decide) ?_
            exact ih _ _ _ _ _ _ _ _ h hw (lv_sub hl [0, 1, 2, 3, 4, 5] rfl)
          replace h := h1aj30
          refine lv_if_ne (tgt := 134) hx hb dX7_remove_60 (by decide) (fun c15 => ?_) (fun c15 => ?_)
          · replace h := oe c15 h
            replace h := (Option.some.inj h).symm
            exact haj30 _ _ _ _ _ _ _ h hw (lv_sub hl [0, 1, 2, 3, 4, 5] rfl)
          · replace h := ot c15 h
            refine lv_aload_n hx hb dX7_remove_63 rfl (lv_at hl 2 rfl) ?_
            refine m_gf hX hn hw 9 (v := .ref (gmd g 9)) (by decide +kernel) (by decide) (by decide +kernel) rfl dX7_remove_64 ?_
            refine lv_iload hx hb dX7_remove_67 (lv_at hl 1 rfl) ?_
            refine lv_aload_n hx hb dX7_remove_69 rfl (lv_at hl 2 rfl) ?_
            refine m_gf hX hn hw 9 (v := .ref (gmd g 9)) (by decide +kernel) (by decide) (by decide +kernel) rfl dX7_remove_70 ?_
            refine lv_iload hx hb dX7_remove_73 (lv_at hl 0 rfl) ?_
            obtain ⟨c16, h⟩ := og h
            refine m_ld hX hn hw 9 (by decide) (by decide) rfl c16 dX7_remove_75 ?_
            obtain ⟨c17, h⟩ := og h
            obtain ⟨t18, et18, h⟩ := ol h
            refine m_st hX hn hw 9 (by decide) (by decide) rfl c17 dX7_remove_76 (fun H lc hw => ?_)
            have hw : wH g s.heap.size (cs, t18) H lc := by rw [et18]; exact hw
            refine lv_aload_n hx hb dX7_remove_77 rfl (lv_at hl 2 rfl) ?_
            refine m_gf hX hn hw 10 (v := .ref (gmd g 10)) (by decide +kernel) (by decide) (by decide +kernel) rfl dX7_remove_78 ?_
            refine lv_iload hx hb dX7_remove_81 (lv_at hl 1 rfl) ?_
            refine lv_aload_n hx hb dX7_remove_83 rfl (lv_at hl 2 rfl) ?_
            refine m_gf hX hn hw 10 (v := .ref (gmd g 10)) (by decide +kernel) (by decide) (by decide +kernel) rfl dX7_remove_84 ?_
            refine lv_iload hx hb dX7_remove_87 (lv_at hl 0 rfl) ?_
            obtain ⟨c19, h⟩ := og h
            refine m_ld hX hn hw 10 (by decide) (by decide) rfl c19 dX7_remove_89 ?_
            obtain ⟨c20, h⟩ := og h
            obtain ⟨t21, et21, h⟩ := ol h
            refine m_st hX hn hw 10 (by decide) (by decide) rfl c20 dX7_remove_90 (fun H lc hw => ?_)
            have hw : wH g s.heap.size (cs, t21) H lc := by rw [et21]; exact hw
            refine lv_aload_n hx hb dX7_remove_91 rfl (lv_at hl 2 rfl) ?_
            refine m_gf hX hn hw 11 (v := .ref (gmd g 11)) (by decide +kernel) (by decide) (by decide +kernel) rfl dX7_remove_92 ?_
            refine lv_iconst (v := 2) hx hb dX7_remove_95 (by decide) ?_
            refine lv_iload hx hb dX7_remove_96 (lv_at hl 1 rfl) ?_
            refine lv_imul hx hb dX7_remove_98 ?_
            refine lv_aload_n hx hb dX7_remove_99 rfl (lv_at hl 2 rfl) ?_
            refine m_gf hX hn hw 11 (v := .ref (gmd g 11)) (by decide +kernel) (by decide) (by decide +kernel) rfl dX7_remove_100 ?_
            refine lv_iconst (v := 2) hx hb dX7_remove_103 (by decide) ?_
            refine lv_iload hx hb dX7_remove_104 (lv_at hl 0 rfl) ?_
            refine lv_imul hx hb dX7_remove_106 ?_
            obtain ⟨c22, h⟩ := og h
            refine m_ld hX hn hw 11 (by decide) (by decide) rfl c22 dX7_remove_107 ?_
            obtain ⟨c23, h⟩ := og h
            obtain ⟨t24, et24, h⟩ := ol h
            refine m_st hX hn hw 11 (by decide) (by decide) rfl c23 dX7_remove_108 (fun H lc hw => ?_)
            have hw : wH g s.heap.size (cs, t24) H lc := by rw [et24]; exact hw
            refine lv_aload_n hx hb dX7_remove_109 rfl (lv_at hl 2 rfl) ?_
            refine m_gf hX hn hw 11 (v := .ref (gmd g 11)) (by decide +kernel) (by decide) (by decide +kernel) rfl dX7_remove_110 ?_
            refine lv_iconst (v := 2) hx hb dX7_remove_113 (by decide) ?_
            refine lv_iload hx hb dX7_remove_114 (lv_at hl 1 rfl) ?_
            refine lv_imul hx hb dX7_remove_116 ?_
            refine lv_iconst (v := 1) hx hb dX7_remove_117 (by decide) ?_
            refine lv_iadd hx hb dX7_remove_118 ?_
            refine lv_aload_n hx hb dX7_remove_119 rfl (lv_at hl 2 rfl) ?_
            refine m_gf hX hn hw 11 (v := .ref (gmd g 11)) (by decide +kernel) (by decide) (by decide +kernel) rfl dX7_remove_120 ?_
            refine lv_iconst (v := 2) hx hb dX7_remove_123 (by decide) ?_
            refine lv_iload hx hb dX7_remove_124 (lv_at hl 0 rfl) ?_
            refine lv_imul hx hb dX7_remove_126 ?_
            refine lv_iconst (v := 1) hx hb dX7_remove_127 (by decide) ?_
            refine lv_iadd hx hb dX7_remove_128 ?_
            obtain ⟨c25, h⟩ := og h
            refine m_ld hX hn hw 11 (by decide) (by decide) rfl c25 dX7_remove_129 ?_
            obtain ⟨c26, h⟩ := og h
            obtain ⟨t27, et27, h⟩ := ol h
            refine m_st hX hn hw 11 (by decide) (by decide) rfl c26 dX7_remove_130 (fun H lc hw => ?_)
            have hw : wH g s.heap.size (cs, t27) H lc := by rw [et27]; exact hw
            refine lv_iinc (v := (v8 + 1)) (lv' := [(5, .int (v8 + 1)), (6, .int v7), (0, .ref (gmd g 32)), (2, .int p1), (3, .int p2), (4, .int p3)]) hx hb dX7_remove_131 hl (k := 1) rfl (by rfl) (by decide) rfl (fun ls hl => ?_)
            replace h := (Option.some.inj h).symm
            exact haj30 _ _ _ _ _ _ _ h hw (lv_sub hl [1, 0, 2, 3, 4, 5] rfl)
    exact hkj37 FU (40 * p1) (40 * p1) t5 _ _ _ _ _ h1aj37 hw (lv_sub hl [0, 1, 2, 4, 5, 6] rfl)
  · replace h := oe c6 h
    refine lv_iconst (v := 0) hx hb dX7_remove_17 (by decide) ?_
    replace h := (Option.some.inj h).symm
    have h9 : t' = t5 := congrArg Prod.snd h
    have hw : wH g s.heap.size (cs, t') H lc := by rw [h9]; exact hw
    exact hret _ _ _ _ _ _ _ dX7_remove_18 hw (congrArg Prod.fst h).symm

set_option maxHeartbeats 4000000 in
set_option maxRecDepth 100000 in
theorem c_X7_get (g : GG) (l : Launch) (hn : gnn g 4 = 1) (cs : CS) (p0 : Int32) (p1 : Int32) (p2 : Int32) (t : MS) (r : Int32) (t' : MS) (h : x_X7_get p0 p1 p2 t = some (r, t')) : MetI g l yX7_get wsX7_get 3 72 [.ref (gmd g 32), .int p0, .int p1, .int p2] (cs, t) r (cs, t') := by
  refine mI_start (own := RX7) (by decide +kernel) rfl rfl (Nat.le_of_ble_eq_true rfl) ?_
  intro p e s mi args below meth cd ls Q hX hw hl hret
  have hl : lv_has ls 5 [(0, .ref (gmd g 32)), (1, .int p0), (2, .int p1), (3, .int p2)] := hl
  obtain ⟨⟨hx, hb, -, hown, hts⟩, -⟩ := id hX
  unfold x_X7_get at h
  refine lv_aload_n hx hb dX7_get_0 rfl (lv_at hl 0 rfl) ?_
  refine lv_aload_n hx hb dX7_get_1 rfl (lv_at hl 0 rfl) ?_
  refine lv_iload_n hx hb dX7_get_2 rfl (lv_at hl 1 rfl) ?_
  refine lv_iload_n hx hb dX7_get_3 rfl (lv_at hl 2 rfl) ?_
  refine lv_iload_n hx hb dX7_get_4 rfl (lv_at hl 3 rfl) ?_
  refine lv_iload_n hx hb dX7_get_5 rfl (lv_at hl 3 rfl) ?_
  refine lv_iconst (v := 0) hx hb dX7_get_6 (by decide) ?_
  obtain ⟨v2, e1, h⟩ := ob h
  refine m_callI hX hn hw (n := 5) (As := [.int p0, .int p1, .int p2, .int p2, .int 0]) (rest := [.ref (gmd g 32)]) (c_X7_misses g l hn cs p0 p1 p2 p2 0 t v2 e1) gX7_get_X7_misses rfl (by decide +kernel) rfl hl.1 rfl (Nat.le_of_ble_eq_true rfl) ⟨by decide, by decide⟩ dX7_get_7 (fun H lc cn sn hw => ?_)
  obtain ⟨v4, t5, e3, h⟩ := oc2 h
  refine m_callI hX hn hw (n := 1) (As := [.int v2]) (rest := []) (c_X7_fails g l hn cs v2 t v4 t5 e3) gX7_get_X7_fails rfl (by decide +kernel) rfl hl.1 rfl (Nat.le_of_ble_eq_true rfl) ⟨by decide, by decide⟩ dX7_get_10 (fun H lc cn sn hw => ?_)
  refine lv_if_eq (tgt := 18) hx hb dX7_get_13 (by decide) (fun c6 => ?_) (fun c6 => ?_)
  · replace h := ot c6 h
    refine lv_aload_n hx hb dX7_get_18 rfl (lv_at hl 0 rfl) ?_
    refine lv_iload_n hx hb dX7_get_19 rfl (lv_at hl 2 rfl) ?_
    refine lv_iload_n hx hb dX7_get_20 rfl (lv_at hl 3 rfl) ?_
    obtain ⟨v8, e7, h⟩ := ob h
    refine m_callI hX hn hw (n := 2) (As := [.int p1, .int p2]) (rest := []) (c_X7_find g l hn cs p1 p2 t5 v8 e7) gX7_get_X7_find rfl (by decide +kernel) rfl hl.1 rfl (Nat.le_of_ble_eq_true rfl) ⟨by decide, by decide⟩ dX7_get_21 (fun H lc cn sn hw => ?_)
    refine lv_istore (lv' := [(4, .int v8), (0, .ref (gmd g 32)), (1, .int p0), (2, .int p1), (3, .int p2)]) hx hb dX7_get_24 hl (by decide) rfl (fun ls hl => ?_)
    refine lv_iload hx hb dX7_get_26 (lv_at hl 0 rfl) ?_
    refine lv_iconst (v := (-1)) hx hb dX7_get_28 (by decide) ?_
    obtain ⟨aj12, h1aj12, kaj12⟩ := ob1 h
    have haj12 : ∀ (v11 : Int32) (H : Heap) (lc : List Loc) (cn sn : Nat) (ls : Array Slot), aj12 = v11 → wH g s.heap.size (cs, t5) H lc → lv_has ls 5 [] → W p l e (rmO g 3 72 s.heap) s mi args below meth cd H lc cn sn Q (F0 mi 43 ls [.int v11]) := by
      intro v11 H lc cn sn ls h hw hl
      replace h := kaj12 _ h
      replace h := (Option.some.inj h).symm
      have h9 : t' = t5 := congrArg Prod.snd h
      have hw : wH g s.heap.size (cs, t') H lc := by rw [h9]; exact hw
      exact hret _ _ _ _ _ _ _ dX7_get_43 hw (congrArg Prod.fst h).symm
    replace h := h1aj12
    refine lv_icmp_ne (tgt := 36) hx hb dX7_get_29 (by decide) (fun c9 => ?_) (fun c9 => ?_)
    · replace h := oe c9 h
      refine lv_aload_n hx hb dX7_get_36 rfl (lv_at hl 1 rfl) ?_
      refine m_gf hX hn hw 10 (v := .ref (gmd g 10)) (by decide +kernel) (by decide) (by decide +kernel) rfl dX7_get_37 ?_
      refine lv_iload hx hb dX7_get_40 (lv_at hl 0 rfl) ?_
      obtain ⟨c10, h⟩ := og h
      refine m_ld hX hn hw 10 (by decide) (by decide) rfl c10 dX7_get_42 ?_
      replace h := (Option.some.inj h).symm
      exact haj12 _ _ _ _ _ _ h hw (lv_sub hl [] rfl)
    · replace h := ot c9 h
      refine lv_iconst (v := (-1)) hx hb dX7_get_32 (by decide) ?_
      refine lv_goto (tgt := 43) hx hb dX7_get_33 (by decide) ?_
      replace h := (Option.some.inj h).symm
      exact haj12 _ _ _ _ _ _ h hw (lv_sub hl [] rfl)
  · replace h := oe c6 h
    refine lv_iconst (v := 0) hx hb dX7_get_16 (by decide) ?_
    replace h := (Option.some.inj h).symm
    have h9 : t' = t5 := congrArg Prod.snd h
    have hw : wH g s.heap.size (cs, t') H lc := by rw [h9]; exact hw
    exact hret _ _ _ _ _ _ _ dX7_get_17 hw (congrArg Prod.fst h).symm

set_option maxHeartbeats 4000000 in
set_option maxRecDepth 100000 in
theorem c_X7_count (g : GG) (l : Launch) (hn : gnn g 4 = 1) (cs : CS) (p0 : Int32) (p1 : Int32) (p2 : Int32) (p3 : Int32) (t : MS) (r : Int32) (t' : MS) (h : x_X7_count p0 p1 p2 p3 t = some (r, t')) : MetI g l yX7_count wsX7_count 3 72 [.ref (gmd g 32), .int p0, .int p1, .int p2, .int p3] (cs, t) r (cs, t') := by
  refine mI_start (own := RX7) (by decide +kernel) rfl rfl (Nat.le_of_ble_eq_true rfl) ?_
  intro p e s mi args below meth cd ls Q hX hw hl hret
  have hl : lv_has ls 7 [(0, .ref (gmd g 32)), (1, .int p0), (2, .int p1), (3, .int p2), (4, .int p3)] := hl
  obtain ⟨⟨hx, hb, -, hown, hts⟩, -⟩ := id hX
  unfold x_X7_count at h
  refine lv_aload_n hx hb dX7_count_0 rfl (lv_at hl 0 rfl) ?_
  refine lv_aload_n hx hb dX7_count_1 rfl (lv_at hl 0 rfl) ?_
  refine lv_iload_n hx hb dX7_count_2 rfl (lv_at hl 1 rfl) ?_
  refine lv_iload_n hx hb dX7_count_3 rfl (lv_at hl 2 rfl) ?_
  refine lv_iload_n hx hb dX7_count_4 rfl (lv_at hl 3 rfl) ?_
  refine lv_iload hx hb dX7_count_5 (lv_at hl 4 rfl) ?_
  refine lv_iconst (v := 0) hx hb dX7_count_7 (by decide) ?_
  obtain ⟨v2, e1, h⟩ := ob h
  refine m_callI hX hn hw (n := 5) (As := [.int p0, .int p1, .int p2, .int p3, .int 0]) (rest := [.ref (gmd g 32)]) (c_X7_misses g l hn cs p0 p1 p2 p3 0 t v2 e1) gX7_count_X7_misses rfl (by decide +kernel) rfl hl.1 rfl (Nat.le_of_ble_eq_true rfl) ⟨by decide, by decide⟩ dX7_count_8 (fun H lc cn sn hw => ?_)
  obtain ⟨v4, t5, e3, h⟩ := oc2 h
  refine m_callI hX hn hw (n := 1) (As := [.int v2]) (rest := []) (c_X7_fails g l hn cs v2 t v4 t5 e3) gX7_count_X7_fails rfl (by decide +kernel) rfl hl.1 rfl (Nat.le_of_ble_eq_true rfl) ⟨by decide, by decide⟩ dX7_count_11 (fun H lc cn sn hw => ?_)
  refine lv_if_eq (tgt := 19) hx hb dX7_count_14 (by decide) (fun c6 => ?_) (fun c6 => ?_)
  · replace h := ot c6 h
    refine lv_iconst (v := 0) hx hb dX7_count_19 (by decide) ?_
    refine lv_istore (lv' := [(5, .int 0), (0, .ref (gmd g 32)), (1, .int p0), (2, .int p1), (3, .int p2), (4, .int p3)]) hx hb dX7_count_20 hl (by decide) rfl (fun ls hl => ?_)
    refine lv_bipush (v := 40) hx hb dX7_count_22 (by decide) ?_
    refine lv_iload_n hx hb dX7_count_24 rfl (lv_at hl 3 rfl) ?_
    refine lv_imul hx hb dX7_count_25 ?_
    refine lv_istore (lv' := [(6, .int (40 * p1)), (5, .int 0), (0, .ref (gmd g 32)), (1, .int p0), (2, .int p1), (3, .int p2), (4, .int p3)]) hx hb dX7_count_26 hl (by decide) rfl (fun ls hl => ?_)
    obtain ⟨aj18, h1aj18, kaj18⟩ := ob1 h
    have haj18 : ∀ (v17 : Int32) (H : Heap) (lc : List Loc) (cn sn : Nat) (ls : Array Slot), aj18 = v17 → wH g s.heap.size (cs, t5) H lc → lv_has ls 7 [(5, .int v17)] → W p l e (rmO g 3 72 s.heap) s mi args below meth cd H lc cn sn Q (F0 mi 76 ls []) := by
      intro v17 H lc cn sn ls h hw hl
      replace h := kaj18 _ h
      refine lv_iload hx hb dX7_count_76 (lv_at hl 0 rfl) ?_
      replace h := (Option.some.inj h).symm
      have h9 : t' = t5 := congrArg Prod.snd h
      have hw : wH g s.heap.size (cs, t') H lc := by rw [h9]; exact hw
      exact hret _ _ _ _ _ _ _ dX7_count_78 hw (congrArg Prod.fst h).symm
    have hkj18 : ∀ (n : Nat) (v7 : Int32) (v8 : Int32) (H : Heap) (lc : List Loc) (cn sn : Nat) (ls : Array Slot), x_X7_count_L1 p1 p2 p3 t5 n v7 v8 = some aj18 → wH g s.heap.size (cs, t5) H lc → lv_has ls 7 [(6, .int v7), (5, .int v8), (0, .ref (gmd g 32)), (2, .int p1), (3, .int p2), (4, .int p3)] → W p l e (rmO g 3 72 s.heap) s mi args below meth cd H lc cn sn Q (F0 mi 28 ls []) := by
      intro n
      induction n with
      | zero =>
        intro v7 v8 H lc cn sn ls h
        rw [x_X7_count_L1] at h
        cases h
      | succ n ih =>
        intro v7 v8 H lc cn sn ls h hw hl
        rw [x_X7_count_L1] at h
        refine lv_iload hx hb dX7_count_28 (lv_at hl 0 rfl) ?_
        refine lv_bipush (v := 40) hx hb dX7_count_30 (by decide) ?_
        refine lv_iload_n hx hb dX7_count_32 rfl (lv_at hl 3 rfl) ?_
        refine lv_imul hx hb dX7_count_33 ?_
        refine lv_aload_n hx hb dX7_count_34 rfl (lv_at hl 2 rfl) ?_
        refine m_gf hX hn hw 8 (v := .ref (gmd g 8)) (by decide +kernel) (by decide) (by decide +kernel) rfl dX7_count_35 ?_
        refine lv_iload_n hx hb dX7_count_38 rfl (lv_at hl 3 rfl) ?_
        obtain ⟨c9, h⟩ := og h
        refine m_ld hX hn hw 8 (by decide) (by decide) rfl c9 dX7_count_39 ?_
        refine lv_iadd hx hb dX7_count_40 ?_
        refine lv_icmp_ge (tgt := 76) hx hb dX7_count_41 (by decide) (fun c10 => ?_) (fun c10 => ?_)
        · replace h := ot c10 h
          replace h := (Option.some.inj h).symm
          exact haj18 _ _ _ _ _ _ h hw (lv_sub hl [1] rfl)
        · replace h := oe c10 h
          refine lv_iload hx hb dX7_count_44 (lv_at hl 1 rfl) ?_
          refine lv_aload_n hx hb dX7_count_46 rfl (lv_at hl 2 rfl) ?_
          refine m_gf hX hn hw 9 (v := .ref (gmd g 9)) (by decide +kernel) (by decide) (by decide +kernel) rfl dX7_count_47 ?_
          refine lv_iload hx hb dX7_count_50 (lv_at hl 0 rfl) ?_
          obtain ⟨c11, h⟩ := og h
          refine m_ld hX hn hw 9 (by decide) (by decide) rfl c11 dX7_count_52 ?_
          refine lv_iload_n hx hb dX7_count_53 rfl (lv_at hl 4 rfl) ?_
          refine lv_iload hx hb dX7_count_54 (lv_at hl 5 rfl) ?_
          obtain ⟨v13, e12, h⟩ := ob h
          refine tw_callSI hX hw (n := 3) (As := [.int (ga t5 9 v7.toNatClampNeg), .int p2, .int p3]) (rest := [.int v8]) (c_X7_isBetween g l hn cs (ga t5 9 v7.toNatClampNeg) p2 p3 t5 v13 e12) gX7_count_X7_isBetween rfl (by decide +kernel) rfl hl.1 rfl (Nat.le_of_ble_eq_true rfl) ⟨by decide, by decide⟩ dX7_count_56 (fun H lc cn sn hw => ?_)
          obtain ⟨aj16, h1aj16, kaj16⟩ := ob1 h
          have haj16 : ∀ (v15 : Int32) (H : Heap) (lc : List Loc) (cn sn : Nat) (ls : Array Slot), aj16 = v15 → wH g s.heap.size (cs, t5) H lc → lv_has ls 7 [(6, .int v7), (0, .ref (gmd g 32)), (2, .int p1), (3, .int p2), (4, .int p3)] → W p l e (rmO g 3 72 s.heap) s mi args below meth cd H lc cn sn Q (F0 mi 67 ls [.int v15, .int v8]) := by
            intro v15 H lc cn sn ls h hw hl
            replace h := kaj16 _ h
            refine lv_iadd hx hb dX7_count_67 ?_
            refine lv_istore (lv' := [(5, .int (v8 + v15)), (6, .int v7), (0, .ref (gmd g 32)), (2, .int p1), (3, .int p2), (4, .int p3)]) hx hb dX7_count_68 hl (by decide) rfl (fun ls hl => ?_)
            refine lv_iinc (v := (v7 + 1)) (lv' := [(6, .int (v7 + 1)), (5, .int (v8 + v15)), (0, .ref (gmd g 32)), (2, .int p1), (3, .int p2), (4, .int p3)]) hx hb dX7_count_70 hl (k := 1) rfl (by rfl) (by decide) rfl (fun ls hl => ?_)
            refine lv_goto (tgt := 28) hx hb dX7_count_73 (by decide) ?_
            exact ih _ _ _ _ _ _ _ h hw (lv_sub hl [0, 1, 2, 3, 4, 5] rfl)
          replace h := h1aj16
          refine lv_if_eq (tgt := 66) hx hb dX7_count_59 (by decide) (fun c14 => ?_) (fun c14 => ?_)
          · replace h := ot c14 h
            refine lv_iconst (v := 0) hx hb dX7_count_66 (by decide) ?_
            replace h := (Option.some.inj h).symm
            exact haj16 _ _ _ _ _ _ h hw (lv_sub hl [0, 2, 3, 4, 5] rfl)
          · replace h := oe c14 h
            refine lv_iconst (v := 1) hx hb dX7_count_62 (by decide) ?_
            refine lv_goto (tgt := 67) hx hb dX7_count_63 (by decide) ?_
            replace h := (Option.some.inj h).symm
            exact haj16 _ _ _ _ _ _ h hw (lv_sub hl [0, 2, 3, 4, 5] rfl)
    exact hkj18 FU (40 * p1) 0 _ _ _ _ _ h1aj18 hw (lv_sub hl [0, 1, 2, 4, 5, 6] rfl)
  · replace h := oe c6 h
    refine lv_iconst (v := 0) hx hb dX7_count_17 (by decide) ?_
    replace h := (Option.some.inj h).symm
    have h9 : t' = t5 := congrArg Prod.snd h
    have hw : wH g s.heap.size (cs, t') H lc := by rw [h9]; exact hw
    exact hret _ _ _ _ _ _ _ dX7_count_18 hw (congrArg Prod.fst h).symm

set_option maxHeartbeats 4000000 in
set_option maxRecDepth 100000 in
theorem c_X7_cursor (g : GG) (l : Launch) (hn : gnn g 4 = 1) (cs : CS) (p0 : Int32) (p1 : Int32) (p2 : Int32) (p3 : Int32) (t : MS) (r : Int32) (t' : MS) (h : x_X7_cursor p0 p1 p2 p3 t = some (r, t')) : MetI g l yX7_cursor wsX7_cursor 2 43 [.ref (gmd g 32), .int p0, .int p1, .int p2, .int p3] (cs, t) r (cs, t') := by
  refine mI_start (own := RX7) (by decide +kernel) rfl rfl (Nat.le_of_ble_eq_true rfl) ?_
  intro p e s mi args below meth cd ls Q hX hw hl hret
  have hl : lv_has ls 7 [(0, .ref (gmd g 32)), (1, .int p0), (2, .int p1), (3, .int p2), (4, .int p3)] := hl
  obtain ⟨⟨hx, hb, -, hown, hts⟩, -⟩ := id hX
  unfold x_X7_cursor at h
  refine lv_aload_n hx hb dX7_cursor_0 rfl (lv_at hl 0 rfl) ?_
  refine lv_iload_n hx hb dX7_cursor_1 rfl (lv_at hl 1 rfl) ?_
  obtain ⟨v2, e1, h⟩ := ob h
  refine m_callI hX hn hw (n := 1) (As := [.int p0]) (rest := []) (c_X7_isTransaction g l hn cs p0 t v2 e1) gX7_cursor_X7_isTransaction rfl (by decide +kernel) rfl hl.1 rfl (Nat.le_of_ble_eq_true rfl) ⟨by decide, by decide⟩ dX7_cursor_2 (fun H lc cn sn hw => ?_)
  obtain ⟨aj46, h1aj46, kaj46⟩ := ob1 h
  have haj46 : ∀ (v11 : Int32) (H : Heap) (lc : List Loc) (cn sn : Nat) (ls : Array Slot), aj46 = v11 → wH g s.heap.size (cs, t) H lc → lv_has ls 7 [(0, .ref (gmd g 32)), (1, .int p0), (2, .int p1), (3, .int p2), (4, .int p3)] → W p l e (rmO g 2 43 s.heap) s mi args below meth cd H lc cn sn Q (F0 mi 30 ls [.int v11]) := by
    intro v11 H lc cn sn ls h hw hl
    replace h := kaj46 _ h
    refine lv_istore (lv' := [(5, .int v11), (0, .ref (gmd g 32)), (1, .int p0), (2, .int p1), (3, .int p2), (4, .int p3)]) hx hb dX7_cursor_30 hl (by decide) rfl (fun ls hl => ?_)
    refine lv_iload hx hb dX7_cursor_32 (lv_at hl 0 rfl) ?_
    obtain ⟨aj45, h1aj45, kaj45⟩ := ob1 h
    have haj45 : ∀ (v22 : Int32) (H : Heap) (lc : List Loc) (cn sn : Nat) (ls : Array Slot), aj45 = v22 → wH g s.heap.size (cs, t) H lc → lv_has ls 7 [(5, .int v11), (0, .ref (gmd g 32)), (1, .int p0), (2, .int p1), (3, .int p2), (4, .int p3)] → W p l e (rmO g 2 43 s.heap) s mi args below meth cd H lc cn sn Q (F0 mi 79 ls [.int v22]) := by
      intro v22 H lc cn sn ls h hw hl
      replace h := kaj45 _ h
      refine lv_istore (lv' := [(6, .int v22), (5, .int v11), (0, .ref (gmd g 32)), (1, .int p0), (2, .int p1), (3, .int p2), (4, .int p3)]) hx hb dX7_cursor_79 hl (by decide) rfl (fun ls hl => ?_)
      refine lv_aload_n hx hb dX7_cursor_81 rfl (lv_at hl 2 rfl) ?_
      refine lv_iload hx hb dX7_cursor_82 (lv_at hl 1 rfl) ?_
      obtain ⟨aj44, h1aj44, kaj44⟩ := ob1 h
      have haj44 : ∀ (v28 : Int32) (H : Heap) (lc : List Loc) (cn sn : Nat) (ls : Array Slot), aj44 = v28 → wH g s.heap.size (cs, t) H lc → lv_has ls 7 [(0, .ref (gmd g 32)), (1, .int p0), (2, .int p1), (3, .int p2), (4, .int p3)] → W p l e (rmO g 2 43 s.heap) s mi args below meth cd H lc cn sn Q (F0 mi 115 ls [.int v28, .ref (gmd g 32)]) := by
        intro v28 H lc cn sn ls h hw hl
        replace h := kaj44 _ h
        obtain ⟨v30, t31, e29, h⟩ := oc2 h
        refine m_callI hX hn hw (n := 1) (As := [.int v28]) (rest := []) (c_X7_fails g l hn cs v28 t v30 t31 e29) gX7_cursor_X7_fails rfl (by decide +kernel) rfl hl.1 rfl (Nat.le_of_ble_eq_true rfl) ⟨by decide, by decide⟩ dX7_cursor_115 (fun H lc cn sn hw => ?_)
        refine lv_if_eq (tgt := 123) hx hb dX7_cursor_118 (by decide) (fun c32 => ?_) (fun c32 => ?_)
        · replace h := ot c32 h
          refine lv_aload_n hx hb dX7_cursor_123 rfl (lv_at hl 0 rfl) ?_
          refine m_gf hX hn hw 24 (v := .ref (gmd g 24)) (by decide +kernel) (by decide) (by decide +kernel) rfl dX7_cursor_124 ?_
          refine lv_aload_n hx hb dX7_cursor_127 rfl (lv_at hl 0 rfl) ?_
          refine m_gf hX hn hw 23 (v := .int (gs t31 23)) (by decide +kernel) (by decide) (by decide +kernel) rfl dX7_cursor_128 ?_
          refine lv_iload_n hx hb dX7_cursor_131 rfl (lv_at hl 1 rfl) ?_
          obtain ⟨c33, h⟩ := og h
          obtain ⟨t34, et34, h⟩ := ol h
          refine m_st hX hn hw 24 (by decide) (by decide) rfl c33 dX7_cursor_132 (fun H lc hw => ?_)
          have hw : wH g s.heap.size (cs, t34) H lc := by rw [et34]; exact hw
          refine lv_aload_n hx hb dX7_cursor_133 rfl (lv_at hl 0 rfl) ?_
          refine m_gf hX hn hw 25 (v := .ref (gmd g 25)) (by decide +kernel) (by decide) (by decide +kernel) rfl dX7_cursor_134 ?_
          refine lv_aload_n hx hb dX7_cursor_137 rfl (lv_at hl 0 rfl) ?_
          refine m_gf hX hn hw 23 (v := .int (gs t34 23)) (by decide +kernel) (by decide) (by decide +kernel) rfl dX7_cursor_138 ?_
          refine lv_iload_n hx hb dX7_cursor_141 rfl (lv_at hl 2 rfl) ?_
          obtain ⟨c35, h⟩ := og h
          obtain ⟨t36, et36, h⟩ := ol h
          refine m_st hX hn hw 25 (by decide) (by decide) rfl c35 dX7_cursor_142 (fun H lc hw => ?_)
          have hw : wH g s.heap.size (cs, t36) H lc := by rw [et36]; exact hw
          refine lv_aload_n hx hb dX7_cursor_143 rfl (lv_at hl 0 rfl) ?_
          refine m_gf hX hn hw 26 (v := .ref (gmd g 26)) (by decide +kernel) (by decide) (by decide +kernel) rfl dX7_cursor_144 ?_
          refine lv_aload_n hx hb dX7_cursor_147 rfl (lv_at hl 0 rfl) ?_
          refine m_gf hX hn hw 23 (v := .int (gs t36 23)) (by decide +kernel) (by decide) (by decide +kernel) rfl dX7_cursor_148 ?_
          refine lv_iload_n hx hb dX7_cursor_151 rfl (lv_at hl 3 rfl) ?_
          obtain ⟨c37, h⟩ := og h
          obtain ⟨t38, et38, h⟩ := ol h
          refine m_st hX hn hw 26 (by decide) (by decide) rfl c37 dX7_cursor_152 (fun H lc hw => ?_)
          have hw : wH g s.heap.size (cs, t38) H lc := by rw [et38]; exact hw
          refine lv_aload_n hx hb dX7_cursor_153 rfl (lv_at hl 0 rfl) ?_
          refine m_gf hX hn hw 27 (v := .ref (gmd g 27)) (by decide +kernel) (by decide) (by decide +kernel) rfl dX7_cursor_154 ?_
          refine lv_aload_n hx hb dX7_cursor_157 rfl (lv_at hl 0 rfl) ?_
          refine m_gf hX hn hw 23 (v := .int (gs t38 23)) (by decide +kernel) (by decide) (by decide +kernel) rfl dX7_cursor_158 ?_
          refine lv_iload hx hb dX7_cursor_161 (lv_at hl 4 rfl) ?_
          obtain ⟨c39, h⟩ := og h
          obtain ⟨t40, et40, h⟩ := ol h
          refine m_st hX hn hw 27 (by decide) (by decide) rfl c39 dX7_cursor_163 (fun H lc hw => ?_)
          have hw : wH g s.heap.size (cs, t40) H lc := by rw [et40]; exact hw
          refine lv_aload_n hx hb dX7_cursor_164 rfl (lv_at hl 0 rfl) ?_
          refine m_gf hX hn hw 28 (v := .ref (gmd g 28)) (by decide +kernel) (by decide) (by decide +kernel) rfl dX7_cursor_165 ?_
          refine lv_aload_n hx hb dX7_cursor_168 rfl (lv_at hl 0 rfl) ?_
          refine m_gf hX hn hw 23 (v := .int (gs t40 23)) (by decide +kernel) (by decide) (by decide +kernel) rfl dX7_cursor_169 ?_
          refine lv_iconst (v := 0) hx hb dX7_cursor_172 (by decide) ?_
          obtain ⟨c41, h⟩ := og h
          obtain ⟨t42, et42, h⟩ := ol h
          refine m_st hX hn hw 28 (by decide) (by decide) rfl c41 dX7_cursor_173 (fun H lc hw => ?_)
          have hw : wH g s.heap.size (cs, t42) H lc := by rw [et42]; exact hw
          refine lv_aload_n hx hb dX7_cursor_174 rfl (lv_at hl 0 rfl) ?_
          refine lv_dup hx hb dX7_cursor_175 rfl ?_
          refine m_gf hX hn hw 23 (v := .int (gs t42 23)) (by decide +kernel) (by decide) (by decide +kernel) rfl dX7_cursor_176 ?_
          refine lv_iconst (v := 1) hx hb dX7_cursor_179 (by decide) ?_
          refine lv_iadd hx hb dX7_cursor_180 ?_
          obtain ⟨t43, et43, h⟩ := ol h
          refine m_pf hX hn hw 23 (v := ((gs t42 23) + 1)) (by decide +kernel) (by decide) (by decide +kernel) rfl (by decide +kernel) rfl dX7_cursor_181 (fun H lc hw => ?_)
          have hw : wH g s.heap.size (cs, t43) H lc := by rw [et43]; exact hw
          refine lv_aload_n hx hb dX7_cursor_184 rfl (lv_at hl 0 rfl) ?_
          refine m_gf hX hn hw 23 (v := .int (gs t43 23)) (by decide +kernel) (by decide) (by decide +kernel) rfl dX7_cursor_185 ?_
          refine lv_iconst (v := 1) hx hb dX7_cursor_188 (by decide) ?_
          refine lv_isub hx hb dX7_cursor_189 ?_
          replace h := (Option.some.inj h).symm
          have h9 : t' = t43 := congrArg Prod.snd h
          have hw : wH g s.heap.size (cs, t') H lc := by rw [h9]; exact hw
          exact hret _ _ _ _ _ _ _ dX7_cursor_190 hw (congrArg Prod.fst h).symm
        · replace h := oe c32 h
          refine lv_iconst (v := 0) hx hb dX7_cursor_121 (by decide) ?_
          replace h := (Option.some.inj h).symm
          have h9 : t' = t31 := congrArg Prod.snd h
          have hw : wH g s.heap.size (cs, t') H lc := by rw [h9]; exact hw
          exact hret _ _ _ _ _ _ _ dX7_cursor_122 hw (congrArg Prod.fst h).symm
      replace h := h1aj44
      refine lv_if_ne (tgt := 91) hx hb dX7_cursor_84 (by decide) (fun c23 => ?_) (fun c23 => ?_)
      · replace h := oe c23 h
        refine lv_iload hx hb dX7_cursor_91 (lv_at hl 6 rfl) ?_
        refine lv_iconst (v := 0) hx hb dX7_cursor_93 (by decide) ?_
        refine lv_iconst (v := 3) hx hb dX7_cursor_94 (by decide) ?_
        obtain ⟨v25, e24, h⟩ := ob h
        refine tw_callSI hX hw (n := 3) (As := [.int p3, .int 0, .int 3]) (rest := [.ref (gmd g 32)]) (c_X7_isIn g l hn cs p3 0 3 t v25 e24) gX7_cursor_X7_isIn rfl (by decide +kernel) rfl hl.1 rfl (Nat.le_of_ble_eq_true rfl) ⟨by decide, by decide⟩ dX7_cursor_95 (fun H lc cn sn hw => ?_)
        refine lv_if_ne (tgt := 105) hx hb dX7_cursor_98 (by decide) (fun c26 => ?_) (fun c26 => ?_)
        · replace h := oe c26 h
          refine lv_iload hx hb dX7_cursor_105 (lv_at hl 0 rfl) ?_
          refine lv_if_eq (tgt := 114) hx hb dX7_cursor_107 (by decide) (fun c27 => ?_) (fun c27 => ?_)
          · replace h := ot c27 h
            refine lv_iconst (v := 3) hx hb dX7_cursor_114 (by decide) ?_
            replace h := (Option.some.inj h).symm
            exact haj44 _ _ _ _ _ _ h hw (lv_sub hl [2, 3, 4, 5, 6] rfl)
          · replace h := oe c27 h
            refine lv_iconst (v := 0) hx hb dX7_cursor_110 (by decide) ?_
            refine lv_goto (tgt := 115) hx hb dX7_cursor_111 (by decide) ?_
            replace h := (Option.some.inj h).symm
            exact haj44 _ _ _ _ _ _ h hw (lv_sub hl [2, 3, 4, 5, 6] rfl)
        · replace h := ot c26 h
          refine lv_iconst (v := 2) hx hb dX7_cursor_101 (by decide) ?_
          refine lv_goto (tgt := 115) hx hb dX7_cursor_102 (by decide) ?_
          replace h := (Option.some.inj h).symm
          exact haj44 _ _ _ _ _ _ h hw (lv_sub hl [2, 3, 4, 5, 6] rfl)
      · replace h := ot c23 h
        refine lv_iconst (v := 1) hx hb dX7_cursor_87 (by decide) ?_
        refine lv_goto (tgt := 115) hx hb dX7_cursor_88 (by decide) ?_
        replace h := (Option.some.inj h).symm
        exact haj44 _ _ _ _ _ _ h hw (lv_sub hl [2, 3, 4, 5, 6] rfl)
    replace h := h1aj45
    obtain ⟨aj21, h1aj21, kaj21, raj21⟩ := ol0 h
    have haj21 : ∀ (H : Heap) (lc : List Loc) (cn sn : Nat) (ls : Array Slot), aj21 = Sum.inl () → wH g s.heap.size (cs, t) H lc → lv_has ls 7 [(5, .int v11), (0, .ref (gmd g 32)), (1, .int p0), (2, .int p1), (3, .int p2), (4, .int p3)] → W p l e (rmO g 2 43 s.heap) s mi args below meth cd H lc cn sn Q (F0 mi 78 ls []) := by
      intro H lc cn sn ls h hw hl
      replace h := kaj21 h
      refine lv_iconst (v := 0) hx hb dX7_cursor_78 (by decide) ?_
      replace h := (Option.some.inj h).symm
      exact haj45 _ _ _ _ _ _ h hw (lv_sub hl [0, 1, 2, 3, 4, 5] rfl)
    replace h := h1aj21
    refine lv_if_eq (tgt := 78) hx hb dX7_cursor_34 (by decide) (fun c12 => ?_) (fun c12 => ?_)
    · replace h := ot c12 h
      replace h := (Option.some.inj h).symm
      exact haj21 _ _ _ _ _ h hw (lv_sub hl [0, 1, 2, 3, 4, 5] rfl)
    · replace h := oe c12 h
      refine lv_aload_n hx hb dX7_cursor_37 rfl (lv_at hl 1 rfl) ?_
      refine lv_iload_n hx hb dX7_cursor_38 rfl (lv_at hl 2 rfl) ?_
      refine lv_iload_n hx hb dX7_cursor_39 rfl (lv_at hl 3 rfl) ?_
      refine lv_iconst (v := 0) hx hb dX7_cursor_40 (by decide) ?_
      obtain ⟨v14, e13, h⟩ := ob h
      refine m_callI hX hn hw (n := 3) (As := [.int p0, .int p1, .int 0]) (rest := []) (c_X7_can g l hn cs p0 p1 0 t v14 e13) gX7_cursor_X7_can rfl (by decide +kernel) rfl hl.1 rfl (Nat.le_of_ble_eq_true rfl) ⟨by decide, by decide⟩ dX7_cursor_41 (fun H lc cn sn hw => ?_)
      refine lv_if_eq (tgt := 78) hx hb dX7_cursor_44 (by decide) (fun c15 => ?_) (fun c15 => ?_)
      · replace h := ot c15 h
        replace h := (Option.some.inj h).symm
        exact haj21 _ _ _ _ _ h hw (lv_sub hl [0, 1, 2, 3, 4, 5] rfl)
      · replace h := oe c15 h
        refine lv_iload_n hx hb dX7_cursor_47 rfl (lv_at hl 4 rfl) ?_
        refine lv_iconst (v := (-1)) hx hb dX7_cursor_48 (by decide) ?_
        obtain ⟨aj20, h1aj20, kaj20, raj20⟩ := ol0 h
        have haj20 : ∀ (H : Heap) (lc : List Loc) (cn sn : Nat) (ls : Array Slot), aj20 = Sum.inl () → wH g s.heap.size (cs, t) H lc → lv_has ls 7 [(5, .int v11), (0, .ref (gmd g 32)), (1, .int p0), (2, .int p1), (3, .int p2), (4, .int p3)] → W p l e (rmO g 2 43 s.heap) s mi args below meth cd H lc cn sn Q (F0 mi 65 ls []) := by
          intro H lc cn sn ls h hw hl
          replace h := kaj20 h
          refine lv_aload_n hx hb dX7_cursor_65 rfl (lv_at hl 1 rfl) ?_
          refine m_gf hX hn hw 23 (v := .int (gs t 23)) (by decide +kernel) (by decide) (by decide +kernel) rfl dX7_cursor_66 ?_
          refine lv_bipush (v := 40) hx hb dX7_cursor_69 (by decide) ?_
          refine lv_icmp_ge (tgt := 78) hx hb dX7_cursor_71 (by decide) (fun c19 => ?_) (fun c19 => ?_)
          · replace h := ot c19 h
            replace h := (Option.some.inj h).symm
            exact haj21 _ _ _ _ _ h hw (lv_sub hl [0, 1, 2, 3, 4, 5] rfl)
          · replace h := oe c19 h
            refine lv_iconst (v := 1) hx hb dX7_cursor_74 (by decide) ?_
            refine lv_goto (tgt := 79) hx hb dX7_cursor_75 (by decide) ?_
            replace h := (Option.some.inj h).symm
            replace h := raj21 _ h
            exact haj45 _ _ _ _ _ _ h hw (lv_sub hl [0, 1, 2, 3, 4, 5] rfl)
        replace h := h1aj20
        refine lv_icmp_eq (tgt := 65) hx hb dX7_cursor_49 (by decide) (fun c16 => ?_) (fun c16 => ?_)
        · replace h := ot c16 h
          replace h := (Option.some.inj h).symm
          exact haj20 _ _ _ _ _ h hw (lv_sub hl [0, 1, 2, 3, 4, 5] rfl)
        · replace h := oe c16 h
          refine lv_aload_n hx hb dX7_cursor_52 rfl (lv_at hl 1 rfl) ?_
          refine m_gf hX hn hw 7 (v := .ref (gmd g 7)) (by decide +kernel) (by decide) (by decide +kernel) rfl dX7_cursor_53 ?_
          refine lv_iconst (v := 2) hx hb dX7_cursor_56 (by decide) ?_
          refine lv_iload_n hx hb dX7_cursor_57 rfl (lv_at hl 3 rfl) ?_
          refine lv_imul hx hb dX7_cursor_58 ?_
          refine lv_iload_n hx hb dX7_cursor_59 rfl (lv_at hl 4 rfl) ?_
          refine lv_iadd hx hb dX7_cursor_60 ?_
          obtain ⟨c17, h⟩ := og h
          refine m_ld hX hn hw 7 (by decide) (by decide) rfl c17 dX7_cursor_61 ?_
          refine lv_if_le (tgt := 78) hx hb dX7_cursor_62 (by decide) (fun c18 => ?_) (fun c18 => ?_)
          · replace h := ot c18 h
            replace h := (Option.some.inj h).symm
            replace h := raj20 _ h
            exact haj21 _ _ _ _ _ h hw (lv_sub hl [0, 1, 2, 3, 4, 5] rfl)
          · replace h := oe c18 h
            replace h := (Option.some.inj h).symm
            exact haj20 _ _ _ _ _ h hw (lv_sub hl [0, 1, 2, 3, 4, 5] rfl)
  replace h := h1aj46
  obtain ⟨aj10, h1aj10, kaj10, raj10⟩ := ol0 h
  have haj10 : ∀ (H : Heap) (lc : List Loc) (cn sn : Nat) (ls : Array Slot), aj10 = Sum.inl () → wH g s.heap.size (cs, t) H lc → lv_has ls 7 [(0, .ref (gmd g 32)), (1, .int p0), (2, .int p1), (3, .int p2), (4, .int p3)] → W p l e (rmO g 2 43 s.heap) s mi args below meth cd H lc cn sn Q (F0 mi 29 ls []) := by
    intro H lc cn sn ls h hw hl
    replace h := kaj10 h
    refine lv_iconst (v := 0) hx hb dX7_cursor_29 (by decide) ?_
    replace h := (Option.some.inj h).symm
    exact haj46 _ _ _ _ _ _ h hw (lv_sub hl [0, 1, 2, 3, 4] rfl)
  replace h := h1aj10
  refine lv_if_eq (tgt := 29) hx hb dX7_cursor_5 (by decide) (fun c3 => ?_) (fun c3 => ?_)
  · replace h := ot c3 h
    replace h := (Option.some.inj h).symm
    exact haj10 _ _ _ _ _ h hw (lv_sub hl [0, 1, 2, 3, 4] rfl)
  · replace h := oe c3 h
    refine lv_aload_n hx hb dX7_cursor_8 rfl (lv_at hl 0 rfl) ?_
    refine lv_iload_n hx hb dX7_cursor_9 rfl (lv_at hl 2 rfl) ?_
    obtain ⟨v5, e4, h⟩ := ob h
    refine m_callI hX hn hw (n := 1) (As := [.int p1]) (rest := []) (c_X7_isStore g l hn cs p1 t v5 e4) gX7_cursor_X7_isStore rfl (by decide +kernel) rfl hl.1 rfl (Nat.le_of_ble_eq_true rfl) ⟨by decide, by decide⟩ dX7_cursor_10 (fun H lc cn sn hw => ?_)
    refine lv_if_eq (tgt := 29) hx hb dX7_cursor_13 (by decide) (fun c6 => ?_) (fun c6 => ?_)
    · replace h := ot c6 h
      replace h := (Option.some.inj h).symm
      exact haj10 _ _ _ _ _ h hw (lv_sub hl [0, 1, 2, 3, 4] rfl)
    · replace h := oe c6 h
      refine lv_iload_n hx hb dX7_cursor_16 rfl (lv_at hl 3 rfl) ?_
      refine lv_iconst (v := (-1)) hx hb dX7_cursor_17 (by decide) ?_
      refine lv_iconst (v := 1) hx hb dX7_cursor_18 (by decide) ?_
      obtain ⟨v8, e7, h⟩ := ob h
      refine tw_callSI hX hw (n := 3) (As := [.int p2, .int (-1), .int 1]) (rest := []) (c_X7_isIn g l hn cs p2 (-1) 1 t v8 e7) gX7_cursor_X7_isIn rfl (by decide +kernel) rfl hl.1 rfl (Nat.le_of_ble_eq_true rfl) ⟨by decide, by decide⟩ dX7_cursor_19 (fun H lc cn sn hw => ?_)
      refine lv_if_eq (tgt := 29) hx hb dX7_cursor_22 (by decide) (fun c9 => ?_) (fun c9 => ?_)
      · replace h := ot c9 h
        replace h := (Option.some.inj h).symm
        exact haj10 _ _ _ _ _ h hw (lv_sub hl [0, 1, 2, 3, 4] rfl)
      · replace h := oe c9 h
        refine lv_iconst (v := 1) hx hb dX7_cursor_25 (by decide) ?_
        refine lv_goto (tgt := 30) hx hb dX7_cursor_26 (by decide) ?_
        replace h := (Option.some.inj h).symm
        replace h := raj10 _ h
        exact haj46 _ _ _ _ _ _ h hw (lv_sub hl [0, 1, 2, 3, 4] rfl)

set_option maxHeartbeats 4000000 in
set_option maxRecDepth 100000 in
theorem c_X7_step (g : GG) (l : Launch) (hn : gnn g 4 = 1) (cs : CS) (p0 : Int32) (t : MS) (r : Int32) (t' : MS) (h : x_X7_step p0 t = some (r, t')) : MetI g l yX7_step wsX7_step 3 71 [.ref (gmd g 32), .int p0] (cs, t) r (cs, t') := by
  refine mI_start (own := RX7) (by decide +kernel) rfl rfl (Nat.le_of_ble_eq_true rfl) ?_
  intro p e s mi args below meth cd ls Q hX hw hl hret
  have hl : lv_has ls 7 [(0, .ref (gmd g 32)), (1, .int p0)] := hl
  obtain ⟨⟨hx, hb, -, hown, hts⟩, -⟩ := id hX
  unfold x_X7_step at h
  refine lv_aload_n hx hb dX7_step_0 rfl (lv_at hl 0 rfl) ?_
  refine lv_iload_n hx hb dX7_step_1 rfl (lv_at hl 1 rfl) ?_
  obtain ⟨v2, e1, h⟩ := ob h
  refine m_callI hX hn hw (n := 1) (As := [.int p0]) (rest := []) (c_X7_isCursor g l hn cs p0 t v2 e1) gX7_step_X7_isCursor rfl (by decide +kernel) rfl hl.1 rfl (Nat.le_of_ble_eq_true rfl) ⟨by decide, by decide⟩ dX7_step_2 (fun H lc cn sn hw => ?_)
  refine lv_istore_n (lv' := [(2, .int v2), (0, .ref (gmd g 32)), (1, .int p0)]) hx hb dX7_step_5 rfl hl (by decide) rfl (fun ls hl => ?_)
  refine lv_iload_n hx hb dX7_step_6 rfl (lv_at hl 0 rfl) ?_
  obtain ⟨aj54, h1aj54, kaj54⟩ := ob1 h
  have haj54 : ∀ (v13 : Int32) (H : Heap) (lc : List Loc) (cn sn : Nat) (ls : Array Slot), aj54 = v13 → wH g s.heap.size (cs, t) H lc → lv_has ls 7 [(2, .int v2), (0, .ref (gmd g 32)), (1, .int p0)] → W p l e (rmO g 3 71 s.heap) s mi args below meth cd H lc cn sn Q (F0 mi 54 ls [.int v13]) := by
    intro v13 H lc cn sn ls h hw hl
    replace h := kaj54 _ h
    refine lv_istore_n (lv' := [(3, .int v13), (2, .int v2), (0, .ref (gmd g 32)), (1, .int p0)]) hx hb dX7_step_54 rfl hl (by decide) rfl (fun ls hl => ?_)
    refine lv_aload_n hx hb dX7_step_55 rfl (lv_at hl 2 rfl) ?_
    refine lv_iload_n hx hb dX7_step_56 rfl (lv_at hl 1 rfl) ?_
    obtain ⟨aj53, h1aj53, kaj53⟩ := ob1 h
    have haj53 : ∀ (v16 : Int32) (H : Heap) (lc : List Loc) (cn sn : Nat) (ls : Array Slot), aj53 = v16 → wH g s.heap.size (cs, t) H lc → lv_has ls 7 [(0, .ref (gmd g 32)), (1, .int p0)] → W p l e (rmO g 3 71 s.heap) s mi args below meth cd H lc cn sn Q (F0 mi 73 ls [.int v16, .ref (gmd g 32)]) := by
      intro v16 H lc cn sn ls h hw hl
      replace h := kaj53 _ h
      obtain ⟨v18, t19, e17, h⟩ := oc2 h
      refine m_callI hX hn hw (n := 1) (As := [.int v16]) (rest := []) (c_X7_fails g l hn cs v16 t v18 t19 e17) gX7_step_X7_fails rfl (by decide +kernel) rfl hl.1 rfl (Nat.le_of_ble_eq_true rfl) ⟨by decide, by decide⟩ dX7_step_73 (fun H lc cn sn hw => ?_)
      refine lv_if_eq (tgt := 81) hx hb dX7_step_76 (by decide) (fun c20 => ?_) (fun c20 => ?_)
      · replace h := ot c20 h
        refine lv_iconst (v := (-1)) hx hb dX7_step_81 (by decide) ?_
        refine lv_istore (lv' := [(4, .int (-1)), (0, .ref (gmd g 32)), (1, .int p0)]) hx hb dX7_step_82 hl (by decide) rfl (fun ls hl => ?_)
        refine lv_aload_n hx hb dX7_step_84 rfl (lv_at hl 1 rfl) ?_
        refine m_gf hX hn hw 25 (v := .ref (gmd g 25)) (by decide +kernel) (by decide) (by decide +kernel) rfl dX7_step_85 ?_
        refine lv_iload_n hx hb dX7_step_88 rfl (lv_at hl 2 rfl) ?_
        obtain ⟨c21, h⟩ := og h
        refine m_ld hX hn hw 25 (by decide) (by decide) rfl c21 dX7_step_89 ?_
        refine lv_istore (lv' := [(5, .int (ga t19 25 p0.toNatClampNeg)), (4, .int (-1)), (0, .ref (gmd g 32)), (1, .int p0)]) hx hb dX7_step_90 hl (by decide) rfl (fun ls hl => ?_)
        refine lv_bipush (v := 40) hx hb dX7_step_92 (by decide) ?_
        refine lv_iload hx hb dX7_step_94 (lv_at hl 0 rfl) ?_
        refine lv_imul hx hb dX7_step_96 ?_
        refine lv_istore (lv' := [(6, .int (40 * (ga t19 25 p0.toNatClampNeg))), (5, .int (ga t19 25 p0.toNatClampNeg)), (4, .int (-1)), (0, .ref (gmd g 32)), (1, .int p0)]) hx hb dX7_step_97 hl (by decide) rfl (fun ls hl => ?_)
        obtain ⟨aj52, h1aj52, kaj52⟩ := ob1 h
        have haj52 : ∀ (v37 : Int32) (H : Heap) (lc : List Loc) (cn sn : Nat) (ls : Array Slot), aj52 = v37 → wH g s.heap.size (cs, t19) H lc → lv_has ls 7 [(4, .int v37), (0, .ref (gmd g 32)), (1, .int p0)] → W p l e (rmO g 3 71 s.heap) s mi args below meth cd H lc cn sn Q (F0 mi 160 ls []) := by
          intro v37 H lc cn sn ls h hw hl
          replace h := kaj52 _ h
          refine lv_aload_n hx hb dX7_step_160 rfl (lv_at hl 1 rfl) ?_
          refine m_gf hX hn hw 28 (v := .ref (gmd g 28)) (by decide +kernel) (by decide) (by decide +kernel) rfl dX7_step_161 ?_
          refine lv_iload_n hx hb dX7_step_164 rfl (lv_at hl 2 rfl) ?_
          refine lv_iload hx hb dX7_step_165 (lv_at hl 0 rfl) ?_
          refine lv_iconst (v := (-1)) hx hb dX7_step_167 (by decide) ?_
          obtain ⟨aj51, h1aj51, kaj51⟩ := ob1 h
          have haj51 : ∀ (v39 : Int32) (H : Heap) (lc : List Loc) (cn sn : Nat) (ls : Array Slot), aj51 = v39 → wH g s.heap.size (cs, t19) H lc → lv_has ls 7 [(4, .int v37), (0, .ref (gmd g 32)), (1, .int p0)] → W p l e (rmO g 3 71 s.heap) s mi args below meth cd H lc cn sn Q (F0 mi 176 ls [.int v39, .int p0, .ref (gmd g 28)]) := by
            intro v39 H lc cn sn ls h hw hl
            replace h := kaj51 _ h
            obtain ⟨c40, h⟩ := og h
            obtain ⟨t41, et41, h⟩ := ol h
            refine m_st hX hn hw 28 (by decide) (by decide) rfl c40 dX7_step_176 (fun H lc hw => ?_)
            have hw : wH g s.heap.size (cs, t41) H lc := by rw [et41]; exact hw
            refine lv_iload hx hb dX7_step_177 (lv_at hl 0 rfl) ?_
            refine lv_iconst (v := (-1)) hx hb dX7_step_179 (by decide) ?_
            refine lv_icmp_ne (tgt := 185) hx hb dX7_step_180 (by decide) (fun c42 => ?_) (fun c42 => ?_)
            · replace h := oe c42 h
              refine lv_aload_n hx hb dX7_step_185 rfl (lv_at hl 1 rfl) ?_
              refine m_gf hX hn hw 29 (v := .ref (gmd g 29)) (by decide +kernel) (by decide) (by decide +kernel) rfl dX7_step_186 ?_
              refine lv_iload_n hx hb dX7_step_189 rfl (lv_at hl 2 rfl) ?_
              refine lv_aload_n hx hb dX7_step_190 rfl (lv_at hl 1 rfl) ?_
              refine lv_iload_n hx hb dX7_step_191 rfl (lv_at hl 2 rfl) ?_
              refine lv_iload hx hb dX7_step_192 (lv_at hl 0 rfl) ?_
              obtain ⟨v44, e43, h⟩ := ob h
              refine m_callI hX hn hw (n := 2) (As := [.int p0, .int v37]) (rest := [.int p0, .ref (gmd g 29)]) (c_X7_entry g l hn cs p0 v37 t41 v44 e43) gX7_step_X7_entry rfl (by decide +kernel) rfl hl.1 rfl (Nat.le_of_ble_eq_true rfl) ⟨by decide, by decide⟩ dX7_step_194 (fun H lc cn sn hw => ?_)
              obtain ⟨c45, h⟩ := og h
              obtain ⟨t46, et46, h⟩ := ol h
              refine m_st hX hn hw 29 (by decide) (by decide) rfl c45 dX7_step_197 (fun H lc hw => ?_)
              have hw : wH g s.heap.size (cs, t46) H lc := by rw [et46]; exact hw
              refine lv_aload_n hx hb dX7_step_198 rfl (lv_at hl 1 rfl) ?_
              refine m_gf hX hn hw 30 (v := .ref (gmd g 30)) (by decide +kernel) (by decide) (by decide +kernel) rfl dX7_step_199 ?_
              refine lv_iload_n hx hb dX7_step_202 rfl (lv_at hl 2 rfl) ?_
              refine lv_aload_n hx hb dX7_step_203 rfl (lv_at hl 1 rfl) ?_
              refine m_gf hX hn hw 9 (v := .ref (gmd g 9)) (by decide +kernel) (by decide) (by decide +kernel) rfl dX7_step_204 ?_
              refine lv_iload hx hb dX7_step_207 (lv_at hl 0 rfl) ?_
              obtain ⟨c47, h⟩ := og h
              refine m_ld hX hn hw 9 (by decide) (by decide) rfl c47 dX7_step_209 ?_
              obtain ⟨c48, h⟩ := og h
              obtain ⟨t49, et49, h⟩ := ol h
              refine m_st hX hn hw 30 (by decide) (by decide) rfl c48 dX7_step_210 (fun H lc hw => ?_)
              have hw : wH g s.heap.size (cs, t49) H lc := by rw [et49]; exact hw
              refine lv_aload_n hx hb dX7_step_211 rfl (lv_at hl 1 rfl) ?_
              refine m_gf hX hn hw 9 (v := .ref (gmd g 9)) (by decide +kernel) (by decide) (by decide +kernel) rfl dX7_step_212 ?_
              refine lv_iload hx hb dX7_step_215 (lv_at hl 0 rfl) ?_
              obtain ⟨c50, h⟩ := og h
              refine m_ld hX hn hw 9 (by decide) (by decide) rfl c50 dX7_step_217 ?_
              replace h := (Option.some.inj h).symm
              have h9 : t' = t49 := congrArg Prod.snd h
              have hw : wH g s.heap.size (cs, t') H lc := by rw [h9]; exact hw
              exact hret _ _ _ _ _ _ _ dX7_step_218 hw (congrArg Prod.fst h).symm
            · replace h := ot c42 h
              refine lv_iconst (v := (-1)) hx hb dX7_step_183 (by decide) ?_
              replace h := (Option.some.inj h).symm
              have h9 : t' = t41 := congrArg Prod.snd h
              have hw : wH g s.heap.size (cs, t') H lc := by rw [h9]; exact hw
              exact hret _ _ _ _ _ _ _ dX7_step_184 hw (congrArg Prod.fst h).symm
          replace h := h1aj51
          refine lv_icmp_ne (tgt := 175) hx hb dX7_step_168 (by decide) (fun c38 => ?_) (fun c38 => ?_)
          · replace h := oe c38 h
            refine lv_iconst (v := 1) hx hb dX7_step_175 (by decide) ?_
            replace h := (Option.some.inj h).symm
            exact haj51 _ _ _ _ _ _ h hw (lv_sub hl [0, 1, 2] rfl)
          · replace h := ot c38 h
            refine lv_iconst (v := 2) hx hb dX7_step_171 (by decide) ?_
            refine lv_goto (tgt := 176) hx hb dX7_step_172 (by decide) ?_
            replace h := (Option.some.inj h).symm
            exact haj51 _ _ _ _ _ _ h hw (lv_sub hl [0, 1, 2] rfl)
        have hkj52 : ∀ (n : Nat) (v22 : Int32) (v23 : Int32) (H : Heap) (lc : List Loc) (cn sn : Nat) (ls : Array Slot), x_X7_step_L1 p0 t19 n v22 v23 = some aj52 → wH g s.heap.size (cs, t19) H lc → lv_has ls 7 [(6, .int v22), (5, .int (ga t19 25 p0.toNatClampNeg)), (4, .int v23), (0, .ref (gmd g 32)), (1, .int p0)] → W p l e (rmO g 3 71 s.heap) s mi args below meth cd H lc cn sn Q (F0 mi 99 ls []) := by
          intro n
          induction n with
          | zero =>
            intro v22 v23 H lc cn sn ls h
            rw [x_X7_step_L1] at h
            cases h
          | succ n ih =>
            intro v22 v23 H lc cn sn ls h hw hl
            rw [x_X7_step_L1] at h
            refine lv_iload hx hb dX7_step_99 (lv_at hl 0 rfl) ?_
            refine lv_bipush (v := 40) hx hb dX7_step_101 (by decide) ?_
            refine lv_iload hx hb dX7_step_103 (lv_at hl 1 rfl) ?_
            refine lv_imul hx hb dX7_step_105 ?_
            refine lv_aload_n hx hb dX7_step_106 rfl (lv_at hl 3 rfl) ?_
            refine m_gf hX hn hw 8 (v := .ref (gmd g 8)) (by decide +kernel) (by decide) (by decide +kernel) rfl dX7_step_107 ?_
            refine lv_iload hx hb dX7_step_110 (lv_at hl 1 rfl) ?_
            obtain ⟨c24, h⟩ := og h
            refine m_ld hX hn hw 8 (by decide) (by decide) rfl c24 dX7_step_112 ?_
            refine lv_iadd hx hb dX7_step_113 ?_
            refine lv_icmp_ge (tgt := 160) hx hb dX7_step_114 (by decide) (fun c25 => ?_) (fun c25 => ?_)
            · replace h := ot c25 h
              replace h := (Option.some.inj h).symm
              exact haj52 _ _ _ _ _ _ h hw (lv_sub hl [2, 3, 4] rfl)
            · replace h := oe c25 h
              refine lv_aload_n hx hb dX7_step_117 rfl (lv_at hl 3 rfl) ?_
              refine lv_iload_n hx hb dX7_step_118 rfl (lv_at hl 4 rfl) ?_
              refine lv_iload hx hb dX7_step_119 (lv_at hl 0 rfl) ?_
              obtain ⟨v27, e26, h⟩ := ob h
              refine m_callI hX hn hw (n := 2) (As := [.int p0, .int v22]) (rest := []) (c_X7_isBehind g l hn cs p0 v22 t19 v27 e26) gX7_step_X7_isBehind rfl (by decide +kernel) rfl hl.1 rfl (Nat.le_of_ble_eq_true rfl) ⟨by decide, by decide⟩ dX7_step_121 (fun H lc cn sn hw => ?_)
              obtain ⟨aj36, h1aj36, kaj36⟩ := ob1 h
              have haj36 : ∀ (v35 : Int32) (H : Heap) (lc : List Loc) (cn sn : Nat) (ls : Array Slot), aj36 = v35 → wH g s.heap.size (cs, t19) H lc → lv_has ls 7 [(6, .int v22), (5, .int (ga t19 25 p0.toNatClampNeg)), (0, .ref (gmd g 32)), (1, .int p0)] → W p l e (rmO g 3 71 s.heap) s mi args below meth cd H lc cn sn Q (F0 mi 152 ls [.int v35]) := by
                intro v35 H lc cn sn ls h hw hl
                replace h := kaj36 _ h
                refine lv_istore (lv' := [(4, .int v35), (6, .int v22), (5, .int (ga t19 25 p0.toNatClampNeg)), (0, .ref (gmd g 32)), (1, .int p0)]) hx hb dX7_step_152 hl (by decide) rfl (fun ls hl => ?_)
                refine lv_iinc (v := (v22 + 1)) (lv' := [(6, .int (v22 + 1)), (4, .int v35), (5, .int (ga t19 25 p0.toNatClampNeg)), (0, .ref (gmd g 32)), (1, .int p0)]) hx hb dX7_step_154 hl (k := 1) rfl (by rfl) (by decide) rfl (fun ls hl => ?_)
                refine lv_goto (tgt := 99) hx hb dX7_step_157 (by decide) ?_
                exact ih _ _ _ _ _ _ _ h hw (lv_sub hl [0, 2, 1, 3, 4] rfl)
              replace h := h1aj36
              obtain ⟨aj34, h1aj34, kaj34, raj34⟩ := ol0 h
              have haj34 : ∀ (H : Heap) (lc : List Loc) (cn sn : Nat) (ls : Array Slot), aj34 = Sum.inl () → wH g s.heap.size (cs, t19) H lc → lv_has ls 7 [(6, .int v22), (5, .int (ga t19 25 p0.toNatClampNeg)), (4, .int v23), (0, .ref (gmd g 32)), (1, .int p0)] → W p l e (rmO g 3 71 s.heap) s mi args below meth cd H lc cn sn Q (F0 mi 150 ls []) := by
                intro H lc cn sn ls h hw hl
                replace h := kaj34 h
                refine lv_iload hx hb dX7_step_150 (lv_at hl 2 rfl) ?_
                replace h := (Option.some.inj h).symm
                exact haj36 _ _ _ _ _ _ h hw (lv_sub hl [0, 1, 3, 4] rfl)
              replace h := h1aj34
              refine lv_if_eq (tgt := 150) hx hb dX7_step_124 (by decide) (fun c28 => ?_) (fun c28 => ?_)
              · replace h := ot c28 h
                replace h := (Option.some.inj h).symm
                exact haj34 _ _ _ _ _ h hw (lv_sub hl [0, 1, 2, 3, 4] rfl)
              · replace h := oe c28 h
                refine lv_iload hx hb dX7_step_127 (lv_at hl 2 rfl) ?_
                refine lv_iconst (v := (-1)) hx hb dX7_step_129 (by decide) ?_
                obtain ⟨aj33, h1aj33, kaj33, raj33⟩ := ol0 h
                have haj33 : ∀ (H : Heap) (lc : List Loc) (cn sn : Nat) (ls : Array Slot), aj33 = Sum.inl () → wH g s.heap.size (cs, t19) H lc → lv_has ls 7 [(6, .int v22), (5, .int (ga t19 25 p0.toNatClampNeg)), (0, .ref (gmd g 32)), (1, .int p0)] → W p l e (rmO g 3 71 s.heap) s mi args below meth cd H lc cn sn Q (F0 mi 145 ls []) := by
                  intro H lc cn sn ls h hw hl
                  replace h := kaj33 h
                  refine lv_iload hx hb dX7_step_145 (lv_at hl 0 rfl) ?_
                  refine lv_goto (tgt := 152) hx hb dX7_step_147 (by decide) ?_
                  replace h := (Option.some.inj h).symm
                  replace h := raj34 _ h
                  exact haj36 _ _ _ _ _ _ h hw (lv_sub hl [0, 1, 2, 3] rfl)
                replace h := h1aj33
                refine lv_icmp_eq (tgt := 145) hx hb dX7_step_130 (by decide) (fun c29 => ?_) (fun c29 => ?_)
                · replace h := ot c29 h
                  replace h := (Option.some.inj h).symm
                  exact haj33 _ _ _ _ _ h hw (lv_sub hl [0, 1, 3, 4] rfl)
                · replace h := oe c29 h
                  refine lv_aload_n hx hb dX7_step_133 rfl (lv_at hl 3 rfl) ?_
                  refine lv_iload_n hx hb dX7_step_134 rfl (lv_at hl 4 rfl) ?_
                  refine lv_iload hx hb dX7_step_135 (lv_at hl 0 rfl) ?_
                  refine lv_iload hx hb dX7_step_137 (lv_at hl 2 rfl) ?_
                  obtain ⟨v31, e30, h⟩ := ob h
                  refine m_callI hX hn hw (n := 3) (As := [.int p0, .int v22, .int v23]) (rest := []) (c_X7_isSooner g l hn cs p0 v22 v23 t19 v31 e30) gX7_step_X7_isSooner rfl (by decide +kernel) rfl hl.1 rfl (Nat.le_of_ble_eq_true rfl) ⟨by decide, by decide⟩ dX7_step_139 (fun H lc cn sn hw => ?_)
                  refine lv_if_eq (tgt := 150) hx hb dX7_step_142 (by decide) (fun c32 => ?_) (fun c32 => ?_)
                  · replace h := ot c32 h
                    replace h := (Option.some.inj h).symm
                    replace h := raj33 _ h
                    exact haj34 _ _ _ _ _ h hw (lv_sub hl [0, 1, 2, 3, 4] rfl)
                  · replace h := oe c32 h
                    replace h := (Option.some.inj h).symm
                    exact haj33 _ _ _ _ _ h hw (lv_sub hl [0, 1, 3, 4] rfl)
        exact hkj52 FU (40 * (ga t19 25 p0.toNatClampNeg)) (-1) _ _ _ _ _ h1aj52 hw (lv_sub hl [0, 1, 2, 3, 4] rfl)
      · replace h := oe c20 h
        refine lv_iconst (v := 0) hx hb dX7_step_79 (by decide) ?_
        replace h := (Option.some.inj h).symm
        have h9 : t' = t19 := congrArg Prod.snd h
        have hw : wH g s.heap.size (cs, t') H lc := by rw [h9]; exact hw
        exact hret _ _ _ _ _ _ _ dX7_step_80 hw (congrArg Prod.fst h).symm
    replace h := h1aj53
    refine lv_if_ne (tgt := 64) hx hb dX7_step_57 (by decide) (fun c14 => ?_) (fun c14 => ?_)
    · replace h := oe c14 h
      refine lv_iload_n hx hb dX7_step_64 rfl (lv_at hl 0 rfl) ?_
      refine lv_if_eq (tgt := 72) hx hb dX7_step_65 (by decide) (fun c15 => ?_) (fun c15 => ?_)
      · replace h := ot c15 h
        refine lv_iconst (v := 2) hx hb dX7_step_72 (by decide) ?_
        replace h := (Option.some.inj h).symm
        exact haj53 _ _ _ _ _ _ h hw (lv_sub hl [2, 3] rfl)
      · replace h := oe c15 h
        refine lv_iconst (v := 0) hx hb dX7_step_68 (by decide) ?_
        refine lv_goto (tgt := 73) hx hb dX7_step_69 (by decide) ?_
        replace h := (Option.some.inj h).symm
        exact haj53 _ _ _ _ _ _ h hw (lv_sub hl [2, 3] rfl)
    · replace h := ot c14 h
      refine lv_iconst (v := 1) hx hb dX7_step_60 (by decide) ?_
      refine lv_goto (tgt := 73) hx hb dX7_step_61 (by decide) ?_
      replace h := (Option.some.inj h).symm
      exact haj53 _ _ _ _ _ _ h hw (lv_sub hl [2, 3] rfl)
  replace h := h1aj54
  obtain ⟨aj12, h1aj12, kaj12, raj12⟩ := ol0 h
  have haj12 : ∀ (H : Heap) (lc : List Loc) (cn sn : Nat) (ls : Array Slot), aj12 = Sum.inl () → wH g s.heap.size (cs, t) H lc → lv_has ls 7 [(2, .int v2), (0, .ref (gmd g 32)), (1, .int p0)] → W p l e (rmO g 3 71 s.heap) s mi args below meth cd H lc cn sn Q (F0 mi 53 ls []) := by
    intro H lc cn sn ls h hw hl
    replace h := kaj12 h
    refine lv_iconst (v := 0) hx hb dX7_step_53 (by decide) ?_
    replace h := (Option.some.inj h).symm
    exact haj54 _ _ _ _ _ _ h hw (lv_sub hl [0, 1, 2] rfl)
  replace h := h1aj12
  refine lv_if_eq (tgt := 53) hx hb dX7_step_7 (by decide) (fun c3 => ?_) (fun c3 => ?_)
  · replace h := ot c3 h
    replace h := (Option.some.inj h).symm
    exact haj12 _ _ _ _ _ h hw (lv_sub hl [0, 1, 2] rfl)
  · replace h := oe c3 h
    refine lv_aload_n hx hb dX7_step_10 rfl (lv_at hl 1 rfl) ?_
    refine m_gf hX hn hw 22 (v := .ref (gmd g 22)) (by decide +kernel) (by decide) (by decide +kernel) rfl dX7_step_11 ?_
    refine lv_aload_n hx hb dX7_step_14 rfl (lv_at hl 1 rfl) ?_
    refine m_gf hX hn hw 24 (v := .ref (gmd g 24)) (by decide +kernel) (by decide) (by decide +kernel) rfl dX7_step_15 ?_
    refine lv_iload_n hx hb dX7_step_18 rfl (lv_at hl 2 rfl) ?_
    obtain ⟨c4, h⟩ := og h
    refine m_ld hX hn hw 24 (by decide) (by decide) rfl c4 dX7_step_19 ?_
    obtain ⟨c5, h⟩ := og h
    refine m_ld hX hn hw 22 (by decide) (by decide) rfl c5 dX7_step_20 ?_
    refine lv_iconst (v := 1) hx hb dX7_step_21 (by decide) ?_
    refine lv_icmp_ne (tgt := 53) hx hb dX7_step_22 (by decide) (fun c6 => ?_) (fun c6 => ?_)
    · replace h := oe c6 h
      replace h := (Option.some.inj h).symm
      exact haj12 _ _ _ _ _ h hw (lv_sub hl [0, 1, 2] rfl)
    · replace h := ot c6 h
      refine lv_aload_n hx hb dX7_step_25 rfl (lv_at hl 1 rfl) ?_
      refine m_gf hX hn hw 6 (v := .ref (gmd g 6)) (by decide +kernel) (by decide) (by decide +kernel) rfl dX7_step_26 ?_
      refine lv_aload_n hx hb dX7_step_29 rfl (lv_at hl 1 rfl) ?_
      refine m_gf hX hn hw 25 (v := .ref (gmd g 25)) (by decide +kernel) (by decide) (by decide +kernel) rfl dX7_step_30 ?_
      refine lv_iload_n hx hb dX7_step_33 rfl (lv_at hl 2 rfl) ?_
      obtain ⟨c7, h⟩ := og h
      refine m_ld hX hn hw 25 (by decide) (by decide) rfl c7 dX7_step_34 ?_
      obtain ⟨c8, h⟩ := og h
      refine m_ldz hX hn hw 6 (by decide) (by decide) rfl c8 dX7_step_35 ?_
      refine lv_if_eq (tgt := 53) hx hb dX7_step_36 (by decide) (fun c9 => ?_) (fun c9 => ?_)
      · replace h := ot c9 h
        replace h := (Option.some.inj h).symm
        exact haj12 _ _ _ _ _ h hw (lv_sub hl [0, 1, 2] rfl)
      · replace h := oe c9 h
        refine lv_aload_n hx hb dX7_step_39 rfl (lv_at hl 1 rfl) ?_
        refine m_gf hX hn hw 28 (v := .ref (gmd g 28)) (by decide +kernel) (by decide) (by decide +kernel) rfl dX7_step_40 ?_
        refine lv_iload_n hx hb dX7_step_43 rfl (lv_at hl 2 rfl) ?_
        obtain ⟨c10, h⟩ := og h
        refine m_ld hX hn hw 28 (by decide) (by decide) rfl c10 dX7_step_44 ?_
        refine lv_iconst (v := 2) hx hb dX7_step_45 (by decide) ?_
        refine lv_icmp_ge (tgt := 53) hx hb dX7_step_46 (by decide) (fun c11 => ?_) (fun c11 => ?_)
        · replace h := ot c11 h
          replace h := (Option.some.inj h).symm
          exact haj12 _ _ _ _ _ h hw (lv_sub hl [0, 1, 2] rfl)
        · replace h := oe c11 h
          refine lv_iconst (v := 1) hx hb dX7_step_49 (by decide) ?_
          refine lv_goto (tgt := 54) hx hb dX7_step_50 (by decide) ?_
          replace h := (Option.some.inj h).symm
          replace h := raj12 _ h
          exact haj54 _ _ _ _ _ _ h hw (lv_sub hl [0, 1, 2] rfl)

set_option maxHeartbeats 4000000 in
set_option maxRecDepth 100000 in
theorem c_X7_update (g : GG) (l : Launch) (hn : gnn g 4 = 1) (cs : CS) (p0 : Int32) (p1 : Int32) (t : MS) (r : Int32) (t' : MS) (h : x_X7_update p0 p1 t = some (r, t')) : MetI g l yX7_update wsX7_update 2 43 [.ref (gmd g 32), .int p0, .int p1] (cs, t) r (cs, t') := by
  refine mI_start (own := RX7) (by decide +kernel) rfl rfl (Nat.le_of_ble_eq_true rfl) ?_
  intro p e s mi args below meth cd ls Q hX hw hl hret
  have hl : lv_has ls 7 [(0, .ref (gmd g 32)), (1, .int p0), (2, .int p1)] := hl
  obtain ⟨⟨hx, hb, -, hown, hts⟩, -⟩ := id hX
  unfold x_X7_update at h
  refine lv_aload_n hx hb dX7_update_0 rfl (lv_at hl 0 rfl) ?_
  refine lv_iload_n hx hb dX7_update_1 rfl (lv_at hl 1 rfl) ?_
  obtain ⟨v2, e1, h⟩ := ob h
  refine m_callI hX hn hw (n := 1) (As := [.int p0]) (rest := []) (c_X7_isCursor g l hn cs p0 t v2 e1) gX7_update_X7_isCursor rfl (by decide +kernel) rfl hl.1 rfl (Nat.le_of_ble_eq_true rfl) ⟨by decide, by decide⟩ dX7_update_2 (fun H lc cn sn hw => ?_)
  refine lv_istore_n (lv' := [(3, .int v2), (0, .ref (gmd g 32)), (1, .int p0), (2, .int p1)]) hx hb dX7_update_5 rfl hl (by decide) rfl (fun ls hl => ?_)
  refine lv_iload_n hx hb dX7_update_6 rfl (lv_at hl 0 rfl) ?_
  obtain ⟨aj37, h1aj37, kaj37⟩ := ob1 h
  have haj37 : ∀ (v15 : Int32) (H : Heap) (lc : List Loc) (cn sn : Nat) (ls : Array Slot), aj37 = v15 → wH g s.heap.size (cs, t) H lc → lv_has ls 7 [(3, .int v2), (0, .ref (gmd g 32)), (1, .int p0), (2, .int p1)] → W p l e (rmO g 2 43 s.heap) s mi args below meth cd H lc cn sn Q (F0 mi 59 ls [.int v15]) := by
    intro v15 H lc cn sn ls h hw hl
    replace h := kaj37 _ h
    refine lv_istore (lv' := [(4, .int v15), (3, .int v2), (0, .ref (gmd g 32)), (1, .int p0), (2, .int p1)]) hx hb dX7_update_59 hl (by decide) rfl (fun ls hl => ?_)
    refine lv_iload hx hb dX7_update_61 (lv_at hl 0 rfl) ?_
    obtain ⟨aj36, h1aj36, kaj36⟩ := ob1 h
    have haj36 : ∀ (v21 : Int32) (H : Heap) (lc : List Loc) (cn sn : Nat) (ls : Array Slot), aj36 = v21 → wH g s.heap.size (cs, t) H lc → lv_has ls 7 [(3, .int v2), (0, .ref (gmd g 32)), (2, .int p1)] → W p l e (rmO g 2 43 s.heap) s mi args below meth cd H lc cn sn Q (F0 mi 86 ls [.int v21]) := by
      intro v21 H lc cn sn ls h hw hl
      replace h := kaj36 _ h
      refine lv_istore (lv' := [(5, .int v21), (3, .int v2), (0, .ref (gmd g 32)), (2, .int p1)]) hx hb dX7_update_86 hl (by decide) rfl (fun ls hl => ?_)
      refine lv_aload_n hx hb dX7_update_88 rfl (lv_at hl 2 rfl) ?_
      refine lv_iload_n hx hb dX7_update_89 rfl (lv_at hl 1 rfl) ?_
      obtain ⟨aj35, h1aj35, kaj35⟩ := ob1 h
      have haj35 : ∀ (v27 : Int32) (H : Heap) (lc : List Loc) (cn sn : Nat) (ls : Array Slot), aj35 = v27 → wH g s.heap.size (cs, t) H lc → lv_has ls 7 [(5, .int v21), (0, .ref (gmd g 32)), (2, .int p1)] → W p l e (rmO g 2 43 s.heap) s mi args below meth cd H lc cn sn Q (F0 mi 123 ls [.int v27, .ref (gmd g 32)]) := by
        intro v27 H lc cn sn ls h hw hl
        replace h := kaj35 _ h
        obtain ⟨v29, t30, e28, h⟩ := oc2 h
        refine m_callI hX hn hw (n := 1) (As := [.int v27]) (rest := []) (c_X7_fails g l hn cs v27 t v29 t30 e28) gX7_update_X7_fails rfl (by decide +kernel) rfl hl.1 rfl (Nat.le_of_ble_eq_true rfl) ⟨by decide, by decide⟩ dX7_update_123 (fun H lc cn sn hw => ?_)
        refine lv_if_eq (tgt := 131) hx hb dX7_update_126 (by decide) (fun c31 => ?_) (fun c31 => ?_)
        · replace h := ot c31 h
          refine lv_aload_n hx hb dX7_update_131 rfl (lv_at hl 1 rfl) ?_
          refine m_gf hX hn hw 10 (v := .ref (gmd g 10)) (by decide +kernel) (by decide) (by decide +kernel) rfl dX7_update_132 ?_
          refine lv_iload hx hb dX7_update_135 (lv_at hl 0 rfl) ?_
          obtain ⟨c32, h⟩ := og h
          refine m_ld hX hn hw 10 (by decide) (by decide) rfl c32 dX7_update_137 ?_
          refine lv_istore (lv' := [(6, .int (ga t30 10 v21.toNatClampNeg)), (5, .int v21), (0, .ref (gmd g 32)), (2, .int p1)]) hx hb dX7_update_138 hl (by decide) rfl (fun ls hl => ?_)
          refine lv_aload_n hx hb dX7_update_140 rfl (lv_at hl 2 rfl) ?_
          refine m_gf hX hn hw 10 (v := .ref (gmd g 10)) (by decide +kernel) (by decide) (by decide +kernel) rfl dX7_update_141 ?_
          refine lv_iload hx hb dX7_update_144 (lv_at hl 1 rfl) ?_
          refine lv_iload_n hx hb dX7_update_146 rfl (lv_at hl 3 rfl) ?_
          obtain ⟨c33, h⟩ := og h
          obtain ⟨t34, et34, h⟩ := ol h
          refine m_st hX hn hw 10 (by decide) (by decide) rfl c33 dX7_update_147 (fun H lc hw => ?_)
          have hw : wH g s.heap.size (cs, t34) H lc := by rw [et34]; exact hw
          refine lv_iload hx hb dX7_update_148 (lv_at hl 0 rfl) ?_
          replace h := (Option.some.inj h).symm
          have h9 : t' = t34 := congrArg Prod.snd h
          have hw : wH g s.heap.size (cs, t') H lc := by rw [h9]; exact hw
          exact hret _ _ _ _ _ _ _ dX7_update_150 hw (congrArg Prod.fst h).symm
        · replace h := oe c31 h
          refine lv_iconst (v := 0) hx hb dX7_update_129 (by decide) ?_
          replace h := (Option.some.inj h).symm
          have h9 : t' = t30 := congrArg Prod.snd h
          have hw : wH g s.heap.size (cs, t') H lc := by rw [h9]; exact hw
          exact hret _ _ _ _ _ _ _ dX7_update_130 hw (congrArg Prod.fst h).symm
      replace h := h1aj35
      refine lv_if_ne (tgt := 97) hx hb dX7_update_90 (by decide) (fun c22 => ?_) (fun c22 => ?_)
      · replace h := oe c22 h
        refine lv_iload_n hx hb dX7_update_97 rfl (lv_at hl 3 rfl) ?_
        refine lv_iconst (v := 0) hx hb dX7_update_98 (by decide) ?_
        refine lv_sipush (v := 9999) hx hb dX7_update_99 (by decide) ?_
        obtain ⟨v24, e23, h⟩ := ob h
        refine tw_callSI hX hw (n := 3) (As := [.int p1, .int 0, .int 9999]) (rest := [.ref (gmd g 32)]) (c_X7_isIn g l hn cs p1 0 9999 t v24 e23) gX7_update_X7_isIn rfl (by decide +kernel) rfl hl.1 rfl (Nat.le_of_ble_eq_true rfl) ⟨by decide, by decide⟩ dX7_update_102 (fun H lc cn sn hw => ?_)
        refine lv_if_ne (tgt := 112) hx hb dX7_update_105 (by decide) (fun c25 => ?_) (fun c25 => ?_)
        · replace h := oe c25 h
          refine lv_iload hx hb dX7_update_112 (lv_at hl 0 rfl) ?_
          refine lv_iconst (v := (-1)) hx hb dX7_update_114 (by decide) ?_
          refine lv_icmp_ne (tgt := 122) hx hb dX7_update_115 (by decide) (fun c26 => ?_) (fun c26 => ?_)
          · replace h := oe c26 h
            refine lv_iconst (v := 0) hx hb dX7_update_122 (by decide) ?_
            replace h := (Option.some.inj h).symm
            exact haj35 _ _ _ _ _ _ h hw (lv_sub hl [0, 2, 3] rfl)
          · replace h := ot c26 h
            refine lv_iconst (v := 3) hx hb dX7_update_118 (by decide) ?_
            refine lv_goto (tgt := 123) hx hb dX7_update_119 (by decide) ?_
            replace h := (Option.some.inj h).symm
            exact haj35 _ _ _ _ _ _ h hw (lv_sub hl [0, 2, 3] rfl)
        · replace h := ot c25 h
          refine lv_iconst (v := 2) hx hb dX7_update_108 (by decide) ?_
          refine lv_goto (tgt := 123) hx hb dX7_update_109 (by decide) ?_
          replace h := (Option.some.inj h).symm
          exact haj35 _ _ _ _ _ _ h hw (lv_sub hl [0, 2, 3] rfl)
      · replace h := ot c22 h
        refine lv_iconst (v := 1) hx hb dX7_update_93 (by decide) ?_
        refine lv_goto (tgt := 123) hx hb dX7_update_94 (by decide) ?_
        replace h := (Option.some.inj h).symm
        exact haj35 _ _ _ _ _ _ h hw (lv_sub hl [0, 2, 3] rfl)
    replace h := h1aj36
    refine lv_if_eq (tgt := 85) hx hb dX7_update_63 (by decide) (fun c16 => ?_) (fun c16 => ?_)
    · replace h := ot c16 h
      refine lv_iconst (v := (-1)) hx hb dX7_update_85 (by decide) ?_
      replace h := (Option.some.inj h).symm
      exact haj36 _ _ _ _ _ _ h hw (lv_sub hl [1, 2, 4] rfl)
    · replace h := oe c16 h
      refine lv_aload_n hx hb dX7_update_66 rfl (lv_at hl 2 rfl) ?_
      refine lv_aload_n hx hb dX7_update_67 rfl (lv_at hl 2 rfl) ?_
      refine m_gf hX hn hw 25 (v := .ref (gmd g 25)) (by decide +kernel) (by decide) (by decide +kernel) rfl dX7_update_68 ?_
      refine lv_iload_n hx hb dX7_update_71 rfl (lv_at hl 3 rfl) ?_
      obtain ⟨c17, h⟩ := og h
      refine m_ld hX hn hw 25 (by decide) (by decide) rfl c17 dX7_update_72 ?_
      refine lv_aload_n hx hb dX7_update_73 rfl (lv_at hl 2 rfl) ?_
      refine m_gf hX hn hw 30 (v := .ref (gmd g 30)) (by decide +kernel) (by decide) (by decide +kernel) rfl dX7_update_74 ?_
      refine lv_iload_n hx hb dX7_update_77 rfl (lv_at hl 3 rfl) ?_
      obtain ⟨c18, h⟩ := og h
      refine m_ld hX hn hw 30 (by decide) (by decide) rfl c18 dX7_update_78 ?_
      obtain ⟨v20, e19, h⟩ := ob h
      refine m_callI hX hn hw (n := 2) (As := [.int (ga t 25 p0.toNatClampNeg), .int (ga t 30 p0.toNatClampNeg)]) (rest := []) (c_X7_find g l hn cs (ga t 25 p0.toNatClampNeg) (ga t 30 p0.toNatClampNeg) t v20 e19) gX7_update_X7_find rfl (by decide +kernel) rfl hl.1 rfl (Nat.le_of_ble_eq_true rfl) ⟨by decide, by decide⟩ dX7_update_79 (fun H lc cn sn hw => ?_)
      refine lv_goto (tgt := 86) hx hb dX7_update_82 (by decide) ?_
      replace h := (Option.some.inj h).symm
      exact haj36 _ _ _ _ _ _ h hw (lv_sub hl [1, 2, 4] rfl)
  replace h := h1aj37
  obtain ⟨aj14, h1aj14, kaj14, raj14⟩ := ol0 h
  have haj14 : ∀ (H : Heap) (lc : List Loc) (cn sn : Nat) (ls : Array Slot), aj14 = Sum.inl () → wH g s.heap.size (cs, t) H lc → lv_has ls 7 [(3, .int v2), (0, .ref (gmd g 32)), (1, .int p0), (2, .int p1)] → W p l e (rmO g 2 43 s.heap) s mi args below meth cd H lc cn sn Q (F0 mi 58 ls []) := by
    intro H lc cn sn ls h hw hl
    replace h := kaj14 h
    refine lv_iconst (v := 0) hx hb dX7_update_58 (by decide) ?_
    replace h := (Option.some.inj h).symm
    exact haj37 _ _ _ _ _ _ h hw (lv_sub hl [0, 1, 2, 3] rfl)
  replace h := h1aj14
  refine lv_if_eq (tgt := 58) hx hb dX7_update_7 (by decide) (fun c3 => ?_) (fun c3 => ?_)
  · replace h := ot c3 h
    replace h := (Option.some.inj h).symm
    exact haj14 _ _ _ _ _ h hw (lv_sub hl [0, 1, 2, 3] rfl)
  · replace h := oe c3 h
    refine lv_aload_n hx hb dX7_update_10 rfl (lv_at hl 1 rfl) ?_
    refine lv_aload_n hx hb dX7_update_11 rfl (lv_at hl 1 rfl) ?_
    refine m_gf hX hn hw 24 (v := .ref (gmd g 24)) (by decide +kernel) (by decide) (by decide +kernel) rfl dX7_update_12 ?_
    refine lv_iload_n hx hb dX7_update_15 rfl (lv_at hl 2 rfl) ?_
    obtain ⟨c4, h⟩ := og h
    refine m_ld hX hn hw 24 (by decide) (by decide) rfl c4 dX7_update_16 ?_
    refine lv_aload_n hx hb dX7_update_17 rfl (lv_at hl 1 rfl) ?_
    refine m_gf hX hn hw 25 (v := .ref (gmd g 25)) (by decide +kernel) (by decide) (by decide +kernel) rfl dX7_update_18 ?_
    refine lv_iload_n hx hb dX7_update_21 rfl (lv_at hl 2 rfl) ?_
    obtain ⟨c5, h⟩ := og h
    refine m_ld hX hn hw 25 (by decide) (by decide) rfl c5 dX7_update_22 ?_
    refine lv_iconst (v := 1) hx hb dX7_update_23 (by decide) ?_
    obtain ⟨v7, e6, h⟩ := ob h
    refine m_callI hX hn hw (n := 3) (As := [.int (ga t 24 p0.toNatClampNeg), .int (ga t 25 p0.toNatClampNeg), .int 1]) (rest := []) (c_X7_can g l hn cs (ga t 24 p0.toNatClampNeg) (ga t 25 p0.toNatClampNeg) 1 t v7 e6) gX7_update_X7_can rfl (by decide +kernel) rfl hl.1 rfl (Nat.le_of_ble_eq_true rfl) ⟨by decide, by decide⟩ dX7_update_24 (fun H lc cn sn hw => ?_)
    refine lv_if_eq (tgt := 58) hx hb dX7_update_27 (by decide) (fun c8 => ?_) (fun c8 => ?_)
    · replace h := ot c8 h
      replace h := (Option.some.inj h).symm
      exact haj14 _ _ _ _ _ h hw (lv_sub hl [0, 1, 2, 3] rfl)
    · replace h := oe c8 h
      refine lv_aload_n hx hb dX7_update_30 rfl (lv_at hl 1 rfl) ?_
      refine m_gf hX hn hw 28 (v := .ref (gmd g 28)) (by decide +kernel) (by decide) (by decide +kernel) rfl dX7_update_31 ?_
      refine lv_iload_n hx hb dX7_update_34 rfl (lv_at hl 2 rfl) ?_
      obtain ⟨c9, h⟩ := og h
      refine m_ld hX hn hw 28 (by decide) (by decide) rfl c9 dX7_update_35 ?_
      refine lv_iconst (v := 1) hx hb dX7_update_36 (by decide) ?_
      refine lv_icmp_ne (tgt := 58) hx hb dX7_update_37 (by decide) (fun c10 => ?_) (fun c10 => ?_)
      · replace h := oe c10 h
        replace h := (Option.some.inj h).symm
        exact haj14 _ _ _ _ _ h hw (lv_sub hl [0, 1, 2, 3] rfl)
      · replace h := ot c10 h
        refine lv_aload_n hx hb dX7_update_40 rfl (lv_at hl 1 rfl) ?_
        refine m_gf hX hn hw 6 (v := .ref (gmd g 6)) (by decide +kernel) (by decide) (by decide +kernel) rfl dX7_update_41 ?_
        refine lv_aload_n hx hb dX7_update_44 rfl (lv_at hl 1 rfl) ?_
        refine m_gf hX hn hw 25 (v := .ref (gmd g 25)) (by decide +kernel) (by decide) (by decide +kernel) rfl dX7_update_45 ?_
        refine lv_iload_n hx hb dX7_update_48 rfl (lv_at hl 2 rfl) ?_
        obtain ⟨c11, h⟩ := og h
        refine m_ld hX hn hw 25 (by decide) (by decide) rfl c11 dX7_update_49 ?_
        obtain ⟨c12, h⟩ := og h
        refine m_ldz hX hn hw 6 (by decide) (by decide) rfl c12 dX7_update_50 ?_
        refine lv_if_eq (tgt := 58) hx hb dX7_update_51 (by decide) (fun c13 => ?_) (fun c13 => ?_)
        · replace h := ot c13 h
          replace h := (Option.some.inj h).symm
          exact haj14 _ _ _ _ _ h hw (lv_sub hl [0, 1, 2, 3] rfl)
        · replace h := oe c13 h
          refine lv_iconst (v := 1) hx hb dX7_update_54 (by decide) ?_
          refine lv_goto (tgt := 59) hx hb dX7_update_55 (by decide) ?_
          replace h := (Option.some.inj h).symm
          replace h := raj14 _ h
          exact haj37 _ _ _ _ _ _ h hw (lv_sub hl [0, 1, 2, 3] rfl)
