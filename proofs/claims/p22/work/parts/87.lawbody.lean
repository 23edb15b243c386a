/-! ===== the law's entry (printed by gl.py) ===== -/
def x_law_S (w : CS) : Option (Nat × Nat × Nat × Nat × Nat × CS) :=
  if 1 ≤ wl w ∧ 8 ≤ wk w then
  bs (nw w 6 0 8) (fun (w2 : CS) =>
  if wJ w2 0 (wz w + 1) = 6 then
  bd (x_X6_init (wz w + 1) w2) (fun (w5 : CS) =>
  if ¬ (60 : Int32) < 0 ∧ (60 : Int32).toNatClampNeg ≤ 1000 then
  if 1 ≤ wl w5 ∧ (60 : Int32).toNatClampNeg ≤ wk w5 then
  bs (nw w5 8 (60 : Int32).toNatClampNeg (60 : Int32).toNatClampNeg) (fun (w8 : CS) =>
  if ¬ (60 : Int32) < 0 ∧ (60 : Int32).toNatClampNeg ≤ 1000 then
  if 1 ≤ wl w8 ∧ (60 : Int32).toNatClampNeg ≤ wk w8 then
  bs (nw w8 8 (60 : Int32).toNatClampNeg (60 : Int32).toNatClampNeg) (fun (w11 : CS) =>
  if ¬ (16 : Int32) < 0 ∧ (16 : Int32).toNatClampNeg ≤ 1000 then
  if 1 ≤ wl w11 ∧ (16 : Int32).toNatClampNeg ≤ wk w11 then
  bs (nw w11 8 (16 : Int32).toNatClampNeg (16 : Int32).toNatClampNeg) (fun (w14 : CS) =>
  if ¬ (6 : Int32) < 0 ∧ (6 : Int32).toNatClampNeg ≤ 1000 then
  if 1 ≤ wl w14 ∧ (6 : Int32).toNatClampNeg ≤ wk w14 then
  bs (nw w14 8 (6 : Int32).toNatClampNeg (6 : Int32).toNatClampNeg) (fun (w17 : CS) =>
  some ((wz w + 1), (wz w5 + 1), (wz w8 + 1), (wz w11 + 1), (wz w14 + 1), w17))
  else none
  else none)
  else none
  else none)
  else none
  else none)
  else none
  else none)
  else none)
  else none
set_option maxHeartbeats 8000000 in
set_option maxRecDepth 100000 in
theorem c_law_S (g : GG) (l : Launch) (hG : XG g) (hN : NG g) (hC : NC g) (hst : l.stackTraces = false) {p : Program} {e : Env} {s : State} {mi : MethodId} {args : Array Value} {below : List Frame} {meth : Method} {cd : Code} {Q : State → Prop} {b : Nat} (hX : MX g RL p s mi args cd cL_law 8 wsL_law meth (some .boolean)) (w : CS) (mm : MS) (r : Nat × Nat × Nat × Nat × Nat × CS) (h : x_law_S w = some r) (hw : wH g s.heap.size (w, mm) s.heap []) (ls : Array Slot) (hl : lv_has ls 8 [(0, .ref b)])
    (hend : ∀ (H : Heap) (lc : List Loc) (cn sn : Nat) (ls : Array Slot) {r2 : Nat × Nat × Nat × Nat × Nat × CS}, r = r2 → wH g s.heap.size (r2.2.2.2.2.2, mm) H lc → lv_has ls 8 [(0, .ref b), (1, rv r2.1), (2, rv r2.2.1), (3, rv r2.2.2.1), (4, rv r2.2.2.2.1), (5, rv r2.2.2.2.2.1)] → W p l e (rmO g 22 928 s.heap) s mi args below meth cd H lc cn sn Q (F0 mi 30 ls [])) :
    W p l e (rmO g 22 928 s.heap) s mi args below meth cd s.heap [] 0 0 Q (F0 mi 0 ls []) := by
  obtain ⟨⟨hx, hb, -, hown, hts⟩, -⟩ := id hX
  unfold x_law_S at h
  obtain ⟨c1, h⟩ := og h
  obtain ⟨w2, ew2, h⟩ := ol h
  refine n_6 hX hw (by decide +kernel) (by decide +kernel) (by decide +kernel) (by decide +kernel) c1 dL_law_0 (fun H cn sn hw => ?_)
  have hw := hw_eq ew2 hw
  refine lv_dup hx hb dL_law_3 (rv_cat _) ?_
  obtain ⟨c3, h⟩ := og h
  obtain ⟨w5, e4, h⟩ := ob h
  refine g_callI (n := 0) (As := []) (rest := [rv (wz w + 1)]) hX hw (c_X6_init g l hG hN hst mm (wz w + 1) w2 w5 e4) gL_law_X6_init rfl (by decide +kernel) rfl (x_nz hw c3) (by decide +kernel) (by decide +kernel) (by decide +kernel) rfl hl.1 rfl (by simp [rv_cat, ct_i, ct_l, ct_r]) ⟨by decide, by decide⟩ dL_law_4 (fun H lc cn sn hw => ?_)
  refine t_astore_n (lv' := [(1, rv (wz w + 1)), (0, .ref b)]) hx hb dL_law_7 rfl hl (by decide) (by simp [rv_cat, ct_i, ct_l, ct_r] <;> decide) (fun ls hl => ?_)
  refine lv_bipush (v := 60) hx hb dL_law_8 (by decide) ?_
  obtain ⟨c6, h⟩ := og h
  obtain ⟨c7, h⟩ := og h
  obtain ⟨w8, ew8, h⟩ := ol h
  refine n_arrI hX hw (by decide +kernel) c6 c7 dL_law_10 (fun H cn sn hw => ?_)
  have hw := hw_eq ew8 hw
  refine t_astore_n (lv' := [(2, rv (wz w5 + 1)), (1, rv (wz w + 1)), (0, .ref b)]) hx hb dL_law_12 rfl hl (by decide) (by simp [rv_cat, ct_i, ct_l, ct_r] <;> decide) (fun ls hl => ?_)
  refine lv_bipush (v := 60) hx hb dL_law_13 (by decide) ?_
  obtain ⟨c9, h⟩ := og h
  obtain ⟨c10, h⟩ := og h
  obtain ⟨w11, ew11, h⟩ := ol h
  refine n_arrI hX hw (by decide +kernel) c9 c10 dL_law_15 (fun H cn sn hw => ?_)
  have hw := hw_eq ew11 hw
  refine t_astore_n (lv' := [(3, rv (wz w8 + 1)), (2, rv (wz w5 + 1)), (1, rv (wz w + 1)), (0, .ref b)]) hx hb dL_law_17 rfl hl (by decide) (by simp [rv_cat, ct_i, ct_l, ct_r] <;> decide) (fun ls hl => ?_)
  refine lv_bipush (v := 16) hx hb dL_law_18 (by decide) ?_
  obtain ⟨c12, h⟩ := og h
  obtain ⟨c13, h⟩ := og h
  obtain ⟨w14, ew14, h⟩ := ol h
  refine n_arrI hX hw (by decide +kernel) c12 c13 dL_law_20 (fun H cn sn hw => ?_)
  have hw := hw_eq ew14 hw
  refine t_astore (lv' := [(4, rv (wz w11 + 1)), (3, rv (wz w8 + 1)), (2, rv (wz w5 + 1)), (1, rv (wz w + 1)), (0, .ref b)]) hx hb dL_law_22 hl (by decide) (by simp [rv_cat, ct_i, ct_l, ct_r] <;> decide) (fun ls hl => ?_)
  refine lv_bipush (v := 6) hx hb dL_law_24 (by decide) ?_
  obtain ⟨c15, h⟩ := og h
  obtain ⟨c16, h⟩ := og h
  obtain ⟨w17, ew17, h⟩ := ol h
  refine n_arrI hX hw (by decide +kernel) c15 c16 dL_law_26 (fun H cn sn hw => ?_)
  have hw := hw_eq ew17 hw
  refine t_astore (lv' := [(5, rv (wz w14 + 1)), (4, rv (wz w11 + 1)), (3, rv (wz w8 + 1)), (2, rv (wz w5 + 1)), (1, rv (wz w + 1)), (0, .ref b)]) hx hb dL_law_28 hl (by decide) (by simp [rv_cat, ct_i, ct_l, ct_r] <;> decide) (fun ls hl => ?_)
  exact hend _ _ _ _ _ (Option.some.inj h).symm hw (lv_sub hl [5, 4, 3, 2, 1, 0] rfl)
def x_L_law_L1 (L : Nat) (o : Nat) (xs : Nat → Int32) : Nat → Int32 → Int32 → CS → MS → Option (Int32 × CS × MS)
  | 0, _, _, _, _ => none
  | n + 1, v6, v7, w8, m9 =>
    if (58 : Int32) ≤ v6 then
      some (v7, w8, m9)
    else
      if (v7 : Int32) = 0 then
        some (v7, w8, m9)
      else
        if vR 14 16 then
        b3 (
          l2 (
            if (55 : Int32) < (ga m9 3 (14 : Int32).toNatClampNeg) then
              some (.inl (w8, m9))
            else
              b3 (x_L_isDone L xs o (4 * v6) w8 m9) (fun (v15 : Int32) (w16 : CS) (m17 : MS) =>
              l1 (
                if (v15 : Int32) = 0 then
                  some (.inl w16)
                else
                  b2 (x_L_isSo o w16 m17) (fun (v20 : Int32) (w21 : CS) =>
                  if (v20 : Int32) = 0 then
                    some (.inl w21)
                  else
                    some (.inr (.inl (w21, m17))))) (fun (w23 : CS) =>
              some (.inr (((0 : Int32), w23, m17)))))) (fun (w25 : CS) (m26 : MS) =>
          some ((1 : Int32), w25, m26))) (fun (v28 : Int32) (w29 : CS) (m30 : MS) =>
        x_L_law_L1 L o xs n (v6 + 1) v28 w29 m30)
        else none
def x_L_law (L : Nat) (xs : Nat → Int32) (o : Nat) (w : CS) (mm : MS) : Option (Int32 × CS × MS) :=
  if vR 13 16 then
  bs (sa mm 3 (13 : Int32).toNatClampNeg (-1)) (fun (m2 : MS) =>
  b2 (x_L_isSo o w m2) (fun (v4 : Int32) (w5 : CS) =>
  b3 (x_L_law_L1 L o xs FU 0 v4 w5 m2) (fun (v32 : Int32) (w33 : CS) (m34 : MS) =>
  b2 (
    l1 (
      if (v32 : Int32) = 0 then
        some (.inl w33)
      else
        b2 (x_L_does o 0 (-1) 0 0 0 w33) (fun (v37 : Int32) (w38 : CS) =>
        if (v37 : Int32) = (-30) then
          b2 (x_L_does o 1 60 0 0 0 w38) (fun (v41 : Int32) (w42 : CS) =>
          if (v41 : Int32) = (-30) then
            b2 (x_L_does o 2 (-1) 0 0 0 w42) (fun (v45 : Int32) (w46 : CS) =>
            if (v45 : Int32) = (-30) then
              b2 (x_L_does o 3 4 0 0 0 w46) (fun (v49 : Int32) (w50 : CS) =>
              if (v49 : Int32) = (-30) then
                b2 (x_L_does o 4 (-1) 0 0 0 w50) (fun (v53 : Int32) (w54 : CS) =>
                if (v53 : Int32) = (-30) then
                  b2 (x_L_does o 5 4 0 0 0 w54) (fun (v57 : Int32) (w58 : CS) =>
                  if (v57 : Int32) = (-30) then
                    b2 (x_L_does o 8 60 0 0 0 w58) (fun (v61 : Int32) (w62 : CS) =>
                    if (v61 : Int32) = (-30) then
                      b2 (x_L_does o 12 (-1) 0 0 4 w62) (fun (v65 : Int32) (w66 : CS) =>
                      if (v65 : Int32) = (-30) then
                        b2 (x_L_does o 13 0 0 0 0 w66) (fun (v69 : Int32) (w70 : CS) =>
                        if (v69 : Int32) = (-30) then
                          b2 (x_L_does o 14 40 10000 0 0 w70) (fun (v73 : Int32) (w74 : CS) =>
                          if (v73 : Int32) = (-30) then
                            some (.inr (((1 : Int32), w74)))
                          else
                            some (.inl w74))
                        else
                          some (.inl w70))
                      else
                        some (.inl w66))
                    else
                      some (.inl w62))
                  else
                    some (.inl w58))
                else
                  some (.inl w54))
              else
                some (.inl w50))
            else
              some (.inl w46))
          else
            some (.inl w42))
        else
          some (.inl w38))) (fun (w76 : CS) =>
    some ((0 : Int32), w76))) (fun (v78 : Int32) (w79 : CS) =>
  if isB v78 then
  some ((v78, w79, m34))
  else none))))
  else none
set_option maxHeartbeats 8000000 in
set_option maxRecDepth 100000 in
theorem c_L_law (g : GG) (l : Launch) (hG : XG g) (hC : NC g) (hst : l.stackTraces = false) (hn : gnn g 4 = 1) {p : Program} {e : Env} {s : State} {mi : MethodId} {args : Array Value} {below : List Frame} {meth : Method} {cd : Code} {Q : State → Prop} {b L : Nat} {xs : Nat → Int32} (hX : MX g RL p s mi args cd cL_law 8 wsL_law meth (some .boolean)) (hS : SCG g b L xs) (o : Nat) (w : CS) (mm : MS) (r : Int32) (w' : CS) (mm' : MS) (h : x_L_law L xs o w mm = some (r, w', mm'))
    (hret : ∀ (H : Heap) (lc : List Loc) (cn sn pc : Nat) (ls : Array Slot) (v : Int32), decode cL_law pc = .ok (.ireturn, 1) → isB v → wH g s.heap.size (w', mm') H lc → some (Value.int v) = some (Value.int r) → W p l e (rmO g 22 928 s.heap) s mi args below meth cd H lc cn sn Q (F0 mi pc ls [.int v]))
    (H : Heap) (lc : List Loc) (cn sn : Nat) (ls : Array Slot) (hw : wH g s.heap.size (w, mm) H lc) (hl : lv_has ls 8 [(0, .ref b), (1, rv o), (2, .ref (gmd g 1)), (3, .ref (gmd g 2)), (4, .ref (gmd g 3)), (5, .ref (gmd g 4))]) : W p l e (rmO g 22 928 s.heap) s mi args below meth cd H lc cn sn Q (F0 mi 30 ls []) := by
  obtain ⟨⟨hx, hb, -, hown, hts⟩, -⟩ := id hX
  unfold x_L_law at h
  refine lv_aload hx hb dL_law_30 (lv_at hl 4 rfl) ?_
  refine lv_bipush (v := 13) hx hb dL_law_32 (by decide) ?_
  refine lv_iconst (v := (-1)) hx hb dL_law_34 (by decide) ?_
  obtain ⟨c1, h⟩ := og h
  obtain ⟨m2, em2, h⟩ := ol h
  refine m_st hX hn hw 3 (by decide) rfl c1 dL_law_35 (fun H lc hw => ?_)
  have hw := hm_eq em2 hw
  refine t_aload_n hx hb dL_law_36 rfl (lv_at hl 1 rfl) ?_
  refine lv_aload_n hx hb dL_law_37 rfl (lv_at hl 2 rfl) ?_
  refine lv_aload hx hb dL_law_38 (lv_at hl 4 rfl) ?_
  obtain ⟨v4, w5, e3, h⟩ := oc2 h
  refine g_callSi (n := 3) (As := [rv o, .ref (gmd g 1), .ref (gmd g 3)]) (rest := []) hX hw (c_L_isSo g l hG hC hst hn hS o w m2 v4  w5 e3) gL_law_L_isSo rfl (by decide +kernel) rfl hl.1 rfl (Nat.le_of_ble_eq_true rfl) ⟨by decide, by decide⟩ dL_law_40 (fun H lc cn sn hw => ?_)
  refine lv_istore (lv' := [(6, .int v4), (0, .ref b), (1, rv o), (2, .ref (gmd g 1)), (3, .ref (gmd g 2)), (4, .ref (gmd g 3)), (5, .ref (gmd g 4))]) hx hb dL_law_43 hl (by decide) (by simp [rv_cat, ct_i, ct_l, ct_r] <;> decide) (fun ls hl => ?_)
  refine lv_iconst (v := 0) hx hb dL_law_45 (by decide) ?_
  refine lv_istore (lv' := [(7, .int 0), (6, .int v4), (0, .ref b), (1, rv o), (2, .ref (gmd g 1)), (3, .ref (gmd g 2)), (4, .ref (gmd g 3)), (5, .ref (gmd g 4))]) hx hb dL_law_46 hl (by decide) rfl (fun ls hl => ?_)
  obtain ⟨aj82, h1aj82, kaj82⟩ := ob3 h
  have haj82 : ∀ (v32 : Int32) (w33 : CS) (m34 : MS) (H : Heap) (lc : List Loc) (cn sn : Nat) (ls : Array Slot), aj82 = (v32, w33, m34) → wH g s.heap.size (w33, m34) H lc → lv_has ls 8 [(6, .int v32), (1, rv o)] → W p l e (rmO g 22 928 s.heap) s mi args below meth cd H lc cn sn Q (F0 mi 111 ls []) := by
    intro v32 w33 m34 H lc cn sn ls h hw hl
    replace h := kaj82 _ _ _ h
    refine lv_iload hx hb dL_law_111 (lv_at hl 0 rfl) ?_
    obtain ⟨aj81, h1aj81, kaj81⟩ := ob2 h
    have haj81 : ∀ (v78 : Int32) (w79 : CS) (H : Heap) (lc : List Loc) (cn sn : Nat) (ls : Array Slot), aj81 = (v78, w79) → wH g s.heap.size (w79, m34) H lc → lv_has ls 8 [] → W p l e (rmO g 22 928 s.heap) s mi args below meth cd H lc cn sn Q (F0 mi 270 ls [.int v78]) := by
      intro v78 w79 H lc cn sn ls h hw hl
      replace h := kaj81 _ _ h
      obtain ⟨c80, h⟩ := og h
      replace h := (Option.some.inj h).symm
      obtain ⟨rfl, h8⟩ := Prod.mk.inj h
      obtain ⟨rfl, rfl⟩ := Prod.mk.inj h8
      exact hret _ _ _ _ _ _ _ dL_law_270 c80 hw rfl
    replace h := h1aj81
    obtain ⟨aj77, h1aj77, kaj77, raj77⟩ := ol1 h
    have haj77 : ∀ (w76 : CS) (H : Heap) (lc : List Loc) (cn sn : Nat) (ls : Array Slot), aj77 = Sum.inl w76 → wH g s.heap.size (w76, m34) H lc → lv_has ls 8 [] → W p l e (rmO g 22 928 s.heap) s mi args below meth cd H lc cn sn Q (F0 mi 269 ls []) := by
      intro w76 H lc cn sn ls h hw hl
      replace h := kaj77 _ h
      refine lv_iconst (v := 0) hx hb dL_law_269 (by decide) ?_
      replace h := (Option.some.inj h).symm
      exact haj81 _ _ _ _ _ _ _ h hw (lv_sub hl [] rfl)
    replace h := h1aj77
    refine lv_if_eq (tgt := 269) hx hb dL_law_113 (by decide) (fun c35 => ?_) (fun c35 => ?_)
    · replace h := ot c35 h
      replace h := (Option.some.inj h).symm
      exact haj77 _ _ _ _ _ _ h hw (lv_sub hl [] rfl)
    · replace h := oe c35 h
      refine t_aload_n hx hb dL_law_116 rfl (lv_at hl 1 rfl) ?_
      refine lv_iconst (v := 0) hx hb dL_law_117 (by decide) ?_
      refine lv_iconst (v := (-1)) hx hb dL_law_118 (by decide) ?_
      refine lv_iconst (v := 0) hx hb dL_law_119 (by decide) ?_
      refine lv_iconst (v := 0) hx hb dL_law_120 (by decide) ?_
      refine lv_iconst (v := 0) hx hb dL_law_121 (by decide) ?_
      obtain ⟨v37, w38, e36, h⟩ := oc2 h
      refine g_callSWi (n := 6) (As := [rv o, .int 0, .int (-1), .int 0, .int 0, .int 0]) (rest := []) hX hw (c_L_does g l hG hC hst m34 o 0 (-1) 0 0 0 w33 v37 w38 e36) gL_law_L_does rfl (by decide +kernel) rfl hl.1 rfl (Nat.le_of_ble_eq_true rfl) ⟨by decide, by decide⟩ dL_law_122 (fun H lc cn sn hw => ?_)
      refine lv_bipush (v := (-30)) hx hb dL_law_125 (by decide) ?_
      refine lv_icmp_ne (tgt := 269) hx hb dL_law_127 (by decide) (fun c39 => ?_) (fun c39 => ?_)
      · replace h := oe c39 h
        replace h := (Option.some.inj h).symm
        exact haj77 _ _ _ _ _ _ h hw (lv_sub hl [] rfl)
      · replace h := ot c39 h
        refine t_aload_n hx hb dL_law_130 rfl (lv_at hl 1 rfl) ?_
        refine lv_iconst (v := 1) hx hb dL_law_131 (by decide) ?_
        refine lv_bipush (v := 60) hx hb dL_law_132 (by decide) ?_
        refine lv_iconst (v := 0) hx hb dL_law_134 (by decide) ?_
        refine lv_iconst (v := 0) hx hb dL_law_135 (by decide) ?_
        refine lv_iconst (v := 0) hx hb dL_law_136 (by decide) ?_
        obtain ⟨v41, w42, e40, h⟩ := oc2 h
        refine g_callSWi (n := 6) (As := [rv o, .int 1, .int 60, .int 0, .int 0, .int 0]) (rest := []) hX hw (c_L_does g l hG hC hst m34 o 1 60 0 0 0 w38 v41 w42 e40) gL_law_L_does rfl (by decide +kernel) rfl hl.1 rfl (Nat.le_of_ble_eq_true rfl) ⟨by decide, by decide⟩ dL_law_137 (fun H lc cn sn hw => ?_)
        refine lv_bipush (v := (-30)) hx hb dL_law_140 (by decide) ?_
        refine lv_icmp_ne (tgt := 269) hx hb dL_law_142 (by decide) (fun c43 => ?_) (fun c43 => ?_)
        · replace h := oe c43 h
          replace h := (Option.some.inj h).symm
          exact haj77 _ _ _ _ _ _ h hw (lv_sub hl [] rfl)
        · replace h := ot c43 h
          refine t_aload_n hx hb dL_law_145 rfl (lv_at hl 1 rfl) ?_
          refine lv_iconst (v := 2) hx hb dL_law_146 (by decide) ?_
          refine lv_iconst (v := (-1)) hx hb dL_law_147 (by decide) ?_
          refine lv_iconst (v := 0) hx hb dL_law_148 (by decide) ?_
          refine lv_iconst (v := 0) hx hb dL_law_149 (by decide) ?_
          refine lv_iconst (v := 0) hx hb dL_law_150 (by decide) ?_
          obtain ⟨v45, w46, e44, h⟩ := oc2 h
          refine g_callSWi (n := 6) (As := [rv o, .int 2, .int (-1), .int 0, .int 0, .int 0]) (rest := []) hX hw (c_L_does g l hG hC hst m34 o 2 (-1) 0 0 0 w42 v45 w46 e44) gL_law_L_does rfl (by decide +kernel) rfl hl.1 rfl (Nat.le_of_ble_eq_true rfl) ⟨by decide, by decide⟩ dL_law_151 (fun H lc cn sn hw => ?_)
          refine lv_bipush (v := (-30)) hx hb dL_law_154 (by decide) ?_
          refine lv_icmp_ne (tgt := 269) hx hb dL_law_156 (by decide) (fun c47 => ?_) (fun c47 => ?_)
          · replace h := oe c47 h
            replace h := (Option.some.inj h).symm
            exact haj77 _ _ _ _ _ _ h hw (lv_sub hl [] rfl)
          · replace h := ot c47 h
            refine t_aload_n hx hb dL_law_159 rfl (lv_at hl 1 rfl) ?_
            refine lv_iconst (v := 3) hx hb dL_law_160 (by decide) ?_
            refine lv_iconst (v := 4) hx hb dL_law_161 (by decide) ?_
            refine lv_iconst (v := 0) hx hb dL_law_162 (by decide) ?_
            refine lv_iconst (v := 0) hx hb dL_law_163 (by decide) ?_
            refine lv_iconst (v := 0) hx hb dL_law_164 (by decide) ?_
            obtain ⟨v49, w50, e48, h⟩ := oc2 h
            refine g_callSWi (n := 6) (As := [rv o, .int 3, .int 4, .int 0, .int 0, .int 0]) (rest := []) hX hw (c_L_does g l hG hC hst m34 o 3 4 0 0 0 w46 v49 w50 e48) gL_law_L_does rfl (by decide +kernel) rfl hl.1 rfl (Nat.le_of_ble_eq_true rfl) ⟨by decide, by decide⟩ dL_law_165 (fun H lc cn sn hw => ?_)
            refine lv_bipush (v := (-30)) hx hb dL_law_168 (by decide) ?_
            refine lv_icmp_ne (tgt := 269) hx hb dL_law_170 (by decide) (fun c51 => ?_) (fun c51 => ?_)
            · replace h := oe c51 h
              replace h := (Option.some.inj h).symm
              exact haj77 _ _ _ _ _ _ h hw (lv_sub hl [] rfl)
            · replace h := ot c51 h
              refine t_aload_n hx hb dL_law_173 rfl (lv_at hl 1 rfl) ?_
              refine lv_iconst (v := 4) hx hb dL_law_174 (by decide) ?_
              refine lv_iconst (v := (-1)) hx hb dL_law_175 (by decide) ?_
              refine lv_iconst (v := 0) hx hb dL_law_176 (by decide) ?_
              refine lv_iconst (v := 0) hx hb dL_law_177 (by decide) ?_
              refine lv_iconst (v := 0) hx hb dL_law_178 (by decide) ?_
              obtain ⟨v53, w54, e52, h⟩ := oc2 h
              refine g_callSWi (n := 6) (As := [rv o, .int 4, .int (-1), .int 0, .int 0, .int 0]) (rest := []) hX hw (c_L_does g l hG hC hst m34 o 4 (-1) 0 0 0 w50 v53 w54 e52) gL_law_L_does rfl (by decide +kernel) rfl hl.1 rfl (Nat.le_of_ble_eq_true rfl) ⟨by decide, by decide⟩ dL_law_179 (fun H lc cn sn hw => ?_)
              refine lv_bipush (v := (-30)) hx hb dL_law_182 (by decide) ?_
              refine lv_icmp_ne (tgt := 269) hx hb dL_law_184 (by decide) (fun c55 => ?_) (fun c55 => ?_)
              · replace h := oe c55 h
                replace h := (Option.some.inj h).symm
                exact haj77 _ _ _ _ _ _ h hw (lv_sub hl [] rfl)
              · replace h := ot c55 h
                refine t_aload_n hx hb dL_law_187 rfl (lv_at hl 1 rfl) ?_
                refine lv_iconst (v := 5) hx hb dL_law_188 (by decide) ?_
                refine lv_iconst (v := 4) hx hb dL_law_189 (by decide) ?_
                refine lv_iconst (v := 0) hx hb dL_law_190 (by decide) ?_
                refine lv_iconst (v := 0) hx hb dL_law_191 (by decide) ?_
                refine lv_iconst (v := 0) hx hb dL_law_192 (by decide) ?_
                obtain ⟨v57, w58, e56, h⟩ := oc2 h
                refine g_callSWi (n := 6) (As := [rv o, .int 5, .int 4, .int 0, .int 0, .int 0]) (rest := []) hX hw (c_L_does g l hG hC hst m34 o 5 4 0 0 0 w54 v57 w58 e56) gL_law_L_does rfl (by decide +kernel) rfl hl.1 rfl (Nat.le_of_ble_eq_true rfl) ⟨by decide, by decide⟩ dL_law_193 (fun H lc cn sn hw => ?_)
                refine lv_bipush (v := (-30)) hx hb dL_law_196 (by decide) ?_
                refine lv_icmp_ne (tgt := 269) hx hb dL_law_198 (by decide) (fun c59 => ?_) (fun c59 => ?_)
                · replace h := oe c59 h
                  replace h := (Option.some.inj h).symm
                  exact haj77 _ _ _ _ _ _ h hw (lv_sub hl [] rfl)
                · replace h := ot c59 h
                  refine t_aload_n hx hb dL_law_201 rfl (lv_at hl 1 rfl) ?_
                  refine lv_bipush (v := 8) hx hb dL_law_202 (by decide) ?_
                  refine lv_bipush (v := 60) hx hb dL_law_204 (by decide) ?_
                  refine lv_iconst (v := 0) hx hb dL_law_206 (by decide) ?_
                  refine lv_iconst (v := 0) hx hb dL_law_207 (by decide) ?_
                  refine lv_iconst (v := 0) hx hb dL_law_208 (by decide) ?_
                  obtain ⟨v61, w62, e60, h⟩ := oc2 h
                  refine g_callSWi (n := 6) (As := [rv o, .int 8, .int 60, .int 0, .int 0, .int 0]) (rest := []) hX hw (c_L_does g l hG hC hst m34 o 8 60 0 0 0 w58 v61 w62 e60) gL_law_L_does rfl (by decide +kernel) rfl hl.1 rfl (Nat.le_of_ble_eq_true rfl) ⟨by decide, by decide⟩ dL_law_209 (fun H lc cn sn hw => ?_)
                  refine lv_bipush (v := (-30)) hx hb dL_law_212 (by decide) ?_
                  refine lv_icmp_ne (tgt := 269) hx hb dL_law_214 (by decide) (fun c63 => ?_) (fun c63 => ?_)
                  · replace h := oe c63 h
                    replace h := (Option.some.inj h).symm
                    exact haj77 _ _ _ _ _ _ h hw (lv_sub hl [] rfl)
                  · replace h := ot c63 h
                    refine t_aload_n hx hb dL_law_217 rfl (lv_at hl 1 rfl) ?_
                    refine lv_bipush (v := 12) hx hb dL_law_218 (by decide) ?_
                    refine lv_iconst (v := (-1)) hx hb dL_law_220 (by decide) ?_
                    refine lv_iconst (v := 0) hx hb dL_law_221 (by decide) ?_
                    refine lv_iconst (v := 0) hx hb dL_law_222 (by decide) ?_
                    refine lv_iconst (v := 4) hx hb dL_law_223 (by decide) ?_
                    obtain ⟨v65, w66, e64, h⟩ := oc2 h
                    refine g_callSWi (n := 6) (As := [rv o, .int 12, .int (-1), .int 0, .int 0, .int 4]) (rest := []) hX hw (c_L_does g l hG hC hst m34 o 12 (-1) 0 0 4 w62 v65 w66 e64) gL_law_L_does rfl (by decide +kernel) rfl hl.1 rfl (Nat.le_of_ble_eq_true rfl) ⟨by decide, by decide⟩ dL_law_224 (fun H lc cn sn hw => ?_)
                    refine lv_bipush (v := (-30)) hx hb dL_law_227 (by decide) ?_
                    refine lv_icmp_ne (tgt := 269) hx hb dL_law_229 (by decide) (fun c67 => ?_) (fun c67 => ?_)
                    · replace h := oe c67 h
                      replace h := (Option.some.inj h).symm
                      exact haj77 _ _ _ _ _ _ h hw (lv_sub hl [] rfl)
                    · replace h := ot c67 h
                      refine t_aload_n hx hb dL_law_232 rfl (lv_at hl 1 rfl) ?_
                      refine lv_bipush (v := 13) hx hb dL_law_233 (by decide) ?_
                      refine lv_iconst (v := 0) hx hb dL_law_235 (by decide) ?_
                      refine lv_iconst (v := 0) hx hb dL_law_236 (by decide) ?_
                      refine lv_iconst (v := 0) hx hb dL_law_237 (by decide) ?_
                      refine lv_iconst (v := 0) hx hb dL_law_238 (by decide) ?_
                      obtain ⟨v69, w70, e68, h⟩ := oc2 h
                      refine g_callSWi (n := 6) (As := [rv o, .int 13, .int 0, .int 0, .int 0, .int 0]) (rest := []) hX hw (c_L_does g l hG hC hst m34 o 13 0 0 0 0 w66 v69 w70 e68) gL_law_L_does rfl (by decide +kernel) rfl hl.1 rfl (Nat.le_of_ble_eq_true rfl) ⟨by decide, by decide⟩ dL_law_239 (fun H lc cn sn hw => ?_)
                      refine lv_bipush (v := (-30)) hx hb dL_law_242 (by decide) ?_
                      refine lv_icmp_ne (tgt := 269) hx hb dL_law_244 (by decide) (fun c71 => ?_) (fun c71 => ?_)
                      · replace h := oe c71 h
                        replace h := (Option.some.inj h).symm
                        exact haj77 _ _ _ _ _ _ h hw (lv_sub hl [] rfl)
                      · replace h := ot c71 h
                        refine t_aload_n hx hb dL_law_247 rfl (lv_at hl 1 rfl) ?_
                        refine lv_bipush (v := 14) hx hb dL_law_248 (by decide) ?_
                        refine lv_bipush (v := 40) hx hb dL_law_250 (by decide) ?_
                        refine lv_sipush (v := 10000) hx hb dL_law_252 (by decide) ?_
                        refine lv_iconst (v := 0) hx hb dL_law_255 (by decide) ?_
                        refine lv_iconst (v := 0) hx hb dL_law_256 (by decide) ?_
                        obtain ⟨v73, w74, e72, h⟩ := oc2 h
                        refine g_callSWi (n := 6) (As := [rv o, .int 14, .int 40, .int 10000, .int 0, .int 0]) (rest := []) hX hw (c_L_does g l hG hC hst m34 o 14 40 10000 0 0 w70 v73 w74 e72) gL_law_L_does rfl (by decide +kernel) rfl hl.1 rfl (Nat.le_of_ble_eq_true rfl) ⟨by decide, by decide⟩ dL_law_257 (fun H lc cn sn hw => ?_)
                        refine lv_bipush (v := (-30)) hx hb dL_law_260 (by decide) ?_
                        refine lv_icmp_ne (tgt := 269) hx hb dL_law_262 (by decide) (fun c75 => ?_) (fun c75 => ?_)
                        · replace h := oe c75 h
                          replace h := (Option.some.inj h).symm
                          exact haj77 _ _ _ _ _ _ h hw (lv_sub hl [] rfl)
                        · replace h := ot c75 h
                          refine lv_iconst (v := 1) hx hb dL_law_265 (by decide) ?_
                          refine lv_goto (tgt := 270) hx hb dL_law_266 (by decide) ?_
                          replace h := (Option.some.inj h).symm
                          replace h := raj77 _ h
                          exact haj81 _ _ _ _ _ _ _ h hw (lv_sub hl [] rfl)
  have hkj82 : ∀ (n : Nat) (v6 : Int32) (v7 : Int32) (w8 : CS) (m9 : MS) (H : Heap) (lc : List Loc) (cn sn : Nat) (ls : Array Slot), x_L_law_L1 L o xs n v6 v7 w8 m9 = some aj82 → wH g s.heap.size (w8, m9) H lc → lv_has ls 8 [(7, .int v6), (6, .int v7), (0, .ref b), (1, rv o), (2, .ref (gmd g 1)), (3, .ref (gmd g 2)), (4, .ref (gmd g 3)), (5, .ref (gmd g 4))] → W p l e (rmO g 22 928 s.heap) s mi args below meth cd H lc cn sn Q (F0 mi 48 ls []) := by
    intro n
    induction n with
    | zero =>
      intro v6 v7 w8 m9 H lc cn sn ls h
      rw [x_L_law_L1] at h
      cases h
    | succ n ih =>
      intro v6 v7 w8 m9 H lc cn sn ls h hw hl
      rw [x_L_law_L1] at h
      refine lv_iload hx hb dL_law_48 (lv_at hl 0 rfl) ?_
      refine lv_bipush (v := 58) hx hb dL_law_50 (by decide) ?_
      refine lv_icmp_ge (tgt := 111) hx hb dL_law_52 (by decide) (fun c10 => ?_) (fun c10 => ?_)
      · replace h := ot c10 h
        replace h := (Option.some.inj h).symm
        exact haj82 _ _ _ _ _ _ _ _ h hw (lv_sub hl [1, 3] rfl)
      · replace h := oe c10 h
        refine lv_iload hx hb dL_law_55 (lv_at hl 1 rfl) ?_
        refine lv_if_eq (tgt := 111) hx hb dL_law_57 (by decide) (fun c11 => ?_) (fun c11 => ?_)
        · replace h := ot c11 h
          replace h := (Option.some.inj h).symm
          exact haj82 _ _ _ _ _ _ _ _ h hw (lv_sub hl [1, 3] rfl)
        · replace h := oe c11 h
          refine lv_aload hx hb dL_law_60 (lv_at hl 6 rfl) ?_
          refine lv_bipush (v := 14) hx hb dL_law_62 (by decide) ?_
          obtain ⟨c12, h⟩ := og h
          refine m_ld hX hn hw 3 (by decide) rfl c12 dL_law_64 ?_
          refine lv_bipush (v := 55) hx hb dL_law_65 (by decide) ?_
          obtain ⟨aj31, h1aj31, kaj31⟩ := ob3 h
          have haj31 : ∀ (v28 : Int32) (w29 : CS) (m30 : MS) (H : Heap) (lc : List Loc) (cn sn : Nat) (ls : Array Slot), aj31 = (v28, w29, m30) → wH g s.heap.size (w29, m30) H lc → lv_has ls 8 [(7, .int v6), (0, .ref b), (1, rv o), (2, .ref (gmd g 1)), (3, .ref (gmd g 2)), (4, .ref (gmd g 3)), (5, .ref (gmd g 4))] → W p l e (rmO g 22 928 s.heap) s mi args below meth cd H lc cn sn Q (F0 mi 103 ls [.int v28]) := by
            intro v28 w29 m30 H lc cn sn ls h hw hl
            replace h := kaj31 _ _ _ h
            refine lv_istore (lv' := [(6, .int v28), (7, .int v6), (0, .ref b), (1, rv o), (2, .ref (gmd g 1)), (3, .ref (gmd g 2)), (4, .ref (gmd g 3)), (5, .ref (gmd g 4))]) hx hb dL_law_103 hl (by decide) (by simp [rv_cat, ct_i, ct_l, ct_r] <;> decide) (fun ls hl => ?_)
            refine lv_iinc (v := (v6 + 1)) (lv' := [(7, .int (v6 + 1)), (6, .int v28), (0, .ref b), (1, rv o), (2, .ref (gmd g 1)), (3, .ref (gmd g 2)), (4, .ref (gmd g 3)), (5, .ref (gmd g 4))]) hx hb dL_law_105 hl (k := 1) rfl (by rfl) (by decide) rfl (fun ls hl => ?_)
            refine lv_goto (tgt := 48) hx hb dL_law_108 (by decide) ?_
            exact ih _ _ _ _ _ _ _ _ _ h hw (lv_sub hl [0, 1, 2, 3, 4, 5, 6, 7] rfl)
          replace h := h1aj31
          obtain ⟨aj27, h1aj27, kaj27, raj27⟩ := ol2 h
          have haj27 : ∀ (w25 : CS) (m26 : MS) (H : Heap) (lc : List Loc) (cn sn : Nat) (ls : Array Slot), aj27 = Sum.inl (w25, m26) → wH g s.heap.size (w25, m26) H lc → lv_has ls 8 [(7, .int v6), (0, .ref b), (1, rv o), (2, .ref (gmd g 1)), (3, .ref (gmd g 2)), (4, .ref (gmd g 3)), (5, .ref (gmd g 4))] → W p l e (rmO g 22 928 s.heap) s mi args below meth cd H lc cn sn Q (F0 mi 98 ls []) := by
            intro w25 m26 H lc cn sn ls h hw hl
            replace h := kaj27 _ _ h
            refine lv_iconst (v := 1) hx hb dL_law_98 (by decide) ?_
            refine lv_goto (tgt := 103) hx hb dL_law_99 (by decide) ?_
            replace h := (Option.some.inj h).symm
            exact haj31 _ _ _ _ _ _ _ _ h hw (lv_sub hl [0, 1, 2, 3, 4, 5, 6] rfl)
          replace h := h1aj27
          refine lv_icmp_gt (tgt := 98) hx hb dL_law_67 (by decide) (fun c13 => ?_) (fun c13 => ?_)
          · replace h := ot c13 h
            replace h := (Option.some.inj h).symm
            exact haj27 _ _ _ _ _ _ _ h hw (lv_sub hl [0, 2, 3, 4, 5, 6, 7] rfl)
          · replace h := oe c13 h
            refine t_aload_n hx hb dL_law_70 rfl (lv_at hl 3 rfl) ?_
            refine lv_aload_n hx hb dL_law_71 rfl (lv_at hl 2 rfl) ?_
            refine lv_iconst (v := 4) hx hb dL_law_72 (by decide) ?_
            refine lv_iload hx hb dL_law_73 (lv_at hl 0 rfl) ?_
            refine lv_imul hx hb dL_law_75 ?_
            refine lv_aload_n hx hb dL_law_76 rfl (lv_at hl 4 rfl) ?_
            refine lv_aload_n hx hb dL_law_77 rfl (lv_at hl 5 rfl) ?_
            refine lv_aload hx hb dL_law_78 (lv_at hl 6 rfl) ?_
            refine lv_aload hx hb dL_law_80 (lv_at hl 7 rfl) ?_
            obtain ⟨v15, w16, m17, e14, h⟩ := oc3 h
            refine g_callSi (n := 7) (As := [rv o, .ref b, .int (4 * v6), .ref (gmd g 1), .ref (gmd g 2), .ref (gmd g 3), .ref (gmd g 4)]) (rest := []) hX hw (c_L_isDone g l hG hC hst hn hS o (4 * v6) w8 m9 v15  w16 m17 e14) gL_law_L_isDone rfl (by decide +kernel) rfl hl.1 rfl (Nat.le_of_ble_eq_true rfl) ⟨by decide, by decide⟩ dL_law_82 (fun H lc cn sn hw => ?_)
            obtain ⟨aj24, h1aj24, kaj24, raj24⟩ := ol1 h
            have haj24 : ∀ (w23 : CS) (H : Heap) (lc : List Loc) (cn sn : Nat) (ls : Array Slot), aj24 = Sum.inl w23 → wH g s.heap.size (w23, m17) H lc → lv_has ls 8 [(7, .int v6), (0, .ref b), (1, rv o), (2, .ref (gmd g 1)), (3, .ref (gmd g 2)), (4, .ref (gmd g 3)), (5, .ref (gmd g 4))] → W p l e (rmO g 22 928 s.heap) s mi args below meth cd H lc cn sn Q (F0 mi 102 ls []) := by
              intro w23 H lc cn sn ls h hw hl
              replace h := kaj24 _ h
              refine lv_iconst (v := 0) hx hb dL_law_102 (by decide) ?_
              replace h := (Option.some.inj h).symm
              replace h := raj27 _ h
              exact haj31 _ _ _ _ _ _ _ _ h hw (lv_sub hl [0, 1, 2, 3, 4, 5, 6] rfl)
            replace h := h1aj24
            refine lv_if_eq (tgt := 102) hx hb dL_law_85 (by decide) (fun c18 => ?_) (fun c18 => ?_)
            · replace h := ot c18 h
              replace h := (Option.some.inj h).symm
              exact haj24 _ _ _ _ _ _ h hw (lv_sub hl [0, 2, 3, 4, 5, 6, 7] rfl)
            · replace h := oe c18 h
              refine t_aload_n hx hb dL_law_88 rfl (lv_at hl 3 rfl) ?_
              refine lv_aload_n hx hb dL_law_89 rfl (lv_at hl 4 rfl) ?_
              refine lv_aload hx hb dL_law_90 (lv_at hl 6 rfl) ?_
              obtain ⟨v20, w21, e19, h⟩ := oc2 h
              refine g_callSi (n := 3) (As := [rv o, .ref (gmd g 1), .ref (gmd g 3)]) (rest := []) hX hw (c_L_isSo g l hG hC hst hn hS o w16 m17 v20  w21 e19) gL_law_L_isSo rfl (by decide +kernel) rfl hl.1 rfl (Nat.le_of_ble_eq_true rfl) ⟨by decide, by decide⟩ dL_law_92 (fun H lc cn sn hw => ?_)
              refine lv_if_eq (tgt := 102) hx hb dL_law_95 (by decide) (fun c22 => ?_) (fun c22 => ?_)
              · replace h := ot c22 h
                replace h := (Option.some.inj h).symm
                exact haj24 _ _ _ _ _ _ h hw (lv_sub hl [0, 2, 3, 4, 5, 6, 7] rfl)
              · replace h := oe c22 h
                replace h := (Option.some.inj h).symm
                replace h := raj24 _ h
                exact haj27 _ _ _ _ _ _ _ h hw (lv_sub hl [0, 2, 3, 4, 5, 6, 7] rfl)
  exact hkj82 FU 0 v4 w5 m2 _ _ _ _ _ h1aj82 hw (lv_sub hl [0, 1, 2, 3, 4, 5, 6, 7] rfl)
