/-! ===== the law's methods that call the class (printed by gp.py) ===== -/
def x_L_told (p0 : Nat) (p1 : Int32) (p2 : Int32) (p3 : Int32) (p4 : Int32) (p5 : Int32) (w : CS) : Option ((Nat × CS) ⊕ (Int32 × CS)) :=
  l1 (
    if (p1 : Int32) = 0 then
      if wJ w 0 p0 = 6 then
      bx1 (fun e9 => .inr (.inl e9)) (x_X6_makeStore p0 p2 p3 w) (fun (w12 : CS) =>
      some (.inl w12))
      else none
    else
      bd (
        if (p5 : Int32) = 1 then
          some (1 : Int32)
        else
          some (0 : Int32)) (fun (v3 : Int32) =>
      if wJ w 0 p0 = 6 then
      bx1 (fun e9 => .inr (.inl e9)) (x_X6_makeIndex p0 p2 p3 p4 v3 w) (fun (w6 : CS) =>
      some (.inl w6))
      else none)) (fun (w15 : CS) =>
  some (.inr (((0 : Int32), w15))))
set_option maxHeartbeats 4000000 in
set_option maxRecDepth 100000 in
theorem c_L_told (g : GG) (l : Launch) (hG : XG g) (hst : l.stackTraces = false) (mm : MS) (p0 : Nat) (p1 : Int32) (p2 : Int32) (p3 : Int32) (p4 : Int32) (p5 : Int32) (w : CS) (r : (Nat × CS) ⊕ (Int32 × CS)) (h : x_L_told p0 p1 p2 p3 p4 p5 w = some r) : MetX g l yL_told wsL_told 8 136 [rv p0, .int p1, .int p2, .int p3, .int p4, .int p5] (w, mm) (oIw r) (wIw w r, mm) := by
  refine x_start_i (oIw r) (own := RL) (by decide +kernel) rfl rfl (by simp [lg_sl, rv_cat, ct_i, ct_l]) ?_
  intro p e s mi args below meth cd ls Q hX htab hnm hw hl hret hthr hth2
  have hl : lv_has ls 6 [(0, rv p0), (1, .int p1), (2, .int p2), (3, .int p3), (4, .int p4), (5, .int p5)] := by simpa [lv_args, rv_cat, ct_i, ct_l] using hl
  obtain ⟨⟨hx, hb, -, hown, hts⟩, -⟩ := id hX
  unfold x_L_told at h
  refine lv_iload_n hx hb dL_told_0 rfl (lv_at hl 1 rfl) ?_
  obtain ⟨aj16, h1aj16, kaj16, raj16⟩ := ol1 h
  have haj16 : ∀ (w15 : CS) (H : Heap) (lc : List Loc) (cn sn : Nat) (ls : Array Slot), aj16 = Sum.inl w15 → wH g s.heap.size (w15, mm) H lc → lv_has ls 6 [] → W p l e (rmO g 8 136 s.heap) s mi args below meth cd H lc cn sn Q (F0 mi 32 ls []) := by
    intro w15 H lc cn sn ls h hw hl
    replace h := kaj16 _ h
    refine lv_iconst (v := 0) hx hb dL_told_32 (by decide) ?_
    replace h := (Option.some.inj h).symm
    subst h
    exact hret _ _ _ _ _ _ _ dL_told_33 hw rfl
  replace h := h1aj16
  refine lv_if_ne (tgt := 13) hx hb dL_told_1 (by decide) (fun c1 => ?_) (fun c1 => ?_)
  · replace h := oe c1 h
    refine t_aload_n hx hb dL_told_13 rfl (lv_at hl 0 rfl) ?_
    refine lv_iload_n hx hb dL_told_14 rfl (lv_at hl 2 rfl) ?_
    refine lv_iload_n hx hb dL_told_15 rfl (lv_at hl 3 rfl) ?_
    refine lv_iload hx hb dL_told_16 (lv_at hl 4 rfl) ?_
    refine lv_iload hx hb dL_told_18 (lv_at hl 5 rfl) ?_
    refine lv_iconst (v := 1) hx hb dL_told_20 (by decide) ?_
    obtain ⟨aj9, h1aj9, kaj9⟩ := ob1 h
    have haj9 : ∀ (v3 : Int32) (H : Heap) (lc : List Loc) (cn sn : Nat) (ls : Array Slot), aj9 = v3 → wH g s.heap.size (w, mm) H lc → lv_has ls 6 [] → W p l e (rmO g 8 136 s.heap) s mi args below meth cd H lc cn sn Q (F0 mi 29 ls [.int v3, .int p4, .int p3, .int p2, rv p0]) := by
      intro v3 H lc cn sn ls h hw hl
      replace h := kaj9 _ h
      obtain ⟨c4, h⟩ := og h
      rcases obx1 h with ⟨k7, w8, e5, h⟩ | ⟨w6, e5, h⟩
      · replace h := raj16 _ h
        subst h
        exact x_callVE (n := 4) (As := [.int p2, .int p3, .int p4, .int v3]) (rest := []) hX hw (c_X6_makeIndex g l hG hst mm p0 p2 p3 p4 v3 w _ e5) gL_told_X6_makeIndex rfl (by decide +kernel) rfl (x_nz hw c4) (c_recv hX hw (ce_6 c4) rfl) hl.1 rfl (Nat.le_of_ble_eq_true rfl) ⟨by decide, by decide⟩ dL_told_29 (fun H lc cn sn q ce hw h1 h2 h3 => hthr _ _ _ _ _ _ _ _ _ _ hw h1 h2 h3 rfl)
      · refine x_callVNv (n := 4) (As := [.int p2, .int p3, .int p4, .int v3]) (rest := []) hX hw (c_X6_makeIndex g l hG hst mm p0 p2 p3 p4 v3 w _ e5) gL_told_X6_makeIndex rfl (by decide +kernel) rfl (x_nz hw c4) (c_recv hX hw (ce_6 c4) rfl) hl.1 rfl (Nat.le_of_ble_eq_true rfl) ⟨by decide, by decide⟩ dL_told_29 (fun H lc cn sn hw => ?_)
        have hw : wH g s.heap.size (w6, mm) H lc := hw
        replace h := (Option.some.inj h).symm
        exact haj16 _ _ _ _ _ _ h hw (lv_sub hl [] rfl)
    replace h := h1aj9
    refine lv_icmp_ne (tgt := 28) hx hb dL_told_21 (by decide) (fun c2 => ?_) (fun c2 => ?_)
    · replace h := oe c2 h
      refine lv_iconst (v := 0) hx hb dL_told_28 (by decide) ?_
      replace h := (Option.some.inj h).symm
      exact haj9 _ _ _ _ _ _ h hw (lv_sub hl [] rfl)
    · replace h := ot c2 h
      refine lv_iconst (v := 1) hx hb dL_told_24 (by decide) ?_
      refine lv_goto (tgt := 29) hx hb dL_told_25 (by decide) ?_
      replace h := (Option.some.inj h).symm
      exact haj9 _ _ _ _ _ _ h hw (lv_sub hl [] rfl)
  · replace h := ot c1 h
    refine t_aload_n hx hb dL_told_4 rfl (lv_at hl 0 rfl) ?_
    refine lv_iload_n hx hb dL_told_5 rfl (lv_at hl 2 rfl) ?_
    refine lv_iload_n hx hb dL_told_6 rfl (lv_at hl 3 rfl) ?_
    obtain ⟨c10, h⟩ := og h
    rcases obx1 h with ⟨k13, w14, e11, h⟩ | ⟨w12, e11, h⟩
    · replace h := raj16 _ h
      subst h
      exact x_callVE (n := 2) (As := [.int p2, .int p3]) (rest := []) hX hw (c_X6_makeStore g l hG hst mm p0 p2 p3 w _ e11) gL_told_X6_makeStore rfl (by decide +kernel) rfl (x_nz hw c10) (c_recv hX hw (ce_6 c10) rfl) hl.1 rfl (Nat.le_of_ble_eq_true rfl) ⟨by decide, by decide⟩ dL_told_7 (fun H lc cn sn q ce hw h1 h2 h3 => hthr _ _ _ _ _ _ _ _ _ _ hw h1 h2 h3 rfl)
    · refine x_callVNv (n := 2) (As := [.int p2, .int p3]) (rest := []) hX hw (c_X6_makeStore g l hG hst mm p0 p2 p3 w _ e11) gL_told_X6_makeStore rfl (by decide +kernel) rfl (x_nz hw c10) (c_recv hX hw (ce_6 c10) rfl) hl.1 rfl (Nat.le_of_ble_eq_true rfl) ⟨by decide, by decide⟩ dL_told_7 (fun H lc cn sn hw => ?_)
      have hw : wH g s.heap.size (w12, mm) H lc := hw
      refine lv_goto (tgt := 32) hx hb dL_told_10 (by decide) ?_
      replace h := (Option.some.inj h).symm
      exact haj16 _ _ _ _ _ _ h hw (lv_sub hl [] rfl)

def x_L_does (p0 : Nat) (p1 : Int32) (p2 : Int32) (p3 : Int32) (p4 : Int32) (p5 : Int32) (w : CS) : Option (Int32 × CS) :=
  l2 (
    if (2 : Int32) ≤ p1 then
      if (p1 : Int32) = 2 then
        if wJ w 0 p0 = 6 then
        bh2 (x_X6_open p0 p2 p3 w) (fun k9 w9 => if k9 = 1 then some (.inr (((-30) : Int32), w9)) else if k9 = 2 then some (.inr (((-20) : Int32), w9)) else if k9 = 3 then some (.inr (((-10) : Int32), w9)) else none) (fun (v66 : Int32) (w67 : CS) =>
        some (.inl (v66, w67)))
        else none
      else
        if (p1 : Int32) = 3 then
          if wJ w 0 p0 = 6 then
          bh2 (x_X6_close p0 p2 w) (fun k9 w9 => if k9 = 1 then some (.inr (((-30) : Int32), w9)) else if k9 = 2 then some (.inr (((-20) : Int32), w9)) else if k9 = 3 then some (.inr (((-10) : Int32), w9)) else none) (fun (v62 : Int32) (w63 : CS) =>
          some (.inl (v62, w63)))
          else none
        else
          if (p1 : Int32) = 4 then
            if wJ w 0 p0 = 6 then
            bh2 (x_X6_deleteStore p0 p2 p3 w) (fun k9 w9 => if k9 = 1 then some (.inr (((-30) : Int32), w9)) else if k9 = 2 then some (.inr (((-20) : Int32), w9)) else if k9 = 3 then some (.inr (((-10) : Int32), w9)) else none) (fun (v58 : Int32) (w59 : CS) =>
            some (.inl (v58, w59)))
            else none
          else
            if (p1 : Int32) = 5 then
              bd (
                if (p4 : Int32) = 1 then
                  some (1 : Int32)
                else
                  some (0 : Int32)) (fun (v50 : Int32) =>
              if wJ w 0 p0 = 6 then
              bh2 (x_X6_begin p0 p2 p3 v50 w) (fun k9 w9 => if k9 = 1 then some (.inr (((-30) : Int32), w9)) else if k9 = 2 then some (.inr (((-20) : Int32), w9)) else if k9 = 3 then some (.inr (((-10) : Int32), w9)) else none) (fun (v53 : Int32) (w54 : CS) =>
              some (.inl (v53, w54)))
              else none)
            else
              if (p1 : Int32) = 6 then
                if wJ w 0 p0 = 6 then
                bh2 (x_X6_commit p0 p2 w) (fun k9 w9 => if k9 = 1 then some (.inr (((-30) : Int32), w9)) else if k9 = 2 then some (.inr (((-20) : Int32), w9)) else if k9 = 3 then some (.inr (((-10) : Int32), w9)) else none) (fun (v47 : Int32) (w48 : CS) =>
                some (.inl (v47, w48)))
                else none
              else
                if (p1 : Int32) = 7 then
                  if wJ w 0 p0 = 6 then
                  bh2 (x_X6_abort p0 p2 w) (fun k9 w9 => if k9 = 1 then some (.inr (((-30) : Int32), w9)) else if k9 = 2 then some (.inr (((-20) : Int32), w9)) else if k9 = 3 then some (.inr (((-10) : Int32), w9)) else none) (fun (v43 : Int32) (w44 : CS) =>
                  some (.inl (v43, w44)))
                  else none
                else
                  if (p1 : Int32) = 8 then
                    if wJ w 0 p0 = 6 then
                    bh2 (x_X6_put p0 p2 p3 p4 p5 (p5 - p5 / 1000 * 1000) (-1) w) (fun k9 w9 => if k9 = 1 then some (.inr (((-30) : Int32), w9)) else if k9 = 2 then some (.inr (((-20) : Int32), w9)) else if k9 = 3 then some (.inr (((-10) : Int32), w9)) else none) (fun (v38 : Int32) (w39 : CS) =>
                    if (v38 : Int32) = 0 then
                      some (.inl ((0 : Int32), w39))
                    else
                      some (.inl ((1 : Int32), w39)))
                    else none
                  else
                    if (p1 : Int32) = 9 then
                      if wJ w 0 p0 = 6 then
                      bh2 (x_X6_remove p0 p2 p3 p4 p5 w) (fun k9 w9 => if k9 = 1 then some (.inr (((-30) : Int32), w9)) else if k9 = 2 then some (.inr (((-20) : Int32), w9)) else if k9 = 3 then some (.inr (((-10) : Int32), w9)) else none) (fun (v34 : Int32) (w35 : CS) =>
                      some (.inl (v34, w35)))
                      else none
                    else
                      if (p1 : Int32) = 10 then
                        if wJ w 0 p0 = 6 then
                        bh3 (x_X6_get p0 p2 p3 p4 w) (fun k9 w9 => if k9 = 1 then some (.inr (((-30) : Int32), w9)) else if k9 = 2 then some (.inr (((-20) : Int32), w9)) else if k9 = 3 then some (.inr (((-10) : Int32), w9)) else none) (fun (v31 : Int32) =>
                        some (.inl (v31, w)))
                        else none
                      else
                        if (p1 : Int32) = 11 then
                          if wJ w 0 p0 = 6 then
                          bh3 (x_X6_count p0 p2 p3 p4 p5 w) (fun k9 w9 => if k9 = 1 then some (.inr (((-30) : Int32), w9)) else if k9 = 2 then some (.inr (((-20) : Int32), w9)) else if k9 = 3 then some (.inr (((-10) : Int32), w9)) else none) (fun (v28 : Int32) =>
                          some (.inl (v28, w)))
                          else none
                        else
                          if (p1 : Int32) = 12 then
                            if wJ w 0 p0 = 6 then
                            bh2 (x_X6_cursor p0 p2 p3 p4 p5 w) (fun k9 w9 => if k9 = 1 then some (.inr (((-30) : Int32), w9)) else if k9 = 2 then some (.inr (((-20) : Int32), w9)) else if k9 = 3 then some (.inr (((-10) : Int32), w9)) else none) (fun (v24 : Int32) (w25 : CS) =>
                            some (.inl (v24, w25)))
                            else none
                          else
                            if (p1 : Int32) = 13 then
                              if wJ w 0 p0 = 6 then
                              bh2 (x_X6_step p0 p2 w) (fun k9 w9 => if k9 = 1 then some (.inr (((-30) : Int32), w9)) else if k9 = 2 then some (.inr (((-20) : Int32), w9)) else if k9 = 3 then some (.inr (((-10) : Int32), w9)) else none) (fun (v20 : Int32) (w21 : CS) =>
                              some (.inl (v20, w21)))
                              else none
                            else
                              if wJ w 0 p0 = 6 then
                              bh2 (x_X6_update p0 p2 p3 w) (fun k9 w9 => if k9 = 1 then some (.inr (((-30) : Int32), w9)) else if k9 = 2 then some (.inr (((-20) : Int32), w9)) else if k9 = 3 then some (.inr (((-10) : Int32), w9)) else none) (fun (v16 : Int32) (w17 : CS) =>
                              some (.inl (v16, w17)))
                              else none
    else
      bh2 (x_L_told p0 p1 p2 p3 p4 p5 w) (fun k9 w9 => if k9 = 1 then some (.inr (((-30) : Int32), w9)) else if k9 = 2 then some (.inr (((-20) : Int32), w9)) else if k9 = 3 then some (.inr (((-10) : Int32), w9)) else none) (fun (v69 : Int32) (w70 : CS) =>
      some (.inl (v69, w70)))) (fun (v71 : Int32) (w72 : CS) =>
  some ((v71, w72)))
set_option maxHeartbeats 4000000 in
set_option maxRecDepth 100000 in
theorem c_L_does (g : GG) (l : Launch) (hG : XG g) (hC : NC g) (hst : l.stackTraces = false) (mm : MS) (p0 : Nat) (p1 : Int32) (p2 : Int32) (p3 : Int32) (p4 : Int32) (p5 : Int32) (w : CS) (r : Int32) (w' : CS) (h : x_L_does p0 p1 p2 p3 p4 p5 w = some (r, w')) : MetG g l yL_does wsL_does 14 327 [rv p0, .int p1, .int p2, .int p3, .int p4, .int p5] (w, mm) (some (.int r)) (w', mm) := by
  refine g_startW_i (hh := [(0, 241, 242, 69), (0, 241, 247, 71), (0, 241, 252, 73)]) (some (.int r)) (own := RL) (by decide +kernel) rfl rfl (by simp [lg_sl, rv_cat, ct_i, ct_l]) ?_
  intro p e s mi args below meth cd ls Q hX htab hw hl hret
  have hl : lv_has ls 7 [(0, rv p0), (1, .int p1), (2, .int p2), (3, .int p3), (4, .int p4), (5, .int p5)] := by simpa [lv_args, rv_cat, ct_i, ct_l] using hl
  obtain ⟨⟨hx, hb, -, hown, hts⟩, -⟩ := id hX
  unfold x_L_does at h
  refine lv_iload_n hx hb dL_does_0 rfl (lv_at hl 1 rfl) ?_
  refine lv_iconst (v := 2) hx hb dL_does_1 (by decide) ?_
  obtain ⟨aj73, h1aj73, kaj73, raj73⟩ := ol2 h
  have haj73 : ∀ (v71 : Int32) (w72 : CS) (H : Heap) (lc : List Loc) (cn sn : Nat) (ls : Array Slot), aj73 = Sum.inl (v71, w72) → wH g s.heap.size (w72, mm) H lc → lv_has ls 7 [] → W p l e (rmO g 14 327 s.heap) s mi args below meth cd H lc cn sn Q (F0 mi 241 ls [.int v71]) := by
    intro v71 w72 H lc cn sn ls h hw hl
    replace h := kaj73 _ _ h
    replace h := (Option.some.inj h).symm
    obtain ⟨rfl, rfl⟩ := Prod.mk.inj h
    exact hret _ _ _ _ _ _ _ dL_does_241 hw rfl
  replace h := h1aj73
  refine lv_icmp_ge (tgt := 19) hx hb dL_does_2 (by decide) (fun c1 => ?_) (fun c1 => ?_)
  · replace h := ot c1 h
    refine lv_iload_n hx hb dL_does_19 rfl (lv_at hl 1 rfl) ?_
    refine lv_iconst (v := 2) hx hb dL_does_20 (by decide) ?_
    refine lv_icmp_ne (tgt := 33) hx hb dL_does_21 (by decide) (fun c2 => ?_) (fun c2 => ?_)
    · replace h := oe c2 h
      refine lv_iload_n hx hb dL_does_33 rfl (lv_at hl 1 rfl) ?_
      refine lv_iconst (v := 3) hx hb dL_does_34 (by decide) ?_
      refine lv_icmp_ne (tgt := 46) hx hb dL_does_35 (by decide) (fun c3 => ?_) (fun c3 => ?_)
      · replace h := oe c3 h
        refine lv_iload_n hx hb dL_does_46 rfl (lv_at hl 1 rfl) ?_
        refine lv_iconst (v := 4) hx hb dL_does_47 (by decide) ?_
        refine lv_icmp_ne (tgt := 60) hx hb dL_does_48 (by decide) (fun c4 => ?_) (fun c4 => ?_)
        · replace h := oe c4 h
          refine lv_iload_n hx hb dL_does_60 rfl (lv_at hl 1 rfl) ?_
          refine lv_iconst (v := 5) hx hb dL_does_61 (by decide) ?_
          refine lv_icmp_ne (tgt := 85) hx hb dL_does_62 (by decide) (fun c5 => ?_) (fun c5 => ?_)
          · replace h := oe c5 h
            refine lv_iload_n hx hb dL_does_85 rfl (lv_at hl 1 rfl) ?_
            refine lv_bipush (v := 6) hx hb dL_does_86 (by decide) ?_
            refine lv_icmp_ne (tgt := 99) hx hb dL_does_88 (by decide) (fun c6 => ?_) (fun c6 => ?_)
            · replace h := oe c6 h
              refine lv_iload_n hx hb dL_does_99 rfl (lv_at hl 1 rfl) ?_
              refine lv_bipush (v := 7) hx hb dL_does_100 (by decide) ?_
              refine lv_icmp_ne (tgt := 113) hx hb dL_does_102 (by decide) (fun c7 => ?_) (fun c7 => ?_)
              · replace h := oe c7 h
                refine lv_iload_n hx hb dL_does_113 rfl (lv_at hl 1 rfl) ?_
                refine lv_bipush (v := 8) hx hb dL_does_114 (by decide) ?_
                refine lv_icmp_ne (tgt := 147) hx hb dL_does_116 (by decide) (fun c8 => ?_) (fun c8 => ?_)
                · replace h := oe c8 h
                  refine lv_iload_n hx hb dL_does_147 rfl (lv_at hl 1 rfl) ?_
                  refine lv_bipush (v := 9) hx hb dL_does_148 (by decide) ?_
                  refine lv_icmp_ne (tgt := 166) hx hb dL_does_150 (by decide) (fun c9 => ?_) (fun c9 => ?_)
                  · replace h := oe c9 h
                    refine lv_iload_n hx hb dL_does_166 rfl (lv_at hl 1 rfl) ?_
                    refine lv_bipush (v := 10) hx hb dL_does_167 (by decide) ?_
                    refine lv_icmp_ne (tgt := 183) hx hb dL_does_169 (by decide) (fun c10 => ?_) (fun c10 => ?_)
                    · replace h := oe c10 h
                      refine lv_iload_n hx hb dL_does_183 rfl (lv_at hl 1 rfl) ?_
                      refine lv_bipush (v := 11) hx hb dL_does_184 (by decide) ?_
                      refine lv_icmp_ne (tgt := 202) hx hb dL_does_186 (by decide) (fun c11 => ?_) (fun c11 => ?_)
                      · replace h := oe c11 h
                        refine lv_iload_n hx hb dL_does_202 rfl (lv_at hl 1 rfl) ?_
                        refine lv_bipush (v := 12) hx hb dL_does_203 (by decide) ?_
                        refine lv_icmp_ne (tgt := 221) hx hb dL_does_205 (by decide) (fun c12 => ?_) (fun c12 => ?_)
                        · replace h := oe c12 h
                          refine lv_iload_n hx hb dL_does_221 rfl (lv_at hl 1 rfl) ?_
                          refine lv_bipush (v := 13) hx hb dL_does_222 (by decide) ?_
                          refine lv_icmp_ne (tgt := 235) hx hb dL_does_224 (by decide) (fun c13 => ?_) (fun c13 => ?_)
                          · replace h := oe c13 h
                            refine t_aload_n hx hb dL_does_235 rfl (lv_at hl 0 rfl) ?_
                            refine lv_iload_n hx hb dL_does_236 rfl (lv_at hl 2 rfl) ?_
                            refine lv_iload_n hx hb dL_does_237 rfl (lv_at hl 3 rfl) ?_
                            obtain ⟨c14, h⟩ := og h
                            rcases obh2 h with ⟨k9, w9, e15, h⟩ | ⟨v16, w17, e15, h⟩
                            · by_cases k9_1 : k9 = 1
                              · replace h := ot k9_1 h
                                replace h := (Option.some.inj h).symm
                                replace h := raj73 _ h
                                obtain ⟨rfl, rfl⟩ := Prod.mk.inj h
                                subst k9_1
                                refine x_callVE (n := 2) (As := [.int p2, .int p3]) (rest := []) hX hw (c_X6_update g l hG hst mm p0 p2 p3 w _ e15) gL_does_X6_update rfl (by decide +kernel) rfl (x_nz hw c14) (c_recv hX hw (ce_6 c14) rfl) hl.1 rfl (Nat.le_of_ble_eq_true rfl) ⟨by decide, by decide⟩ dL_does_238 (fun H lc cn sn q ce hw h1 h2 h3 => ?_)
                                have hw : wH g s.heap.size (w', mm) H lc := hw
                                refine tw_catch (E := exn 1) (name := "java/lang/IndexOutOfBoundsException") hX htab [] [(0, 241, 247, 71), (0, 241, 252, 73)] (0, 241, 242, 69) rfl ⟨by decide, by decide⟩ (by decide) ((hC s hX.2.1.2.1).2.2.2.1) ((hG s hX.2.1.2.1).2.2.2.2.2.1.1) (fun _ h => absurd h List.not_mem_nil) h1 h2 h3 ?_
                                refine lv_astore (lv' := [(6, .ref q), (0, rv p0), (1, .int p1), (2, .int p2), (3, .int p3), (4, .int p4), (5, .int p5)]) hx hb dL_does_242 hl (by decide) (by simp [rv_cat, ct_i, ct_l] <;> decide) (fun ls hl => ?_)
                                refine lv_bipush (v := (-30)) hx hb dL_does_244 (by decide) ?_
                                exact hret _ _ _ _ _ _ _ dL_does_246 hw rfl
                              replace h := oe k9_1 h
                              by_cases k9_2 : k9 = 2
                              · replace h := ot k9_2 h
                                replace h := (Option.some.inj h).symm
                                replace h := raj73 _ h
                                obtain ⟨rfl, rfl⟩ := Prod.mk.inj h
                                subst k9_2
                                refine x_callVE (n := 2) (As := [.int p2, .int p3]) (rest := []) hX hw (c_X6_update g l hG hst mm p0 p2 p3 w _ e15) gL_does_X6_update rfl (by decide +kernel) rfl (x_nz hw c14) (c_recv hX hw (ce_6 c14) rfl) hl.1 rfl (Nat.le_of_ble_eq_true rfl) ⟨by decide, by decide⟩ dL_does_238 (fun H lc cn sn q ce hw h1 h2 h3 => ?_)
                                have hw : wH g s.heap.size (w', mm) H lc := hw
                                refine tw_catch (E := exn 2) (name := "java/lang/IllegalArgumentException") hX htab [(0, 241, 242, 69)] [(0, 241, 252, 73)] (0, 241, 247, 71) rfl ⟨by decide, by decide⟩ (by decide) ((hC s hX.2.1.2.1).2.2.2.2.1) ((hG s hX.2.1.2.1).2.2.2.2.2.1.2.1) (List.forall_mem_cons.mpr ⟨⟨by decide, "java/lang/IndexOutOfBoundsException", (hC s hX.2.1.2.1).2.2.2.1, (hC s hX.2.1.2.1).2.2.1⟩, (fun _ h => absurd h List.not_mem_nil)⟩) h1 h2 h3 ?_
                                refine lv_astore (lv' := [(6, .ref q), (0, rv p0), (1, .int p1), (2, .int p2), (3, .int p3), (4, .int p4), (5, .int p5)]) hx hb dL_does_247 hl (by decide) (by simp [rv_cat, ct_i, ct_l] <;> decide) (fun ls hl => ?_)
                                refine lv_bipush (v := (-20)) hx hb dL_does_249 (by decide) ?_
                                exact hret _ _ _ _ _ _ _ dL_does_251 hw rfl
                              replace h := oe k9_2 h
                              by_cases k9_3 : k9 = 3
                              · replace h := ot k9_3 h
                                replace h := (Option.some.inj h).symm
                                replace h := raj73 _ h
                                obtain ⟨rfl, rfl⟩ := Prod.mk.inj h
                                subst k9_3
                                refine x_callVE (n := 2) (As := [.int p2, .int p3]) (rest := []) hX hw (c_X6_update g l hG hst mm p0 p2 p3 w _ e15) gL_does_X6_update rfl (by decide +kernel) rfl (x_nz hw c14) (c_recv hX hw (ce_6 c14) rfl) hl.1 rfl (Nat.le_of_ble_eq_true rfl) ⟨by decide, by decide⟩ dL_does_238 (fun H lc cn sn q ce hw h1 h2 h3 => ?_)
                                have hw : wH g s.heap.size (w', mm) H lc := hw
                                refine tw_catch (E := exn 3) (name := "java/lang/IllegalStateException") hX htab [(0, 241, 242, 69), (0, 241, 247, 71)] [] (0, 241, 252, 73) rfl ⟨by decide, by decide⟩ (by decide) ((hC s hX.2.1.2.1).2.2.2.2.2) ((hG s hX.2.1.2.1).2.2.2.2.2.1.2.2) (List.forall_mem_cons.mpr ⟨⟨by decide, "java/lang/IndexOutOfBoundsException", (hC s hX.2.1.2.1).2.2.2.1, (hC s hX.2.1.2.1).1⟩, (List.forall_mem_cons.mpr ⟨⟨by decide, "java/lang/IllegalArgumentException", (hC s hX.2.1.2.1).2.2.2.2.1, (hC s hX.2.1.2.1).2.1⟩, (fun _ h => absurd h List.not_mem_nil)⟩)⟩) h1 h2 h3 ?_
                                refine lv_astore (lv' := [(6, .ref q), (0, rv p0), (1, .int p1), (2, .int p2), (3, .int p3), (4, .int p4), (5, .int p5)]) hx hb dL_does_252 hl (by decide) (by simp [rv_cat, ct_i, ct_l] <;> decide) (fun ls hl => ?_)
                                refine lv_bipush (v := (-10)) hx hb dL_does_254 (by decide) ?_
                                exact hret _ _ _ _ _ _ _ dL_does_256 hw rfl
                              replace h := oe k9_3 h
                              cases h
                            · refine x_callVNi (n := 2) (As := [.int p2, .int p3]) (rest := []) hX hw (c_X6_update g l hG hst mm p0 p2 p3 w _ e15) gL_does_X6_update rfl (by decide +kernel) rfl (x_nz hw c14) (c_recv hX hw (ce_6 c14) rfl) hl.1 rfl (Nat.le_of_ble_eq_true rfl) ⟨by decide, by decide⟩ dL_does_238 (fun H lc cn sn hw => ?_)
                              have hw : wH g s.heap.size (w17, mm) H lc := hw
                              replace h := (Option.some.inj h).symm
                              exact haj73 _ _ _ _ _ _ _ h hw (lv_sub hl [] rfl)
                          · replace h := ot c13 h
                            refine t_aload_n hx hb dL_does_227 rfl (lv_at hl 0 rfl) ?_
                            refine lv_iload_n hx hb dL_does_228 rfl (lv_at hl 2 rfl) ?_
                            obtain ⟨c18, h⟩ := og h
                            rcases obh2 h with ⟨k9, w9, e19, h⟩ | ⟨v20, w21, e19, h⟩
                            · by_cases k9_1 : k9 = 1
                              · replace h := ot k9_1 h
                                replace h := (Option.some.inj h).symm
                                replace h := raj73 _ h
                                obtain ⟨rfl, rfl⟩ := Prod.mk.inj h
                                subst k9_1
                                refine x_callVE (n := 1) (As := [.int p2]) (rest := []) hX hw (c_X6_step g l hG hst mm p0 p2 w _ e19) gL_does_X6_step rfl (by decide +kernel) rfl (x_nz hw c18) (c_recv hX hw (ce_6 c18) rfl) hl.1 rfl (Nat.le_of_ble_eq_true rfl) ⟨by decide, by decide⟩ dL_does_229 (fun H lc cn sn q ce hw h1 h2 h3 => ?_)
                                have hw : wH g s.heap.size (w', mm) H lc := hw
                                refine tw_catch (E := exn 1) (name := "java/lang/IndexOutOfBoundsException") hX htab [] [(0, 241, 247, 71), (0, 241, 252, 73)] (0, 241, 242, 69) rfl ⟨by decide, by decide⟩ (by decide) ((hC s hX.2.1.2.1).2.2.2.1) ((hG s hX.2.1.2.1).2.2.2.2.2.1.1) (fun _ h => absurd h List.not_mem_nil) h1 h2 h3 ?_
                                refine lv_astore (lv' := [(6, .ref q), (0, rv p0), (1, .int p1), (2, .int p2), (3, .int p3), (4, .int p4), (5, .int p5)]) hx hb dL_does_242 hl (by decide) (by simp [rv_cat, ct_i, ct_l] <;> decide) (fun ls hl => ?_)
                                refine lv_bipush (v := (-30)) hx hb dL_does_244 (by decide) ?_
                                exact hret _ _ _ _ _ _ _ dL_does_246 hw rfl
                              replace h := oe k9_1 h
                              by_cases k9_2 : k9 = 2
                              · replace h := ot k9_2 h
                                replace h := (Option.some.inj h).symm
                                replace h := raj73 _ h
                                obtain ⟨rfl, rfl⟩ := Prod.mk.inj h
                                subst k9_2
                                refine x_callVE (n := 1) (As := [.int p2]) (rest := []) hX hw (c_X6_step g l hG hst mm p0 p2 w _ e19) gL_does_X6_step rfl (by decide +kernel) rfl (x_nz hw c18) (c_recv hX hw (ce_6 c18) rfl) hl.1 rfl (Nat.le_of_ble_eq_true rfl) ⟨by decide, by decide⟩ dL_does_229 (fun H lc cn sn q ce hw h1 h2 h3 => ?_)
                                have hw : wH g s.heap.size (w', mm) H lc := hw
                                refine tw_catch (E := exn 2) (name := "java/lang/IllegalArgumentException") hX htab [(0, 241, 242, 69)] [(0, 241, 252, 73)] (0, 241, 247, 71) rfl ⟨by decide, by decide⟩ (by decide) ((hC s hX.2.1.2.1).2.2.2.2.1) ((hG s hX.2.1.2.1).2.2.2.2.2.1.2.1) (List.forall_mem_cons.mpr ⟨⟨by decide, "java/lang/IndexOutOfBoundsException", (hC s hX.2.1.2.1).2.2.2.1, (hC s hX.2.1.2.1).2.2.1⟩, (fun _ h => absurd h List.not_mem_nil)⟩) h1 h2 h3 ?_
                                refine lv_astore (lv' := [(6, .ref q), (0, rv p0), (1, .int p1), (2, .int p2), (3, .int p3), (4, .int p4), (5, .int p5)]) hx hb dL_does_247 hl (by decide) (by simp [rv_cat, ct_i, ct_l] <;> decide) (fun ls hl => ?_)
                                refine lv_bipush (v := (-20)) hx hb dL_does_249 (by decide) ?_
                                exact hret _ _ _ _ _ _ _ dL_does_251 hw rfl
                              replace h := oe k9_2 h
                              by_cases k9_3 : k9 = 3
                              · replace h := ot k9_3 h
                                replace h := (Option.some.inj h).symm
                                replace h := raj73 _ h
                                obtain ⟨rfl, rfl⟩ := Prod.mk.inj h
                                subst k9_3
                                refine x_callVE (n := 1) (As := [.int p2]) (rest := []) hX hw (c_X6_step g l hG hst mm p0 p2 w _ e19) gL_does_X6_step rfl (by decide +kernel) rfl (x_nz hw c18) (c_recv hX hw (ce_6 c18) rfl) hl.1 rfl (Nat.le_of_ble_eq_true rfl) ⟨by decide, by decide⟩ dL_does_229 (fun H lc cn sn q ce hw h1 h2 h3 => ?_)
                                have hw : wH g s.heap.size (w', mm) H lc := hw
                                refine tw_catch (E := exn 3) (name := "java/lang/IllegalStateException") hX htab [(0, 241, 242, 69), (0, 241, 247, 71)] [] (0, 241, 252, 73) rfl ⟨by decide, by decide⟩ (by decide) ((hC s hX.2.1.2.1).2.2.2.2.2) ((hG s hX.2.1.2.1).2.2.2.2.2.1.2.2) (List.forall_mem_cons.mpr ⟨⟨by decide, "java/lang/IndexOutOfBoundsException", (hC s hX.2.1.2.1).2.2.2.1, (hC s hX.2.1.2.1).1⟩, (List.forall_mem_cons.mpr ⟨⟨by decide, "java/lang/IllegalArgumentException", (hC s hX.2.1.2.1).2.2.2.2.1, (hC s hX.2.1.2.1).2.1⟩, (fun _ h => absurd h List.not_mem_nil)⟩)⟩) h1 h2 h3 ?_
                                refine lv_astore (lv' := [(6, .ref q), (0, rv p0), (1, .int p1), (2, .int p2), (3, .int p3), (4, .int p4), (5, .int p5)]) hx hb dL_does_252 hl (by decide) (by simp [rv_cat, ct_i, ct_l] <;> decide) (fun ls hl => ?_)
                                refine lv_bipush (v := (-10)) hx hb dL_does_254 (by decide) ?_
                                exact hret _ _ _ _ _ _ _ dL_does_256 hw rfl
                              replace h := oe k9_3 h
                              cases h
                            · refine x_callVNi (n := 1) (As := [.int p2]) (rest := []) hX hw (c_X6_step g l hG hst mm p0 p2 w _ e19) gL_does_X6_step rfl (by decide +kernel) rfl (x_nz hw c18) (c_recv hX hw (ce_6 c18) rfl) hl.1 rfl (Nat.le_of_ble_eq_true rfl) ⟨by decide, by decide⟩ dL_does_229 (fun H lc cn sn hw => ?_)
                              have hw : wH g s.heap.size (w21, mm) H lc := hw
                              refine lv_goto (tgt := 241) hx hb dL_does_232 (by decide) ?_
                              replace h := (Option.some.inj h).symm
                              exact haj73 _ _ _ _ _ _ _ h hw (lv_sub hl [] rfl)
                        · replace h := ot c12 h
                          refine t_aload_n hx hb dL_does_208 rfl (lv_at hl 0 rfl) ?_
                          refine lv_iload_n hx hb dL_does_209 rfl (lv_at hl 2 rfl) ?_
                          refine lv_iload_n hx hb dL_does_210 rfl (lv_at hl 3 rfl) ?_
                          refine lv_iload hx hb dL_does_211 (lv_at hl 4 rfl) ?_
                          refine lv_iload hx hb dL_does_213 (lv_at hl 5 rfl) ?_
                          obtain ⟨c22, h⟩ := og h
                          rcases obh2 h with ⟨k9, w9, e23, h⟩ | ⟨v24, w25, e23, h⟩
                          · by_cases k9_1 : k9 = 1
                            · replace h := ot k9_1 h
                              replace h := (Option.some.inj h).symm
                              replace h := raj73 _ h
                              obtain ⟨rfl, rfl⟩ := Prod.mk.inj h
                              subst k9_1
                              refine x_callVE (n := 4) (As := [.int p2, .int p3, .int p4, .int p5]) (rest := []) hX hw (c_X6_cursor g l hG hst mm p0 p2 p3 p4 p5 w _ e23) gL_does_X6_cursor rfl (by decide +kernel) rfl (x_nz hw c22) (c_recv hX hw (ce_6 c22) rfl) hl.1 rfl (Nat.le_of_ble_eq_true rfl) ⟨by decide, by decide⟩ dL_does_215 (fun H lc cn sn q ce hw h1 h2 h3 => ?_)
                              have hw : wH g s.heap.size (w', mm) H lc := hw
                              refine tw_catch (E := exn 1) (name := "java/lang/IndexOutOfBoundsException") hX htab [] [(0, 241, 247, 71), (0, 241, 252, 73)] (0, 241, 242, 69) rfl ⟨by decide, by decide⟩ (by decide) ((hC s hX.2.1.2.1).2.2.2.1) ((hG s hX.2.1.2.1).2.2.2.2.2.1.1) (fun _ h => absurd h List.not_mem_nil) h1 h2 h3 ?_
                              refine lv_astore (lv' := [(6, .ref q), (0, rv p0), (1, .int p1), (2, .int p2), (3, .int p3), (4, .int p4), (5, .int p5)]) hx hb dL_does_242 hl (by decide) (by simp [rv_cat, ct_i, ct_l] <;> decide) (fun ls hl => ?_)
                              refine lv_bipush (v := (-30)) hx hb dL_does_244 (by decide) ?_
                              exact hret _ _ _ _ _ _ _ dL_does_246 hw rfl
                            replace h := oe k9_1 h
                            by_cases k9_2 : k9 = 2
                            · replace h := ot k9_2 h
                              replace h := (Option.some.inj h).symm
                              replace h := raj73 _ h
                              obtain ⟨rfl, rfl⟩ := Prod.mk.inj h
                              subst k9_2
                              refine x_callVE (n := 4) (As := [.int p2, .int p3, .int p4, .int p5]) (rest := []) hX hw (c_X6_cursor g l hG hst mm p0 p2 p3 p4 p5 w _ e23) gL_does_X6_cursor rfl (by decide +kernel) rfl (x_nz hw c22) (c_recv hX hw (ce_6 c22) rfl) hl.1 rfl (Nat.le_of_ble_eq_true rfl) ⟨by decide, by decide⟩ dL_does_215 (fun H lc cn sn q ce hw h1 h2 h3 => ?_)
                              have hw : wH g s.heap.size (w', mm) H lc := hw
                              refine tw_catch (E := exn 2) (name := "java/lang/IllegalArgumentException") hX htab [(0, 241, 242, 69)] [(0, 241, 252, 73)] (0, 241, 247, 71) rfl ⟨by decide, by decide⟩ (by decide) ((hC s hX.2.1.2.1).2.2.2.2.1) ((hG s hX.2.1.2.1).2.2.2.2.2.1.2.1) (List.forall_mem_cons.mpr ⟨⟨by decide, "java/lang/IndexOutOfBoundsException", (hC s hX.2.1.2.1).2.2.2.1, (hC s hX.2.1.2.1).2.2.1⟩, (fun _ h => absurd h List.not_mem_nil)⟩) h1 h2 h3 ?_
                              refine lv_astore (lv' := [(6, .ref q), (0, rv p0), (1, .int p1), (2, .int p2), (3, .int p3), (4, .int p4), (5, .int p5)]) hx hb dL_does_247 hl (by decide) (by simp [rv_cat, ct_i, ct_l] <;> decide) (fun ls hl => ?_)
                              refine lv_bipush (v := (-20)) hx hb dL_does_249 (by decide) ?_
                              exact hret _ _ _ _ _ _ _ dL_does_251 hw rfl
                            replace h := oe k9_2 h
                            by_cases k9_3 : k9 = 3
                            · replace h := ot k9_3 h
                              replace h := (Option.some.inj h).symm
                              replace h := raj73 _ h
                              obtain ⟨rfl, rfl⟩ := Prod.mk.inj h
                              subst k9_3
                              refine x_callVE (n := 4) (As := [.int p2, .int p3, .int p4, .int p5]) (rest := []) hX hw (c_X6_cursor g l hG hst mm p0 p2 p3 p4 p5 w _ e23) gL_does_X6_cursor rfl (by decide +kernel) rfl (x_nz hw c22) (c_recv hX hw (ce_6 c22) rfl) hl.1 rfl (Nat.le_of_ble_eq_true rfl) ⟨by decide, by decide⟩ dL_does_215 (fun H lc cn sn q ce hw h1 h2 h3 => ?_)
                              have hw : wH g s.heap.size (w', mm) H lc := hw
                              refine tw_catch (E := exn 3) (name := "java/lang/IllegalStateException") hX htab [(0, 241, 242, 69), (0, 241, 247, 71)] [] (0, 241, 252, 73) rfl ⟨by decide, by decide⟩ (by decide) ((hC s hX.2.1.2.1).2.2.2.2.2) ((hG s hX.2.1.2.1).2.2.2.2.2.1.2.2) (List.forall_mem_cons.mpr ⟨⟨by decide, "java/lang/IndexOutOfBoundsException", (hC s hX.2.1.2.1).2.2.2.1, (hC s hX.2.1.2.1).1⟩, (List.forall_mem_cons.mpr ⟨⟨by decide, "java/lang/IllegalArgumentException", (hC s hX.2.1.2.1).2.2.2.2.1, (hC s hX.2.1.2.1).2.1⟩, (fun _ h => absurd h List.not_mem_nil)⟩)⟩) h1 h2 h3 ?_
                              refine lv_astore (lv' := [(6, .ref q), (0, rv p0), (1, .int p1), (2, .int p2), (3, .int p3), (4, .int p4), (5, .int p5)]) hx hb dL_does_252 hl (by decide) (by simp [rv_cat, ct_i, ct_l] <;> decide) (fun ls hl => ?_)
                              refine lv_bipush (v := (-10)) hx hb dL_does_254 (by decide) ?_
                              exact hret _ _ _ _ _ _ _ dL_does_256 hw rfl
                            replace h := oe k9_3 h
                            cases h
                          · refine x_callVNi (n := 4) (As := [.int p2, .int p3, .int p4, .int p5]) (rest := []) hX hw (c_X6_cursor g l hG hst mm p0 p2 p3 p4 p5 w _ e23) gL_does_X6_cursor rfl (by decide +kernel) rfl (x_nz hw c22) (c_recv hX hw (ce_6 c22) rfl) hl.1 rfl (Nat.le_of_ble_eq_true rfl) ⟨by decide, by decide⟩ dL_does_215 (fun H lc cn sn hw => ?_)
                            have hw : wH g s.heap.size (w25, mm) H lc := hw
                            refine lv_goto (tgt := 241) hx hb dL_does_218 (by decide) ?_
                            replace h := (Option.some.inj h).symm
                            exact haj73 _ _ _ _ _ _ _ h hw (lv_sub hl [] rfl)
                      · replace h := ot c11 h
                        refine t_aload_n hx hb dL_does_189 rfl (lv_at hl 0 rfl) ?_
                        refine lv_iload_n hx hb dL_does_190 rfl (lv_at hl 2 rfl) ?_
                        refine lv_iload_n hx hb dL_does_191 rfl (lv_at hl 3 rfl) ?_
                        refine lv_iload hx hb dL_does_192 (lv_at hl 4 rfl) ?_
                        refine lv_iload hx hb dL_does_194 (lv_at hl 5 rfl) ?_
                        obtain ⟨c26, h⟩ := og h
                        rcases obh3 h with ⟨k9, w9, e27, h⟩ | ⟨v28, e27, h⟩
                        · by_cases k9_1 : k9 = 1
                          · replace h := ot k9_1 h
                            replace h := (Option.some.inj h).symm
                            replace h := raj73 _ h
                            obtain ⟨rfl, rfl⟩ := Prod.mk.inj h
                            subst k9_1
                            refine x_callVE (n := 4) (As := [.int p2, .int p3, .int p4, .int p5]) (rest := []) hX hw (c_X6_count g l hG hst mm p0 p2 p3 p4 p5 w _ e27) gL_does_X6_count rfl (by decide +kernel) rfl (x_nz hw c26) (c_recv hX hw (ce_6 c26) rfl) hl.1 rfl (Nat.le_of_ble_eq_true rfl) ⟨by decide, by decide⟩ dL_does_196 (fun H lc cn sn q ce hw h1 h2 h3 => ?_)
                            have hw : wH g s.heap.size (w', mm) H lc := hw
                            refine tw_catch (E := exn 1) (name := "java/lang/IndexOutOfBoundsException") hX htab [] [(0, 241, 247, 71), (0, 241, 252, 73)] (0, 241, 242, 69) rfl ⟨by decide, by decide⟩ (by decide) ((hC s hX.2.1.2.1).2.2.2.1) ((hG s hX.2.1.2.1).2.2.2.2.2.1.1) (fun _ h => absurd h List.not_mem_nil) h1 h2 h3 ?_
                            refine lv_astore (lv' := [(6, .ref q), (0, rv p0), (1, .int p1), (2, .int p2), (3, .int p3), (4, .int p4), (5, .int p5)]) hx hb dL_does_242 hl (by decide) (by simp [rv_cat, ct_i, ct_l] <;> decide) (fun ls hl => ?_)
                            refine lv_bipush (v := (-30)) hx hb dL_does_244 (by decide) ?_
                            exact hret _ _ _ _ _ _ _ dL_does_246 hw rfl
                          replace h := oe k9_1 h
                          by_cases k9_2 : k9 = 2
                          · replace h := ot k9_2 h
                            replace h := (Option.some.inj h).symm
                            replace h := raj73 _ h
                            obtain ⟨rfl, rfl⟩ := Prod.mk.inj h
                            subst k9_2
                            refine x_callVE (n := 4) (As := [.int p2, .int p3, .int p4, .int p5]) (rest := []) hX hw (c_X6_count g l hG hst mm p0 p2 p3 p4 p5 w _ e27) gL_does_X6_count rfl (by decide +kernel) rfl (x_nz hw c26) (c_recv hX hw (ce_6 c26) rfl) hl.1 rfl (Nat.le_of_ble_eq_true rfl) ⟨by decide, by decide⟩ dL_does_196 (fun H lc cn sn q ce hw h1 h2 h3 => ?_)
                            have hw : wH g s.heap.size (w', mm) H lc := hw
                            refine tw_catch (E := exn 2) (name := "java/lang/IllegalArgumentException") hX htab [(0, 241, 242, 69)] [(0, 241, 252, 73)] (0, 241, 247, 71) rfl ⟨by decide, by decide⟩ (by decide) ((hC s hX.2.1.2.1).2.2.2.2.1) ((hG s hX.2.1.2.1).2.2.2.2.2.1.2.1) (List.forall_mem_cons.mpr ⟨⟨by decide, "java/lang/IndexOutOfBoundsException", (hC s hX.2.1.2.1).2.2.2.1, (hC s hX.2.1.2.1).2.2.1⟩, (fun _ h => absurd h List.not_mem_nil)⟩) h1 h2 h3 ?_
                            refine lv_astore (lv' := [(6, .ref q), (0, rv p0), (1, .int p1), (2, .int p2), (3, .int p3), (4, .int p4), (5, .int p5)]) hx hb dL_does_247 hl (by decide) (by simp [rv_cat, ct_i, ct_l] <;> decide) (fun ls hl => ?_)
                            refine lv_bipush (v := (-20)) hx hb dL_does_249 (by decide) ?_
                            exact hret _ _ _ _ _ _ _ dL_does_251 hw rfl
                          replace h := oe k9_2 h
                          by_cases k9_3 : k9 = 3
                          · replace h := ot k9_3 h
                            replace h := (Option.some.inj h).symm
                            replace h := raj73 _ h
                            obtain ⟨rfl, rfl⟩ := Prod.mk.inj h
                            subst k9_3
                            refine x_callVE (n := 4) (As := [.int p2, .int p3, .int p4, .int p5]) (rest := []) hX hw (c_X6_count g l hG hst mm p0 p2 p3 p4 p5 w _ e27) gL_does_X6_count rfl (by decide +kernel) rfl (x_nz hw c26) (c_recv hX hw (ce_6 c26) rfl) hl.1 rfl (Nat.le_of_ble_eq_true rfl) ⟨by decide, by decide⟩ dL_does_196 (fun H lc cn sn q ce hw h1 h2 h3 => ?_)
                            have hw : wH g s.heap.size (w', mm) H lc := hw
                            refine tw_catch (E := exn 3) (name := "java/lang/IllegalStateException") hX htab [(0, 241, 242, 69), (0, 241, 247, 71)] [] (0, 241, 252, 73) rfl ⟨by decide, by decide⟩ (by decide) ((hC s hX.2.1.2.1).2.2.2.2.2) ((hG s hX.2.1.2.1).2.2.2.2.2.1.2.2) (List.forall_mem_cons.mpr ⟨⟨by decide, "java/lang/IndexOutOfBoundsException", (hC s hX.2.1.2.1).2.2.2.1, (hC s hX.2.1.2.1).1⟩, (List.forall_mem_cons.mpr ⟨⟨by decide, "java/lang/IllegalArgumentException", (hC s hX.2.1.2.1).2.2.2.2.1, (hC s hX.2.1.2.1).2.1⟩, (fun _ h => absurd h List.not_mem_nil)⟩)⟩) h1 h2 h3 ?_
                            refine lv_astore (lv' := [(6, .ref q), (0, rv p0), (1, .int p1), (2, .int p2), (3, .int p3), (4, .int p4), (5, .int p5)]) hx hb dL_does_252 hl (by decide) (by simp [rv_cat, ct_i, ct_l] <;> decide) (fun ls hl => ?_)
                            refine lv_bipush (v := (-10)) hx hb dL_does_254 (by decide) ?_
                            exact hret _ _ _ _ _ _ _ dL_does_256 hw rfl
                          replace h := oe k9_3 h
                          cases h
                        · refine x_callVNi (n := 4) (As := [.int p2, .int p3, .int p4, .int p5]) (rest := []) hX hw (c_X6_count g l hG hst mm p0 p2 p3 p4 p5 w _ e27) gL_does_X6_count rfl (by decide +kernel) rfl (x_nz hw c26) (c_recv hX hw (ce_6 c26) rfl) hl.1 rfl (Nat.le_of_ble_eq_true rfl) ⟨by decide, by decide⟩ dL_does_196 (fun H lc cn sn hw => ?_)
                          have hw : wH g s.heap.size (w, mm) H lc := hw
                          refine lv_goto (tgt := 241) hx hb dL_does_199 (by decide) ?_
                          replace h := (Option.some.inj h).symm
                          exact haj73 _ _ _ _ _ _ _ h hw (lv_sub hl [] rfl)
                    · replace h := ot c10 h
                      refine t_aload_n hx hb dL_does_172 rfl (lv_at hl 0 rfl) ?_
                      refine lv_iload_n hx hb dL_does_173 rfl (lv_at hl 2 rfl) ?_
                      refine lv_iload_n hx hb dL_does_174 rfl (lv_at hl 3 rfl) ?_
                      refine lv_iload hx hb dL_does_175 (lv_at hl 4 rfl) ?_
                      obtain ⟨c29, h⟩ := og h
                      rcases obh3 h with ⟨k9, w9, e30, h⟩ | ⟨v31, e30, h⟩
                      · by_cases k9_1 : k9 = 1
                        · replace h := ot k9_1 h
                          replace h := (Option.some.inj h).symm
                          replace h := raj73 _ h
                          obtain ⟨rfl, rfl⟩ := Prod.mk.inj h
                          subst k9_1
                          refine x_callVE (n := 3) (As := [.int p2, .int p3, .int p4]) (rest := []) hX hw (c_X6_get g l hG hst mm p0 p2 p3 p4 w _ e30) gL_does_X6_get rfl (by decide +kernel) rfl (x_nz hw c29) (c_recv hX hw (ce_6 c29) rfl) hl.1 rfl (Nat.le_of_ble_eq_true rfl) ⟨by decide, by decide⟩ dL_does_177 (fun H lc cn sn q ce hw h1 h2 h3 => ?_)
                          have hw : wH g s.heap.size (w', mm) H lc := hw
                          refine tw_catch (E := exn 1) (name := "java/lang/IndexOutOfBoundsException") hX htab [] [(0, 241, 247, 71), (0, 241, 252, 73)] (0, 241, 242, 69) rfl ⟨by decide, by decide⟩ (by decide) ((hC s hX.2.1.2.1).2.2.2.1) ((hG s hX.2.1.2.1).2.2.2.2.2.1.1) (fun _ h => absurd h List.not_mem_nil) h1 h2 h3 ?_
                          refine lv_astore (lv' := [(6, .ref q), (0, rv p0), (1, .int p1), (2, .int p2), (3, .int p3), (4, .int p4), (5, .int p5)]) hx hb dL_does_242 hl (by decide) (by simp [rv_cat, ct_i, ct_l] <;> decide) (fun ls hl => ?_)
                          refine lv_bipush (v := (-30)) hx hb dL_does_244 (by decide) ?_
                          exact hret _ _ _ _ _ _ _ dL_does_246 hw rfl
                        replace h := oe k9_1 h
                        by_cases k9_2 : k9 = 2
                        · replace h := ot k9_2 h
                          replace h := (Option.some.inj h).symm
                          replace h := raj73 _ h
                          obtain ⟨rfl, rfl⟩ := Prod.mk.inj h
                          subst k9_2
                          refine x_callVE (n := 3) (As := [.int p2, .int p3, .int p4]) (rest := []) hX hw (c_X6_get g l hG hst mm p0 p2 p3 p4 w _ e30) gL_does_X6_get rfl (by decide +kernel) rfl (x_nz hw c29) (c_recv hX hw (ce_6 c29) rfl) hl.1 rfl (Nat.le_of_ble_eq_true rfl) ⟨by decide, by decide⟩ dL_does_177 (fun H lc cn sn q ce hw h1 h2 h3 => ?_)
                          have hw : wH g s.heap.size (w', mm) H lc := hw
                          refine tw_catch (E := exn 2) (name := "java/lang/IllegalArgumentException") hX htab [(0, 241, 242, 69)] [(0, 241, 252, 73)] (0, 241, 247, 71) rfl ⟨by decide, by decide⟩ (by decide) ((hC s hX.2.1.2.1).2.2.2.2.1) ((hG s hX.2.1.2.1).2.2.2.2.2.1.2.1) (List.forall_mem_cons.mpr ⟨⟨by decide, "java/lang/IndexOutOfBoundsException", (hC s hX.2.1.2.1).2.2.2.1, (hC s hX.2.1.2.1).2.2.1⟩, (fun _ h => absurd h List.not_mem_nil)⟩) h1 h2 h3 ?_
                          refine lv_astore (lv' := [(6, .ref q), (0, rv p0), (1, .int p1), (2, .int p2), (3, .int p3), (4, .int p4), (5, .int p5)]) hx hb dL_does_247 hl (by decide) (by simp [rv_cat, ct_i, ct_l] <;> decide) (fun ls hl => ?_)
                          refine lv_bipush (v := (-20)) hx hb dL_does_249 (by decide) ?_
                          exact hret _ _ _ _ _ _ _ dL_does_251 hw rfl
                        replace h := oe k9_2 h
                        by_cases k9_3 : k9 = 3
                        · replace h := ot k9_3 h
                          replace h := (Option.some.inj h).symm
                          replace h := raj73 _ h
                          obtain ⟨rfl, rfl⟩ := Prod.mk.inj h
                          subst k9_3
                          refine x_callVE (n := 3) (As := [.int p2, .int p3, .int p4]) (rest := []) hX hw (c_X6_get g l hG hst mm p0 p2 p3 p4 w _ e30) gL_does_X6_get rfl (by decide +kernel) rfl (x_nz hw c29) (c_recv hX hw (ce_6 c29) rfl) hl.1 rfl (Nat.le_of_ble_eq_true rfl) ⟨by decide, by decide⟩ dL_does_177 (fun H lc cn sn q ce hw h1 h2 h3 => ?_)
                          have hw : wH g s.heap.size (w', mm) H lc := hw
                          refine tw_catch (E := exn 3) (name := "java/lang/IllegalStateException") hX htab [(0, 241, 242, 69), (0, 241, 247, 71)] [] (0, 241, 252, 73) rfl ⟨by decide, by decide⟩ (by decide) ((hC s hX.2.1.2.1).2.2.2.2.2) ((hG s hX.2.1.2.1).2.2.2.2.2.1.2.2) (List.forall_mem_cons.mpr ⟨⟨by decide, "java/lang/IndexOutOfBoundsException", (hC s hX.2.1.2.1).2.2.2.1, (hC s hX.2.1.2.1).1⟩, (List.forall_mem_cons.mpr ⟨⟨by decide, "java/lang/IllegalArgumentException", (hC s hX.2.1.2.1).2.2.2.2.1, (hC s hX.2.1.2.1).2.1⟩, (fun _ h => absurd h List.not_mem_nil)⟩)⟩) h1 h2 h3 ?_
                          refine lv_astore (lv' := [(6, .ref q), (0, rv p0), (1, .int p1), (2, .int p2), (3, .int p3), (4, .int p4), (5, .int p5)]) hx hb dL_does_252 hl (by decide) (by simp [rv_cat, ct_i, ct_l] <;> decide) (fun ls hl => ?_)
                          refine lv_bipush (v := (-10)) hx hb dL_does_254 (by decide) ?_
                          exact hret _ _ _ _ _ _ _ dL_does_256 hw rfl
                        replace h := oe k9_3 h
                        cases h
                      · refine x_callVNi (n := 3) (As := [.int p2, .int p3, .int p4]) (rest := []) hX hw (c_X6_get g l hG hst mm p0 p2 p3 p4 w _ e30) gL_does_X6_get rfl (by decide +kernel) rfl (x_nz hw c29) (c_recv hX hw (ce_6 c29) rfl) hl.1 rfl (Nat.le_of_ble_eq_true rfl) ⟨by decide, by decide⟩ dL_does_177 (fun H lc cn sn hw => ?_)
                        have hw : wH g s.heap.size (w, mm) H lc := hw
                        refine lv_goto (tgt := 241) hx hb dL_does_180 (by decide) ?_
                        replace h := (Option.some.inj h).symm
                        exact haj73 _ _ _ _ _ _ _ h hw (lv_sub hl [] rfl)
                  · replace h := ot c9 h
                    refine t_aload_n hx hb dL_does_153 rfl (lv_at hl 0 rfl) ?_
                    refine lv_iload_n hx hb dL_does_154 rfl (lv_at hl 2 rfl) ?_
                    refine lv_iload_n hx hb dL_does_155 rfl (lv_at hl 3 rfl) ?_
                    refine lv_iload hx hb dL_does_156 (lv_at hl 4 rfl) ?_
                    refine lv_iload hx hb dL_does_158 (lv_at hl 5 rfl) ?_
                    obtain ⟨c32, h⟩ := og h
                    rcases obh2 h with ⟨k9, w9, e33, h⟩ | ⟨v34, w35, e33, h⟩
                    · by_cases k9_1 : k9 = 1
                      · replace h := ot k9_1 h
                        replace h := (Option.some.inj h).symm
                        replace h := raj73 _ h
                        obtain ⟨rfl, rfl⟩ := Prod.mk.inj h
                        subst k9_1
                        refine x_callVE (n := 4) (As := [.int p2, .int p3, .int p4, .int p5]) (rest := []) hX hw (c_X6_remove g l hG hst mm p0 p2 p3 p4 p5 w _ e33) gL_does_X6_remove rfl (by decide +kernel) rfl (x_nz hw c32) (c_recv hX hw (ce_6 c32) rfl) hl.1 rfl (Nat.le_of_ble_eq_true rfl) ⟨by decide, by decide⟩ dL_does_160 (fun H lc cn sn q ce hw h1 h2 h3 => ?_)
                        have hw : wH g s.heap.size (w', mm) H lc := hw
                        refine tw_catch (E := exn 1) (name := "java/lang/IndexOutOfBoundsException") hX htab [] [(0, 241, 247, 71), (0, 241, 252, 73)] (0, 241, 242, 69) rfl ⟨by decide, by decide⟩ (by decide) ((hC s hX.2.1.2.1).2.2.2.1) ((hG s hX.2.1.2.1).2.2.2.2.2.1.1) (fun _ h => absurd h List.not_mem_nil) h1 h2 h3 ?_
                        refine lv_astore (lv' := [(6, .ref q), (0, rv p0), (1, .int p1), (2, .int p2), (3, .int p3), (4, .int p4), (5, .int p5)]) hx hb dL_does_242 hl (by decide) (by simp [rv_cat, ct_i, ct_l] <;> decide) (fun ls hl => ?_)
                        refine lv_bipush (v := (-30)) hx hb dL_does_244 (by decide) ?_
                        exact hret _ _ _ _ _ _ _ dL_does_246 hw rfl
                      replace h := oe k9_1 h
                      by_cases k9_2 : k9 = 2
                      · replace h := ot k9_2 h
                        replace h := (Option.some.inj h).symm
                        replace h := raj73 _ h
                        obtain ⟨rfl, rfl⟩ := Prod.mk.inj h
                        subst k9_2
                        refine x_callVE (n := 4) (As := [.int p2, .int p3, .int p4, .int p5]) (rest := []) hX hw (c_X6_remove g l hG hst mm p0 p2 p3 p4 p5 w _ e33) gL_does_X6_remove rfl (by decide +kernel) rfl (x_nz hw c32) (c_recv hX hw (ce_6 c32) rfl) hl.1 rfl (Nat.le_of_ble_eq_true rfl) ⟨by decide, by decide⟩ dL_does_160 (fun H lc cn sn q ce hw h1 h2 h3 => ?_)
                        have hw : wH g s.heap.size (w', mm) H lc := hw
                        refine tw_catch (E := exn 2) (name := "java/lang/IllegalArgumentException") hX htab [(0, 241, 242, 69)] [(0, 241, 252, 73)] (0, 241, 247, 71) rfl ⟨by decide, by decide⟩ (by decide) ((hC s hX.2.1.2.1).2.2.2.2.1) ((hG s hX.2.1.2.1).2.2.2.2.2.1.2.1) (List.forall_mem_cons.mpr ⟨⟨by decide, "java/lang/IndexOutOfBoundsException", (hC s hX.2.1.2.1).2.2.2.1, (hC s hX.2.1.2.1).2.2.1⟩, (fun _ h => absurd h List.not_mem_nil)⟩) h1 h2 h3 ?_
                        refine lv_astore (lv' := [(6, .ref q), (0, rv p0), (1, .int p1), (2, .int p2), (3, .int p3), (4, .int p4), (5, .int p5)]) hx hb dL_does_247 hl (by decide) (by simp [rv_cat, ct_i, ct_l] <;> decide) (fun ls hl => ?_)
                        refine lv_bipush (v := (-20)) hx hb dL_does_249 (by decide) ?_
                        exact hret _ _ _ _ _ _ _ dL_does_251 hw rfl
                      replace h := oe k9_2 h
                      by_cases k9_3 : k9 = 3
                      · replace h := ot k9_3 h
                        replace h := (Option.some.inj h).symm
                        replace h := raj73 _ h
                        obtain ⟨rfl, rfl⟩ := Prod.mk.inj h
                        subst k9_3
                        refine x_callVE (n := 4) (As := [.int p2, .int p3, .int p4, .int p5]) (rest := []) hX hw (c_X6_remove g l hG hst mm p0 p2 p3 p4 p5 w _ e33) gL_does_X6_remove rfl (by decide +kernel) rfl (x_nz hw c32) (c_recv hX hw (ce_6 c32) rfl) hl.1 rfl (Nat.le_of_ble_eq_true rfl) ⟨by decide, by decide⟩ dL_does_160 (fun H lc cn sn q ce hw h1 h2 h3 => ?_)
                        have hw : wH g s.heap.size (w', mm) H lc := hw
                        refine tw_catch (E := exn 3) (name := "java/lang/IllegalStateException") hX htab [(0, 241, 242, 69), (0, 241, 247, 71)] [] (0, 241, 252, 73) rfl ⟨by decide, by decide⟩ (by decide) ((hC s hX.2.1.2.1).2.2.2.2.2) ((hG s hX.2.1.2.1).2.2.2.2.2.1.2.2) (List.forall_mem_cons.mpr ⟨⟨by decide, "java/lang/IndexOutOfBoundsException", (hC s hX.2.1.2.1).2.2.2.1, (hC s hX.2.1.2.1).1⟩, (List.forall_mem_cons.mpr ⟨⟨by decide, "java/lang/IllegalArgumentException", (hC s hX.2.1.2.1).2.2.2.2.1, (hC s hX.2.1.2.1).2.1⟩, (fun _ h => absurd h List.not_mem_nil)⟩)⟩) h1 h2 h3 ?_
                        refine lv_astore (lv' := [(6, .ref q), (0, rv p0), (1, .int p1), (2, .int p2), (3, .int p3), (4, .int p4), (5, .int p5)]) hx hb dL_does_252 hl (by decide) (by simp [rv_cat, ct_i, ct_l] <;> decide) (fun ls hl => ?_)
                        refine lv_bipush (v := (-10)) hx hb dL_does_254 (by decide) ?_
                        exact hret _ _ _ _ _ _ _ dL_does_256 hw rfl
                      replace h := oe k9_3 h
                      cases h
                    · refine x_callVNi (n := 4) (As := [.int p2, .int p3, .int p4, .int p5]) (rest := []) hX hw (c_X6_remove g l hG hst mm p0 p2 p3 p4 p5 w _ e33) gL_does_X6_remove rfl (by decide +kernel) rfl (x_nz hw c32) (c_recv hX hw (ce_6 c32) rfl) hl.1 rfl (Nat.le_of_ble_eq_true rfl) ⟨by decide, by decide⟩ dL_does_160 (fun H lc cn sn hw => ?_)
                      have hw : wH g s.heap.size (w35, mm) H lc := hw
                      refine lv_goto (tgt := 241) hx hb dL_does_163 (by decide) ?_
                      replace h := (Option.some.inj h).symm
                      exact haj73 _ _ _ _ _ _ _ h hw (lv_sub hl [] rfl)
                · replace h := ot c8 h
                  refine t_aload_n hx hb dL_does_119 rfl (lv_at hl 0 rfl) ?_
                  refine lv_iload_n hx hb dL_does_120 rfl (lv_at hl 2 rfl) ?_
                  refine lv_iload_n hx hb dL_does_121 rfl (lv_at hl 3 rfl) ?_
                  refine lv_iload hx hb dL_does_122 (lv_at hl 4 rfl) ?_
                  refine lv_iload hx hb dL_does_124 (lv_at hl 5 rfl) ?_
                  refine lv_iload hx hb dL_does_126 (lv_at hl 5 rfl) ?_
                  refine lv_sipush (v := 1000) hx hb dL_does_128 (by decide) ?_
                  refine lv_irem hx hb dL_does_131 (by decide) ?_
                  refine lv_iconst (v := (-1)) hx hb dL_does_132 (by decide) ?_
                  obtain ⟨c36, h⟩ := og h
                  rcases obh2 h with ⟨k9, w9, e37, h⟩ | ⟨v38, w39, e37, h⟩
                  · by_cases k9_1 : k9 = 1
                    · replace h := ot k9_1 h
                      replace h := (Option.some.inj h).symm
                      replace h := raj73 _ h
                      obtain ⟨rfl, rfl⟩ := Prod.mk.inj h
                      subst k9_1
                      refine x_callVE (n := 6) (As := [.int p2, .int p3, .int p4, .int p5, .int (p5 - p5 / 1000 * 1000), .int (-1)]) (rest := []) hX hw (c_X6_put g l hG hst mm p0 p2 p3 p4 p5 (p5 - p5 / 1000 * 1000) (-1) w _ e37) gL_does_X6_put rfl (by decide +kernel) rfl (x_nz hw c36) (c_recv hX hw (ce_6 c36) rfl) hl.1 rfl (Nat.le_of_ble_eq_true rfl) ⟨by decide, by decide⟩ dL_does_133 (fun H lc cn sn q ce hw h1 h2 h3 => ?_)
                      have hw : wH g s.heap.size (w', mm) H lc := hw
                      refine tw_catch (E := exn 1) (name := "java/lang/IndexOutOfBoundsException") hX htab [] [(0, 241, 247, 71), (0, 241, 252, 73)] (0, 241, 242, 69) rfl ⟨by decide, by decide⟩ (by decide) ((hC s hX.2.1.2.1).2.2.2.1) ((hG s hX.2.1.2.1).2.2.2.2.2.1.1) (fun _ h => absurd h List.not_mem_nil) h1 h2 h3 ?_
                      refine lv_astore (lv' := [(6, .ref q), (0, rv p0), (1, .int p1), (2, .int p2), (3, .int p3), (4, .int p4), (5, .int p5)]) hx hb dL_does_242 hl (by decide) (by simp [rv_cat, ct_i, ct_l] <;> decide) (fun ls hl => ?_)
                      refine lv_bipush (v := (-30)) hx hb dL_does_244 (by decide) ?_
                      exact hret _ _ _ _ _ _ _ dL_does_246 hw rfl
                    replace h := oe k9_1 h
                    by_cases k9_2 : k9 = 2
                    · replace h := ot k9_2 h
                      replace h := (Option.some.inj h).symm
                      replace h := raj73 _ h
                      obtain ⟨rfl, rfl⟩ := Prod.mk.inj h
                      subst k9_2
                      refine x_callVE (n := 6) (As := [.int p2, .int p3, .int p4, .int p5, .int (p5 - p5 / 1000 * 1000), .int (-1)]) (rest := []) hX hw (c_X6_put g l hG hst mm p0 p2 p3 p4 p5 (p5 - p5 / 1000 * 1000) (-1) w _ e37) gL_does_X6_put rfl (by decide +kernel) rfl (x_nz hw c36) (c_recv hX hw (ce_6 c36) rfl) hl.1 rfl (Nat.le_of_ble_eq_true rfl) ⟨by decide, by decide⟩ dL_does_133 (fun H lc cn sn q ce hw h1 h2 h3 => ?_)
                      have hw : wH g s.heap.size (w', mm) H lc := hw
                      refine tw_catch (E := exn 2) (name := "java/lang/IllegalArgumentException") hX htab [(0, 241, 242, 69)] [(0, 241, 252, 73)] (0, 241, 247, 71) rfl ⟨by decide, by decide⟩ (by decide) ((hC s hX.2.1.2.1).2.2.2.2.1) ((hG s hX.2.1.2.1).2.2.2.2.2.1.2.1) (List.forall_mem_cons.mpr ⟨⟨by decide, "java/lang/IndexOutOfBoundsException", (hC s hX.2.1.2.1).2.2.2.1, (hC s hX.2.1.2.1).2.2.1⟩, (fun _ h => absurd h List.not_mem_nil)⟩) h1 h2 h3 ?_
                      refine lv_astore (lv' := [(6, .ref q), (0, rv p0), (1, .int p1), (2, .int p2), (3, .int p3), (4, .int p4), (5, .int p5)]) hx hb dL_does_247 hl (by decide) (by simp [rv_cat, ct_i, ct_l] <;> decide) (fun ls hl => ?_)
                      refine lv_bipush (v := (-20)) hx hb dL_does_249 (by decide) ?_
                      exact hret _ _ _ _ _ _ _ dL_does_251 hw rfl
                    replace h := oe k9_2 h
                    by_cases k9_3 : k9 = 3
                    · replace h := ot k9_3 h
                      replace h := (Option.some.inj h).symm
                      replace h := raj73 _ h
                      obtain ⟨rfl, rfl⟩ := Prod.mk.inj h
                      subst k9_3
                      refine x_callVE (n := 6) (As := [.int p2, .int p3, .int p4, .int p5, .int (p5 - p5 / 1000 * 1000), .int (-1)]) (rest := []) hX hw (c_X6_put g l hG hst mm p0 p2 p3 p4 p5 (p5 - p5 / 1000 * 1000) (-1) w _ e37) gL_does_X6_put rfl (by decide +kernel) rfl (x_nz hw c36) (c_recv hX hw (ce_6 c36) rfl) hl.1 rfl (Nat.le_of_ble_eq_true rfl) ⟨by decide, by decide⟩ dL_does_133 (fun H lc cn sn q ce hw h1 h2 h3 => ?_)
                      have hw : wH g s.heap.size (w', mm) H lc := hw
                      refine tw_catch (E := exn 3) (name := "java/lang/IllegalStateException") hX htab [(0, 241, 242, 69), (0, 241, 247, 71)] [] (0, 241, 252, 73) rfl ⟨by decide, by decide⟩ (by decide) ((hC s hX.2.1.2.1).2.2.2.2.2) ((hG s hX.2.1.2.1).2.2.2.2.2.1.2.2) (List.forall_mem_cons.mpr ⟨⟨by decide, "java/lang/IndexOutOfBoundsException", (hC s hX.2.1.2.1).2.2.2.1, (hC s hX.2.1.2.1).1⟩, (List.forall_mem_cons.mpr ⟨⟨by decide, "java/lang/IllegalArgumentException", (hC s hX.2.1.2.1).2.2.2.2.1, (hC s hX.2.1.2.1).2.1⟩, (fun _ h => absurd h List.not_mem_nil)⟩)⟩) h1 h2 h3 ?_
                      refine lv_astore (lv' := [(6, .ref q), (0, rv p0), (1, .int p1), (2, .int p2), (3, .int p3), (4, .int p4), (5, .int p5)]) hx hb dL_does_252 hl (by decide) (by simp [rv_cat, ct_i, ct_l] <;> decide) (fun ls hl => ?_)
                      refine lv_bipush (v := (-10)) hx hb dL_does_254 (by decide) ?_
                      exact hret _ _ _ _ _ _ _ dL_does_256 hw rfl
                    replace h := oe k9_3 h
                    cases h
                  · refine x_callVNi (n := 6) (As := [.int p2, .int p3, .int p4, .int p5, .int (p5 - p5 / 1000 * 1000), .int (-1)]) (rest := []) hX hw (c_X6_put g l hG hst mm p0 p2 p3 p4 p5 (p5 - p5 / 1000 * 1000) (-1) w _ e37) gL_does_X6_put rfl (by decide +kernel) rfl (x_nz hw c36) (c_recv hX hw (ce_6 c36) rfl) hl.1 rfl (Nat.le_of_ble_eq_true rfl) ⟨by decide, by decide⟩ dL_does_133 (fun H lc cn sn hw => ?_)
                    have hw : wH g s.heap.size (w39, mm) H lc := hw
                    refine lv_if_eq (tgt := 143) hx hb dL_does_136 (by decide) (fun c40 => ?_) (fun c40 => ?_)
                    · replace h := ot c40 h
                      refine lv_iconst (v := 0) hx hb dL_does_143 (by decide) ?_
                      refine lv_goto (tgt := 241) hx hb dL_does_144 (by decide) ?_
                      replace h := (Option.some.inj h).symm
                      exact haj73 _ _ _ _ _ _ _ h hw (lv_sub hl [] rfl)
                    · replace h := oe c40 h
                      refine lv_iconst (v := 1) hx hb dL_does_139 (by decide) ?_
                      refine lv_goto (tgt := 241) hx hb dL_does_140 (by decide) ?_
                      replace h := (Option.some.inj h).symm
                      exact haj73 _ _ _ _ _ _ _ h hw (lv_sub hl [] rfl)
              · replace h := ot c7 h
                refine t_aload_n hx hb dL_does_105 rfl (lv_at hl 0 rfl) ?_
                refine lv_iload_n hx hb dL_does_106 rfl (lv_at hl 2 rfl) ?_
                obtain ⟨c41, h⟩ := og h
                rcases obh2 h with ⟨k9, w9, e42, h⟩ | ⟨v43, w44, e42, h⟩
                · by_cases k9_1 : k9 = 1
                  · replace h := ot k9_1 h
                    replace h := (Option.some.inj h).symm
                    replace h := raj73 _ h
                    obtain ⟨rfl, rfl⟩ := Prod.mk.inj h
                    subst k9_1
                    refine x_callVE (n := 1) (As := [.int p2]) (rest := []) hX hw (c_X6_abort g l hG hst mm p0 p2 w _ e42) gL_does_X6_abort rfl (by decide +kernel) rfl (x_nz hw c41) (c_recv hX hw (ce_6 c41) rfl) hl.1 rfl (Nat.le_of_ble_eq_true rfl) ⟨by decide, by decide⟩ dL_does_107 (fun H lc cn sn q ce hw h1 h2 h3 => ?_)
                    have hw : wH g s.heap.size (w', mm) H lc := hw
                    refine tw_catch (E := exn 1) (name := "java/lang/IndexOutOfBoundsException") hX htab [] [(0, 241, 247, 71), (0, 241, 252, 73)] (0, 241, 242, 69) rfl ⟨by decide, by decide⟩ (by decide) ((hC s hX.2.1.2.1).2.2.2.1) ((hG s hX.2.1.2.1).2.2.2.2.2.1.1) (fun _ h => absurd h List.not_mem_nil) h1 h2 h3 ?_
                    refine lv_astore (lv' := [(6, .ref q), (0, rv p0), (1, .int p1), (2, .int p2), (3, .int p3), (4, .int p4), (5, .int p5)]) hx hb dL_does_242 hl (by decide) (by simp [rv_cat, ct_i, ct_l] <;> decide) (fun ls hl => ?_)
                    refine lv_bipush (v := (-30)) hx hb dL_does_244 (by decide) ?_
                    exact hret _ _ _ _ _ _ _ dL_does_246 hw rfl
                  replace h := oe k9_1 h
                  by_cases k9_2 : k9 = 2
                  · replace h := ot k9_2 h
                    replace h := (Option.some.inj h).symm
                    replace h := raj73 _ h
                    obtain ⟨rfl, rfl⟩ := Prod.mk.inj h
                    subst k9_2
                    refine x_callVE (n := 1) (As := [.int p2]) (rest := []) hX hw (c_X6_abort g l hG hst mm p0 p2 w _ e42) gL_does_X6_abort rfl (by decide +kernel) rfl (x_nz hw c41) (c_recv hX hw (ce_6 c41) rfl) hl.1 rfl (Nat.le_of_ble_eq_true rfl) ⟨by decide, by decide⟩ dL_does_107 (fun H lc cn sn q ce hw h1 h2 h3 => ?_)
                    have hw : wH g s.heap.size (w', mm) H lc := hw
                    refine tw_catch (E := exn 2) (name := "java/lang/IllegalArgumentException") hX htab [(0, 241, 242, 69)] [(0, 241, 252, 73)] (0, 241, 247, 71) rfl ⟨by decide, by decide⟩ (by decide) ((hC s hX.2.1.2.1).2.2.2.2.1) ((hG s hX.2.1.2.1).2.2.2.2.2.1.2.1) (List.forall_mem_cons.mpr ⟨⟨by decide, "java/lang/IndexOutOfBoundsException", (hC s hX.2.1.2.1).2.2.2.1, (hC s hX.2.1.2.1).2.2.1⟩, (fun _ h => absurd h List.not_mem_nil)⟩) h1 h2 h3 ?_
                    refine lv_astore (lv' := [(6, .ref q), (0, rv p0), (1, .int p1), (2, .int p2), (3, .int p3), (4, .int p4), (5, .int p5)]) hx hb dL_does_247 hl (by decide) (by simp [rv_cat, ct_i, ct_l] <;> decide) (fun ls hl => ?_)
                    refine lv_bipush (v := (-20)) hx hb dL_does_249 (by decide) ?_
                    exact hret _ _ _ _ _ _ _ dL_does_251 hw rfl
                  replace h := oe k9_2 h
                  by_cases k9_3 : k9 = 3
                  · replace h := ot k9_3 h
                    replace h := (Option.some.inj h).symm
                    replace h := raj73 _ h
                    obtain ⟨rfl, rfl⟩ := Prod.mk.inj h
                    subst k9_3
                    refine x_callVE (n := 1) (As := [.int p2]) (rest := []) hX hw (c_X6_abort g l hG hst mm p0 p2 w _ e42) gL_does_X6_abort rfl (by decide +kernel) rfl (x_nz hw c41) (c_recv hX hw (ce_6 c41) rfl) hl.1 rfl (Nat.le_of_ble_eq_true rfl) ⟨by decide, by decide⟩ dL_does_107 (fun H lc cn sn q ce hw h1 h2 h3 => ?_)
                    have hw : wH g s.heap.size (w', mm) H lc := hw
                    refine tw_catch (E := exn 3) (name := "java/lang/IllegalStateException") hX htab [(0, 241, 242, 69), (0, 241, 247, 71)] [] (0, 241, 252, 73) rfl ⟨by decide, by decide⟩ (by decide) ((hC s hX.2.1.2.1).2.2.2.2.2) ((hG s hX.2.1.2.1).2.2.2.2.2.1.2.2) (List.forall_mem_cons.mpr ⟨⟨by decide, "java/lang/IndexOutOfBoundsException", (hC s hX.2.1.2.1).2.2.2.1, (hC s hX.2.1.2.1).1⟩, (List.forall_mem_cons.mpr ⟨⟨by decide, "java/lang/IllegalArgumentException", (hC s hX.2.1.2.1).2.2.2.2.1, (hC s hX.2.1.2.1).2.1⟩, (fun _ h => absurd h List.not_mem_nil)⟩)⟩) h1 h2 h3 ?_
                    refine lv_astore (lv' := [(6, .ref q), (0, rv p0), (1, .int p1), (2, .int p2), (3, .int p3), (4, .int p4), (5, .int p5)]) hx hb dL_does_252 hl (by decide) (by simp [rv_cat, ct_i, ct_l] <;> decide) (fun ls hl => ?_)
                    refine lv_bipush (v := (-10)) hx hb dL_does_254 (by decide) ?_
                    exact hret _ _ _ _ _ _ _ dL_does_256 hw rfl
                  replace h := oe k9_3 h
                  cases h
                · refine x_callVNi (n := 1) (As := [.int p2]) (rest := []) hX hw (c_X6_abort g l hG hst mm p0 p2 w _ e42) gL_does_X6_abort rfl (by decide +kernel) rfl (x_nz hw c41) (c_recv hX hw (ce_6 c41) rfl) hl.1 rfl (Nat.le_of_ble_eq_true rfl) ⟨by decide, by decide⟩ dL_does_107 (fun H lc cn sn hw => ?_)
                  have hw : wH g s.heap.size (w44, mm) H lc := hw
                  refine lv_goto (tgt := 241) hx hb dL_does_110 (by decide) ?_
                  replace h := (Option.some.inj h).symm
                  exact haj73 _ _ _ _ _ _ _ h hw (lv_sub hl [] rfl)
            · replace h := ot c6 h
              refine t_aload_n hx hb dL_does_91 rfl (lv_at hl 0 rfl) ?_
              refine lv_iload_n hx hb dL_does_92 rfl (lv_at hl 2 rfl) ?_
              obtain ⟨c45, h⟩ := og h
              rcases obh2 h with ⟨k9, w9, e46, h⟩ | ⟨v47, w48, e46, h⟩
              · by_cases k9_1 : k9 = 1
                · replace h := ot k9_1 h
                  replace h := (Option.some.inj h).symm
                  replace h := raj73 _ h
                  obtain ⟨rfl, rfl⟩ := Prod.mk.inj h
                  subst k9_1
                  refine x_callVE (n := 1) (As := [.int p2]) (rest := []) hX hw (c_X6_commit g l hG hst mm p0 p2 w _ e46) gL_does_X6_commit rfl (by decide +kernel) rfl (x_nz hw c45) (c_recv hX hw (ce_6 c45) rfl) hl.1 rfl (Nat.le_of_ble_eq_true rfl) ⟨by decide, by decide⟩ dL_does_93 (fun H lc cn sn q ce hw h1 h2 h3 => ?_)
                  have hw : wH g s.heap.size (w', mm) H lc := hw
                  refine tw_catch (E := exn 1) (name := "java/lang/IndexOutOfBoundsException") hX htab [] [(0, 241, 247, 71), (0, 241, 252, 73)] (0, 241, 242, 69) rfl ⟨by decide, by decide⟩ (by decide) ((hC s hX.2.1.2.1).2.2.2.1) ((hG s hX.2.1.2.1).2.2.2.2.2.1.1) (fun _ h => absurd h List.not_mem_nil) h1 h2 h3 ?_
                  refine lv_astore (lv' := [(6, .ref q), (0, rv p0), (1, .int p1), (2, .int p2), (3, .int p3), (4, .int p4), (5, .int p5)]) hx hb dL_does_242 hl (by decide) (by simp [rv_cat, ct_i, ct_l] <;> decide) (fun ls hl => ?_)
                  refine lv_bipush (v := (-30)) hx hb dL_does_244 (by decide) ?_
                  exact hret _ _ _ _ _ _ _ dL_does_246 hw rfl
                replace h := oe k9_1 h
                by_cases k9_2 : k9 = 2
                · replace h := ot k9_2 h
                  replace h := (Option.some.inj h).symm
                  replace h := raj73 _ h
                  obtain ⟨rfl, rfl⟩ := Prod.mk.inj h
                  subst k9_2
                  refine x_callVE (n := 1) (As := [.int p2]) (rest := []) hX hw (c_X6_commit g l hG hst mm p0 p2 w _ e46) gL_does_X6_commit rfl (by decide +kernel) rfl (x_nz hw c45) (c_recv hX hw (ce_6 c45) rfl) hl.1 rfl (Nat.le_of_ble_eq_true rfl) ⟨by decide, by decide⟩ dL_does_93 (fun H lc cn sn q ce hw h1 h2 h3 => ?_)
                  have hw : wH g s.heap.size (w', mm) H lc := hw
                  refine tw_catch (E := exn 2) (name := "java/lang/IllegalArgumentException") hX htab [(0, 241, 242, 69)] [(0, 241, 252, 73)] (0, 241, 247, 71) rfl ⟨by decide, by decide⟩ (by decide) ((hC s hX.2.1.2.1).2.2.2.2.1) ((hG s hX.2.1.2.1).2.2.2.2.2.1.2.1) (List.forall_mem_cons.mpr ⟨⟨by decide, "java/lang/IndexOutOfBoundsException", (hC s hX.2.1.2.1).2.2.2.1, (hC s hX.2.1.2.1).2.2.1⟩, (fun _ h => absurd h List.not_mem_nil)⟩) h1 h2 h3 ?_
                  refine lv_astore (lv' := [(6, .ref q), (0, rv p0), (1, .int p1), (2, .int p2), (3, .int p3), (4, .int p4), (5, .int p5)]) hx hb dL_does_247 hl (by decide) (by simp [rv_cat, ct_i, ct_l] <;> decide) (fun ls hl => ?_)
                  refine lv_bipush (v := (-20)) hx hb dL_does_249 (by decide) ?_
                  exact hret _ _ _ _ _ _ _ dL_does_251 hw rfl
                replace h := oe k9_2 h
                by_cases k9_3 : k9 = 3
                · replace h := ot k9_3 h
                  replace h := (Option.some.inj h).symm
                  replace h := raj73 _ h
                  obtain ⟨rfl, rfl⟩ := Prod.mk.inj h
                  subst k9_3
                  refine x_callVE (n := 1) (As := [.int p2]) (rest := []) hX hw (c_X6_commit g l hG hst mm p0 p2 w _ e46) gL_does_X6_commit rfl (by decide +kernel) rfl (x_nz hw c45) (c_recv hX hw (ce_6 c45) rfl) hl.1 rfl (Nat.le_of_ble_eq_true rfl) ⟨by decide, by decide⟩ dL_does_93 (fun H lc cn sn q ce hw h1 h2 h3 => ?_)
                  have hw : wH g s.heap.size (w', mm) H lc := hw
                  refine tw_catch (E := exn 3) (name := "java/lang/IllegalStateException") hX htab [(0, 241, 242, 69), (0, 241, 247, 71)] [] (0, 241, 252, 73) rfl ⟨by decide, by decide⟩ (by decide) ((hC s hX.2.1.2.1).2.2.2.2.2) ((hG s hX.2.1.2.1).2.2.2.2.2.1.2.2) (List.forall_mem_cons.mpr ⟨⟨by decide, "java/lang/IndexOutOfBoundsException", (hC s hX.2.1.2.1).2.2.2.1, (hC s hX.2.1.2.1).1⟩, (List.forall_mem_cons.mpr ⟨⟨by decide, "java/lang/IllegalArgumentException", (hC s hX.2.1.2.1).2.2.2.2.1, (hC s hX.2.1.2.1).2.1⟩, (fun _ h => absurd h List.not_mem_nil)⟩)⟩) h1 h2 h3 ?_
                  refine lv_astore (lv' := [(6, .ref q), (0, rv p0), (1, .int p1), (2, .int p2), (3, .int p3), (4, .int p4), (5, .int p5)]) hx hb dL_does_252 hl (by decide) (by simp [rv_cat, ct_i, ct_l] <;> decide) (fun ls hl => ?_)
                  refine lv_bipush (v := (-10)) hx hb dL_does_254 (by decide) ?_
                  exact hret _ _ _ _ _ _ _ dL_does_256 hw rfl
                replace h := oe k9_3 h
                cases h
              · refine x_callVNi (n := 1) (As := [.int p2]) (rest := []) hX hw (c_X6_commit g l hG hst mm p0 p2 w _ e46) gL_does_X6_commit rfl (by decide +kernel) rfl (x_nz hw c45) (c_recv hX hw (ce_6 c45) rfl) hl.1 rfl (Nat.le_of_ble_eq_true rfl) ⟨by decide, by decide⟩ dL_does_93 (fun H lc cn sn hw => ?_)
                have hw : wH g s.heap.size (w48, mm) H lc := hw
                refine lv_goto (tgt := 241) hx hb dL_does_96 (by decide) ?_
                replace h := (Option.some.inj h).symm
                exact haj73 _ _ _ _ _ _ _ h hw (lv_sub hl [] rfl)
          · replace h := ot c5 h
            refine t_aload_n hx hb dL_does_65 rfl (lv_at hl 0 rfl) ?_
            refine lv_iload_n hx hb dL_does_66 rfl (lv_at hl 2 rfl) ?_
            refine lv_iload_n hx hb dL_does_67 rfl (lv_at hl 3 rfl) ?_
            refine lv_iload hx hb dL_does_68 (lv_at hl 4 rfl) ?_
            refine lv_iconst (v := 1) hx hb dL_does_70 (by decide) ?_
            obtain ⟨aj55, h1aj55, kaj55⟩ := ob1 h
            have haj55 : ∀ (v50 : Int32) (H : Heap) (lc : List Loc) (cn sn : Nat) (ls : Array Slot), aj55 = v50 → wH g s.heap.size (w, mm) H lc → lv_has ls 7 [] → W p l e (rmO g 14 327 s.heap) s mi args below meth cd H lc cn sn Q (F0 mi 79 ls [.int v50, .int p3, .int p2, rv p0]) := by
              intro v50 H lc cn sn ls h hw hl
              replace h := kaj55 _ h
              obtain ⟨c51, h⟩ := og h
              rcases obh2 h with ⟨k9, w9, e52, h⟩ | ⟨v53, w54, e52, h⟩
              · by_cases k9_1 : k9 = 1
                · replace h := ot k9_1 h
                  replace h := (Option.some.inj h).symm
                  replace h := raj73 _ h
                  obtain ⟨rfl, rfl⟩ := Prod.mk.inj h
                  subst k9_1
                  refine x_callVE (n := 3) (As := [.int p2, .int p3, .int v50]) (rest := []) hX hw (c_X6_begin g l hG hst mm p0 p2 p3 v50 w _ e52) gL_does_X6_begin rfl (by decide +kernel) rfl (x_nz hw c51) (c_recv hX hw (ce_6 c51) rfl) hl.1 rfl (Nat.le_of_ble_eq_true rfl) ⟨by decide, by decide⟩ dL_does_79 (fun H lc cn sn q ce hw h1 h2 h3 => ?_)
                  have hw : wH g s.heap.size (w', mm) H lc := hw
                  refine tw_catch (E := exn 1) (name := "java/lang/IndexOutOfBoundsException") hX htab [] [(0, 241, 247, 71), (0, 241, 252, 73)] (0, 241, 242, 69) rfl ⟨by decide, by decide⟩ (by decide) ((hC s hX.2.1.2.1).2.2.2.1) ((hG s hX.2.1.2.1).2.2.2.2.2.1.1) (fun _ h => absurd h List.not_mem_nil) h1 h2 h3 ?_
                  refine lv_astore (lv' := [(6, .ref q)]) hx hb dL_does_242 hl (by decide) (by simp [rv_cat, ct_i, ct_l] <;> decide) (fun ls hl => ?_)
                  refine lv_bipush (v := (-30)) hx hb dL_does_244 (by decide) ?_
                  exact hret _ _ _ _ _ _ _ dL_does_246 hw rfl
                replace h := oe k9_1 h
                by_cases k9_2 : k9 = 2
                · replace h := ot k9_2 h
                  replace h := (Option.some.inj h).symm
                  replace h := raj73 _ h
                  obtain ⟨rfl, rfl⟩ := Prod.mk.inj h
                  subst k9_2
                  refine x_callVE (n := 3) (As := [.int p2, .int p3, .int v50]) (rest := []) hX hw (c_X6_begin g l hG hst mm p0 p2 p3 v50 w _ e52) gL_does_X6_begin rfl (by decide +kernel) rfl (x_nz hw c51) (c_recv hX hw (ce_6 c51) rfl) hl.1 rfl (Nat.le_of_ble_eq_true rfl) ⟨by decide, by decide⟩ dL_does_79 (fun H lc cn sn q ce hw h1 h2 h3 => ?_)
                  have hw : wH g s.heap.size (w', mm) H lc := hw
                  refine tw_catch (E := exn 2) (name := "java/lang/IllegalArgumentException") hX htab [(0, 241, 242, 69)] [(0, 241, 252, 73)] (0, 241, 247, 71) rfl ⟨by decide, by decide⟩ (by decide) ((hC s hX.2.1.2.1).2.2.2.2.1) ((hG s hX.2.1.2.1).2.2.2.2.2.1.2.1) (List.forall_mem_cons.mpr ⟨⟨by decide, "java/lang/IndexOutOfBoundsException", (hC s hX.2.1.2.1).2.2.2.1, (hC s hX.2.1.2.1).2.2.1⟩, (fun _ h => absurd h List.not_mem_nil)⟩) h1 h2 h3 ?_
                  refine lv_astore (lv' := [(6, .ref q)]) hx hb dL_does_247 hl (by decide) (by simp [rv_cat, ct_i, ct_l] <;> decide) (fun ls hl => ?_)
                  refine lv_bipush (v := (-20)) hx hb dL_does_249 (by decide) ?_
                  exact hret _ _ _ _ _ _ _ dL_does_251 hw rfl
                replace h := oe k9_2 h
                by_cases k9_3 : k9 = 3
                · replace h := ot k9_3 h
                  replace h := (Option.some.inj h).symm
                  replace h := raj73 _ h
                  obtain ⟨rfl, rfl⟩ := Prod.mk.inj h
                  subst k9_3
                  refine x_callVE (n := 3) (As := [.int p2, .int p3, .int v50]) (rest := []) hX hw (c_X6_begin g l hG hst mm p0 p2 p3 v50 w _ e52) gL_does_X6_begin rfl (by decide +kernel) rfl (x_nz hw c51) (c_recv hX hw (ce_6 c51) rfl) hl.1 rfl (Nat.le_of_ble_eq_true rfl) ⟨by decide, by decide⟩ dL_does_79 (fun H lc cn sn q ce hw h1 h2 h3 => ?_)
                  have hw : wH g s.heap.size (w', mm) H lc := hw
                  refine tw_catch (E := exn 3) (name := "java/lang/IllegalStateException") hX htab [(0, 241, 242, 69), (0, 241, 247, 71)] [] (0, 241, 252, 73) rfl ⟨by decide, by decide⟩ (by decide) ((hC s hX.2.1.2.1).2.2.2.2.2) ((hG s hX.2.1.2.1).2.2.2.2.2.1.2.2) (List.forall_mem_cons.mpr ⟨⟨by decide, "java/lang/IndexOutOfBoundsException", (hC s hX.2.1.2.1).2.2.2.1, (hC s hX.2.1.2.1).1⟩, (List.forall_mem_cons.mpr ⟨⟨by decide, "java/lang/IllegalArgumentException", (hC s hX.2.1.2.1).2.2.2.2.1, (hC s hX.2.1.2.1).2.1⟩, (fun _ h => absurd h List.not_mem_nil)⟩)⟩) h1 h2 h3 ?_
                  refine lv_astore (lv' := [(6, .ref q)]) hx hb dL_does_252 hl (by decide) (by simp [rv_cat, ct_i, ct_l] <;> decide) (fun ls hl => ?_)
                  refine lv_bipush (v := (-10)) hx hb dL_does_254 (by decide) ?_
                  exact hret _ _ _ _ _ _ _ dL_does_256 hw rfl
                replace h := oe k9_3 h
                cases h
              · refine x_callVNi (n := 3) (As := [.int p2, .int p3, .int v50]) (rest := []) hX hw (c_X6_begin g l hG hst mm p0 p2 p3 v50 w _ e52) gL_does_X6_begin rfl (by decide +kernel) rfl (x_nz hw c51) (c_recv hX hw (ce_6 c51) rfl) hl.1 rfl (Nat.le_of_ble_eq_true rfl) ⟨by decide, by decide⟩ dL_does_79 (fun H lc cn sn hw => ?_)
                have hw : wH g s.heap.size (w54, mm) H lc := hw
                refine lv_goto (tgt := 241) hx hb dL_does_82 (by decide) ?_
                replace h := (Option.some.inj h).symm
                exact haj73 _ _ _ _ _ _ _ h hw (lv_sub hl [] rfl)
            replace h := h1aj55
            refine lv_icmp_ne (tgt := 78) hx hb dL_does_71 (by decide) (fun c49 => ?_) (fun c49 => ?_)
            · replace h := oe c49 h
              refine lv_iconst (v := 0) hx hb dL_does_78 (by decide) ?_
              replace h := (Option.some.inj h).symm
              exact haj55 _ _ _ _ _ _ h hw (lv_sub hl [] rfl)
            · replace h := ot c49 h
              refine lv_iconst (v := 1) hx hb dL_does_74 (by decide) ?_
              refine lv_goto (tgt := 79) hx hb dL_does_75 (by decide) ?_
              replace h := (Option.some.inj h).symm
              exact haj55 _ _ _ _ _ _ h hw (lv_sub hl [] rfl)
        · replace h := ot c4 h
          refine t_aload_n hx hb dL_does_51 rfl (lv_at hl 0 rfl) ?_
          refine lv_iload_n hx hb dL_does_52 rfl (lv_at hl 2 rfl) ?_
          refine lv_iload_n hx hb dL_does_53 rfl (lv_at hl 3 rfl) ?_
          obtain ⟨c56, h⟩ := og h
          rcases obh2 h with ⟨k9, w9, e57, h⟩ | ⟨v58, w59, e57, h⟩
          · by_cases k9_1 : k9 = 1
            · replace h := ot k9_1 h
              replace h := (Option.some.inj h).symm
              replace h := raj73 _ h
              obtain ⟨rfl, rfl⟩ := Prod.mk.inj h
              subst k9_1
              refine x_callVE (n := 2) (As := [.int p2, .int p3]) (rest := []) hX hw (c_X6_deleteStore g l hG hst mm p0 p2 p3 w _ e57) gL_does_X6_deleteStore rfl (by decide +kernel) rfl (x_nz hw c56) (c_recv hX hw (ce_6 c56) rfl) hl.1 rfl (Nat.le_of_ble_eq_true rfl) ⟨by decide, by decide⟩ dL_does_54 (fun H lc cn sn q ce hw h1 h2 h3 => ?_)
              have hw : wH g s.heap.size (w', mm) H lc := hw
              refine tw_catch (E := exn 1) (name := "java/lang/IndexOutOfBoundsException") hX htab [] [(0, 241, 247, 71), (0, 241, 252, 73)] (0, 241, 242, 69) rfl ⟨by decide, by decide⟩ (by decide) ((hC s hX.2.1.2.1).2.2.2.1) ((hG s hX.2.1.2.1).2.2.2.2.2.1.1) (fun _ h => absurd h List.not_mem_nil) h1 h2 h3 ?_
              refine lv_astore (lv' := [(6, .ref q), (0, rv p0), (1, .int p1), (2, .int p2), (3, .int p3), (4, .int p4), (5, .int p5)]) hx hb dL_does_242 hl (by decide) (by simp [rv_cat, ct_i, ct_l] <;> decide) (fun ls hl => ?_)
              refine lv_bipush (v := (-30)) hx hb dL_does_244 (by decide) ?_
              exact hret _ _ _ _ _ _ _ dL_does_246 hw rfl
            replace h := oe k9_1 h
            by_cases k9_2 : k9 = 2
            · replace h := ot k9_2 h
              replace h := (Option.some.inj h).symm
              replace h := raj73 _ h
              obtain ⟨rfl, rfl⟩ := Prod.mk.inj h
              subst k9_2
              refine x_callVE (n := 2) (As := [.int p2, .int p3]) (rest := []) hX hw (c_X6_deleteStore g l hG hst mm p0 p2 p3 w _ e57) gL_does_X6_deleteStore rfl (by decide +kernel) rfl (x_nz hw c56) (c_recv hX hw (ce_6 c56) rfl) hl.1 rfl (Nat.le_of_ble_eq_true rfl) ⟨by decide, by decide⟩ dL_does_54 (fun H lc cn sn q ce hw h1 h2 h3 => ?_)
              have hw : wH g s.heap.size (w', mm) H lc := hw
              refine tw_catch (E := exn 2) (name := "java/lang/IllegalArgumentException") hX htab [(0, 241, 242, 69)] [(0, 241, 252, 73)] (0, 241, 247, 71) rfl ⟨by decide, by decide⟩ (by decide) ((hC s hX.2.1.2.1).2.2.2.2.1) ((hG s hX.2.1.2.1).2.2.2.2.2.1.2.1) (List.forall_mem_cons.mpr ⟨⟨by decide, "java/lang/IndexOutOfBoundsException", (hC s hX.2.1.2.1).2.2.2.1, (hC s hX.2.1.2.1).2.2.1⟩, (fun _ h => absurd h List.not_mem_nil)⟩) h1 h2 h3 ?_
              refine lv_astore (lv' := [(6, .ref q), (0, rv p0), (1, .int p1), (2, .int p2), (3, .int p3), (4, .int p4), (5, .int p5)]) hx hb dL_does_247 hl (by decide) (by simp [rv_cat, ct_i, ct_l] <;> decide) (fun ls hl => ?_)
              refine lv_bipush (v := (-20)) hx hb dL_does_249 (by decide) ?_
              exact hret _ _ _ _ _ _ _ dL_does_251 hw rfl
            replace h := oe k9_2 h
            by_cases k9_3 : k9 = 3
            · replace h := ot k9_3 h
              replace h := (Option.some.inj h).symm
              replace h := raj73 _ h
              obtain ⟨rfl, rfl⟩ := Prod.mk.inj h
              subst k9_3
              refine x_callVE (n := 2) (As := [.int p2, .int p3]) (rest := []) hX hw (c_X6_deleteStore g l hG hst mm p0 p2 p3 w _ e57) gL_does_X6_deleteStore rfl (by decide +kernel) rfl (x_nz hw c56) (c_recv hX hw (ce_6 c56) rfl) hl.1 rfl (Nat.le_of_ble_eq_true rfl) ⟨by decide, by decide⟩ dL_does_54 (fun H lc cn sn q ce hw h1 h2 h3 => ?_)
              have hw : wH g s.heap.size (w', mm) H lc := hw
              refine tw_catch (E := exn 3) (name := "java/lang/IllegalStateException") hX htab [(0, 241, 242, 69), (0, 241, 247, 71)] [] (0, 241, 252, 73) rfl ⟨by decide, by decide⟩ (by decide) ((hC s hX.2.1.2.1).2.2.2.2.2) ((hG s hX.2.1.2.1).2.2.2.2.2.1.2.2) (List.forall_mem_cons.mpr ⟨⟨by decide, "java/lang/IndexOutOfBoundsException", (hC s hX.2.1.2.1).2.2.2.1, (hC s hX.2.1.2.1).1⟩, (List.forall_mem_cons.mpr ⟨⟨by decide, "java/lang/IllegalArgumentException", (hC s hX.2.1.2.1).2.2.2.2.1, (hC s hX.2.1.2.1).2.1⟩, (fun _ h => absurd h List.not_mem_nil)⟩)⟩) h1 h2 h3 ?_
              refine lv_astore (lv' := [(6, .ref q), (0, rv p0), (1, .int p1), (2, .int p2), (3, .int p3), (4, .int p4), (5, .int p5)]) hx hb dL_does_252 hl (by decide) (by simp [rv_cat, ct_i, ct_l] <;> decide) (fun ls hl => ?_)
              refine lv_bipush (v := (-10)) hx hb dL_does_254 (by decide) ?_
              exact hret _ _ _ _ _ _ _ dL_does_256 hw rfl
            replace h := oe k9_3 h
            cases h
          · refine x_callVNi (n := 2) (As := [.int p2, .int p3]) (rest := []) hX hw (c_X6_deleteStore g l hG hst mm p0 p2 p3 w _ e57) gL_does_X6_deleteStore rfl (by decide +kernel) rfl (x_nz hw c56) (c_recv hX hw (ce_6 c56) rfl) hl.1 rfl (Nat.le_of_ble_eq_true rfl) ⟨by decide, by decide⟩ dL_does_54 (fun H lc cn sn hw => ?_)
            have hw : wH g s.heap.size (w59, mm) H lc := hw
            refine lv_goto (tgt := 241) hx hb dL_does_57 (by decide) ?_
            replace h := (Option.some.inj h).symm
            exact haj73 _ _ _ _ _ _ _ h hw (lv_sub hl [] rfl)
      · replace h := ot c3 h
        refine t_aload_n hx hb dL_does_38 rfl (lv_at hl 0 rfl) ?_
        refine lv_iload_n hx hb dL_does_39 rfl (lv_at hl 2 rfl) ?_
        obtain ⟨c60, h⟩ := og h
        rcases obh2 h with ⟨k9, w9, e61, h⟩ | ⟨v62, w63, e61, h⟩
        · by_cases k9_1 : k9 = 1
          · replace h := ot k9_1 h
            replace h := (Option.some.inj h).symm
            replace h := raj73 _ h
            obtain ⟨rfl, rfl⟩ := Prod.mk.inj h
            subst k9_1
            refine x_callVE (n := 1) (As := [.int p2]) (rest := []) hX hw (c_X6_close g l hG hst mm p0 p2 w _ e61) gL_does_X6_close rfl (by decide +kernel) rfl (x_nz hw c60) (c_recv hX hw (ce_6 c60) rfl) hl.1 rfl (Nat.le_of_ble_eq_true rfl) ⟨by decide, by decide⟩ dL_does_40 (fun H lc cn sn q ce hw h1 h2 h3 => ?_)
            have hw : wH g s.heap.size (w', mm) H lc := hw
            refine tw_catch (E := exn 1) (name := "java/lang/IndexOutOfBoundsException") hX htab [] [(0, 241, 247, 71), (0, 241, 252, 73)] (0, 241, 242, 69) rfl ⟨by decide, by decide⟩ (by decide) ((hC s hX.2.1.2.1).2.2.2.1) ((hG s hX.2.1.2.1).2.2.2.2.2.1.1) (fun _ h => absurd h List.not_mem_nil) h1 h2 h3 ?_
            refine lv_astore (lv' := [(6, .ref q), (0, rv p0), (1, .int p1), (2, .int p2), (3, .int p3), (4, .int p4), (5, .int p5)]) hx hb dL_does_242 hl (by decide) (by simp [rv_cat, ct_i, ct_l] <;> decide) (fun ls hl => ?_)
            refine lv_bipush (v := (-30)) hx hb dL_does_244 (by decide) ?_
            exact hret _ _ _ _ _ _ _ dL_does_246 hw rfl
          replace h := oe k9_1 h
          by_cases k9_2 : k9 = 2
          · replace h := ot k9_2 h
            replace h := (Option.some.inj h).symm
            replace h := raj73 _ h
            obtain ⟨rfl, rfl⟩ := Prod.mk.inj h
            subst k9_2
            refine x_callVE (n := 1) (As := [.int p2]) (rest := []) hX hw (c_X6_close g l hG hst mm p0 p2 w _ e61) gL_does_X6_close rfl (by decide +kernel) rfl (x_nz hw c60) (c_recv hX hw (ce_6 c60) rfl) hl.1 rfl (Nat.le_of_ble_eq_true rfl) ⟨by decide, by decide⟩ dL_does_40 (fun H lc cn sn q ce hw h1 h2 h3 => ?_)
            have hw : wH g s.heap.size (w', mm) H lc := hw
            refine tw_catch (E := exn 2) (name := "java/lang/IllegalArgumentException") hX htab [(0, 241, 242, 69)] [(0, 241, 252, 73)] (0, 241, 247, 71) rfl ⟨by decide, by decide⟩ (by decide) ((hC s hX.2.1.2.1).2.2.2.2.1) ((hG s hX.2.1.2.1).2.2.2.2.2.1.2.1) (List.forall_mem_cons.mpr ⟨⟨by decide, "java/lang/IndexOutOfBoundsException", (hC s hX.2.1.2.1).2.2.2.1, (hC s hX.2.1.2.1).2.2.1⟩, (fun _ h => absurd h List.not_mem_nil)⟩) h1 h2 h3 ?_
            refine lv_astore (lv' := [(6, .ref q), (0, rv p0), (1, .int p1), (2, .int p2), (3, .int p3), (4, .int p4), (5, .int p5)]) hx hb dL_does_247 hl (by decide) (by simp [rv_cat, ct_i, ct_l] <;> decide) (fun ls hl => ?_)
            refine lv_bipush (v := (-20)) hx hb dL_does_249 (by decide) ?_
            exact hret _ _ _ _ _ _ _ dL_does_251 hw rfl
          replace h := oe k9_2 h
          by_cases k9_3 : k9 = 3
          · replace h := ot k9_3 h
            replace h := (Option.some.inj h).symm
            replace h := raj73 _ h
            obtain ⟨rfl, rfl⟩ := Prod.mk.inj h
            subst k9_3
            refine x_callVE (n := 1) (As := [.int p2]) (rest := []) hX hw (c_X6_close g l hG hst mm p0 p2 w _ e61) gL_does_X6_close rfl (by decide +kernel) rfl (x_nz hw c60) (c_recv hX hw (ce_6 c60) rfl) hl.1 rfl (Nat.le_of_ble_eq_true rfl) ⟨by decide, by decide⟩ dL_does_40 (fun H lc cn sn q ce hw h1 h2 h3 => ?_)
            have hw : wH g s.heap.size (w', mm) H lc := hw
            refine tw_catch (E := exn 3) (name := "java/lang/IllegalStateException") hX htab [(0, 241, 242, 69), (0, 241, 247, 71)] [] (0, 241, 252, 73) rfl ⟨by decide, by decide⟩ (by decide) ((hC s hX.2.1.2.1).2.2.2.2.2) ((hG s hX.2.1.2.1).2.2.2.2.2.1.2.2) (List.forall_mem_cons.mpr ⟨⟨by decide, "java/lang/IndexOutOfBoundsException", (hC s hX.2.1.2.1).2.2.2.1, (hC s hX.2.1.2.1).1⟩, (List.forall_mem_cons.mpr ⟨⟨by decide, "java/lang/IllegalArgumentException", (hC s hX.2.1.2.1).2.2.2.2.1, (hC s hX.2.1.2.1).2.1⟩, (fun _ h => absurd h List.not_mem_nil)⟩)⟩) h1 h2 h3 ?_
            refine lv_astore (lv' := [(6, .ref q), (0, rv p0), (1, .int p1), (2, .int p2), (3, .int p3), (4, .int p4), (5, .int p5)]) hx hb dL_does_252 hl (by decide) (by simp [rv_cat, ct_i, ct_l] <;> decide) (fun ls hl => ?_)
            refine lv_bipush (v := (-10)) hx hb dL_does_254 (by decide) ?_
            exact hret _ _ _ _ _ _ _ dL_does_256 hw rfl
          replace h := oe k9_3 h
          cases h
        · refine x_callVNi (n := 1) (As := [.int p2]) (rest := []) hX hw (c_X6_close g l hG hst mm p0 p2 w _ e61) gL_does_X6_close rfl (by decide +kernel) rfl (x_nz hw c60) (c_recv hX hw (ce_6 c60) rfl) hl.1 rfl (Nat.le_of_ble_eq_true rfl) ⟨by decide, by decide⟩ dL_does_40 (fun H lc cn sn hw => ?_)
          have hw : wH g s.heap.size (w63, mm) H lc := hw
          refine lv_goto (tgt := 241) hx hb dL_does_43 (by decide) ?_
          replace h := (Option.some.inj h).symm
          exact haj73 _ _ _ _ _ _ _ h hw (lv_sub hl [] rfl)
    · replace h := ot c2 h
      refine t_aload_n hx hb dL_does_24 rfl (lv_at hl 0 rfl) ?_
      refine lv_iload_n hx hb dL_does_25 rfl (lv_at hl 2 rfl) ?_
      refine lv_iload_n hx hb dL_does_26 rfl (lv_at hl 3 rfl) ?_
      obtain ⟨c64, h⟩ := og h
      rcases obh2 h with ⟨k9, w9, e65, h⟩ | ⟨v66, w67, e65, h⟩
      · by_cases k9_1 : k9 = 1
        · replace h := ot k9_1 h
          replace h := (Option.some.inj h).symm
          replace h := raj73 _ h
          obtain ⟨rfl, rfl⟩ := Prod.mk.inj h
          subst k9_1
          refine x_callVE (n := 2) (As := [.int p2, .int p3]) (rest := []) hX hw (c_X6_open g l hG hst mm p0 p2 p3 w _ e65) gL_does_X6_open rfl (by decide +kernel) rfl (x_nz hw c64) (c_recv hX hw (ce_6 c64) rfl) hl.1 rfl (Nat.le_of_ble_eq_true rfl) ⟨by decide, by decide⟩ dL_does_27 (fun H lc cn sn q ce hw h1 h2 h3 => ?_)
          have hw : wH g s.heap.size (w', mm) H lc := hw
          refine tw_catch (E := exn 1) (name := "java/lang/IndexOutOfBoundsException") hX htab [] [(0, 241, 247, 71), (0, 241, 252, 73)] (0, 241, 242, 69) rfl ⟨by decide, by decide⟩ (by decide) ((hC s hX.2.1.2.1).2.2.2.1) ((hG s hX.2.1.2.1).2.2.2.2.2.1.1) (fun _ h => absurd h List.not_mem_nil) h1 h2 h3 ?_
          refine lv_astore (lv' := [(6, .ref q), (0, rv p0), (1, .int p1), (2, .int p2), (3, .int p3), (4, .int p4), (5, .int p5)]) hx hb dL_does_242 hl (by decide) (by simp [rv_cat, ct_i, ct_l] <;> decide) (fun ls hl => ?_)
          refine lv_bipush (v := (-30)) hx hb dL_does_244 (by decide) ?_
          exact hret _ _ _ _ _ _ _ dL_does_246 hw rfl
        replace h := oe k9_1 h
        by_cases k9_2 : k9 = 2
        · replace h := ot k9_2 h
          replace h := (Option.some.inj h).symm
          replace h := raj73 _ h
          obtain ⟨rfl, rfl⟩ := Prod.mk.inj h
          subst k9_2
          refine x_callVE (n := 2) (As := [.int p2, .int p3]) (rest := []) hX hw (c_X6_open g l hG hst mm p0 p2 p3 w _ e65) gL_does_X6_open rfl (by decide +kernel) rfl (x_nz hw c64) (c_recv hX hw (ce_6 c64) rfl) hl.1 rfl (Nat.le_of_ble_eq_true rfl) ⟨by decide, by decide⟩ dL_does_27 (fun H lc cn sn q ce hw h1 h2 h3 => ?_)
          have hw : wH g s.heap.size (w', mm) H lc := hw
          refine tw_catch (E := exn 2) (name := "java/lang/IllegalArgumentException") hX htab [(0, 241, 242, 69)] [(0, 241, 252, 73)] (0, 241, 247, 71) rfl ⟨by decide, by decide⟩ (by decide) ((hC s hX.2.1.2.1).2.2.2.2.1) ((hG s hX.2.1.2.1).2.2.2.2.2.1.2.1) (List.forall_mem_cons.mpr ⟨⟨by decide, "java/lang/IndexOutOfBoundsException", (hC s hX.2.1.2.1).2.2.2.1, (hC s hX.2.1.2.1).2.2.1⟩, (fun _ h => absurd h List.not_mem_nil)⟩) h1 h2 h3 ?_
          refine lv_astore (lv' := [(6, .ref q), (0, rv p0), (1, .int p1), (2, .int p2), (3, .int p3), (4, .int p4), (5, .int p5)]) hx hb dL_does_247 hl (by decide) (by simp [rv_cat, ct_i, ct_l] <;> decide) (fun ls hl => ?_)
          refine lv_bipush (v := (-20)) hx hb dL_does_249 (by decide) ?_
          exact hret _ _ _ _ _ _ _ dL_does_251 hw rfl
        replace h := oe k9_2 h
        by_cases k9_3 : k9 = 3
        · replace h := ot k9_3 h
          replace h := (Option.some.inj h).symm
          replace h := raj73 _ h
          obtain ⟨rfl, rfl⟩ := Prod.mk.inj h
          subst k9_3
          refine x_callVE (n := 2) (As := [.int p2, .int p3]) (rest := []) hX hw (c_X6_open g l hG hst mm p0 p2 p3 w _ e65) gL_does_X6_open rfl (by decide +kernel) rfl (x_nz hw c64) (c_recv hX hw (ce_6 c64) rfl) hl.1 rfl (Nat.le_of_ble_eq_true rfl) ⟨by decide, by decide⟩ dL_does_27 (fun H lc cn sn q ce hw h1 h2 h3 => ?_)
          have hw : wH g s.heap.size (w', mm) H lc := hw
          refine tw_catch (E := exn 3) (name := "java/lang/IllegalStateException") hX htab [(0, 241, 242, 69), (0, 241, 247, 71)] [] (0, 241, 252, 73) rfl ⟨by decide, by decide⟩ (by decide) ((hC s hX.2.1.2.1).2.2.2.2.2) ((hG s hX.2.1.2.1).2.2.2.2.2.1.2.2) (List.forall_mem_cons.mpr ⟨⟨by decide, "java/lang/IndexOutOfBoundsException", (hC s hX.2.1.2.1).2.2.2.1, (hC s hX.2.1.2.1).1⟩, (List.forall_mem_cons.mpr ⟨⟨by decide, "java/lang/IllegalArgumentException", (hC s hX.2.1.2.1).2.2.2.2.1, (hC s hX.2.1.2.1).2.1⟩, (fun _ h => absurd h List.not_mem_nil)⟩)⟩) h1 h2 h3 ?_
          refine lv_astore (lv' := [(6, .ref q), (0, rv p0), (1, .int p1), (2, .int p2), (3, .int p3), (4, .int p4), (5, .int p5)]) hx hb dL_does_252 hl (by decide) (by simp [rv_cat, ct_i, ct_l] <;> decide) (fun ls hl => ?_)
          refine lv_bipush (v := (-10)) hx hb dL_does_254 (by decide) ?_
          exact hret _ _ _ _ _ _ _ dL_does_256 hw rfl
        replace h := oe k9_3 h
        cases h
      · refine x_callVNi (n := 2) (As := [.int p2, .int p3]) (rest := []) hX hw (c_X6_open g l hG hst mm p0 p2 p3 w _ e65) gL_does_X6_open rfl (by decide +kernel) rfl (x_nz hw c64) (c_recv hX hw (ce_6 c64) rfl) hl.1 rfl (Nat.le_of_ble_eq_true rfl) ⟨by decide, by decide⟩ dL_does_27 (fun H lc cn sn hw => ?_)
        have hw : wH g s.heap.size (w67, mm) H lc := hw
        refine lv_goto (tgt := 241) hx hb dL_does_30 (by decide) ?_
        replace h := (Option.some.inj h).symm
        exact haj73 _ _ _ _ _ _ _ h hw (lv_sub hl [] rfl)
  · replace h := oe c1 h
    refine t_aload_n hx hb dL_does_5 rfl (lv_at hl 0 rfl) ?_
    refine lv_iload_n hx hb dL_does_6 rfl (lv_at hl 1 rfl) ?_
    refine lv_iload_n hx hb dL_does_7 rfl (lv_at hl 2 rfl) ?_
    refine lv_iload_n hx hb dL_does_8 rfl (lv_at hl 3 rfl) ?_
    refine lv_iload hx hb dL_does_9 (lv_at hl 4 rfl) ?_
    refine lv_iload hx hb dL_does_11 (lv_at hl 5 rfl) ?_
    rcases obh2 h with ⟨k9, w9, e68, h⟩ | ⟨v69, w70, e68, h⟩
    · by_cases k9_1 : k9 = 1
      · replace h := ot k9_1 h
        replace h := (Option.some.inj h).symm
        replace h := raj73 _ h
        obtain ⟨rfl, rfl⟩ := Prod.mk.inj h
        subst k9_1
        refine x_callSE (n := 6) (As := [rv p0, .int p1, .int p2, .int p3, .int p4, .int p5]) (rest := []) hX hw (c_L_told g l hG hst mm p0 p1 p2 p3 p4 p5 w _ e68) gL_does_L_told rfl (by decide +kernel) rfl hl.1 rfl (Nat.le_of_ble_eq_true rfl) ⟨by decide, by decide⟩ dL_does_13 (fun H lc cn sn q ce hw h1 h2 h3 => ?_)
        have hw : wH g s.heap.size (w', mm) H lc := hw
        refine tw_catch (E := exn 1) (name := "java/lang/IndexOutOfBoundsException") hX htab [] [(0, 241, 247, 71), (0, 241, 252, 73)] (0, 241, 242, 69) rfl ⟨by decide, by decide⟩ (by decide) ((hC s hX.2.1.2.1).2.2.2.1) ((hG s hX.2.1.2.1).2.2.2.2.2.1.1) (fun _ h => absurd h List.not_mem_nil) h1 h2 h3 ?_
        refine lv_astore (lv' := [(6, .ref q), (0, rv p0), (1, .int p1), (2, .int p2), (3, .int p3), (4, .int p4), (5, .int p5)]) hx hb dL_does_242 hl (by decide) (by simp [rv_cat, ct_i, ct_l] <;> decide) (fun ls hl => ?_)
        refine lv_bipush (v := (-30)) hx hb dL_does_244 (by decide) ?_
        exact hret _ _ _ _ _ _ _ dL_does_246 hw rfl
      replace h := oe k9_1 h
      by_cases k9_2 : k9 = 2
      · replace h := ot k9_2 h
        replace h := (Option.some.inj h).symm
        replace h := raj73 _ h
        obtain ⟨rfl, rfl⟩ := Prod.mk.inj h
        subst k9_2
        refine x_callSE (n := 6) (As := [rv p0, .int p1, .int p2, .int p3, .int p4, .int p5]) (rest := []) hX hw (c_L_told g l hG hst mm p0 p1 p2 p3 p4 p5 w _ e68) gL_does_L_told rfl (by decide +kernel) rfl hl.1 rfl (Nat.le_of_ble_eq_true rfl) ⟨by decide, by decide⟩ dL_does_13 (fun H lc cn sn q ce hw h1 h2 h3 => ?_)
        have hw : wH g s.heap.size (w', mm) H lc := hw
        refine tw_catch (E := exn 2) (name := "java/lang/IllegalArgumentException") hX htab [(0, 241, 242, 69)] [(0, 241, 252, 73)] (0, 241, 247, 71) rfl ⟨by decide, by decide⟩ (by decide) ((hC s hX.2.1.2.1).2.2.2.2.1) ((hG s hX.2.1.2.1).2.2.2.2.2.1.2.1) (List.forall_mem_cons.mpr ⟨⟨by decide, "java/lang/IndexOutOfBoundsException", (hC s hX.2.1.2.1).2.2.2.1, (hC s hX.2.1.2.1).2.2.1⟩, (fun _ h => absurd h List.not_mem_nil)⟩) h1 h2 h3 ?_
        refine lv_astore (lv' := [(6, .ref q), (0, rv p0), (1, .int p1), (2, .int p2), (3, .int p3), (4, .int p4), (5, .int p5)]) hx hb dL_does_247 hl (by decide) (by simp [rv_cat, ct_i, ct_l] <;> decide) (fun ls hl => ?_)
        refine lv_bipush (v := (-20)) hx hb dL_does_249 (by decide) ?_
        exact hret _ _ _ _ _ _ _ dL_does_251 hw rfl
      replace h := oe k9_2 h
      by_cases k9_3 : k9 = 3
      · replace h := ot k9_3 h
        replace h := (Option.some.inj h).symm
        replace h := raj73 _ h
        obtain ⟨rfl, rfl⟩ := Prod.mk.inj h
        subst k9_3
        refine x_callSE (n := 6) (As := [rv p0, .int p1, .int p2, .int p3, .int p4, .int p5]) (rest := []) hX hw (c_L_told g l hG hst mm p0 p1 p2 p3 p4 p5 w _ e68) gL_does_L_told rfl (by decide +kernel) rfl hl.1 rfl (Nat.le_of_ble_eq_true rfl) ⟨by decide, by decide⟩ dL_does_13 (fun H lc cn sn q ce hw h1 h2 h3 => ?_)
        have hw : wH g s.heap.size (w', mm) H lc := hw
        refine tw_catch (E := exn 3) (name := "java/lang/IllegalStateException") hX htab [(0, 241, 242, 69), (0, 241, 247, 71)] [] (0, 241, 252, 73) rfl ⟨by decide, by decide⟩ (by decide) ((hC s hX.2.1.2.1).2.2.2.2.2) ((hG s hX.2.1.2.1).2.2.2.2.2.1.2.2) (List.forall_mem_cons.mpr ⟨⟨by decide, "java/lang/IndexOutOfBoundsException", (hC s hX.2.1.2.1).2.2.2.1, (hC s hX.2.1.2.1).1⟩, (List.forall_mem_cons.mpr ⟨⟨by decide, "java/lang/IllegalArgumentException", (hC s hX.2.1.2.1).2.2.2.2.1, (hC s hX.2.1.2.1).2.1⟩, (fun _ h => absurd h List.not_mem_nil)⟩)⟩) h1 h2 h3 ?_
        refine lv_astore (lv' := [(6, .ref q), (0, rv p0), (1, .int p1), (2, .int p2), (3, .int p3), (4, .int p4), (5, .int p5)]) hx hb dL_does_252 hl (by decide) (by simp [rv_cat, ct_i, ct_l] <;> decide) (fun ls hl => ?_)
        refine lv_bipush (v := (-10)) hx hb dL_does_254 (by decide) ?_
        exact hret _ _ _ _ _ _ _ dL_does_256 hw rfl
      replace h := oe k9_3 h
      cases h
    · refine x_callSNi (n := 6) (As := [rv p0, .int p1, .int p2, .int p3, .int p4, .int p5]) (rest := []) hX hw (c_L_told g l hG hst mm p0 p1 p2 p3 p4 p5 w _ e68) gL_does_L_told rfl (by decide +kernel) rfl hl.1 rfl (Nat.le_of_ble_eq_true rfl) ⟨by decide, by decide⟩ dL_does_13 (fun H lc cn sn hw => ?_)
      have hw : wH g s.heap.size (w70, mm) H lc := hw
      refine lv_goto (tgt := 241) hx hb dL_does_16 (by decide) ?_
      replace h := (Option.some.inj h).symm
      exact haj73 _ _ _ _ _ _ _ h hw (lv_sub hl [] rfl)

def x_L_asks (p0 : Nat) (p1 : Int32) (p2 : Int32) (w : CS) : Option (Int32 × CS) :=
  l1 (
    if (p1 : Int32) = 0 then
      if wJ w 0 p0 = 6 then
      bh3 (x_X6_state p0 p2 w) (fun k9 w9 => if k9 = 1 then some (.inr (((-30) : Int32), w9)) else none) (fun (v7 : Int32) =>
      some (.inl v7))
      else none
    else
      if wJ w 0 p0 = 6 then
      bh3 (x_X6_standing p0 p2 w) (fun k9 w9 => if k9 = 1 then some (.inr (((-30) : Int32), w9)) else none) (fun (v4 : Int32) =>
      some (.inl v4))
      else none) (fun (v8 : Int32) =>
  some ((v8, w)))
set_option maxHeartbeats 4000000 in
set_option maxRecDepth 100000 in
theorem c_L_asks (g : GG) (l : Launch) (hG : XG g) (hC : NC g) (hst : l.stackTraces = false) (mm : MS) (p0 : Nat) (p1 : Int32) (p2 : Int32) (w : CS) (r : Int32) (w' : CS) (h : x_L_asks p0 p1 p2 w = some (r, w')) : MetG g l yL_asks wsL_asks 8 124 [rv p0, .int p1, .int p2] (w, mm) (some (.int r)) (w', mm) := by
  refine g_startW_i (hh := [(0, 17, 18, 69)]) (some (.int r)) (own := RL) (by decide +kernel) rfl rfl (by simp [lg_sl, rv_cat, ct_i, ct_l]) ?_
  intro p e s mi args below meth cd ls Q hX htab hw hl hret
  have hl : lv_has ls 4 [(0, rv p0), (1, .int p1), (2, .int p2)] := by simpa [lv_args, rv_cat, ct_i, ct_l] using hl
  obtain ⟨⟨hx, hb, -, hown, hts⟩, -⟩ := id hX
  unfold x_L_asks at h
  refine lv_iload_n hx hb dL_asks_0 rfl (lv_at hl 1 rfl) ?_
  obtain ⟨aj9, h1aj9, kaj9, raj9⟩ := ol1 h
  have haj9 : ∀ (v8 : Int32) (H : Heap) (lc : List Loc) (cn sn : Nat) (ls : Array Slot), aj9 = Sum.inl v8 → wH g s.heap.size (w, mm) H lc → lv_has ls 4 [] → W p l e (rmO g 8 124 s.heap) s mi args below meth cd H lc cn sn Q (F0 mi 17 ls [.int v8]) := by
    intro v8 H lc cn sn ls h hw hl
    replace h := kaj9 _ h
    replace h := (Option.some.inj h).symm
    obtain ⟨rfl, rfl⟩ := Prod.mk.inj h
    exact hret _ _ _ _ _ _ _ dL_asks_17 hw rfl
  replace h := h1aj9
  refine lv_if_ne (tgt := 12) hx hb dL_asks_1 (by decide) (fun c1 => ?_) (fun c1 => ?_)
  · replace h := oe c1 h
    refine t_aload_n hx hb dL_asks_12 rfl (lv_at hl 0 rfl) ?_
    refine lv_iload_n hx hb dL_asks_13 rfl (lv_at hl 2 rfl) ?_
    obtain ⟨c2, h⟩ := og h
    rcases obh3 h with ⟨k9, w9, e3, h⟩ | ⟨v4, e3, h⟩
    · by_cases k9_1 : k9 = 1
      · replace h := ot k9_1 h
        replace h := (Option.some.inj h).symm
        replace h := raj9 _ h
        obtain ⟨rfl, rfl⟩ := Prod.mk.inj h
        subst k9_1
        refine x_callVE (n := 1) (As := [.int p2]) (rest := []) hX hw (c_X6_standing g l hG hst mm p0 p2 w _ e3) gL_asks_X6_standing rfl (by decide +kernel) rfl (x_nz hw c2) (c_recv hX hw (ce_6 c2) rfl) hl.1 rfl (Nat.le_of_ble_eq_true rfl) ⟨by decide, by decide⟩ dL_asks_14 (fun H lc cn sn q ce hw h1 h2 h3 => ?_)
        have hw : wH g s.heap.size (w', mm) H lc := hw
        refine tw_catch (E := exn 1) (name := "java/lang/IndexOutOfBoundsException") hX htab [] [] (0, 17, 18, 69) rfl ⟨by decide, by decide⟩ (by decide) ((hC s hX.2.1.2.1).2.2.2.1) ((hG s hX.2.1.2.1).2.2.2.2.2.1.1) (fun _ h => absurd h List.not_mem_nil) h1 h2 h3 ?_
        refine lv_astore_n (lv' := [(3, .ref q), (0, rv p0), (1, .int p1), (2, .int p2)]) hx hb dL_asks_18 rfl hl (by decide) (by simp [rv_cat, ct_i, ct_l] <;> decide) (fun ls hl => ?_)
        refine lv_bipush (v := (-30)) hx hb dL_asks_19 (by decide) ?_
        exact hret _ _ _ _ _ _ _ dL_asks_21 hw rfl
      replace h := oe k9_1 h
      cases h
    · refine x_callVNi (n := 1) (As := [.int p2]) (rest := []) hX hw (c_X6_standing g l hG hst mm p0 p2 w _ e3) gL_asks_X6_standing rfl (by decide +kernel) rfl (x_nz hw c2) (c_recv hX hw (ce_6 c2) rfl) hl.1 rfl (Nat.le_of_ble_eq_true rfl) ⟨by decide, by decide⟩ dL_asks_14 (fun H lc cn sn hw => ?_)
      have hw : wH g s.heap.size (w, mm) H lc := hw
      replace h := (Option.some.inj h).symm
      exact haj9 _ _ _ _ _ _ h hw (lv_sub hl [] rfl)
  · replace h := ot c1 h
    refine t_aload_n hx hb dL_asks_4 rfl (lv_at hl 0 rfl) ?_
    refine lv_iload_n hx hb dL_asks_5 rfl (lv_at hl 2 rfl) ?_
    obtain ⟨c5, h⟩ := og h
    rcases obh3 h with ⟨k9, w9, e6, h⟩ | ⟨v7, e6, h⟩
    · by_cases k9_1 : k9 = 1
      · replace h := ot k9_1 h
        replace h := (Option.some.inj h).symm
        replace h := raj9 _ h
        obtain ⟨rfl, rfl⟩ := Prod.mk.inj h
        subst k9_1
        refine x_callVE (n := 1) (As := [.int p2]) (rest := []) hX hw (c_X6_state g l hG hst mm p0 p2 w _ e6) gL_asks_X6_state rfl (by decide +kernel) rfl (x_nz hw c5) (c_recv hX hw (ce_6 c5) rfl) hl.1 rfl (Nat.le_of_ble_eq_true rfl) ⟨by decide, by decide⟩ dL_asks_6 (fun H lc cn sn q ce hw h1 h2 h3 => ?_)
        have hw : wH g s.heap.size (w', mm) H lc := hw
        refine tw_catch (E := exn 1) (name := "java/lang/IndexOutOfBoundsException") hX htab [] [] (0, 17, 18, 69) rfl ⟨by decide, by decide⟩ (by decide) ((hC s hX.2.1.2.1).2.2.2.1) ((hG s hX.2.1.2.1).2.2.2.2.2.1.1) (fun _ h => absurd h List.not_mem_nil) h1 h2 h3 ?_
        refine lv_astore_n (lv' := [(3, .ref q), (0, rv p0), (1, .int p1), (2, .int p2)]) hx hb dL_asks_18 rfl hl (by decide) (by simp [rv_cat, ct_i, ct_l] <;> decide) (fun ls hl => ?_)
        refine lv_bipush (v := (-30)) hx hb dL_asks_19 (by decide) ?_
        exact hret _ _ _ _ _ _ _ dL_asks_21 hw rfl
      replace h := oe k9_1 h
      cases h
    · refine x_callVNi (n := 1) (As := [.int p2]) (rest := []) hX hw (c_X6_state g l hG hst mm p0 p2 w _ e6) gL_asks_X6_state rfl (by decide +kernel) rfl (x_nz hw c5) (c_recv hX hw (ce_6 c5) rfl) hl.1 rfl (Nat.le_of_ble_eq_true rfl) ⟨by decide, by decide⟩ dL_asks_6 (fun H lc cn sn hw => ?_)
      have hw : wH g s.heap.size (w, mm) H lc := hw
      refine lv_goto (tgt := 17) hx hb dL_asks_9 (by decide) ?_
      replace h := (Option.some.inj h).symm
      exact haj9 _ _ _ _ _ _ h hw (lv_sub hl [] rfl)
