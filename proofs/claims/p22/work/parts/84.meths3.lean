/-! ===== the law's checks (printed by gp.py) ===== -/
def x_L_isOpened (p0 : Nat) (p5 : Int32) (p6 : Int32) (w : CS) (mm : MS) : Option (Int32 × CS × MS) :=
  bd (
    if (4 : Int32) ≤ p5 then
      some (0 : Int32)
    else
      some (1 : Int32)) (fun (v2 : Int32) =>
  bd (
    l0 (
      if (p6 : Int32) ≤ 0 then
        some (.inl ())
      else
        if (101 : Int32) ≤ p6 then
          some (.inl ())
        else
          some (.inr ((1 : Int32)))) (fun (_ : Unit) =>
    some (0 : Int32))) (fun (v6 : Int32) =>
  bd (
    l0 (
      if (v2 : Int32) = 0 then
        some (.inl ())
      else
        if vR (3 * p5) 16 then
        if ((ga mm 3 (3 * p5).toNatClampNeg) : Int32) = 0 then
          if vR 12 16 then
          if (p6 : Int32) < (ga mm 3 (12 : Int32).toNatClampNeg) then
            some (.inl ())
          else
            if vR 12 16 then
            l0 (
              if ((ga mm 3 (12 : Int32).toNatClampNeg) : Int32) < p6 then
                some (.inl ())
              else
                if vR 13 16 then
                if (0 : Int32) ≤ (ga mm 3 (13 : Int32).toNatClampNeg) then
                  some (.inr (.inl ()))
                else
                  some (.inl ())
                else none) (fun (_ : Unit) =>
            some (.inr ((1 : Int32))))
            else none
          else none
        else
          some (.inl ())
        else none) (fun (_ : Unit) =>
    some (0 : Int32))) (fun (v18 : Int32) =>
  l0 (
    if (v18 : Int32) = 0 then
      some (.inl ())
    else
      if (v6 : Int32) = 0 then
        some (.inl ())
      else
        if vR 12 16 then
        bd (
          if (p6 : Int32) = (ga mm 3 (12 : Int32).toNatClampNeg) then
            some (1 : Int32)
          else
            some (3 : Int32)) (fun (v23 : Int32) =>
        if vR (3 * p5) 16 then
        bs (sa mm 3 (3 * p5).toNatClampNeg v23) (fun (m25 : MS) =>
        if vR ((3 * p5) + 1) 16 then
        bs (sa m25 3 ((3 * p5) + 1).toNatClampNeg p6) (fun (m27 : MS) =>
        if vR 15 16 then
        if vR ((3 * p5) + 2) 16 then
        bs (sa m27 3 ((3 * p5) + 2).toNatClampNeg (ga m27 3 (15 : Int32).toNatClampNeg)) (fun (m30 : MS) =>
        if vR 15 16 then
        if vR 15 16 then
        bs (sa m30 3 (15 : Int32).toNatClampNeg ((ga m30 3 (15 : Int32).toNatClampNeg) + 1)) (fun (m33 : MS) =>
        bd (x_L_looks m33) (fun (m35 : MS) =>
        b2 (x_L_does p0 2 p5 p6 0 0 w) (fun (v37 : Int32) (w38 : CS) =>
        if vR (3 * p5) 16 then
        bd (
          if (v37 : Int32) = (ga m35 3 (3 * p5).toNatClampNeg) then
            some (1 : Int32)
          else
            some (0 : Int32)) (fun (v41 : Int32) =>
        if isB v41 then
        some (.inr ((v41, w38, m35)))
        else none)
        else none)))
        else none
        else none)
        else none
        else none)
        else none)
        else none)
        else none) (fun (_ : Unit) =>
  b2 (x_L_does p0 2 p5 p6 0 0 w) (fun (v46 : Int32) (w47 : CS) =>
  bd (
    if (v2 : Int32) = 0 then
      some ((-30) : Int32)
    else
      if (v6 : Int32) = 0 then
        some ((-20) : Int32)
      else
        some ((-10) : Int32)) (fun (v50 : Int32) =>
  bd (
    if (v46 : Int32) = v50 then
      some (1 : Int32)
    else
      some (0 : Int32)) (fun (v52 : Int32) =>
  if isB v52 then
  some ((v52, w47, mm))
  else none)))))))
set_option maxHeartbeats 4000000 in
set_option maxRecDepth 100000 in
theorem c_L_isOpened (g : GG) (l : Launch) (hG : XG g) (hC : NC g) (hst : l.stackTraces = false) (hn : gnn g 4 = 1) {b L : Nat} {xs : Nat → Int32} (hS : SCG g b L xs) (p0 : Nat) (p5 : Int32) (p6 : Int32) (w : CS) (mm : MS) (r : Int32) (w' : CS) (mm' : MS) (h : x_L_isOpened p0 p5 p6 w mm = some (r, w', mm')) : MetG g l yL_isOpened wsL_isOpened 15 353 [rv p0, .ref (gmd g 1), .ref (gmd g 2), .ref (gmd g 3), .ref (gmd g 4), .int p5, .int p6] (w, mm) (some (.int r)) (w', mm') := by
  refine g_start_z (some (.int r)) (own := RL) (by decide +kernel) rfl rfl (by simp [lg_sl, rv_cat, ct_i, ct_l, ct_r]) ?_
  intro p e s mi args below meth cd ls Q hX hnm hw hl hret
  have hl : lv_has ls 10 [(0, rv p0), (1, .ref (gmd g 1)), (2, .ref (gmd g 2)), (3, .ref (gmd g 3)), (4, .ref (gmd g 4)), (5, .int p5), (6, .int p6)] := by simpa [lv_args, rv_cat, ct_i, ct_l, ct_r] using hl
  obtain ⟨⟨hx, hb, -, hown, hts⟩, -⟩ := id hX
  unfold x_L_isOpened at h
  refine lv_iload hx hb dL_isOpened_0 (lv_at hl 5 rfl) ?_
  refine lv_iconst (v := 4) hx hb dL_isOpened_2 (by decide) ?_
  obtain ⟨aj59, h1aj59, kaj59⟩ := ob1 h
  have haj59 : ∀ (v2 : Int32) (H : Heap) (lc : List Loc) (cn sn : Nat) (ls : Array Slot), aj59 = v2 → wH g s.heap.size (w, mm) H lc → lv_has ls 10 [(0, rv p0), (1, .ref (gmd g 1)), (2, .ref (gmd g 2)), (3, .ref (gmd g 3)), (4, .ref (gmd g 4)), (5, .int p5), (6, .int p6)] → W p l e (rmO g 15 353 s.heap) s mi args below meth cd H lc cn sn Q (F0 mi 11 ls [.int v2]) := by
    intro v2 H lc cn sn ls h hw hl
    replace h := kaj59 _ h
    refine lv_istore (lv' := [(7, .int v2), (0, rv p0), (1, .ref (gmd g 1)), (2, .ref (gmd g 2)), (3, .ref (gmd g 3)), (4, .ref (gmd g 4)), (5, .int p5), (6, .int p6)]) hx hb dL_isOpened_11 hl (by decide) rfl (fun ls hl => ?_)
    refine lv_iload hx hb dL_isOpened_13 (lv_at hl 7 rfl) ?_
    obtain ⟨aj58, h1aj58, kaj58⟩ := ob1 h
    have haj58 : ∀ (v6 : Int32) (H : Heap) (lc : List Loc) (cn sn : Nat) (ls : Array Slot), aj58 = v6 → wH g s.heap.size (w, mm) H lc → lv_has ls 10 [(7, .int v2), (0, rv p0), (1, .ref (gmd g 1)), (2, .ref (gmd g 2)), (3, .ref (gmd g 3)), (4, .ref (gmd g 4)), (5, .int p5), (6, .int p6)] → W p l e (rmO g 15 353 s.heap) s mi args below meth cd H lc cn sn Q (F0 mi 30 ls [.int v6]) := by
      intro v6 H lc cn sn ls h hw hl
      replace h := kaj58 _ h
      refine lv_istore (lv' := [(8, .int v6), (7, .int v2), (0, rv p0), (1, .ref (gmd g 1)), (2, .ref (gmd g 2)), (3, .ref (gmd g 3)), (4, .ref (gmd g 4)), (5, .int p5), (6, .int p6)]) hx hb dL_isOpened_30 hl (by decide) rfl (fun ls hl => ?_)
      refine lv_iload hx hb dL_isOpened_32 (lv_at hl 1 rfl) ?_
      obtain ⟨aj57, h1aj57, kaj57⟩ := ob1 h
      have haj57 : ∀ (v18 : Int32) (H : Heap) (lc : List Loc) (cn sn : Nat) (ls : Array Slot), aj57 = v18 → wH g s.heap.size (w, mm) H lc → lv_has ls 10 [(8, .int v6), (7, .int v2), (0, rv p0), (1, .ref (gmd g 1)), (2, .ref (gmd g 2)), (3, .ref (gmd g 3)), (4, .ref (gmd g 4)), (5, .int p5), (6, .int p6)] → W p l e (rmO g 15 353 s.heap) s mi args below meth cd H lc cn sn Q (F0 mi 76 ls [.int v18]) := by
        intro v18 H lc cn sn ls h hw hl
        replace h := kaj57 _ h
        refine lv_istore (lv' := [(9, .int v18), (8, .int v6), (7, .int v2), (0, rv p0), (1, .ref (gmd g 1)), (2, .ref (gmd g 2)), (3, .ref (gmd g 3)), (4, .ref (gmd g 4)), (5, .int p5), (6, .int p6)]) hx hb dL_isOpened_76 hl (by decide) rfl (fun ls hl => ?_)
        refine lv_iload hx hb dL_isOpened_78 (lv_at hl 0 rfl) ?_
        obtain ⟨aj56, h1aj56, kaj56, raj56⟩ := ol0 h
        have haj56 : ∀ (H : Heap) (lc : List Loc) (cn sn : Nat) (ls : Array Slot), aj56 = Sum.inl () → wH g s.heap.size (w, mm) H lc → lv_has ls 10 [(8, .int v6), (7, .int v2), (0, rv p0), (5, .int p5), (6, .int p6)] → W p l e (rmO g 15 353 s.heap) s mi args below meth cd H lc cn sn Q (F0 mi 88 ls []) := by
          intro H lc cn sn ls h hw hl
          replace h := kaj56 h
          refine t_aload_n hx hb dL_isOpened_88 rfl (lv_at hl 2 rfl) ?_
          refine lv_iconst (v := 2) hx hb dL_isOpened_89 (by decide) ?_
          refine lv_iload hx hb dL_isOpened_90 (lv_at hl 3 rfl) ?_
          refine lv_iload hx hb dL_isOpened_92 (lv_at hl 4 rfl) ?_
          refine lv_iconst (v := 0) hx hb dL_isOpened_94 (by decide) ?_
          refine lv_iconst (v := 0) hx hb dL_isOpened_95 (by decide) ?_
          obtain ⟨v46, w47, e45, h⟩ := oc2 h
          refine g_callSWi (n := 6) (As := [rv p0, .int 2, .int p5, .int p6, .int 0, .int 0]) (rest := []) hX hw (c_L_does g l hG hC hst mm p0 2 p5 p6 0 0 w v46 w47 e45) gL_isOpened_L_does rfl (by decide +kernel) rfl hl.1 rfl (Nat.le_of_ble_eq_true rfl) ⟨by decide, by decide⟩ dL_isOpened_96 (fun H lc cn sn hw => ?_)
          refine lv_iload hx hb dL_isOpened_99 (lv_at hl 1 rfl) ?_
          obtain ⟨aj55, h1aj55, kaj55⟩ := ob1 h
          have haj55 : ∀ (v50 : Int32) (H : Heap) (lc : List Loc) (cn sn : Nat) (ls : Array Slot), aj55 = v50 → wH g s.heap.size (w47, mm) H lc → lv_has ls 10 [] → W p l e (rmO g 15 353 s.heap) s mi args below meth cd H lc cn sn Q (F0 mi 121 ls [.int v50, .int v46]) := by
            intro v50 H lc cn sn ls h hw hl
            replace h := kaj55 _ h
            obtain ⟨aj54, h1aj54, kaj54⟩ := ob1 h
            have haj54 : ∀ (v52 : Int32) (H : Heap) (lc : List Loc) (cn sn : Nat) (ls : Array Slot), aj54 = v52 → wH g s.heap.size (w47, mm) H lc → lv_has ls 10 [] → W p l e (rmO g 15 353 s.heap) s mi args below meth cd H lc cn sn Q (F0 mi 129 ls [.int v52]) := by
              intro v52 H lc cn sn ls h hw hl
              replace h := kaj54 _ h
              obtain ⟨c53, h⟩ := og h
              replace h := (Option.some.inj h).symm
              obtain ⟨rfl, h8⟩ := Prod.mk.inj h
              obtain ⟨rfl, rfl⟩ := Prod.mk.inj h8
              exact hret _ _ _ _ _ _ _ dL_isOpened_129 c53 hw rfl
            replace h := h1aj54
            refine lv_icmp_ne (tgt := 128) hx hb dL_isOpened_121 (by decide) (fun c51 => ?_) (fun c51 => ?_)
            · replace h := oe c51 h
              refine lv_iconst (v := 0) hx hb dL_isOpened_128 (by decide) ?_
              replace h := (Option.some.inj h).symm
              exact haj54 _ _ _ _ _ _ h hw (lv_sub hl [] rfl)
            · replace h := ot c51 h
              refine lv_iconst (v := 1) hx hb dL_isOpened_124 (by decide) ?_
              refine lv_goto (tgt := 129) hx hb dL_isOpened_125 (by decide) ?_
              replace h := (Option.some.inj h).symm
              exact haj54 _ _ _ _ _ _ h hw (lv_sub hl [] rfl)
          replace h := h1aj55
          refine lv_if_ne (tgt := 109) hx hb dL_isOpened_101 (by decide) (fun c48 => ?_) (fun c48 => ?_)
          · replace h := oe c48 h
            refine lv_iload hx hb dL_isOpened_109 (lv_at hl 0 rfl) ?_
            refine lv_if_ne (tgt := 119) hx hb dL_isOpened_111 (by decide) (fun c49 => ?_) (fun c49 => ?_)
            · replace h := oe c49 h
              refine lv_bipush (v := (-10)) hx hb dL_isOpened_119 (by decide) ?_
              replace h := (Option.some.inj h).symm
              exact haj55 _ _ _ _ _ _ h hw (lv_sub hl [] rfl)
            · replace h := ot c49 h
              refine lv_bipush (v := (-20)) hx hb dL_isOpened_114 (by decide) ?_
              refine lv_goto (tgt := 121) hx hb dL_isOpened_116 (by decide) ?_
              replace h := (Option.some.inj h).symm
              exact haj55 _ _ _ _ _ _ h hw (lv_sub hl [] rfl)
          · replace h := ot c48 h
            refine lv_bipush (v := (-30)) hx hb dL_isOpened_104 (by decide) ?_
            refine lv_goto (tgt := 121) hx hb dL_isOpened_106 (by decide) ?_
            replace h := (Option.some.inj h).symm
            exact haj55 _ _ _ _ _ _ h hw (lv_sub hl [] rfl)
        replace h := h1aj56
        refine lv_if_eq (tgt := 88) hx hb dL_isOpened_80 (by decide) (fun c19 => ?_) (fun c19 => ?_)
        · replace h := ot c19 h
          replace h := (Option.some.inj h).symm
          exact haj56 _ _ _ _ _ h hw (lv_sub hl [1, 2, 3, 8, 9] rfl)
        · replace h := oe c19 h
          refine lv_iload hx hb dL_isOpened_83 (lv_at hl 1 rfl) ?_
          refine lv_if_ne (tgt := 130) hx hb dL_isOpened_85 (by decide) (fun c20 => ?_) (fun c20 => ?_)
          · replace h := oe c20 h
            refine lv_aload_n hx hb dL_isOpened_130 rfl (lv_at hl 6 rfl) ?_
            refine lv_iconst (v := 3) hx hb dL_isOpened_131 (by decide) ?_
            refine lv_iload hx hb dL_isOpened_132 (lv_at hl 8 rfl) ?_
            refine lv_imul hx hb dL_isOpened_134 ?_
            refine lv_iload hx hb dL_isOpened_135 (lv_at hl 9 rfl) ?_
            refine lv_aload_n hx hb dL_isOpened_137 rfl (lv_at hl 6 rfl) ?_
            refine lv_bipush (v := 12) hx hb dL_isOpened_138 (by decide) ?_
            obtain ⟨c21, h⟩ := og h
            refine m_ld hX hn hw 3 (by decide) rfl c21 dL_isOpened_140 ?_
            obtain ⟨aj44, h1aj44, kaj44⟩ := ob1 h
            have haj44 : ∀ (v23 : Int32) (H : Heap) (lc : List Loc) (cn sn : Nat) (ls : Array Slot), aj44 = v23 → wH g s.heap.size (w, mm) H lc → lv_has ls 10 [(0, rv p0), (1, .ref (gmd g 1)), (2, .ref (gmd g 2)), (3, .ref (gmd g 3)), (4, .ref (gmd g 4)), (5, .int p5), (6, .int p6)] → W p l e (rmO g 15 353 s.heap) s mi args below meth cd H lc cn sn Q (F0 mi 149 ls [.int v23, .int (3 * p5), .ref (gmd g 3)]) := by
              intro v23 H lc cn sn ls h hw hl
              replace h := kaj44 _ h
              obtain ⟨c24, h⟩ := og h
              obtain ⟨m25, em25, h⟩ := ol h
              refine m_st hX hn hw 3 (by decide) rfl c24 dL_isOpened_149 (fun H lc hw => ?_)
              have hw := hm_eq em25 hw
              refine lv_aload_n hx hb dL_isOpened_150 rfl (lv_at hl 3 rfl) ?_
              refine lv_iconst (v := 3) hx hb dL_isOpened_151 (by decide) ?_
              refine lv_iload hx hb dL_isOpened_152 (lv_at hl 5 rfl) ?_
              refine lv_imul hx hb dL_isOpened_154 ?_
              refine lv_iconst (v := 1) hx hb dL_isOpened_155 (by decide) ?_
              refine lv_iadd hx hb dL_isOpened_156 ?_
              refine lv_iload hx hb dL_isOpened_157 (lv_at hl 6 rfl) ?_
              obtain ⟨c26, h⟩ := og h
              obtain ⟨m27, em27, h⟩ := ol h
              refine m_st hX hn hw 3 (by decide) rfl c26 dL_isOpened_159 (fun H lc hw => ?_)
              have hw := hm_eq em27 hw
              refine lv_aload_n hx hb dL_isOpened_160 rfl (lv_at hl 3 rfl) ?_
              refine lv_iconst (v := 3) hx hb dL_isOpened_161 (by decide) ?_
              refine lv_iload hx hb dL_isOpened_162 (lv_at hl 5 rfl) ?_
              refine lv_imul hx hb dL_isOpened_164 ?_
              refine lv_iconst (v := 2) hx hb dL_isOpened_165 (by decide) ?_
              refine lv_iadd hx hb dL_isOpened_166 ?_
              refine lv_aload_n hx hb dL_isOpened_167 rfl (lv_at hl 3 rfl) ?_
              refine lv_bipush (v := 15) hx hb dL_isOpened_168 (by decide) ?_
              obtain ⟨c28, h⟩ := og h
              refine m_ld hX hn hw 3 (by decide) rfl c28 dL_isOpened_170 ?_
              obtain ⟨c29, h⟩ := og h
              obtain ⟨m30, em30, h⟩ := ol h
              refine m_st hX hn hw 3 (by decide) rfl c29 dL_isOpened_171 (fun H lc hw => ?_)
              have hw := hm_eq em30 hw
              refine lv_aload_n hx hb dL_isOpened_172 rfl (lv_at hl 3 rfl) ?_
              refine lv_bipush (v := 15) hx hb dL_isOpened_173 (by decide) ?_
              refine lv_dup2_11 hx hb dL_isOpened_175 rfl rfl ?_
              obtain ⟨c31, h⟩ := og h
              refine m_ld hX hn hw 3 (by decide) rfl c31 dL_isOpened_176 ?_
              refine lv_iconst (v := 1) hx hb dL_isOpened_177 (by decide) ?_
              refine lv_iadd hx hb dL_isOpened_178 ?_
              obtain ⟨c32, h⟩ := og h
              obtain ⟨m33, em33, h⟩ := ol h
              refine m_st hX hn hw 3 (by decide) rfl c32 dL_isOpened_179 (fun H lc hw => ?_)
              have hw := hm_eq em33 hw
              refine lv_aload_n hx hb dL_isOpened_180 rfl (lv_at hl 1 rfl) ?_
              refine lv_aload_n hx hb dL_isOpened_181 rfl (lv_at hl 2 rfl) ?_
              refine lv_aload_n hx hb dL_isOpened_182 rfl (lv_at hl 3 rfl) ?_
              refine lv_aload hx hb dL_isOpened_183 (lv_at hl 4 rfl) ?_
              obtain ⟨m35, e34, h⟩ := ob h
              refine g_callSv (n := 4) (As := [.ref (gmd g 1), .ref (gmd g 2), .ref (gmd g 3), .ref (gmd g 4)]) (rest := []) hX hw (c_L_looks g l hG hC hst hn hS  w m33  m35 e34) gL_isOpened_L_looks rfl (by decide +kernel) rfl hl.1 rfl (Nat.le_of_ble_eq_true rfl) ⟨by decide, by decide⟩ dL_isOpened_185 (fun H lc cn sn hw => ?_)
              refine t_aload_n hx hb dL_isOpened_188 rfl (lv_at hl 0 rfl) ?_
              refine lv_iconst (v := 2) hx hb dL_isOpened_189 (by decide) ?_
              refine lv_iload hx hb dL_isOpened_190 (lv_at hl 5 rfl) ?_
              refine lv_iload hx hb dL_isOpened_192 (lv_at hl 6 rfl) ?_
              refine lv_iconst (v := 0) hx hb dL_isOpened_194 (by decide) ?_
              refine lv_iconst (v := 0) hx hb dL_isOpened_195 (by decide) ?_
              obtain ⟨v37, w38, e36, h⟩ := oc2 h
              refine g_callSWi (n := 6) (As := [rv p0, .int 2, .int p5, .int p6, .int 0, .int 0]) (rest := []) hX hw (c_L_does g l hG hC hst m35 p0 2 p5 p6 0 0 w v37 w38 e36) gL_isOpened_L_does rfl (by decide +kernel) rfl hl.1 rfl (Nat.le_of_ble_eq_true rfl) ⟨by decide, by decide⟩ dL_isOpened_196 (fun H lc cn sn hw => ?_)
              refine lv_aload_n hx hb dL_isOpened_199 rfl (lv_at hl 3 rfl) ?_
              refine lv_iconst (v := 3) hx hb dL_isOpened_200 (by decide) ?_
              refine lv_iload hx hb dL_isOpened_201 (lv_at hl 5 rfl) ?_
              refine lv_imul hx hb dL_isOpened_203 ?_
              obtain ⟨c39, h⟩ := og h
              refine m_ld hX hn hw 3 (by decide) rfl c39 dL_isOpened_204 ?_
              obtain ⟨aj43, h1aj43, kaj43⟩ := ob1 h
              have haj43 : ∀ (v41 : Int32) (H : Heap) (lc : List Loc) (cn sn : Nat) (ls : Array Slot), aj43 = v41 → wH g s.heap.size (w38, m35) H lc → lv_has ls 10 [] → W p l e (rmO g 15 353 s.heap) s mi args below meth cd H lc cn sn Q (F0 mi 213 ls [.int v41]) := by
                intro v41 H lc cn sn ls h hw hl
                replace h := kaj43 _ h
                obtain ⟨c42, h⟩ := og h
                replace h := (Option.some.inj h).symm
                replace h := raj56 _ h
                obtain ⟨rfl, h8⟩ := Prod.mk.inj h
                obtain ⟨rfl, rfl⟩ := Prod.mk.inj h8
                exact hret _ _ _ _ _ _ _ dL_isOpened_213 c42 hw rfl
              replace h := h1aj43
              refine lv_icmp_ne (tgt := 212) hx hb dL_isOpened_205 (by decide) (fun c40 => ?_) (fun c40 => ?_)
              · replace h := oe c40 h
                refine lv_iconst (v := 0) hx hb dL_isOpened_212 (by decide) ?_
                replace h := (Option.some.inj h).symm
                exact haj43 _ _ _ _ _ _ h hw (lv_sub hl [] rfl)
              · replace h := ot c40 h
                refine lv_iconst (v := 1) hx hb dL_isOpened_208 (by decide) ?_
                refine lv_goto (tgt := 213) hx hb dL_isOpened_209 (by decide) ?_
                replace h := (Option.some.inj h).symm
                exact haj43 _ _ _ _ _ _ h hw (lv_sub hl [] rfl)
            replace h := h1aj44
            refine lv_icmp_ne (tgt := 148) hx hb dL_isOpened_141 (by decide) (fun c22 => ?_) (fun c22 => ?_)
            · replace h := oe c22 h
              refine lv_iconst (v := 3) hx hb dL_isOpened_148 (by decide) ?_
              replace h := (Option.some.inj h).symm
              exact haj44 _ _ _ _ _ _ h hw (lv_sub hl [3, 4, 5, 6, 7, 8, 9] rfl)
            · replace h := ot c22 h
              refine lv_iconst (v := 1) hx hb dL_isOpened_144 (by decide) ?_
              refine lv_goto (tgt := 149) hx hb dL_isOpened_145 (by decide) ?_
              replace h := (Option.some.inj h).symm
              exact haj44 _ _ _ _ _ _ h hw (lv_sub hl [3, 4, 5, 6, 7, 8, 9] rfl)
          · replace h := ot c20 h
            replace h := (Option.some.inj h).symm
            exact haj56 _ _ _ _ _ h hw (lv_sub hl [1, 2, 3, 8, 9] rfl)
      replace h := h1aj57
      obtain ⟨aj17, h1aj17, kaj17, raj17⟩ := ol0 h
      have haj17 : ∀ (H : Heap) (lc : List Loc) (cn sn : Nat) (ls : Array Slot), aj17 = Sum.inl () → wH g s.heap.size (w, mm) H lc → lv_has ls 10 [(8, .int v6), (7, .int v2), (0, rv p0), (1, .ref (gmd g 1)), (2, .ref (gmd g 2)), (3, .ref (gmd g 3)), (4, .ref (gmd g 4)), (5, .int p5), (6, .int p6)] → W p l e (rmO g 15 353 s.heap) s mi args below meth cd H lc cn sn Q (F0 mi 75 ls []) := by
        intro H lc cn sn ls h hw hl
        replace h := kaj17 h
        refine lv_iconst (v := 0) hx hb dL_isOpened_75 (by decide) ?_
        replace h := (Option.some.inj h).symm
        exact haj57 _ _ _ _ _ _ h hw (lv_sub hl [0, 1, 2, 3, 4, 5, 6, 7, 8] rfl)
      replace h := h1aj17
      refine lv_if_eq (tgt := 75) hx hb dL_isOpened_34 (by decide) (fun c7 => ?_) (fun c7 => ?_)
      · replace h := ot c7 h
        replace h := (Option.some.inj h).symm
        exact haj17 _ _ _ _ _ h hw (lv_sub hl [0, 1, 2, 3, 4, 5, 6, 7, 8] rfl)
      · replace h := oe c7 h
        refine lv_aload_n hx hb dL_isOpened_37 rfl (lv_at hl 5 rfl) ?_
        refine lv_iconst (v := 3) hx hb dL_isOpened_38 (by decide) ?_
        refine lv_iload hx hb dL_isOpened_39 (lv_at hl 7 rfl) ?_
        refine lv_imul hx hb dL_isOpened_41 ?_
        obtain ⟨c8, h⟩ := og h
        refine m_ld hX hn hw 3 (by decide) rfl c8 dL_isOpened_42 ?_
        refine lv_if_ne (tgt := 75) hx hb dL_isOpened_43 (by decide) (fun c9 => ?_) (fun c9 => ?_)
        · replace h := oe c9 h
          replace h := (Option.some.inj h).symm
          exact haj17 _ _ _ _ _ h hw (lv_sub hl [0, 1, 2, 3, 4, 5, 6, 7, 8] rfl)
        · replace h := ot c9 h
          refine lv_iload hx hb dL_isOpened_46 (lv_at hl 8 rfl) ?_
          refine lv_aload_n hx hb dL_isOpened_48 rfl (lv_at hl 5 rfl) ?_
          refine lv_bipush (v := 12) hx hb dL_isOpened_49 (by decide) ?_
          obtain ⟨c10, h⟩ := og h
          refine m_ld hX hn hw 3 (by decide) rfl c10 dL_isOpened_51 ?_
          refine lv_icmp_lt (tgt := 75) hx hb dL_isOpened_52 (by decide) (fun c11 => ?_) (fun c11 => ?_)
          · replace h := ot c11 h
            replace h := (Option.some.inj h).symm
            exact haj17 _ _ _ _ _ h hw (lv_sub hl [0, 1, 2, 3, 4, 5, 6, 7, 8] rfl)
          · replace h := oe c11 h
            refine lv_iload hx hb dL_isOpened_55 (lv_at hl 8 rfl) ?_
            refine lv_aload_n hx hb dL_isOpened_57 rfl (lv_at hl 5 rfl) ?_
            refine lv_bipush (v := 12) hx hb dL_isOpened_58 (by decide) ?_
            obtain ⟨c12, h⟩ := og h
            refine m_ld hX hn hw 3 (by decide) rfl c12 dL_isOpened_60 ?_
            obtain ⟨aj16, h1aj16, kaj16, raj16⟩ := ol0 h
            have haj16 : ∀ (H : Heap) (lc : List Loc) (cn sn : Nat) (ls : Array Slot), aj16 = Sum.inl () → wH g s.heap.size (w, mm) H lc → lv_has ls 10 [(8, .int v6), (7, .int v2), (0, rv p0), (1, .ref (gmd g 1)), (2, .ref (gmd g 2)), (3, .ref (gmd g 3)), (4, .ref (gmd g 4)), (5, .int p5), (6, .int p6)] → W p l e (rmO g 15 353 s.heap) s mi args below meth cd H lc cn sn Q (F0 mi 71 ls []) := by
              intro H lc cn sn ls h hw hl
              replace h := kaj16 h
              refine lv_iconst (v := 1) hx hb dL_isOpened_71 (by decide) ?_
              refine lv_goto (tgt := 76) hx hb dL_isOpened_72 (by decide) ?_
              replace h := (Option.some.inj h).symm
              replace h := raj17 _ h
              exact haj57 _ _ _ _ _ _ h hw (lv_sub hl [0, 1, 2, 3, 4, 5, 6, 7, 8] rfl)
            replace h := h1aj16
            refine lv_icmp_gt (tgt := 71) hx hb dL_isOpened_61 (by decide) (fun c13 => ?_) (fun c13 => ?_)
            · replace h := ot c13 h
              replace h := (Option.some.inj h).symm
              exact haj16 _ _ _ _ _ h hw (lv_sub hl [0, 1, 2, 3, 4, 5, 6, 7, 8] rfl)
            · replace h := oe c13 h
              refine lv_aload_n hx hb dL_isOpened_64 rfl (lv_at hl 5 rfl) ?_
              refine lv_bipush (v := 13) hx hb dL_isOpened_65 (by decide) ?_
              obtain ⟨c14, h⟩ := og h
              refine m_ld hX hn hw 3 (by decide) rfl c14 dL_isOpened_67 ?_
              refine lv_if_ge (tgt := 75) hx hb dL_isOpened_68 (by decide) (fun c15 => ?_) (fun c15 => ?_)
              · replace h := ot c15 h
                replace h := (Option.some.inj h).symm
                replace h := raj16 _ h
                exact haj17 _ _ _ _ _ h hw (lv_sub hl [0, 1, 2, 3, 4, 5, 6, 7, 8] rfl)
              · replace h := oe c15 h
                replace h := (Option.some.inj h).symm
                exact haj16 _ _ _ _ _ h hw (lv_sub hl [0, 1, 2, 3, 4, 5, 6, 7, 8] rfl)
    replace h := h1aj58
    obtain ⟨aj5, h1aj5, kaj5, raj5⟩ := ol0 h
    have haj5 : ∀ (H : Heap) (lc : List Loc) (cn sn : Nat) (ls : Array Slot), aj5 = Sum.inl () → wH g s.heap.size (w, mm) H lc → lv_has ls 10 [(7, .int v2), (0, rv p0), (1, .ref (gmd g 1)), (2, .ref (gmd g 2)), (3, .ref (gmd g 3)), (4, .ref (gmd g 4)), (5, .int p5), (6, .int p6)] → W p l e (rmO g 15 353 s.heap) s mi args below meth cd H lc cn sn Q (F0 mi 29 ls []) := by
      intro H lc cn sn ls h hw hl
      replace h := kaj5 h
      refine lv_iconst (v := 0) hx hb dL_isOpened_29 (by decide) ?_
      replace h := (Option.some.inj h).symm
      exact haj58 _ _ _ _ _ _ h hw (lv_sub hl [0, 1, 2, 3, 4, 5, 6, 7] rfl)
    replace h := h1aj5
    refine lv_if_le (tgt := 29) hx hb dL_isOpened_15 (by decide) (fun c3 => ?_) (fun c3 => ?_)
    · replace h := ot c3 h
      replace h := (Option.some.inj h).symm
      exact haj5 _ _ _ _ _ h hw (lv_sub hl [0, 1, 2, 3, 4, 5, 6, 7] rfl)
    · replace h := oe c3 h
      refine lv_iload hx hb dL_isOpened_18 (lv_at hl 7 rfl) ?_
      refine lv_bipush (v := 101) hx hb dL_isOpened_20 (by decide) ?_
      refine lv_icmp_ge (tgt := 29) hx hb dL_isOpened_22 (by decide) (fun c4 => ?_) (fun c4 => ?_)
      · replace h := ot c4 h
        replace h := (Option.some.inj h).symm
        exact haj5 _ _ _ _ _ h hw (lv_sub hl [0, 1, 2, 3, 4, 5, 6, 7] rfl)
      · replace h := oe c4 h
        refine lv_iconst (v := 1) hx hb dL_isOpened_25 (by decide) ?_
        refine lv_goto (tgt := 30) hx hb dL_isOpened_26 (by decide) ?_
        replace h := (Option.some.inj h).symm
        replace h := raj5 _ h
        exact haj58 _ _ _ _ _ _ h hw (lv_sub hl [0, 1, 2, 3, 4, 5, 6, 7] rfl)
  replace h := h1aj59
  refine lv_icmp_ge (tgt := 10) hx hb dL_isOpened_3 (by decide) (fun c1 => ?_) (fun c1 => ?_)
  · replace h := ot c1 h
    refine lv_iconst (v := 0) hx hb dL_isOpened_10 (by decide) ?_
    replace h := (Option.some.inj h).symm
    exact haj59 _ _ _ _ _ _ h hw (lv_sub hl [0, 1, 2, 3, 4, 5, 6] rfl)
  · replace h := oe c1 h
    refine lv_iconst (v := 1) hx hb dL_isOpened_6 (by decide) ?_
    refine lv_goto (tgt := 11) hx hb dL_isOpened_7 (by decide) ?_
    replace h := (Option.some.inj h).symm
    exact haj59 _ _ _ _ _ _ h hw (lv_sub hl [0, 1, 2, 3, 4, 5, 6] rfl)

def x_L_isClosed_L1 (p5 : Int32) : Nat → Int32 → MS → Option (MS)
  | 0, _, _ => none
  | n + 1, v6, m7 =>
    if (v6 : Int32) < 0 then
      some m7
    else
      if vR v6 60 then
      bd (
        if (((ga m7 2 v6.toNatClampNeg) / 16) : Int32) = p5 then
          bd (x_L_isAlive v6 m7) (fun (v12 : Int32) =>
          if (v12 : Int32) = 0 then
            some m7
          else
            bd (x_L_aborts v6 p5 m7) (fun (m15 : MS) =>
            some m15))
        else
          some m7) (fun (m16 : MS) =>
      x_L_isClosed_L1 p5 n (v6 + (-1)) m16)
      else none
def x_L_isClosed (p0 : Nat) (p5 : Int32) (w : CS) (mm : MS) : Option (Int32 × CS × MS) :=
  l0 (
    if (p5 : Int32) = 4 then
      some (.inl ())
    else
      if vR (3 * p5) 16 then
      if ((ga mm 3 (3 * p5).toNatClampNeg) : Int32) = 0 then
        some (.inl ())
      else
        if vR (3 * p5) 16 then
        if vR 14 16 then
        bd (x_L_isClosed_L1 p5 FU ((ga mm 3 (14 : Int32).toNatClampNeg) - 1) mm) (fun (m18 : MS) =>
        if vR (3 * p5) 16 then
        bs (sa m18 3 (3 * p5).toNatClampNeg 0) (fun (m20 : MS) =>
        b2 (x_L_goesOn m20) (fun (v22 : Int32) (m23 : MS) =>
        bd (x_L_looks m23) (fun (m25 : MS) =>
        b2 (x_L_does p0 3 p5 0 0 0 w) (fun (v27 : Int32) (w28 : CS) =>
        bd (
          if (v27 : Int32) = (ga mm 3 (3 * p5).toNatClampNeg) then
            some (1 : Int32)
          else
            some (0 : Int32)) (fun (v30 : Int32) =>
        if isB v30 then
        some (.inr ((v30, w28, m25)))
        else none)))))
        else none)
        else none
        else none
      else none) (fun (_ : Unit) =>
  b2 (x_L_does p0 3 p5 0 0 0 w) (fun (v35 : Int32) (w36 : CS) =>
  bd (
    if (p5 : Int32) = 4 then
      some ((-30) : Int32)
    else
      some ((-10) : Int32)) (fun (v38 : Int32) =>
  bd (
    if (v35 : Int32) = v38 then
      some (1 : Int32)
    else
      some (0 : Int32)) (fun (v40 : Int32) =>
  if isB v40 then
  some ((v40, w36, mm))
  else none))))
set_option maxHeartbeats 4000000 in
set_option maxRecDepth 100000 in
theorem c_L_isClosed (g : GG) (l : Launch) (hG : XG g) (hC : NC g) (hst : l.stackTraces = false) (hn : gnn g 4 = 1) {b L : Nat} {xs : Nat → Int32} (hS : SCG g b L xs) (p0 : Nat) (p5 : Int32) (w : CS) (mm : MS) (r : Int32) (w' : CS) (mm' : MS) (h : x_L_isClosed p0 p5 w mm = some (r, w', mm')) : MetG g l yL_isClosed wsL_isClosed 15 353 [rv p0, .ref (gmd g 1), .ref (gmd g 2), .ref (gmd g 3), .ref (gmd g 4), .int p5] (w, mm) (some (.int r)) (w', mm') := by
  refine g_start_z (some (.int r)) (own := RL) (by decide +kernel) rfl rfl (by simp [lg_sl, rv_cat, ct_i, ct_l, ct_r]) ?_
  intro p e s mi args below meth cd ls Q hX hnm hw hl hret
  have hl : lv_has ls 8 [(0, rv p0), (1, .ref (gmd g 1)), (2, .ref (gmd g 2)), (3, .ref (gmd g 3)), (4, .ref (gmd g 4)), (5, .int p5)] := by simpa [lv_args, rv_cat, ct_i, ct_l, ct_r] using hl
  obtain ⟨⟨hx, hb, -, hown, hts⟩, -⟩ := id hX
  unfold x_L_isClosed at h
  refine lv_iload hx hb dL_isClosed_0 (lv_at hl 5 rfl) ?_
  refine lv_iconst (v := 4) hx hb dL_isClosed_2 (by decide) ?_
  obtain ⟨aj44, h1aj44, kaj44, raj44⟩ := ol0 h
  have haj44 : ∀ (H : Heap) (lc : List Loc) (cn sn : Nat) (ls : Array Slot), aj44 = Sum.inl () → wH g s.heap.size (w, mm) H lc → lv_has ls 8 [(0, rv p0), (5, .int p5)] → W p l e (rmO g 15 353 s.heap) s mi args below meth cd H lc cn sn Q (F0 mi 15 ls []) := by
    intro H lc cn sn ls h hw hl
    replace h := kaj44 h
    refine t_aload_n hx hb dL_isClosed_15 rfl (lv_at hl 0 rfl) ?_
    refine lv_iconst (v := 3) hx hb dL_isClosed_16 (by decide) ?_
    refine lv_iload hx hb dL_isClosed_17 (lv_at hl 1 rfl) ?_
    refine lv_iconst (v := 0) hx hb dL_isClosed_19 (by decide) ?_
    refine lv_iconst (v := 0) hx hb dL_isClosed_20 (by decide) ?_
    refine lv_iconst (v := 0) hx hb dL_isClosed_21 (by decide) ?_
    obtain ⟨v35, w36, e34, h⟩ := oc2 h
    refine g_callSWi (n := 6) (As := [rv p0, .int 3, .int p5, .int 0, .int 0, .int 0]) (rest := []) hX hw (c_L_does g l hG hC hst mm p0 3 p5 0 0 0 w v35 w36 e34) gL_isClosed_L_does rfl (by decide +kernel) rfl hl.1 rfl (Nat.le_of_ble_eq_true rfl) ⟨by decide, by decide⟩ dL_isClosed_22 (fun H lc cn sn hw => ?_)
    refine lv_iload hx hb dL_isClosed_25 (lv_at hl 1 rfl) ?_
    refine lv_iconst (v := 4) hx hb dL_isClosed_27 (by decide) ?_
    obtain ⟨aj43, h1aj43, kaj43⟩ := ob1 h
    have haj43 : ∀ (v38 : Int32) (H : Heap) (lc : List Loc) (cn sn : Nat) (ls : Array Slot), aj43 = v38 → wH g s.heap.size (w36, mm) H lc → lv_has ls 8 [] → W p l e (rmO g 15 353 s.heap) s mi args below meth cd H lc cn sn Q (F0 mi 38 ls [.int v38, .int v35]) := by
      intro v38 H lc cn sn ls h hw hl
      replace h := kaj43 _ h
      obtain ⟨aj42, h1aj42, kaj42⟩ := ob1 h
      have haj42 : ∀ (v40 : Int32) (H : Heap) (lc : List Loc) (cn sn : Nat) (ls : Array Slot), aj42 = v40 → wH g s.heap.size (w36, mm) H lc → lv_has ls 8 [] → W p l e (rmO g 15 353 s.heap) s mi args below meth cd H lc cn sn Q (F0 mi 46 ls [.int v40]) := by
        intro v40 H lc cn sn ls h hw hl
        replace h := kaj42 _ h
        obtain ⟨c41, h⟩ := og h
        replace h := (Option.some.inj h).symm
        obtain ⟨rfl, h8⟩ := Prod.mk.inj h
        obtain ⟨rfl, rfl⟩ := Prod.mk.inj h8
        exact hret _ _ _ _ _ _ _ dL_isClosed_46 c41 hw rfl
      replace h := h1aj42
      refine lv_icmp_ne (tgt := 45) hx hb dL_isClosed_38 (by decide) (fun c39 => ?_) (fun c39 => ?_)
      · replace h := oe c39 h
        refine lv_iconst (v := 0) hx hb dL_isClosed_45 (by decide) ?_
        replace h := (Option.some.inj h).symm
        exact haj42 _ _ _ _ _ _ h hw (lv_sub hl [] rfl)
      · replace h := ot c39 h
        refine lv_iconst (v := 1) hx hb dL_isClosed_41 (by decide) ?_
        refine lv_goto (tgt := 46) hx hb dL_isClosed_42 (by decide) ?_
        replace h := (Option.some.inj h).symm
        exact haj42 _ _ _ _ _ _ h hw (lv_sub hl [] rfl)
    replace h := h1aj43
    refine lv_icmp_ne (tgt := 36) hx hb dL_isClosed_28 (by decide) (fun c37 => ?_) (fun c37 => ?_)
    · replace h := oe c37 h
      refine lv_bipush (v := (-10)) hx hb dL_isClosed_36 (by decide) ?_
      replace h := (Option.some.inj h).symm
      exact haj43 _ _ _ _ _ _ h hw (lv_sub hl [] rfl)
    · replace h := ot c37 h
      refine lv_bipush (v := (-30)) hx hb dL_isClosed_31 (by decide) ?_
      refine lv_goto (tgt := 38) hx hb dL_isClosed_33 (by decide) ?_
      replace h := (Option.some.inj h).symm
      exact haj43 _ _ _ _ _ _ h hw (lv_sub hl [] rfl)
  replace h := h1aj44
  refine lv_icmp_eq (tgt := 15) hx hb dL_isClosed_3 (by decide) (fun c1 => ?_) (fun c1 => ?_)
  · replace h := ot c1 h
    replace h := (Option.some.inj h).symm
    exact haj44 _ _ _ _ _ h hw (lv_sub hl [0, 5] rfl)
  · replace h := oe c1 h
    refine lv_aload_n hx hb dL_isClosed_6 rfl (lv_at hl 3 rfl) ?_
    refine lv_iconst (v := 3) hx hb dL_isClosed_7 (by decide) ?_
    refine lv_iload hx hb dL_isClosed_8 (lv_at hl 5 rfl) ?_
    refine lv_imul hx hb dL_isClosed_10 ?_
    obtain ⟨c2, h⟩ := og h
    refine m_ld hX hn hw 3 (by decide) rfl c2 dL_isClosed_11 ?_
    refine lv_if_ne (tgt := 47) hx hb dL_isClosed_12 (by decide) (fun c3 => ?_) (fun c3 => ?_)
    · replace h := oe c3 h
      refine lv_aload_n hx hb dL_isClosed_47 rfl (lv_at hl 3 rfl) ?_
      refine lv_iconst (v := 3) hx hb dL_isClosed_48 (by decide) ?_
      refine lv_iload hx hb dL_isClosed_49 (lv_at hl 5 rfl) ?_
      refine lv_imul hx hb dL_isClosed_51 ?_
      obtain ⟨c4, h⟩ := og h
      refine m_ld hX hn hw 3 (by decide) rfl c4 dL_isClosed_52 ?_
      refine lv_istore (lv' := [(6, .int (ga mm 3 (3 * p5).toNatClampNeg)), (0, rv p0), (1, .ref (gmd g 1)), (2, .ref (gmd g 2)), (3, .ref (gmd g 3)), (4, .ref (gmd g 4)), (5, .int p5)]) hx hb dL_isClosed_53 hl (by decide) rfl (fun ls hl => ?_)
      refine lv_aload_n hx hb dL_isClosed_55 rfl (lv_at hl 4 rfl) ?_
      refine lv_bipush (v := 14) hx hb dL_isClosed_56 (by decide) ?_
      obtain ⟨c5, h⟩ := og h
      refine m_ld hX hn hw 3 (by decide) rfl c5 dL_isClosed_58 ?_
      refine lv_iconst (v := 1) hx hb dL_isClosed_59 (by decide) ?_
      refine lv_isub hx hb dL_isClosed_60 ?_
      refine lv_istore (lv' := [(7, .int ((ga mm 3 (14 : Int32).toNatClampNeg) - 1)), (6, .int (ga mm 3 (3 * p5).toNatClampNeg)), (0, rv p0), (1, .ref (gmd g 1)), (2, .ref (gmd g 2)), (3, .ref (gmd g 3)), (4, .ref (gmd g 4)), (5, .int p5)]) hx hb dL_isClosed_61 hl (by decide) rfl (fun ls hl => ?_)
      obtain ⟨aj33, h1aj33, kaj33⟩ := ob1 h
      have haj33 : ∀ (m18 : MS) (H : Heap) (lc : List Loc) (cn sn : Nat) (ls : Array Slot), aj33 = m18 → wH g s.heap.size (w, m18) H lc → lv_has ls 8 [(6, .int (ga mm 3 (3 * p5).toNatClampNeg)), (0, rv p0), (1, .ref (gmd g 1)), (2, .ref (gmd g 2)), (3, .ref (gmd g 3)), (4, .ref (gmd g 4)), (5, .int p5)] → W p l e (rmO g 15 353 s.heap) s mi args below meth cd H lc cn sn Q (F0 mi 106 ls []) := by
        intro m18 H lc cn sn ls h hw hl
        replace h := kaj33 _ h
        refine lv_aload_n hx hb dL_isClosed_106 rfl (lv_at hl 4 rfl) ?_
        refine lv_iconst (v := 3) hx hb dL_isClosed_107 (by decide) ?_
        refine lv_iload hx hb dL_isClosed_108 (lv_at hl 6 rfl) ?_
        refine lv_imul hx hb dL_isClosed_110 ?_
        refine lv_iconst (v := 0) hx hb dL_isClosed_111 (by decide) ?_
        obtain ⟨c19, h⟩ := og h
        obtain ⟨m20, em20, h⟩ := ol h
        refine m_st hX hn hw 3 (by decide) rfl c19 dL_isClosed_112 (fun H lc hw => ?_)
        have hw := hm_eq em20 hw
        refine lv_aload_n hx hb dL_isClosed_113 rfl (lv_at hl 2 rfl) ?_
        refine lv_aload_n hx hb dL_isClosed_114 rfl (lv_at hl 3 rfl) ?_
        refine lv_aload_n hx hb dL_isClosed_115 rfl (lv_at hl 4 rfl) ?_
        obtain ⟨v22, m23, e21, h⟩ := oc2 h
        refine g_callSi (n := 3) (As := [.ref (gmd g 1), .ref (gmd g 2), .ref (gmd g 3)]) (rest := []) hX hw (c_L_goesOn g l hG hC hst hn hS  w m20 v22  m23 e21) gL_isClosed_L_goesOn rfl (by decide +kernel) rfl hl.1 rfl (Nat.le_of_ble_eq_true rfl) ⟨by decide, by decide⟩ dL_isClosed_116 (fun H lc cn sn hw => ?_)
        refine lv_pop hx hb dL_isClosed_119 rfl ?_
        refine lv_aload_n hx hb dL_isClosed_120 rfl (lv_at hl 2 rfl) ?_
        refine lv_aload_n hx hb dL_isClosed_121 rfl (lv_at hl 3 rfl) ?_
        refine lv_aload_n hx hb dL_isClosed_122 rfl (lv_at hl 4 rfl) ?_
        refine lv_aload hx hb dL_isClosed_123 (lv_at hl 5 rfl) ?_
        obtain ⟨m25, e24, h⟩ := ob h
        refine g_callSv (n := 4) (As := [.ref (gmd g 1), .ref (gmd g 2), .ref (gmd g 3), .ref (gmd g 4)]) (rest := []) hX hw (c_L_looks g l hG hC hst hn hS  w m23  m25 e24) gL_isClosed_L_looks rfl (by decide +kernel) rfl hl.1 rfl (Nat.le_of_ble_eq_true rfl) ⟨by decide, by decide⟩ dL_isClosed_125 (fun H lc cn sn hw => ?_)
        refine t_aload_n hx hb dL_isClosed_128 rfl (lv_at hl 1 rfl) ?_
        refine lv_iconst (v := 3) hx hb dL_isClosed_129 (by decide) ?_
        refine lv_iload hx hb dL_isClosed_130 (lv_at hl 6 rfl) ?_
        refine lv_iconst (v := 0) hx hb dL_isClosed_132 (by decide) ?_
        refine lv_iconst (v := 0) hx hb dL_isClosed_133 (by decide) ?_
        refine lv_iconst (v := 0) hx hb dL_isClosed_134 (by decide) ?_
        obtain ⟨v27, w28, e26, h⟩ := oc2 h
        refine g_callSWi (n := 6) (As := [rv p0, .int 3, .int p5, .int 0, .int 0, .int 0]) (rest := []) hX hw (c_L_does g l hG hC hst m25 p0 3 p5 0 0 0 w v27 w28 e26) gL_isClosed_L_does rfl (by decide +kernel) rfl hl.1 rfl (Nat.le_of_ble_eq_true rfl) ⟨by decide, by decide⟩ dL_isClosed_135 (fun H lc cn sn hw => ?_)
        refine lv_iload hx hb dL_isClosed_138 (lv_at hl 0 rfl) ?_
        obtain ⟨aj32, h1aj32, kaj32⟩ := ob1 h
        have haj32 : ∀ (v30 : Int32) (H : Heap) (lc : List Loc) (cn sn : Nat) (ls : Array Slot), aj32 = v30 → wH g s.heap.size (w28, m25) H lc → lv_has ls 8 [] → W p l e (rmO g 15 353 s.heap) s mi args below meth cd H lc cn sn Q (F0 mi 148 ls [.int v30]) := by
          intro v30 H lc cn sn ls h hw hl
          replace h := kaj32 _ h
          obtain ⟨c31, h⟩ := og h
          replace h := (Option.some.inj h).symm
          replace h := raj44 _ h
          obtain ⟨rfl, h8⟩ := Prod.mk.inj h
          obtain ⟨rfl, rfl⟩ := Prod.mk.inj h8
          exact hret _ _ _ _ _ _ _ dL_isClosed_148 c31 hw rfl
        replace h := h1aj32
        refine lv_icmp_ne (tgt := 147) hx hb dL_isClosed_140 (by decide) (fun c29 => ?_) (fun c29 => ?_)
        · replace h := oe c29 h
          refine lv_iconst (v := 0) hx hb dL_isClosed_147 (by decide) ?_
          replace h := (Option.some.inj h).symm
          exact haj32 _ _ _ _ _ _ h hw (lv_sub hl [] rfl)
        · replace h := ot c29 h
          refine lv_iconst (v := 1) hx hb dL_isClosed_143 (by decide) ?_
          refine lv_goto (tgt := 148) hx hb dL_isClosed_144 (by decide) ?_
          replace h := (Option.some.inj h).symm
          exact haj32 _ _ _ _ _ _ h hw (lv_sub hl [] rfl)
      have hkj33 : ∀ (n : Nat) (v6 : Int32) (m7 : MS) (H : Heap) (lc : List Loc) (cn sn : Nat) (ls : Array Slot), x_L_isClosed_L1 p5 n v6 m7 = some aj33 → wH g s.heap.size (w, m7) H lc → lv_has ls 8 [(7, .int v6), (6, .int (ga mm 3 (3 * p5).toNatClampNeg)), (0, rv p0), (1, .ref (gmd g 1)), (2, .ref (gmd g 2)), (3, .ref (gmd g 3)), (4, .ref (gmd g 4)), (5, .int p5)] → W p l e (rmO g 15 353 s.heap) s mi args below meth cd H lc cn sn Q (F0 mi 63 ls []) := by
        intro n
        induction n with
        | zero =>
          intro v6 m7 H lc cn sn ls h
          rw [x_L_isClosed_L1] at h
          cases h
        | succ n ih =>
          intro v6 m7 H lc cn sn ls h hw hl
          rw [x_L_isClosed_L1] at h
          refine lv_iload hx hb dL_isClosed_63 (lv_at hl 0 rfl) ?_
          refine lv_if_lt (tgt := 106) hx hb dL_isClosed_65 (by decide) (fun c8 => ?_) (fun c8 => ?_)
          · replace h := ot c8 h
            replace h := (Option.some.inj h).symm
            exact haj33 _ _ _ _ _ _ h hw (lv_sub hl [1, 2, 3, 4, 5, 6, 7] rfl)
          · replace h := oe c8 h
            refine lv_aload_n hx hb dL_isClosed_68 rfl (lv_at hl 4 rfl) ?_
            refine lv_iload hx hb dL_isClosed_69 (lv_at hl 0 rfl) ?_
            obtain ⟨c9, h⟩ := og h
            refine m_ld hX hn hw 2 (by decide) rfl c9 dL_isClosed_71 ?_
            refine lv_bipush (v := 16) hx hb dL_isClosed_72 (by decide) ?_
            refine lv_idiv hx hb dL_isClosed_74 (by decide) ?_
            refine lv_iload hx hb dL_isClosed_75 (lv_at hl 7 rfl) ?_
            obtain ⟨aj17, h1aj17, kaj17⟩ := ob1 h
            have haj17 : ∀ (m16 : MS) (H : Heap) (lc : List Loc) (cn sn : Nat) (ls : Array Slot), aj17 = m16 → wH g s.heap.size (w, m16) H lc → lv_has ls 8 [(7, .int v6), (6, .int (ga mm 3 (3 * p5).toNatClampNeg)), (0, rv p0), (1, .ref (gmd g 1)), (2, .ref (gmd g 2)), (3, .ref (gmd g 3)), (4, .ref (gmd g 4)), (5, .int p5)] → W p l e (rmO g 15 353 s.heap) s mi args below meth cd H lc cn sn Q (F0 mi 100 ls []) := by
              intro m16 H lc cn sn ls h hw hl
              replace h := kaj17 _ h
              refine lv_iinc (v := (v6 + (-1))) (lv' := [(7, .int (v6 + (-1))), (6, .int (ga mm 3 (3 * p5).toNatClampNeg)), (0, rv p0), (1, .ref (gmd g 1)), (2, .ref (gmd g 2)), (3, .ref (gmd g 3)), (4, .ref (gmd g 4)), (5, .int p5)]) hx hb dL_isClosed_100 hl (k := 0) rfl (by rfl) (by decide) rfl (fun ls hl => ?_)
              refine lv_goto (tgt := 63) hx hb dL_isClosed_103 (by decide) ?_
              exact ih _ _ _ _ _ _ _ h hw (lv_sub hl [0, 1, 2, 3, 4, 5, 6, 7] rfl)
            replace h := h1aj17
            refine lv_icmp_ne (tgt := 100) hx hb dL_isClosed_77 (by decide) (fun c10 => ?_) (fun c10 => ?_)
            · replace h := oe c10 h
              replace h := (Option.some.inj h).symm
              exact haj17 _ _ _ _ _ _ h hw (lv_sub hl [0, 1, 2, 3, 4, 5, 6, 7] rfl)
            · replace h := ot c10 h
              refine lv_aload_n hx hb dL_isClosed_80 rfl (lv_at hl 3 rfl) ?_
              refine lv_iload hx hb dL_isClosed_81 (lv_at hl 0 rfl) ?_
              obtain ⟨v12, e11, h⟩ := ob h
              refine g_callSi (n := 2) (As := [.ref (gmd g 1), .int v6]) (rest := []) hX hw (c_L_isAlive g l hG hC hst hn hS v6 w m7 v12  e11) gL_isClosed_L_isAlive rfl (by decide +kernel) rfl hl.1 rfl (Nat.le_of_ble_eq_true rfl) ⟨by decide, by decide⟩ dL_isClosed_83 (fun H lc cn sn hw => ?_)
              refine lv_if_eq (tgt := 100) hx hb dL_isClosed_86 (by decide) (fun c13 => ?_) (fun c13 => ?_)
              · replace h := ot c13 h
                replace h := (Option.some.inj h).symm
                exact haj17 _ _ _ _ _ _ h hw (lv_sub hl [0, 1, 2, 3, 4, 5, 6, 7] rfl)
              · replace h := oe c13 h
                refine lv_aload_n hx hb dL_isClosed_89 rfl (lv_at hl 3 rfl) ?_
                refine lv_aload_n hx hb dL_isClosed_90 rfl (lv_at hl 5 rfl) ?_
                refine lv_aload hx hb dL_isClosed_91 (lv_at hl 6 rfl) ?_
                refine lv_iload hx hb dL_isClosed_93 (lv_at hl 0 rfl) ?_
                refine lv_iload hx hb dL_isClosed_95 (lv_at hl 7 rfl) ?_
                obtain ⟨m15, e14, h⟩ := ob h
                refine g_callSv (n := 5) (As := [.ref (gmd g 1), .ref (gmd g 3), .ref (gmd g 4), .int v6, .int p5]) (rest := []) hX hw (c_L_aborts g l hG hC hst hn hS v6 p5 w m7  m15 e14) gL_isClosed_L_aborts rfl (by decide +kernel) rfl hl.1 rfl (Nat.le_of_ble_eq_true rfl) ⟨by decide, by decide⟩ dL_isClosed_97 (fun H lc cn sn hw => ?_)
                replace h := (Option.some.inj h).symm
                exact haj17 _ _ _ _ _ _ h hw (lv_sub hl [0, 1, 2, 3, 4, 5, 6, 7] rfl)
      exact hkj33 FU ((ga mm 3 (14 : Int32).toNatClampNeg) - 1) mm _ _ _ _ _ h1aj33 hw (lv_sub hl [0, 1, 2, 3, 4, 5, 6, 7] rfl)
    · replace h := ot c3 h
      replace h := (Option.some.inj h).symm
      exact haj44 _ _ _ _ _ h hw (lv_sub hl [0, 5] rfl)

def x_L_isBegun_L1 (mm : MS) (p6 : Int32) : Nat → Int32 → Int32 → Option (Int32)
  | 0, _, _ => none
  | n + 1, v5, v6 =>
    if (3 : Int32) ≤ v5 then
      some v6
    else
      if (v6 : Int32) = 0 then
        some v6
      else
        bd (
          l0 (
            if (((p6 >>> (v5 &&& 31)) &&& 1) : Int32) = 0 then
              some (.inl ())
            else
              if vR v5 6 then
              if ((ga mm 4 v5.toNatClampNeg) : Int32) = 1 then
                some (.inl ())
              else
                some (.inr ((0 : Int32)))
              else none) (fun (_ : Unit) =>
          some (1 : Int32))) (fun (v13 : Int32) =>
        x_L_isBegun_L1 mm p6 n (v5 + 1) v13)
def x_L_isBegun (p0 : Nat) (p5 : Int32) (p6 : Int32) (p7 : Int32) (w : CS) (mm : MS) : Option (Int32 × CS × MS) :=
  bd (
    if (4 : Int32) ≤ p5 then
      some (0 : Int32)
    else
      some (1 : Int32)) (fun (v2 : Int32) =>
  bd (
    if (p6 : Int32) ≤ 0 then
      some (0 : Int32)
    else
      some (1 : Int32)) (fun (v4 : Int32) =>
  bd (x_L_isBegun_L1 mm p6 FU 0 v2) (fun (v15 : Int32) =>
  bd (
    if (v15 : Int32) = 0 then
      some ((-30) : Int32)
    else
      if (v4 : Int32) = 0 then
        some ((-20) : Int32)
      else
        if vR (3 * p5) 16 then
        if ((ga mm 3 (3 * p5).toNatClampNeg) : Int32) = 1 then
          if vR 14 16 then
          some (ga mm 3 (14 : Int32).toNatClampNeg)
          else none
        else
          some ((-10) : Int32)
        else none) (fun (v21 : Int32) =>
  bd (
    if (v21 : Int32) < 0 then
      some mm
    else
      if vR v21 60 then
      bs (sa mm 1 v21.toNatClampNeg 0) (fun (m24 : MS) =>
      bd (
        if (p7 : Int32) = 0 then
          some (0 : Int32)
        else
          some (8 : Int32)) (fun (v26 : Int32) =>
      if vR v21 60 then
      bs (sa m24 2 v21.toNatClampNeg (((16 * p5) + p6) + v26)) (fun (m28 : MS) =>
      if vR 14 16 then
      if vR 14 16 then
      bs (sa m28 3 (14 : Int32).toNatClampNeg ((ga m28 3 (14 : Int32).toNatClampNeg) + 1)) (fun (m31 : MS) =>
      b2 (x_L_goesOn m31) (fun (v33 : Int32) (m34 : MS) =>
      some m34))
      else none
      else none)
      else none))
      else none) (fun (m36 : MS) =>
  bd (
    if (p7 : Int32) = 0 then
      some (0 : Int32)
    else
      some (1 : Int32)) (fun (v38 : Int32) =>
  b2 (x_L_does p0 5 p5 p6 v38 0 w) (fun (v40 : Int32) (w41 : CS) =>
  bd (
    l0 (
      if (v40 : Int32) = v21 then
        l0 (
          if (v21 : Int32) < 0 then
            some (.inl ())
          else
            if wJ w41 0 p0 = 6 then
            bn3 (x_X6_standing p0 v21 w41) (fun (v46 : Int32) =>
            if vR v21 60 then
            if (v46 : Int32) = (ga m36 1 v21.toNatClampNeg) then
              some (.inl ())
            else
              some (.inr (.inl ()))
            else none)
            else none) (fun (_ : Unit) =>
        some (.inr ((1 : Int32))))
      else
        some (.inl ())) (fun (_ : Unit) =>
    some (0 : Int32))) (fun (v51 : Int32) =>
  if isB v51 then
  some ((v51, w41, m36))
  else none))))))))
set_option maxHeartbeats 4000000 in
set_option maxRecDepth 100000 in
theorem c_L_isBegun (g : GG) (l : Launch) (hG : XG g) (hC : NC g) (hst : l.stackTraces = false) (hn : gnn g 4 = 1) {b L : Nat} {xs : Nat → Int32} (hS : SCG g b L xs) (p0 : Nat) (p5 : Int32) (p6 : Int32) (p7 : Int32) (w : CS) (mm : MS) (r : Int32) (w' : CS) (mm' : MS) (h : x_L_isBegun p0 p5 p6 p7 w mm = some (r, w', mm')) : MetG g l yL_isBegun wsL_isBegun 15 353 [rv p0, .ref (gmd g 1), .ref (gmd g 2), .ref (gmd g 3), .ref (gmd g 4), .int p5, .int p6, .int p7] (w, mm) (some (.int r)) (w', mm') := by
  refine g_start_z (some (.int r)) (own := RL) (by decide +kernel) rfl rfl (by simp [lg_sl, rv_cat, ct_i, ct_l, ct_r]) ?_
  intro p e s mi args below meth cd ls Q hX hnm hw hl hret
  have hl : lv_has ls 11 [(0, rv p0), (1, .ref (gmd g 1)), (2, .ref (gmd g 2)), (3, .ref (gmd g 3)), (4, .ref (gmd g 4)), (5, .int p5), (6, .int p6), (7, .int p7)] := by simpa [lv_args, rv_cat, ct_i, ct_l, ct_r] using hl
  obtain ⟨⟨hx, hb, -, hown, hts⟩, -⟩ := id hX
  unfold x_L_isBegun at h
  refine lv_iload hx hb dL_isBegun_0 (lv_at hl 5 rfl) ?_
  refine lv_iconst (v := 4) hx hb dL_isBegun_2 (by decide) ?_
  obtain ⟨aj59, h1aj59, kaj59⟩ := ob1 h
  have haj59 : ∀ (v2 : Int32) (H : Heap) (lc : List Loc) (cn sn : Nat) (ls : Array Slot), aj59 = v2 → wH g s.heap.size (w, mm) H lc → lv_has ls 11 [(0, rv p0), (1, .ref (gmd g 1)), (2, .ref (gmd g 2)), (3, .ref (gmd g 3)), (4, .ref (gmd g 4)), (5, .int p5), (6, .int p6), (7, .int p7)] → W p l e (rmO g 15 353 s.heap) s mi args below meth cd H lc cn sn Q (F0 mi 11 ls [.int v2]) := by
    intro v2 H lc cn sn ls h hw hl
    replace h := kaj59 _ h
    refine lv_istore (lv' := [(8, .int v2), (0, rv p0), (1, .ref (gmd g 1)), (2, .ref (gmd g 2)), (3, .ref (gmd g 3)), (4, .ref (gmd g 4)), (5, .int p5), (6, .int p6), (7, .int p7)]) hx hb dL_isBegun_11 hl (by decide) rfl (fun ls hl => ?_)
    refine lv_iload hx hb dL_isBegun_13 (lv_at hl 7 rfl) ?_
    obtain ⟨aj58, h1aj58, kaj58⟩ := ob1 h
    have haj58 : ∀ (v4 : Int32) (H : Heap) (lc : List Loc) (cn sn : Nat) (ls : Array Slot), aj58 = v4 → wH g s.heap.size (w, mm) H lc → lv_has ls 11 [(8, .int v2), (0, rv p0), (1, .ref (gmd g 1)), (2, .ref (gmd g 2)), (3, .ref (gmd g 3)), (4, .ref (gmd g 4)), (5, .int p5), (6, .int p6), (7, .int p7)] → W p l e (rmO g 15 353 s.heap) s mi args below meth cd H lc cn sn Q (F0 mi 23 ls [.int v4]) := by
      intro v4 H lc cn sn ls h hw hl
      replace h := kaj58 _ h
      refine lv_istore (lv' := [(9, .int v4), (8, .int v2), (0, rv p0), (1, .ref (gmd g 1)), (2, .ref (gmd g 2)), (3, .ref (gmd g 3)), (4, .ref (gmd g 4)), (5, .int p5), (6, .int p6), (7, .int p7)]) hx hb dL_isBegun_23 hl (by decide) rfl (fun ls hl => ?_)
      refine lv_iconst (v := 0) hx hb dL_isBegun_25 (by decide) ?_
      refine lv_istore (lv' := [(10, .int 0), (9, .int v4), (8, .int v2), (0, rv p0), (1, .ref (gmd g 1)), (2, .ref (gmd g 2)), (3, .ref (gmd g 3)), (4, .ref (gmd g 4)), (5, .int p5), (6, .int p6), (7, .int p7)]) hx hb dL_isBegun_26 hl (by decide) rfl (fun ls hl => ?_)
      obtain ⟨aj57, h1aj57, kaj57⟩ := ob1 h
      have haj57 : ∀ (v15 : Int32) (H : Heap) (lc : List Loc) (cn sn : Nat) (ls : Array Slot), aj57 = v15 → wH g s.heap.size (w, mm) H lc → lv_has ls 11 [(9, .int v4), (8, .int v15), (0, rv p0), (1, .ref (gmd g 1)), (2, .ref (gmd g 2)), (3, .ref (gmd g 3)), (5, .int p5), (6, .int p6), (7, .int p7)] → W p l e (rmO g 15 353 s.heap) s mi args below meth cd H lc cn sn Q (F0 mi 71 ls []) := by
        intro v15 H lc cn sn ls h hw hl
        replace h := kaj57 _ h
        refine lv_iload hx hb dL_isBegun_71 (lv_at hl 1 rfl) ?_
        obtain ⟨aj56, h1aj56, kaj56⟩ := ob1 h
        have haj56 : ∀ (v21 : Int32) (H : Heap) (lc : List Loc) (cn sn : Nat) (ls : Array Slot), aj56 = v21 → wH g s.heap.size (w, mm) H lc → lv_has ls 11 [(0, rv p0), (1, .ref (gmd g 1)), (2, .ref (gmd g 2)), (3, .ref (gmd g 3)), (5, .int p5), (6, .int p6), (7, .int p7)] → W p l e (rmO g 15 353 s.heap) s mi args below meth cd H lc cn sn Q (F0 mi 110 ls [.int v21]) := by
          intro v21 H lc cn sn ls h hw hl
          replace h := kaj56 _ h
          refine lv_istore (lv' := [(10, .int v21), (0, rv p0), (1, .ref (gmd g 1)), (2, .ref (gmd g 2)), (3, .ref (gmd g 3)), (5, .int p5), (6, .int p6), (7, .int p7)]) hx hb dL_isBegun_110 hl (by decide) rfl (fun ls hl => ?_)
          refine lv_iload hx hb dL_isBegun_112 (lv_at hl 0 rfl) ?_
          obtain ⟨aj55, h1aj55, kaj55⟩ := ob1 h
          have haj55 : ∀ (m36 : MS) (H : Heap) (lc : List Loc) (cn sn : Nat) (ls : Array Slot), aj55 = m36 → wH g s.heap.size (w, m36) H lc → lv_has ls 11 [(10, .int v21), (0, rv p0), (1, .ref (gmd g 1)), (5, .int p5), (6, .int p6), (7, .int p7)] → W p l e (rmO g 15 353 s.heap) s mi args below meth cd H lc cn sn Q (F0 mi 161 ls []) := by
            intro m36 H lc cn sn ls h hw hl
            replace h := kaj55 _ h
            refine t_aload_n hx hb dL_isBegun_161 rfl (lv_at hl 1 rfl) ?_
            refine lv_iconst (v := 5) hx hb dL_isBegun_162 (by decide) ?_
            refine lv_iload hx hb dL_isBegun_163 (lv_at hl 3 rfl) ?_
            refine lv_iload hx hb dL_isBegun_165 (lv_at hl 4 rfl) ?_
            refine lv_iload hx hb dL_isBegun_167 (lv_at hl 5 rfl) ?_
            obtain ⟨aj54, h1aj54, kaj54⟩ := ob1 h
            have haj54 : ∀ (v38 : Int32) (H : Heap) (lc : List Loc) (cn sn : Nat) (ls : Array Slot), aj54 = v38 → wH g s.heap.size (w, m36) H lc → lv_has ls 11 [(10, .int v21), (0, rv p0), (1, .ref (gmd g 1))] → W p l e (rmO g 15 353 s.heap) s mi args below meth cd H lc cn sn Q (F0 mi 177 ls [.int v38, .int p6, .int p5, .int 5, rv p0]) := by
              intro v38 H lc cn sn ls h hw hl
              replace h := kaj54 _ h
              refine lv_iconst (v := 0) hx hb dL_isBegun_177 (by decide) ?_
              obtain ⟨v40, w41, e39, h⟩ := oc2 h
              refine g_callSWi (n := 6) (As := [rv p0, .int 5, .int p5, .int p6, .int v38, .int 0]) (rest := []) hX hw (c_L_does g l hG hC hst m36 p0 5 p5 p6 v38 0 w v40 w41 e39) gL_isBegun_L_does rfl (by decide +kernel) rfl hl.1 rfl (Nat.le_of_ble_eq_true rfl) ⟨by decide, by decide⟩ dL_isBegun_178 (fun H lc cn sn hw => ?_)
              refine lv_iload hx hb dL_isBegun_181 (lv_at hl 0 rfl) ?_
              obtain ⟨aj53, h1aj53, kaj53⟩ := ob1 h
              have haj53 : ∀ (v51 : Int32) (H : Heap) (lc : List Loc) (cn sn : Nat) (ls : Array Slot), aj53 = v51 → wH g s.heap.size (w41, m36) H lc → lv_has ls 11 [] → W p l e (rmO g 15 353 s.heap) s mi args below meth cd H lc cn sn Q (F0 mi 209 ls [.int v51]) := by
                intro v51 H lc cn sn ls h hw hl
                replace h := kaj53 _ h
                obtain ⟨c52, h⟩ := og h
                replace h := (Option.some.inj h).symm
                obtain ⟨rfl, h8⟩ := Prod.mk.inj h
                obtain ⟨rfl, rfl⟩ := Prod.mk.inj h8
                exact hret _ _ _ _ _ _ _ dL_isBegun_209 c52 hw rfl
              replace h := h1aj53
              obtain ⟨aj50, h1aj50, kaj50, raj50⟩ := ol0 h
              have haj50 : ∀ (H : Heap) (lc : List Loc) (cn sn : Nat) (ls : Array Slot), aj50 = Sum.inl () → wH g s.heap.size (w41, m36) H lc → lv_has ls 11 [] → W p l e (rmO g 15 353 s.heap) s mi args below meth cd H lc cn sn Q (F0 mi 208 ls []) := by
                intro H lc cn sn ls h hw hl
                replace h := kaj50 h
                refine lv_iconst (v := 0) hx hb dL_isBegun_208 (by decide) ?_
                replace h := (Option.some.inj h).symm
                exact haj53 _ _ _ _ _ _ h hw (lv_sub hl [] rfl)
              replace h := h1aj50
              refine lv_icmp_ne (tgt := 208) hx hb dL_isBegun_183 (by decide) (fun c42 => ?_) (fun c42 => ?_)
              · replace h := oe c42 h
                replace h := (Option.some.inj h).symm
                exact haj50 _ _ _ _ _ h hw (lv_sub hl [] rfl)
              · replace h := ot c42 h
                refine lv_iload hx hb dL_isBegun_186 (lv_at hl 0 rfl) ?_
                obtain ⟨aj49, h1aj49, kaj49, raj49⟩ := ol0 h
                have haj49 : ∀ (H : Heap) (lc : List Loc) (cn sn : Nat) (ls : Array Slot), aj49 = Sum.inl () → wH g s.heap.size (w41, m36) H lc → lv_has ls 11 [] → W p l e (rmO g 15 353 s.heap) s mi args below meth cd H lc cn sn Q (F0 mi 204 ls []) := by
                  intro H lc cn sn ls h hw hl
                  replace h := kaj49 h
                  refine lv_iconst (v := 1) hx hb dL_isBegun_204 (by decide) ?_
                  refine lv_goto (tgt := 209) hx hb dL_isBegun_205 (by decide) ?_
                  replace h := (Option.some.inj h).symm
                  replace h := raj50 _ h
                  exact haj53 _ _ _ _ _ _ h hw (lv_sub hl [] rfl)
                replace h := h1aj49
                refine lv_if_lt (tgt := 204) hx hb dL_isBegun_188 (by decide) (fun c43 => ?_) (fun c43 => ?_)
                · replace h := ot c43 h
                  replace h := (Option.some.inj h).symm
                  exact haj49 _ _ _ _ _ h hw (lv_sub hl [] rfl)
                · replace h := oe c43 h
                  refine t_aload_n hx hb dL_isBegun_191 rfl (lv_at hl 1 rfl) ?_
                  refine lv_iload hx hb dL_isBegun_192 (lv_at hl 0 rfl) ?_
                  obtain ⟨c44, h⟩ := og h
                  obtain ⟨v46, e45, h⟩ := obn3 h
                  refine x_callVNi (n := 1) (As := [.int v21]) (rest := []) hX hw (c_X6_standing g l hG hst m36 p0 v21 w41 _ e45) gL_isBegun_X6_standing rfl (by decide +kernel) rfl (x_nz hw c44) (c_recv hX hw (ce_6 c44) rfl) hl.1 rfl (Nat.le_of_ble_eq_true rfl) ⟨by decide, by decide⟩ dL_isBegun_194 (fun H lc cn sn hw => ?_)
                  have hw : wH g s.heap.size (w41, m36) H lc := hw
                  refine lv_aload_n hx hb dL_isBegun_197 rfl (lv_at hl 2 rfl) ?_
                  refine lv_iload hx hb dL_isBegun_198 (lv_at hl 0 rfl) ?_
                  obtain ⟨c47, h⟩ := og h
                  refine m_ld hX hn hw 1 (by decide) rfl c47 dL_isBegun_200 ?_
                  refine lv_icmp_ne (tgt := 208) hx hb dL_isBegun_201 (by decide) (fun c48 => ?_) (fun c48 => ?_)
                  · replace h := oe c48 h
                    replace h := (Option.some.inj h).symm
                    replace h := raj49 _ h
                    exact haj50 _ _ _ _ _ h hw (lv_sub hl [] rfl)
                  · replace h := ot c48 h
                    replace h := (Option.some.inj h).symm
                    exact haj49 _ _ _ _ _ h hw (lv_sub hl [] rfl)
            replace h := h1aj54
            refine lv_if_eq (tgt := 176) hx hb dL_isBegun_169 (by decide) (fun c37 => ?_) (fun c37 => ?_)
            · replace h := ot c37 h
              refine lv_iconst (v := 0) hx hb dL_isBegun_176 (by decide) ?_
              replace h := (Option.some.inj h).symm
              exact haj54 _ _ _ _ _ _ h hw (lv_sub hl [0, 1, 2] rfl)
            · replace h := oe c37 h
              refine lv_iconst (v := 1) hx hb dL_isBegun_172 (by decide) ?_
              refine lv_goto (tgt := 177) hx hb dL_isBegun_173 (by decide) ?_
              replace h := (Option.some.inj h).symm
              exact haj54 _ _ _ _ _ _ h hw (lv_sub hl [0, 1, 2] rfl)
          replace h := h1aj55
          refine lv_if_lt (tgt := 161) hx hb dL_isBegun_114 (by decide) (fun c22 => ?_) (fun c22 => ?_)
          · replace h := ot c22 h
            replace h := (Option.some.inj h).symm
            exact haj55 _ _ _ _ _ _ h hw (lv_sub hl [0, 1, 2, 5, 6, 7] rfl)
          · replace h := oe c22 h
            refine lv_aload_n hx hb dL_isBegun_117 rfl (lv_at hl 2 rfl) ?_
            refine lv_iload hx hb dL_isBegun_118 (lv_at hl 0 rfl) ?_
            refine lv_iconst (v := 0) hx hb dL_isBegun_120 (by decide) ?_
            obtain ⟨c23, h⟩ := og h
            obtain ⟨m24, em24, h⟩ := ol h
            refine m_st hX hn hw 1 (by decide) rfl c23 dL_isBegun_121 (fun H lc hw => ?_)
            have hw := hm_eq em24 hw
            refine lv_aload_n hx hb dL_isBegun_122 rfl (lv_at hl 3 rfl) ?_
            refine lv_iload hx hb dL_isBegun_123 (lv_at hl 0 rfl) ?_
            refine lv_bipush (v := 16) hx hb dL_isBegun_125 (by decide) ?_
            refine lv_iload hx hb dL_isBegun_127 (lv_at hl 5 rfl) ?_
            refine lv_imul hx hb dL_isBegun_129 ?_
            refine lv_iload hx hb dL_isBegun_130 (lv_at hl 6 rfl) ?_
            refine lv_iadd hx hb dL_isBegun_132 ?_
            refine lv_iload hx hb dL_isBegun_133 (lv_at hl 7 rfl) ?_
            obtain ⟨aj35, h1aj35, kaj35⟩ := ob1 h
            have haj35 : ∀ (v26 : Int32) (H : Heap) (lc : List Loc) (cn sn : Nat) (ls : Array Slot), aj35 = v26 → wH g s.heap.size (w, m24) H lc → lv_has ls 11 [(10, .int v21), (0, rv p0), (1, .ref (gmd g 1)), (2, .ref (gmd g 2)), (3, .ref (gmd g 3)), (5, .int p5), (6, .int p6), (7, .int p7)] → W p l e (rmO g 15 353 s.heap) s mi args below meth cd H lc cn sn Q (F0 mi 144 ls [.int v26, .int ((16 * p5) + p6), .int v21, .ref (gmd g 2)]) := by
              intro v26 H lc cn sn ls h hw hl
              replace h := kaj35 _ h
              refine lv_iadd hx hb dL_isBegun_144 ?_
              obtain ⟨c27, h⟩ := og h
              obtain ⟨m28, em28, h⟩ := ol h
              refine m_st hX hn hw 2 (by decide) rfl c27 dL_isBegun_145 (fun H lc hw => ?_)
              have hw := hm_eq em28 hw
              refine lv_aload_n hx hb dL_isBegun_146 rfl (lv_at hl 4 rfl) ?_
              refine lv_bipush (v := 14) hx hb dL_isBegun_147 (by decide) ?_
              refine lv_dup2_11 hx hb dL_isBegun_149 rfl rfl ?_
              obtain ⟨c29, h⟩ := og h
              refine m_ld hX hn hw 3 (by decide) rfl c29 dL_isBegun_150 ?_
              refine lv_iconst (v := 1) hx hb dL_isBegun_151 (by decide) ?_
              refine lv_iadd hx hb dL_isBegun_152 ?_
              obtain ⟨c30, h⟩ := og h
              obtain ⟨m31, em31, h⟩ := ol h
              refine m_st hX hn hw 3 (by decide) rfl c30 dL_isBegun_153 (fun H lc hw => ?_)
              have hw := hm_eq em31 hw
              refine lv_aload_n hx hb dL_isBegun_154 rfl (lv_at hl 2 rfl) ?_
              refine lv_aload_n hx hb dL_isBegun_155 rfl (lv_at hl 3 rfl) ?_
              refine lv_aload_n hx hb dL_isBegun_156 rfl (lv_at hl 4 rfl) ?_
              obtain ⟨v33, m34, e32, h⟩ := oc2 h
              refine g_callSi (n := 3) (As := [.ref (gmd g 1), .ref (gmd g 2), .ref (gmd g 3)]) (rest := []) hX hw (c_L_goesOn g l hG hC hst hn hS  w m31 v33  m34 e32) gL_isBegun_L_goesOn rfl (by decide +kernel) rfl hl.1 rfl (Nat.le_of_ble_eq_true rfl) ⟨by decide, by decide⟩ dL_isBegun_157 (fun H lc cn sn hw => ?_)
              refine lv_pop hx hb dL_isBegun_160 rfl ?_
              replace h := (Option.some.inj h).symm
              exact haj55 _ _ _ _ _ _ h hw (lv_sub hl [0, 1, 2, 5, 6, 7] rfl)
            replace h := h1aj35
            refine lv_if_eq (tgt := 143) hx hb dL_isBegun_135 (by decide) (fun c25 => ?_) (fun c25 => ?_)
            · replace h := ot c25 h
              refine lv_iconst (v := 0) hx hb dL_isBegun_143 (by decide) ?_
              replace h := (Option.some.inj h).symm
              exact haj35 _ _ _ _ _ _ h hw (lv_sub hl [0, 1, 2, 3, 4, 5, 6, 7] rfl)
            · replace h := oe c25 h
              refine lv_bipush (v := 8) hx hb dL_isBegun_138 (by decide) ?_
              refine lv_goto (tgt := 144) hx hb dL_isBegun_140 (by decide) ?_
              replace h := (Option.some.inj h).symm
              exact haj35 _ _ _ _ _ _ h hw (lv_sub hl [0, 1, 2, 3, 4, 5, 6, 7] rfl)
        replace h := h1aj56
        refine lv_if_ne (tgt := 81) hx hb dL_isBegun_73 (by decide) (fun c16 => ?_) (fun c16 => ?_)
        · replace h := oe c16 h
          refine lv_iload hx hb dL_isBegun_81 (lv_at hl 0 rfl) ?_
          refine lv_if_ne (tgt := 91) hx hb dL_isBegun_83 (by decide) (fun c17 => ?_) (fun c17 => ?_)
          · replace h := oe c17 h
            refine lv_aload_n hx hb dL_isBegun_91 rfl (lv_at hl 5 rfl) ?_
            refine lv_iconst (v := 3) hx hb dL_isBegun_92 (by decide) ?_
            refine lv_iload hx hb dL_isBegun_93 (lv_at hl 6 rfl) ?_
            refine lv_imul hx hb dL_isBegun_95 ?_
            obtain ⟨c18, h⟩ := og h
            refine m_ld hX hn hw 3 (by decide) rfl c18 dL_isBegun_96 ?_
            refine lv_iconst (v := 1) hx hb dL_isBegun_97 (by decide) ?_
            refine lv_icmp_eq (tgt := 106) hx hb dL_isBegun_98 (by decide) (fun c19 => ?_) (fun c19 => ?_)
            · replace h := ot c19 h
              refine lv_aload_n hx hb dL_isBegun_106 rfl (lv_at hl 5 rfl) ?_
              refine lv_bipush (v := 14) hx hb dL_isBegun_107 (by decide) ?_
              obtain ⟨c20, h⟩ := og h
              refine m_ld hX hn hw 3 (by decide) rfl c20 dL_isBegun_109 ?_
              replace h := (Option.some.inj h).symm
              exact haj56 _ _ _ _ _ _ h hw (lv_sub hl [2, 3, 4, 5, 6, 7, 8] rfl)
            · replace h := oe c19 h
              refine lv_bipush (v := (-10)) hx hb dL_isBegun_101 (by decide) ?_
              refine lv_goto (tgt := 110) hx hb dL_isBegun_103 (by decide) ?_
              replace h := (Option.some.inj h).symm
              exact haj56 _ _ _ _ _ _ h hw (lv_sub hl [2, 3, 4, 5, 6, 7, 8] rfl)
          · replace h := ot c17 h
            refine lv_bipush (v := (-20)) hx hb dL_isBegun_86 (by decide) ?_
            refine lv_goto (tgt := 110) hx hb dL_isBegun_88 (by decide) ?_
            replace h := (Option.some.inj h).symm
            exact haj56 _ _ _ _ _ _ h hw (lv_sub hl [2, 3, 4, 5, 6, 7, 8] rfl)
        · replace h := ot c16 h
          refine lv_bipush (v := (-30)) hx hb dL_isBegun_76 (by decide) ?_
          refine lv_goto (tgt := 110) hx hb dL_isBegun_78 (by decide) ?_
          replace h := (Option.some.inj h).symm
          exact haj56 _ _ _ _ _ _ h hw (lv_sub hl [2, 3, 4, 5, 6, 7, 8] rfl)
      have hkj57 : ∀ (n : Nat) (v5 : Int32) (v6 : Int32) (H : Heap) (lc : List Loc) (cn sn : Nat) (ls : Array Slot), x_L_isBegun_L1 mm p6 n v5 v6 = some aj57 → wH g s.heap.size (w, mm) H lc → lv_has ls 11 [(10, .int v5), (9, .int v4), (8, .int v6), (0, rv p0), (1, .ref (gmd g 1)), (2, .ref (gmd g 2)), (3, .ref (gmd g 3)), (4, .ref (gmd g 4)), (5, .int p5), (6, .int p6), (7, .int p7)] → W p l e (rmO g 15 353 s.heap) s mi args below meth cd H lc cn sn Q (F0 mi 28 ls []) := by
        intro n
        induction n with
        | zero =>
          intro v5 v6 H lc cn sn ls h
          rw [x_L_isBegun_L1] at h
          cases h
        | succ n ih =>
          intro v5 v6 H lc cn sn ls h hw hl
          rw [x_L_isBegun_L1] at h
          refine lv_iload hx hb dL_isBegun_28 (lv_at hl 0 rfl) ?_
          refine lv_iconst (v := 3) hx hb dL_isBegun_30 (by decide) ?_
          refine lv_icmp_ge (tgt := 71) hx hb dL_isBegun_31 (by decide) (fun c7 => ?_) (fun c7 => ?_)
          · replace h := ot c7 h
            replace h := (Option.some.inj h).symm
            exact haj57 _ _ _ _ _ _ h hw (lv_sub hl [1, 2, 3, 4, 5, 6, 8, 9, 10] rfl)
          · replace h := oe c7 h
            refine lv_iload hx hb dL_isBegun_34 (lv_at hl 2 rfl) ?_
            refine lv_if_eq (tgt := 71) hx hb dL_isBegun_36 (by decide) (fun c8 => ?_) (fun c8 => ?_)
            · replace h := ot c8 h
              replace h := (Option.some.inj h).symm
              exact haj57 _ _ _ _ _ _ h hw (lv_sub hl [1, 2, 3, 4, 5, 6, 8, 9, 10] rfl)
            · replace h := oe c8 h
              refine lv_iload hx hb dL_isBegun_39 (lv_at hl 9 rfl) ?_
              refine lv_iload hx hb dL_isBegun_41 (lv_at hl 0 rfl) ?_
              refine lv_ishr hx hb dL_isBegun_43 ?_
              refine lv_iconst (v := 1) hx hb dL_isBegun_44 (by decide) ?_
              refine lv_iand hx hb dL_isBegun_45 ?_
              obtain ⟨aj14, h1aj14, kaj14⟩ := ob1 h
              have haj14 : ∀ (v13 : Int32) (H : Heap) (lc : List Loc) (cn sn : Nat) (ls : Array Slot), aj14 = v13 → wH g s.heap.size (w, mm) H lc → lv_has ls 11 [(10, .int v5), (9, .int v4), (0, rv p0), (1, .ref (gmd g 1)), (2, .ref (gmd g 2)), (3, .ref (gmd g 3)), (4, .ref (gmd g 4)), (5, .int p5), (6, .int p6), (7, .int p7)] → W p l e (rmO g 15 353 s.heap) s mi args below meth cd H lc cn sn Q (F0 mi 63 ls [.int v13]) := by
                intro v13 H lc cn sn ls h hw hl
                replace h := kaj14 _ h
                refine lv_istore (lv' := [(8, .int v13), (10, .int v5), (9, .int v4), (0, rv p0), (1, .ref (gmd g 1)), (2, .ref (gmd g 2)), (3, .ref (gmd g 3)), (4, .ref (gmd g 4)), (5, .int p5), (6, .int p6), (7, .int p7)]) hx hb dL_isBegun_63 hl (by decide) rfl (fun ls hl => ?_)
                refine lv_iinc (v := (v5 + 1)) (lv' := [(10, .int (v5 + 1)), (8, .int v13), (9, .int v4), (0, rv p0), (1, .ref (gmd g 1)), (2, .ref (gmd g 2)), (3, .ref (gmd g 3)), (4, .ref (gmd g 4)), (5, .int p5), (6, .int p6), (7, .int p7)]) hx hb dL_isBegun_65 hl (k := 1) rfl (by rfl) (by decide) rfl (fun ls hl => ?_)
                refine lv_goto (tgt := 28) hx hb dL_isBegun_68 (by decide) ?_
                exact ih _ _ _ _ _ _ _ h hw (lv_sub hl [0, 2, 1, 3, 4, 5, 6, 7, 8, 9, 10] rfl)
              replace h := h1aj14
              obtain ⟨aj12, h1aj12, kaj12, raj12⟩ := ol0 h
              have haj12 : ∀ (H : Heap) (lc : List Loc) (cn sn : Nat) (ls : Array Slot), aj12 = Sum.inl () → wH g s.heap.size (w, mm) H lc → lv_has ls 11 [(10, .int v5), (9, .int v4), (0, rv p0), (1, .ref (gmd g 1)), (2, .ref (gmd g 2)), (3, .ref (gmd g 3)), (4, .ref (gmd g 4)), (5, .int p5), (6, .int p6), (7, .int p7)] → W p l e (rmO g 15 353 s.heap) s mi args below meth cd H lc cn sn Q (F0 mi 58 ls []) := by
                intro H lc cn sn ls h hw hl
                replace h := kaj12 h
                refine lv_iconst (v := 1) hx hb dL_isBegun_58 (by decide) ?_
                refine lv_goto (tgt := 63) hx hb dL_isBegun_59 (by decide) ?_
                replace h := (Option.some.inj h).symm
                exact haj14 _ _ _ _ _ _ h hw (lv_sub hl [0, 1, 2, 3, 4, 5, 6, 7, 8, 9] rfl)
              replace h := h1aj12
              refine lv_if_eq (tgt := 58) hx hb dL_isBegun_46 (by decide) (fun c9 => ?_) (fun c9 => ?_)
              · replace h := ot c9 h
                replace h := (Option.some.inj h).symm
                exact haj12 _ _ _ _ _ h hw (lv_sub hl [0, 1, 3, 4, 5, 6, 7, 8, 9, 10] rfl)
              · replace h := oe c9 h
                refine lv_aload hx hb dL_isBegun_49 (lv_at hl 7 rfl) ?_
                refine lv_iload hx hb dL_isBegun_51 (lv_at hl 0 rfl) ?_
                obtain ⟨c10, h⟩ := og h
                refine m_ld hX hn hw 4 (by decide) rfl c10 dL_isBegun_53 ?_
                refine lv_iconst (v := 1) hx hb dL_isBegun_54 (by decide) ?_
                refine lv_icmp_ne (tgt := 62) hx hb dL_isBegun_55 (by decide) (fun c11 => ?_) (fun c11 => ?_)
                · replace h := oe c11 h
                  refine lv_iconst (v := 0) hx hb dL_isBegun_62 (by decide) ?_
                  replace h := (Option.some.inj h).symm
                  replace h := raj12 _ h
                  exact haj14 _ _ _ _ _ _ h hw (lv_sub hl [0, 1, 3, 4, 5, 6, 7, 8, 9, 10] rfl)
                · replace h := ot c11 h
                  replace h := (Option.some.inj h).symm
                  exact haj12 _ _ _ _ _ h hw (lv_sub hl [0, 1, 3, 4, 5, 6, 7, 8, 9, 10] rfl)
      exact hkj57 FU 0 v2 _ _ _ _ _ h1aj57 hw (lv_sub hl [0, 1, 2, 3, 4, 5, 6, 7, 8, 9, 10] rfl)
    replace h := h1aj58
    refine lv_if_le (tgt := 22) hx hb dL_isBegun_15 (by decide) (fun c3 => ?_) (fun c3 => ?_)
    · replace h := ot c3 h
      refine lv_iconst (v := 0) hx hb dL_isBegun_22 (by decide) ?_
      replace h := (Option.some.inj h).symm
      exact haj58 _ _ _ _ _ _ h hw (lv_sub hl [0, 1, 2, 3, 4, 5, 6, 7, 8] rfl)
    · replace h := oe c3 h
      refine lv_iconst (v := 1) hx hb dL_isBegun_18 (by decide) ?_
      refine lv_goto (tgt := 23) hx hb dL_isBegun_19 (by decide) ?_
      replace h := (Option.some.inj h).symm
      exact haj58 _ _ _ _ _ _ h hw (lv_sub hl [0, 1, 2, 3, 4, 5, 6, 7, 8] rfl)
  replace h := h1aj59
  refine lv_icmp_ge (tgt := 10) hx hb dL_isBegun_3 (by decide) (fun c1 => ?_) (fun c1 => ?_)
  · replace h := ot c1 h
    refine lv_iconst (v := 0) hx hb dL_isBegun_10 (by decide) ?_
    replace h := (Option.some.inj h).symm
    exact haj59 _ _ _ _ _ _ h hw (lv_sub hl [0, 1, 2, 3, 4, 5, 6, 7] rfl)
  · replace h := oe c1 h
    refine lv_iconst (v := 1) hx hb dL_isBegun_6 (by decide) ?_
    refine lv_goto (tgt := 11) hx hb dL_isBegun_7 (by decide) ?_
    replace h := (Option.some.inj h).symm
    exact haj59 _ _ _ _ _ _ h hw (lv_sub hl [0, 1, 2, 3, 4, 5, 6, 7] rfl)

def x_L_isEnded (p0 : Nat) (p5 : Int32) (p6 : Int32) (w : CS) (mm : MS) : Option (Int32 × CS × MS) :=
  if vR 14 16 then
  if (p5 : Int32) = (ga mm 3 (14 : Int32).toNatClampNeg) then
    bd (
      if (p6 : Int32) = 0 then
        some (7 : Int32)
      else
        some (6 : Int32)) (fun (v60 : Int32) =>
    b2 (x_L_does p0 v60 p5 0 0 0 w) (fun (v62 : Int32) (w63 : CS) =>
    bd (
      if (v62 : Int32) = (-30) then
        some (1 : Int32)
      else
        some (0 : Int32)) (fun (v65 : Int32) =>
    if isB v65 then
    some ((v65, w63, mm))
    else none)))
  else
    l0 (
      l0 (
        if (p6 : Int32) = 0 then
          bd (x_L_isAlive p5 mm) (fun (v5 : Int32) =>
          if (v5 : Int32) = 0 then
            some (.inl ())
          else
            some (.inr (.inl ())))
        else
          if vR p5 60 then
          if ((ga mm 1 p5.toNatClampNeg) : Int32) = 1 then
            some (.inr (.inl ()))
          else
            some (.inl ())
          else none) (fun (_ : Unit) =>
      bd (
        if (p6 : Int32) = 0 then
          some (7 : Int32)
        else
          some (6 : Int32)) (fun (v10 : Int32) =>
      b2 (x_L_does p0 v10 p5 0 0 0 w) (fun (v12 : Int32) (w13 : CS) =>
      bd (
        if (v12 : Int32) = (-10) then
          some (1 : Int32)
        else
          some (0 : Int32)) (fun (v15 : Int32) =>
      if isB v15 then
      some (.inr ((v15, w13, mm)))
      else none))))) (fun (_ : Unit) =>
    if vR p5 60 then
    bd (
      if (p6 : Int32) = 0 then
        some mm
      else
        if vR 13 16 then
        if (p5 : Int32) = (ga mm 3 (13 : Int32).toNatClampNeg) then
          if vR ((3 * ((ga mm 2 p5.toNatClampNeg) / 16)) + 1) 16 then
          if vR 12 16 then
          bs (sa mm 3 (12 : Int32).toNatClampNeg (ga mm 3 ((3 * ((ga mm 2 p5.toNatClampNeg) / 16)) + 1).toNatClampNeg)) (fun (m26 : MS) =>
          if vR (3 * ((ga mm 2 p5.toNatClampNeg) / 16)) 16 then
          bs (sa m26 3 (3 * ((ga mm 2 p5.toNatClampNeg) / 16)).toNatClampNeg 1) (fun (m28 : MS) =>
          if vR 13 16 then
          bs (sa m28 3 (13 : Int32).toNatClampNeg (-1)) (fun (m30 : MS) =>
          some m30)
          else none)
          else none)
          else none
          else none
        else
          some mm
        else none) (fun (m31 : MS) =>
    bd (
      if (p6 : Int32) = 0 then
        bd (x_L_aborts p5 ((ga mm 2 p5.toNatClampNeg) / 16) m31) (fun (m34 : MS) =>
        some m34)
      else
        if vR p5 60 then
        bs (sa m31 1 p5.toNatClampNeg 2) (fun (m36 : MS) =>
        some m36)
        else none) (fun (m37 : MS) =>
    b2 (x_L_goesOn m37) (fun (v39 : Int32) (m40 : MS) =>
    bd (
      if (p6 : Int32) = 0 then
        bd (x_L_looks m40) (fun (m43 : MS) =>
        some m43)
      else
        some m40) (fun (m44 : MS) =>
    bd (
      if (p6 : Int32) = 0 then
        some (7 : Int32)
      else
        some (6 : Int32)) (fun (v46 : Int32) =>
    b2 (x_L_does p0 v46 p5 0 0 0 w) (fun (v48 : Int32) (w49 : CS) =>
    bd (
      if (v48 : Int32) = v39 then
        some (1 : Int32)
      else
        some (0 : Int32)) (fun (v51 : Int32) =>
    if isB v51 then
    some ((v51, w49, m44))
    else none)))))))
    else none)
  else none
set_option maxHeartbeats 4000000 in
set_option maxRecDepth 100000 in
theorem c_L_isEnded (g : GG) (l : Launch) (hG : XG g) (hC : NC g) (hst : l.stackTraces = false) (hn : gnn g 4 = 1) {b L : Nat} {xs : Nat → Int32} (hS : SCG g b L xs) (p0 : Nat) (p5 : Int32) (p6 : Int32) (w : CS) (mm : MS) (r : Int32) (w' : CS) (mm' : MS) (h : x_L_isEnded p0 p5 p6 w mm = some (r, w', mm')) : MetG g l yL_isEnded wsL_isEnded 15 353 [rv p0, .ref (gmd g 1), .ref (gmd g 2), .ref (gmd g 3), .ref (gmd g 4), .int p5, .int p6] (w, mm) (some (.int r)) (w', mm') := by
  refine g_start_z (some (.int r)) (own := RL) (by decide +kernel) rfl rfl (by simp [lg_sl, rv_cat, ct_i, ct_l, ct_r]) ?_
  intro p e s mi args below meth cd ls Q hX hnm hw hl hret
  have hl : lv_has ls 9 [(0, rv p0), (1, .ref (gmd g 1)), (2, .ref (gmd g 2)), (3, .ref (gmd g 3)), (4, .ref (gmd g 4)), (5, .int p5), (6, .int p6)] := by simpa [lv_args, rv_cat, ct_i, ct_l, ct_r] using hl
  obtain ⟨⟨hx, hb, -, hown, hts⟩, -⟩ := id hX
  unfold x_L_isEnded at h
  refine lv_iload hx hb dL_isEnded_0 (lv_at hl 5 rfl) ?_
  refine lv_aload_n hx hb dL_isEnded_2 rfl (lv_at hl 3 rfl) ?_
  refine lv_bipush (v := 14) hx hb dL_isEnded_3 (by decide) ?_
  obtain ⟨c1, h⟩ := og h
  refine m_ld hX hn hw 3 (by decide) rfl c1 dL_isEnded_5 ?_
  refine lv_icmp_ne (tgt := 41) hx hb dL_isEnded_6 (by decide) (fun c2 => ?_) (fun c2 => ?_)
  · replace h := oe c2 h
    refine lv_iload hx hb dL_isEnded_41 (lv_at hl 6 rfl) ?_
    obtain ⟨aj58, h1aj58, kaj58, raj58⟩ := ol0 h
    have haj58 : ∀ (H : Heap) (lc : List Loc) (cn sn : Nat) (ls : Array Slot), aj58 = Sum.inl () → wH g s.heap.size (w, mm) H lc → lv_has ls 9 [(0, rv p0), (1, .ref (gmd g 1)), (2, .ref (gmd g 2)), (3, .ref (gmd g 3)), (4, .ref (gmd g 4)), (5, .int p5), (6, .int p6)] → W p l e (rmO g 15 353 s.heap) s mi args below meth cd H lc cn sn Q (F0 mi 98 ls []) := by
      intro H lc cn sn ls h hw hl
      replace h := kaj58 h
      refine lv_aload_n hx hb dL_isEnded_98 rfl (lv_at hl 2 rfl) ?_
      refine lv_iload hx hb dL_isEnded_99 (lv_at hl 5 rfl) ?_
      obtain ⟨c20, h⟩ := og h
      refine m_ld hX hn hw 2 (by decide) rfl c20 dL_isEnded_101 ?_
      refine lv_bipush (v := 16) hx hb dL_isEnded_102 (by decide) ?_
      refine lv_idiv hx hb dL_isEnded_104 (by decide) ?_
      refine lv_istore (lv' := [(7, .int ((ga mm 2 p5.toNatClampNeg) / 16)), (0, rv p0), (1, .ref (gmd g 1)), (2, .ref (gmd g 2)), (3, .ref (gmd g 3)), (4, .ref (gmd g 4)), (5, .int p5), (6, .int p6)]) hx hb dL_isEnded_105 hl (by decide) rfl (fun ls hl => ?_)
      refine lv_iload hx hb dL_isEnded_107 (lv_at hl 7 rfl) ?_
      obtain ⟨aj57, h1aj57, kaj57⟩ := ob1 h
      have haj57 : ∀ (m31 : MS) (H : Heap) (lc : List Loc) (cn sn : Nat) (ls : Array Slot), aj57 = m31 → wH g s.heap.size (w, m31) H lc → lv_has ls 9 [(7, .int ((ga mm 2 p5.toNatClampNeg) / 16)), (0, rv p0), (1, .ref (gmd g 1)), (2, .ref (gmd g 2)), (3, .ref (gmd g 3)), (4, .ref (gmd g 4)), (5, .int p5), (6, .int p6)] → W p l e (rmO g 15 353 s.heap) s mi args below meth cd H lc cn sn Q (F0 mi 145 ls []) := by
        intro m31 H lc cn sn ls h hw hl
        replace h := kaj57 _ h
        refine lv_iload hx hb dL_isEnded_145 (lv_at hl 7 rfl) ?_
        obtain ⟨aj56, h1aj56, kaj56⟩ := ob1 h
        have haj56 : ∀ (m37 : MS) (H : Heap) (lc : List Loc) (cn sn : Nat) (ls : Array Slot), aj56 = m37 → wH g s.heap.size (w, m37) H lc → lv_has ls 9 [(0, rv p0), (1, .ref (gmd g 1)), (2, .ref (gmd g 2)), (3, .ref (gmd g 3)), (4, .ref (gmd g 4)), (5, .int p5), (6, .int p6)] → W p l e (rmO g 15 353 s.heap) s mi args below meth cd H lc cn sn Q (F0 mi 169 ls []) := by
          intro m37 H lc cn sn ls h hw hl
          replace h := kaj56 _ h
          refine lv_aload_n hx hb dL_isEnded_169 rfl (lv_at hl 1 rfl) ?_
          refine lv_aload_n hx hb dL_isEnded_170 rfl (lv_at hl 2 rfl) ?_
          refine lv_aload_n hx hb dL_isEnded_171 rfl (lv_at hl 3 rfl) ?_
          obtain ⟨v39, m40, e38, h⟩ := oc2 h
          refine g_callSi (n := 3) (As := [.ref (gmd g 1), .ref (gmd g 2), .ref (gmd g 3)]) (rest := []) hX hw (c_L_goesOn g l hG hC hst hn hS  w m37 v39  m40 e38) gL_isEnded_L_goesOn rfl (by decide +kernel) rfl hl.1 rfl (Nat.le_of_ble_eq_true rfl) ⟨by decide, by decide⟩ dL_isEnded_172 (fun H lc cn sn hw => ?_)
          refine lv_istore (lv' := [(8, .int v39), (0, rv p0), (1, .ref (gmd g 1)), (2, .ref (gmd g 2)), (3, .ref (gmd g 3)), (4, .ref (gmd g 4)), (5, .int p5), (6, .int p6)]) hx hb dL_isEnded_175 hl (by decide) rfl (fun ls hl => ?_)
          refine lv_iload hx hb dL_isEnded_177 (lv_at hl 7 rfl) ?_
          obtain ⟨aj55, h1aj55, kaj55⟩ := ob1 h
          have haj55 : ∀ (m44 : MS) (H : Heap) (lc : List Loc) (cn sn : Nat) (ls : Array Slot), aj55 = m44 → wH g s.heap.size (w, m44) H lc → lv_has ls 9 [(8, .int v39), (0, rv p0), (5, .int p5), (6, .int p6)] → W p l e (rmO g 15 353 s.heap) s mi args below meth cd H lc cn sn Q (F0 mi 190 ls []) := by
            intro m44 H lc cn sn ls h hw hl
            replace h := kaj55 _ h
            refine t_aload_n hx hb dL_isEnded_190 rfl (lv_at hl 1 rfl) ?_
            refine lv_iload hx hb dL_isEnded_191 (lv_at hl 3 rfl) ?_
            obtain ⟨aj54, h1aj54, kaj54⟩ := ob1 h
            have haj54 : ∀ (v46 : Int32) (H : Heap) (lc : List Loc) (cn sn : Nat) (ls : Array Slot), aj54 = v46 → wH g s.heap.size (w, m44) H lc → lv_has ls 9 [(8, .int v39), (5, .int p5)] → W p l e (rmO g 15 353 s.heap) s mi args below meth cd H lc cn sn Q (F0 mi 203 ls [.int v46, rv p0]) := by
              intro v46 H lc cn sn ls h hw hl
              replace h := kaj54 _ h
              refine lv_iload hx hb dL_isEnded_203 (lv_at hl 1 rfl) ?_
              refine lv_iconst (v := 0) hx hb dL_isEnded_205 (by decide) ?_
              refine lv_iconst (v := 0) hx hb dL_isEnded_206 (by decide) ?_
              refine lv_iconst (v := 0) hx hb dL_isEnded_207 (by decide) ?_
              obtain ⟨v48, w49, e47, h⟩ := oc2 h
              refine g_callSWi (n := 6) (As := [rv p0, .int v46, .int p5, .int 0, .int 0, .int 0]) (rest := []) hX hw (c_L_does g l hG hC hst m44 p0 v46 p5 0 0 0 w v48 w49 e47) gL_isEnded_L_does rfl (by decide +kernel) rfl hl.1 rfl (Nat.le_of_ble_eq_true rfl) ⟨by decide, by decide⟩ dL_isEnded_208 (fun H lc cn sn hw => ?_)
              refine lv_iload hx hb dL_isEnded_211 (lv_at hl 0 rfl) ?_
              obtain ⟨aj53, h1aj53, kaj53⟩ := ob1 h
              have haj53 : ∀ (v51 : Int32) (H : Heap) (lc : List Loc) (cn sn : Nat) (ls : Array Slot), aj53 = v51 → wH g s.heap.size (w49, m44) H lc → lv_has ls 9 [] → W p l e (rmO g 15 353 s.heap) s mi args below meth cd H lc cn sn Q (F0 mi 221 ls [.int v51]) := by
                intro v51 H lc cn sn ls h hw hl
                replace h := kaj53 _ h
                obtain ⟨c52, h⟩ := og h
                replace h := (Option.some.inj h).symm
                obtain ⟨rfl, h8⟩ := Prod.mk.inj h
                obtain ⟨rfl, rfl⟩ := Prod.mk.inj h8
                exact hret _ _ _ _ _ _ _ dL_isEnded_221 c52 hw rfl
              replace h := h1aj53
              refine lv_icmp_ne (tgt := 220) hx hb dL_isEnded_213 (by decide) (fun c50 => ?_) (fun c50 => ?_)
              · replace h := oe c50 h
                refine lv_iconst (v := 0) hx hb dL_isEnded_220 (by decide) ?_
                replace h := (Option.some.inj h).symm
                exact haj53 _ _ _ _ _ _ h hw (lv_sub hl [] rfl)
              · replace h := ot c50 h
                refine lv_iconst (v := 1) hx hb dL_isEnded_216 (by decide) ?_
                refine lv_goto (tgt := 221) hx hb dL_isEnded_217 (by decide) ?_
                replace h := (Option.some.inj h).symm
                exact haj53 _ _ _ _ _ _ h hw (lv_sub hl [] rfl)
            replace h := h1aj54
            refine lv_if_eq (tgt := 201) hx hb dL_isEnded_193 (by decide) (fun c45 => ?_) (fun c45 => ?_)
            · replace h := ot c45 h
              refine lv_bipush (v := 7) hx hb dL_isEnded_201 (by decide) ?_
              replace h := (Option.some.inj h).symm
              exact haj54 _ _ _ _ _ _ h hw (lv_sub hl [0, 2] rfl)
            · replace h := oe c45 h
              refine lv_bipush (v := 6) hx hb dL_isEnded_196 (by decide) ?_
              refine lv_goto (tgt := 203) hx hb dL_isEnded_198 (by decide) ?_
              replace h := (Option.some.inj h).symm
              exact haj54 _ _ _ _ _ _ h hw (lv_sub hl [0, 2] rfl)
          replace h := h1aj55
          refine lv_if_ne (tgt := 190) hx hb dL_isEnded_179 (by decide) (fun c41 => ?_) (fun c41 => ?_)
          · replace h := oe c41 h
            replace h := (Option.some.inj h).symm
            exact haj55 _ _ _ _ _ _ h hw (lv_sub hl [0, 1, 6, 7] rfl)
          · replace h := ot c41 h
            refine lv_aload_n hx hb dL_isEnded_182 rfl (lv_at hl 2 rfl) ?_
            refine lv_aload_n hx hb dL_isEnded_183 rfl (lv_at hl 3 rfl) ?_
            refine lv_aload_n hx hb dL_isEnded_184 rfl (lv_at hl 4 rfl) ?_
            refine lv_aload hx hb dL_isEnded_185 (lv_at hl 5 rfl) ?_
            obtain ⟨m43, e42, h⟩ := ob h
            refine g_callSv (n := 4) (As := [.ref (gmd g 1), .ref (gmd g 2), .ref (gmd g 3), .ref (gmd g 4)]) (rest := []) hX hw (c_L_looks g l hG hC hst hn hS  w m40  m43 e42) gL_isEnded_L_looks rfl (by decide +kernel) rfl hl.1 rfl (Nat.le_of_ble_eq_true rfl) ⟨by decide, by decide⟩ dL_isEnded_187 (fun H lc cn sn hw => ?_)
            replace h := (Option.some.inj h).symm
            exact haj55 _ _ _ _ _ _ h hw (lv_sub hl [0, 1, 6, 7] rfl)
        replace h := h1aj56
        refine lv_if_eq (tgt := 158) hx hb dL_isEnded_147 (by decide) (fun c32 => ?_) (fun c32 => ?_)
        · replace h := ot c32 h
          refine lv_aload_n hx hb dL_isEnded_158 rfl (lv_at hl 2 rfl) ?_
          refine lv_aload_n hx hb dL_isEnded_159 rfl (lv_at hl 4 rfl) ?_
          refine lv_aload hx hb dL_isEnded_160 (lv_at hl 5 rfl) ?_
          refine lv_iload hx hb dL_isEnded_162 (lv_at hl 6 rfl) ?_
          refine lv_iload hx hb dL_isEnded_164 (lv_at hl 0 rfl) ?_
          obtain ⟨m34, e33, h⟩ := ob h
          refine g_callSv (n := 5) (As := [.ref (gmd g 1), .ref (gmd g 3), .ref (gmd g 4), .int p5, .int ((ga mm 2 p5.toNatClampNeg) / 16)]) (rest := []) hX hw (c_L_aborts g l hG hC hst hn hS p5 ((ga mm 2 p5.toNatClampNeg) / 16) w m31  m34 e33) gL_isEnded_L_aborts rfl (by decide +kernel) rfl hl.1 rfl (Nat.le_of_ble_eq_true rfl) ⟨by decide, by decide⟩ dL_isEnded_166 (fun H lc cn sn hw => ?_)
          replace h := (Option.some.inj h).symm
          exact haj56 _ _ _ _ _ _ h hw (lv_sub hl [1, 2, 3, 4, 5, 6, 7] rfl)
        · replace h := oe c32 h
          refine lv_aload_n hx hb dL_isEnded_150 rfl (lv_at hl 2 rfl) ?_
          refine lv_iload hx hb dL_isEnded_151 (lv_at hl 6 rfl) ?_
          refine lv_iconst (v := 2) hx hb dL_isEnded_153 (by decide) ?_
          obtain ⟨c35, h⟩ := og h
          obtain ⟨m36, em36, h⟩ := ol h
          refine m_st hX hn hw 1 (by decide) rfl c35 dL_isEnded_154 (fun H lc hw => ?_)
          have hw := hm_eq em36 hw
          refine lv_goto (tgt := 169) hx hb dL_isEnded_155 (by decide) ?_
          replace h := (Option.some.inj h).symm
          exact haj56 _ _ _ _ _ _ h hw (lv_sub hl [1, 2, 3, 4, 5, 6, 7] rfl)
      replace h := h1aj57
      refine lv_if_eq (tgt := 145) hx hb dL_isEnded_109 (by decide) (fun c21 => ?_) (fun c21 => ?_)
      · replace h := ot c21 h
        replace h := (Option.some.inj h).symm
        exact haj57 _ _ _ _ _ _ h hw (lv_sub hl [0, 1, 2, 3, 4, 5, 6, 7] rfl)
      · replace h := oe c21 h
        refine lv_iload hx hb dL_isEnded_112 (lv_at hl 6 rfl) ?_
        refine lv_aload_n hx hb dL_isEnded_114 rfl (lv_at hl 4 rfl) ?_
        refine lv_bipush (v := 13) hx hb dL_isEnded_115 (by decide) ?_
        obtain ⟨c22, h⟩ := og h
        refine m_ld hX hn hw 3 (by decide) rfl c22 dL_isEnded_117 ?_
        refine lv_icmp_ne (tgt := 145) hx hb dL_isEnded_118 (by decide) (fun c23 => ?_) (fun c23 => ?_)
        · replace h := oe c23 h
          replace h := (Option.some.inj h).symm
          exact haj57 _ _ _ _ _ _ h hw (lv_sub hl [0, 1, 2, 3, 4, 5, 6, 7] rfl)
        · replace h := ot c23 h
          refine lv_aload_n hx hb dL_isEnded_121 rfl (lv_at hl 4 rfl) ?_
          refine lv_bipush (v := 12) hx hb dL_isEnded_122 (by decide) ?_
          refine lv_aload_n hx hb dL_isEnded_124 rfl (lv_at hl 4 rfl) ?_
          refine lv_iconst (v := 3) hx hb dL_isEnded_125 (by decide) ?_
          refine lv_iload hx hb dL_isEnded_126 (lv_at hl 0 rfl) ?_
          refine lv_imul hx hb dL_isEnded_128 ?_
          refine lv_iconst (v := 1) hx hb dL_isEnded_129 (by decide) ?_
          refine lv_iadd hx hb dL_isEnded_130 ?_
          obtain ⟨c24, h⟩ := og h
          refine m_ld hX hn hw 3 (by decide) rfl c24 dL_isEnded_131 ?_
          obtain ⟨c25, h⟩ := og h
          obtain ⟨m26, em26, h⟩ := ol h
          refine m_st hX hn hw 3 (by decide) rfl c25 dL_isEnded_132 (fun H lc hw => ?_)
          have hw := hm_eq em26 hw
          refine lv_aload_n hx hb dL_isEnded_133 rfl (lv_at hl 4 rfl) ?_
          refine lv_iconst (v := 3) hx hb dL_isEnded_134 (by decide) ?_
          refine lv_iload hx hb dL_isEnded_135 (lv_at hl 0 rfl) ?_
          refine lv_imul hx hb dL_isEnded_137 ?_
          refine lv_iconst (v := 1) hx hb dL_isEnded_138 (by decide) ?_
          obtain ⟨c27, h⟩ := og h
          obtain ⟨m28, em28, h⟩ := ol h
          refine m_st hX hn hw 3 (by decide) rfl c27 dL_isEnded_139 (fun H lc hw => ?_)
          have hw := hm_eq em28 hw
          refine lv_aload_n hx hb dL_isEnded_140 rfl (lv_at hl 4 rfl) ?_
          refine lv_bipush (v := 13) hx hb dL_isEnded_141 (by decide) ?_
          refine lv_iconst (v := (-1)) hx hb dL_isEnded_143 (by decide) ?_
          obtain ⟨c29, h⟩ := og h
          obtain ⟨m30, em30, h⟩ := ol h
          refine m_st hX hn hw 3 (by decide) rfl c29 dL_isEnded_144 (fun H lc hw => ?_)
          have hw := hm_eq em30 hw
          replace h := (Option.some.inj h).symm
          exact haj57 _ _ _ _ _ _ h hw (lv_sub hl [0, 1, 2, 3, 4, 5, 6, 7] rfl)
    replace h := h1aj58
    obtain ⟨aj19, h1aj19, kaj19, raj19⟩ := ol0 h
    have haj19 : ∀ (H : Heap) (lc : List Loc) (cn sn : Nat) (ls : Array Slot), aj19 = Sum.inl () → wH g s.heap.size (w, mm) H lc → lv_has ls 9 [(0, rv p0), (5, .int p5), (6, .int p6)] → W p l e (rmO g 15 353 s.heap) s mi args below meth cd H lc cn sn Q (F0 mi 66 ls []) := by
      intro H lc cn sn ls h hw hl
      replace h := kaj19 h
      refine t_aload_n hx hb dL_isEnded_66 rfl (lv_at hl 0 rfl) ?_
      refine lv_iload hx hb dL_isEnded_67 (lv_at hl 2 rfl) ?_
      obtain ⟨aj18, h1aj18, kaj18⟩ := ob1 h
      have haj18 : ∀ (v10 : Int32) (H : Heap) (lc : List Loc) (cn sn : Nat) (ls : Array Slot), aj18 = v10 → wH g s.heap.size (w, mm) H lc → lv_has ls 9 [(5, .int p5)] → W p l e (rmO g 15 353 s.heap) s mi args below meth cd H lc cn sn Q (F0 mi 79 ls [.int v10, rv p0]) := by
        intro v10 H lc cn sn ls h hw hl
        replace h := kaj18 _ h
        refine lv_iload hx hb dL_isEnded_79 (lv_at hl 0 rfl) ?_
        refine lv_iconst (v := 0) hx hb dL_isEnded_81 (by decide) ?_
        refine lv_iconst (v := 0) hx hb dL_isEnded_82 (by decide) ?_
        refine lv_iconst (v := 0) hx hb dL_isEnded_83 (by decide) ?_
        obtain ⟨v12, w13, e11, h⟩ := oc2 h
        refine g_callSWi (n := 6) (As := [rv p0, .int v10, .int p5, .int 0, .int 0, .int 0]) (rest := []) hX hw (c_L_does g l hG hC hst mm p0 v10 p5 0 0 0 w v12 w13 e11) gL_isEnded_L_does rfl (by decide +kernel) rfl hl.1 rfl (Nat.le_of_ble_eq_true rfl) ⟨by decide, by decide⟩ dL_isEnded_84 (fun H lc cn sn hw => ?_)
        refine lv_bipush (v := (-10)) hx hb dL_isEnded_87 (by decide) ?_
        obtain ⟨aj17, h1aj17, kaj17⟩ := ob1 h
        have haj17 : ∀ (v15 : Int32) (H : Heap) (lc : List Loc) (cn sn : Nat) (ls : Array Slot), aj17 = v15 → wH g s.heap.size (w13, mm) H lc → lv_has ls 9 [] → W p l e (rmO g 15 353 s.heap) s mi args below meth cd H lc cn sn Q (F0 mi 97 ls [.int v15]) := by
          intro v15 H lc cn sn ls h hw hl
          replace h := kaj17 _ h
          obtain ⟨c16, h⟩ := og h
          replace h := (Option.some.inj h).symm
          replace h := raj58 _ h
          obtain ⟨rfl, h8⟩ := Prod.mk.inj h
          obtain ⟨rfl, rfl⟩ := Prod.mk.inj h8
          exact hret _ _ _ _ _ _ _ dL_isEnded_97 c16 hw rfl
        replace h := h1aj17
        refine lv_icmp_ne (tgt := 96) hx hb dL_isEnded_89 (by decide) (fun c14 => ?_) (fun c14 => ?_)
        · replace h := oe c14 h
          refine lv_iconst (v := 0) hx hb dL_isEnded_96 (by decide) ?_
          replace h := (Option.some.inj h).symm
          exact haj17 _ _ _ _ _ _ h hw (lv_sub hl [] rfl)
        · replace h := ot c14 h
          refine lv_iconst (v := 1) hx hb dL_isEnded_92 (by decide) ?_
          refine lv_goto (tgt := 97) hx hb dL_isEnded_93 (by decide) ?_
          replace h := (Option.some.inj h).symm
          exact haj17 _ _ _ _ _ _ h hw (lv_sub hl [] rfl)
      replace h := h1aj18
      refine lv_if_eq (tgt := 77) hx hb dL_isEnded_69 (by decide) (fun c9 => ?_) (fun c9 => ?_)
      · replace h := ot c9 h
        refine lv_bipush (v := 7) hx hb dL_isEnded_77 (by decide) ?_
        replace h := (Option.some.inj h).symm
        exact haj18 _ _ _ _ _ _ h hw (lv_sub hl [1] rfl)
      · replace h := oe c9 h
        refine lv_bipush (v := 6) hx hb dL_isEnded_72 (by decide) ?_
        refine lv_goto (tgt := 79) hx hb dL_isEnded_74 (by decide) ?_
        replace h := (Option.some.inj h).symm
        exact haj18 _ _ _ _ _ _ h hw (lv_sub hl [1] rfl)
    replace h := h1aj19
    refine lv_if_eq (tgt := 57) hx hb dL_isEnded_43 (by decide) (fun c3 => ?_) (fun c3 => ?_)
    · replace h := ot c3 h
      refine lv_aload_n hx hb dL_isEnded_57 rfl (lv_at hl 1 rfl) ?_
      refine lv_iload hx hb dL_isEnded_58 (lv_at hl 5 rfl) ?_
      obtain ⟨v5, e4, h⟩ := ob h
      refine g_callSi (n := 2) (As := [.ref (gmd g 1), .int p5]) (rest := []) hX hw (c_L_isAlive g l hG hC hst hn hS p5 w mm v5  e4) gL_isEnded_L_isAlive rfl (by decide +kernel) rfl hl.1 rfl (Nat.le_of_ble_eq_true rfl) ⟨by decide, by decide⟩ dL_isEnded_60 (fun H lc cn sn hw => ?_)
      refine lv_if_ne (tgt := 98) hx hb dL_isEnded_63 (by decide) (fun c6 => ?_) (fun c6 => ?_)
      · replace h := oe c6 h
        replace h := (Option.some.inj h).symm
        replace h := raj19 _ h
        exact haj58 _ _ _ _ _ h hw (lv_sub hl [0, 1, 2, 3, 4, 5, 6] rfl)
      · replace h := ot c6 h
        replace h := (Option.some.inj h).symm
        exact haj19 _ _ _ _ _ h hw (lv_sub hl [0, 5, 6] rfl)
    · replace h := oe c3 h
      refine lv_aload_n hx hb dL_isEnded_46 rfl (lv_at hl 1 rfl) ?_
      refine lv_iload hx hb dL_isEnded_47 (lv_at hl 5 rfl) ?_
      obtain ⟨c7, h⟩ := og h
      refine m_ld hX hn hw 1 (by decide) rfl c7 dL_isEnded_49 ?_
      refine lv_iconst (v := 1) hx hb dL_isEnded_50 (by decide) ?_
      refine lv_icmp_eq (tgt := 98) hx hb dL_isEnded_51 (by decide) (fun c8 => ?_) (fun c8 => ?_)
      · replace h := ot c8 h
        replace h := (Option.some.inj h).symm
        replace h := raj19 _ h
        exact haj58 _ _ _ _ _ h hw (lv_sub hl [0, 1, 2, 3, 4, 5, 6] rfl)
      · replace h := oe c8 h
        refine lv_goto (tgt := 66) hx hb dL_isEnded_54 (by decide) ?_
        replace h := (Option.some.inj h).symm
        exact haj19 _ _ _ _ _ h hw (lv_sub hl [0, 5, 6] rfl)
  · replace h := ot c2 h
    refine t_aload_n hx hb dL_isEnded_9 rfl (lv_at hl 0 rfl) ?_
    refine lv_iload hx hb dL_isEnded_10 (lv_at hl 6 rfl) ?_
    obtain ⟨aj68, h1aj68, kaj68⟩ := ob1 h
    have haj68 : ∀ (v60 : Int32) (H : Heap) (lc : List Loc) (cn sn : Nat) (ls : Array Slot), aj68 = v60 → wH g s.heap.size (w, mm) H lc → lv_has ls 9 [(5, .int p5)] → W p l e (rmO g 15 353 s.heap) s mi args below meth cd H lc cn sn Q (F0 mi 22 ls [.int v60, rv p0]) := by
      intro v60 H lc cn sn ls h hw hl
      replace h := kaj68 _ h
      refine lv_iload hx hb dL_isEnded_22 (lv_at hl 0 rfl) ?_
      refine lv_iconst (v := 0) hx hb dL_isEnded_24 (by decide) ?_
      refine lv_iconst (v := 0) hx hb dL_isEnded_25 (by decide) ?_
      refine lv_iconst (v := 0) hx hb dL_isEnded_26 (by decide) ?_
      obtain ⟨v62, w63, e61, h⟩ := oc2 h
      refine g_callSWi (n := 6) (As := [rv p0, .int v60, .int p5, .int 0, .int 0, .int 0]) (rest := []) hX hw (c_L_does g l hG hC hst mm p0 v60 p5 0 0 0 w v62 w63 e61) gL_isEnded_L_does rfl (by decide +kernel) rfl hl.1 rfl (Nat.le_of_ble_eq_true rfl) ⟨by decide, by decide⟩ dL_isEnded_27 (fun H lc cn sn hw => ?_)
      refine lv_bipush (v := (-30)) hx hb dL_isEnded_30 (by decide) ?_
      obtain ⟨aj67, h1aj67, kaj67⟩ := ob1 h
      have haj67 : ∀ (v65 : Int32) (H : Heap) (lc : List Loc) (cn sn : Nat) (ls : Array Slot), aj67 = v65 → wH g s.heap.size (w63, mm) H lc → lv_has ls 9 [] → W p l e (rmO g 15 353 s.heap) s mi args below meth cd H lc cn sn Q (F0 mi 40 ls [.int v65]) := by
        intro v65 H lc cn sn ls h hw hl
        replace h := kaj67 _ h
        obtain ⟨c66, h⟩ := og h
        replace h := (Option.some.inj h).symm
        obtain ⟨rfl, h8⟩ := Prod.mk.inj h
        obtain ⟨rfl, rfl⟩ := Prod.mk.inj h8
        exact hret _ _ _ _ _ _ _ dL_isEnded_40 c66 hw rfl
      replace h := h1aj67
      refine lv_icmp_ne (tgt := 39) hx hb dL_isEnded_32 (by decide) (fun c64 => ?_) (fun c64 => ?_)
      · replace h := oe c64 h
        refine lv_iconst (v := 0) hx hb dL_isEnded_39 (by decide) ?_
        replace h := (Option.some.inj h).symm
        exact haj67 _ _ _ _ _ _ h hw (lv_sub hl [] rfl)
      · replace h := ot c64 h
        refine lv_iconst (v := 1) hx hb dL_isEnded_35 (by decide) ?_
        refine lv_goto (tgt := 40) hx hb dL_isEnded_36 (by decide) ?_
        replace h := (Option.some.inj h).symm
        exact haj67 _ _ _ _ _ _ h hw (lv_sub hl [] rfl)
    replace h := h1aj68
    refine lv_if_eq (tgt := 20) hx hb dL_isEnded_12 (by decide) (fun c59 => ?_) (fun c59 => ?_)
    · replace h := ot c59 h
      refine lv_bipush (v := 7) hx hb dL_isEnded_20 (by decide) ?_
      replace h := (Option.some.inj h).symm
      exact haj68 _ _ _ _ _ _ h hw (lv_sub hl [5] rfl)
    · replace h := oe c59 h
      refine lv_bipush (v := 6) hx hb dL_isEnded_15 (by decide) ?_
      refine lv_goto (tgt := 22) hx hb dL_isEnded_17 (by decide) ?_
      replace h := (Option.some.inj h).symm
      exact haj68 _ _ _ _ _ _ h hw (lv_sub hl [5] rfl)

def x_L_isStore (p0 : Nat) (p3 : Int32) (p4 : Int32) (p5 : Int32) (p6 : Int32) (w : CS) (mm : MS) : Option (Int32 × CS × MS) :=
  if vR 14 16 then
  bd (
    l0 (
      if ((ga mm 3 (14 : Int32).toNatClampNeg) : Int32) ≤ p3 then
        some (.inl ())
      else
        if (3 : Int32) ≤ p4 then
          some (.inl ())
        else
          l0 (
            if (p5 : Int32) = 0 then
              some (.inl ())
            else
              if vR p4 6 then
              if ((ga mm 4 p4.toNatClampNeg) : Int32) = 1 then
                some (.inl ())
              else
                some (.inr (.inl ()))
              else none) (fun (_ : Unit) =>
          l0 (
            if (p5 : Int32) = 1 then
              if (2 : Int32) ≤ p6 then
                some (.inr (.inl ()))
              else
                some (.inl ())
            else
              some (.inl ())) (fun (_ : Unit) =>
          some (.inr ((1 : Int32)))))) (fun (_ : Unit) =>
    some (0 : Int32))) (fun (v12 : Int32) =>
  bd (
    l0 (
      if (v12 : Int32) = 0 then
        some (.inl ())
      else
        if vR 13 16 then
        if (p3 : Int32) = (ga mm 3 (13 : Int32).toNatClampNeg) then
          l0 (
            if (p5 : Int32) = 0 then
              if vR p4 6 then
              if ((ga mm 4 p4.toNatClampNeg) : Int32) = 0 then
                some (.inl ())
              else
                some (.inr (.inl ()))
              else none
            else
              some (.inl ())) (fun (_ : Unit) =>
          some (.inr ((1 : Int32))))
        else
          some (.inl ())
        else none) (fun (_ : Unit) =>
    some (0 : Int32))) (fun (v21 : Int32) =>
  b2 (x_L_does p0 p5 p3 p4 p6 0 w) (fun (v23 : Int32) (w24 : CS) =>
  if (v21 : Int32) = 0 then
    bd (
      if (v12 : Int32) = 0 then
        some ((-30) : Int32)
      else
        some ((-10) : Int32)) (fun (v54 : Int32) =>
    bd (
      if (v23 : Int32) = v54 then
        some (1 : Int32)
      else
        some (0 : Int32)) (fun (v56 : Int32) =>
    if isB v56 then
    some ((v56, w24, mm))
    else none))
  else
    bd (
      if (p5 : Int32) = 0 then
        some (1 : Int32)
      else
        if (p5 : Int32) = 4 then
          some (0 : Int32)
        else
          if vR p4 6 then
          some (ga mm 4 p4.toNatClampNeg)
          else none) (fun (v29 : Int32) =>
    if vR p4 6 then
    bs (sa mm 4 p4.toNatClampNeg v29) (fun (m31 : MS) =>
    b2 (
      if (p5 : Int32) = 4 then
        l0 (
          if (v23 : Int32) < 0 then
            some (.inl ())
          else
            if (41 : Int32) ≤ v23 then
              some (.inl ())
            else
              some (.inr (((1 : Int32), w24)))) (fun (_ : Unit) =>
        some ((0 : Int32), w24))
      else
        if (p5 : Int32) = 0 then
          if (v23 : Int32) = 0 then
            some ((1 : Int32), w24)
          else
            some ((0 : Int32), w24)
        else
          l1 (
            l1 (
              if (v23 : Int32) = 0 then
                b2 (x_L_does p0 1 p3 p4 p6 0 w24) (fun (v36 : Int32) (w37 : CS) =>
                if (v36 : Int32) = (-10) then
                  some (.inr (.inl w37))
                else
                  some (.inl w37))
              else
                some (.inl w24)) (fun (w39 : CS) =>
            if (v23 : Int32) = (-10) then
              some (.inl w39)
            else
              some (.inr (((0 : Int32), w39))))) (fun (w42 : CS) =>
          some ((1 : Int32), w42))) (fun (v48 : Int32) (w49 : CS) =>
    if isB v48 then
    some ((v48, w49, m31))
    else none))
    else none))))
  else none
set_option maxHeartbeats 4000000 in
set_option maxRecDepth 100000 in
theorem c_L_isStore (g : GG) (l : Launch) (hG : XG g) (hC : NC g) (hst : l.stackTraces = false) (hn : gnn g 4 = 1) {b L : Nat} {xs : Nat → Int32} (hS : SCG g b L xs) (p0 : Nat) (p3 : Int32) (p4 : Int32) (p5 : Int32) (p6 : Int32) (w : CS) (mm : MS) (r : Int32) (w' : CS) (mm' : MS) (h : x_L_isStore p0 p3 p4 p5 p6 w mm = some (r, w', mm')) : MetG g l yL_isStore wsL_isStore 15 353 [rv p0, .ref (gmd g 3), .ref (gmd g 4), .int p3, .int p4, .int p5, .int p6] (w, mm) (some (.int r)) (w', mm') := by
  refine g_start_z (some (.int r)) (own := RL) (by decide +kernel) rfl rfl (by simp [lg_sl, rv_cat, ct_i, ct_l, ct_r]) ?_
  intro p e s mi args below meth cd ls Q hX hnm hw hl hret
  have hl : lv_has ls 10 [(0, rv p0), (1, .ref (gmd g 3)), (2, .ref (gmd g 4)), (3, .int p3), (4, .int p4), (5, .int p5), (6, .int p6)] := by simpa [lv_args, rv_cat, ct_i, ct_l, ct_r] using hl
  obtain ⟨⟨hx, hb, -, hown, hts⟩, -⟩ := id hX
  unfold x_L_isStore at h
  refine lv_iload_n hx hb dL_isStore_0 rfl (lv_at hl 3 rfl) ?_
  refine lv_aload_n hx hb dL_isStore_1 rfl (lv_at hl 1 rfl) ?_
  refine lv_bipush (v := 14) hx hb dL_isStore_2 (by decide) ?_
  obtain ⟨c1, h⟩ := og h
  refine m_ld hX hn hw 3 (by decide) rfl c1 dL_isStore_4 ?_
  obtain ⟨aj61, h1aj61, kaj61⟩ := ob1 h
  have haj61 : ∀ (v12 : Int32) (H : Heap) (lc : List Loc) (cn sn : Nat) (ls : Array Slot), aj61 = v12 → wH g s.heap.size (w, mm) H lc → lv_has ls 10 [(0, rv p0), (1, .ref (gmd g 3)), (2, .ref (gmd g 4)), (3, .int p3), (4, .int p4), (5, .int p5), (6, .int p6)] → W p l e (rmO g 15 353 s.heap) s mi args below meth cd H lc cn sn Q (F0 mi 44 ls [.int v12]) := by
    intro v12 H lc cn sn ls h hw hl
    replace h := kaj61 _ h
    refine lv_istore (lv' := [(7, .int v12), (0, rv p0), (1, .ref (gmd g 3)), (2, .ref (gmd g 4)), (3, .int p3), (4, .int p4), (5, .int p5), (6, .int p6)]) hx hb dL_isStore_44 hl (by decide) rfl (fun ls hl => ?_)
    refine lv_iload hx hb dL_isStore_46 (lv_at hl 0 rfl) ?_
    obtain ⟨aj60, h1aj60, kaj60⟩ := ob1 h
    have haj60 : ∀ (v21 : Int32) (H : Heap) (lc : List Loc) (cn sn : Nat) (ls : Array Slot), aj60 = v21 → wH g s.heap.size (w, mm) H lc → lv_has ls 10 [(7, .int v12), (0, rv p0), (2, .ref (gmd g 4)), (3, .int p3), (4, .int p4), (5, .int p5), (6, .int p6)] → W p l e (rmO g 15 353 s.heap) s mi args below meth cd H lc cn sn Q (F0 mi 76 ls [.int v21]) := by
      intro v21 H lc cn sn ls h hw hl
      replace h := kaj60 _ h
      refine lv_istore (lv' := [(8, .int v21), (7, .int v12), (0, rv p0), (2, .ref (gmd g 4)), (3, .int p3), (4, .int p4), (5, .int p5), (6, .int p6)]) hx hb dL_isStore_76 hl (by decide) rfl (fun ls hl => ?_)
      refine t_aload_n hx hb dL_isStore_78 rfl (lv_at hl 2 rfl) ?_
      refine lv_iload hx hb dL_isStore_79 (lv_at hl 6 rfl) ?_
      refine lv_iload_n hx hb dL_isStore_81 rfl (lv_at hl 4 rfl) ?_
      refine lv_iload hx hb dL_isStore_82 (lv_at hl 5 rfl) ?_
      refine lv_iload hx hb dL_isStore_84 (lv_at hl 7 rfl) ?_
      refine lv_iconst (v := 0) hx hb dL_isStore_86 (by decide) ?_
      obtain ⟨v23, w24, e22, h⟩ := oc2 h
      refine g_callSWi (n := 6) (As := [rv p0, .int p5, .int p3, .int p4, .int p6, .int 0]) (rest := []) hX hw (c_L_does g l hG hC hst mm p0 p5 p3 p4 p6 0 w v23 w24 e22) gL_isStore_L_does rfl (by decide +kernel) rfl hl.1 rfl (Nat.le_of_ble_eq_true rfl) ⟨by decide, by decide⟩ dL_isStore_87 (fun H lc cn sn hw => ?_)
      refine lv_istore (lv' := [(9, .int v23), (8, .int v21), (7, .int v12), (0, rv p0), (2, .ref (gmd g 4)), (3, .int p3), (4, .int p4), (5, .int p5), (6, .int p6)]) hx hb dL_isStore_90 hl (by decide) rfl (fun ls hl => ?_)
      refine lv_iload hx hb dL_isStore_92 (lv_at hl 1 rfl) ?_
      refine lv_if_ne (tgt := 120) hx hb dL_isStore_94 (by decide) (fun c25 => ?_) (fun c25 => ?_)
      · replace h := oe c25 h
        refine lv_aload_n hx hb dL_isStore_120 rfl (lv_at hl 4 rfl) ?_
        refine lv_iload hx hb dL_isStore_121 (lv_at hl 6 rfl) ?_
        refine lv_iload hx hb dL_isStore_123 (lv_at hl 7 rfl) ?_
        obtain ⟨aj52, h1aj52, kaj52⟩ := ob1 h
        have haj52 : ∀ (v29 : Int32) (H : Heap) (lc : List Loc) (cn sn : Nat) (ls : Array Slot), aj52 = v29 → wH g s.heap.size (w24, mm) H lc → lv_has ls 10 [(9, .int v23), (0, rv p0), (3, .int p3), (4, .int p4), (5, .int p5), (6, .int p6)] → W p l e (rmO g 15 353 s.heap) s mi args below meth cd H lc cn sn Q (F0 mi 146 ls [.int v29, .int p4, .ref (gmd g 4)]) := by
          intro v29 H lc cn sn ls h hw hl
          replace h := kaj52 _ h
          obtain ⟨c30, h⟩ := og h
          obtain ⟨m31, em31, h⟩ := ol h
          refine m_st hX hn hw 4 (by decide) rfl c30 dL_isStore_146 (fun H lc hw => ?_)
          have hw := hm_eq em31 hw
          refine lv_iload hx hb dL_isStore_147 (lv_at hl 4 rfl) ?_
          refine lv_iconst (v := 4) hx hb dL_isStore_149 (by decide) ?_
          obtain ⟨aj51, h1aj51, kaj51⟩ := ob2 h
          have haj51 : ∀ (v48 : Int32) (w49 : CS) (H : Heap) (lc : List Loc) (cn sn : Nat) (ls : Array Slot), aj51 = (v48, w49) → wH g s.heap.size (w49, m31) H lc → lv_has ls 10 [] → W p l e (rmO g 15 353 s.heap) s mi args below meth cd H lc cn sn Q (F0 mi 224 ls [.int v48]) := by
            intro v48 w49 H lc cn sn ls h hw hl
            replace h := kaj51 _ _ h
            obtain ⟨c50, h⟩ := og h
            replace h := (Option.some.inj h).symm
            obtain ⟨rfl, h8⟩ := Prod.mk.inj h
            obtain ⟨rfl, rfl⟩ := Prod.mk.inj h8
            exact hret _ _ _ _ _ _ _ dL_isStore_224 c50 hw rfl
          replace h := h1aj51
          refine lv_icmp_ne (tgt := 173) hx hb dL_isStore_150 (by decide) (fun c32 => ?_) (fun c32 => ?_)
          · replace h := oe c32 h
            refine lv_iload hx hb dL_isStore_173 (lv_at hl 4 rfl) ?_
            refine lv_if_ne (tgt := 191) hx hb dL_isStore_175 (by decide) (fun c33 => ?_) (fun c33 => ?_)
            · replace h := oe c33 h
              refine lv_iload hx hb dL_isStore_191 (lv_at hl 0 rfl) ?_
              obtain ⟨aj43, h1aj43, kaj43, raj43⟩ := ol1 h
              have haj43 : ∀ (w42 : CS) (H : Heap) (lc : List Loc) (cn sn : Nat) (ls : Array Slot), aj43 = Sum.inl w42 → wH g s.heap.size (w42, m31) H lc → lv_has ls 10 [] → W p l e (rmO g 15 353 s.heap) s mi args below meth cd H lc cn sn Q (F0 mi 219 ls []) := by
                intro w42 H lc cn sn ls h hw hl
                replace h := kaj43 _ h
                refine lv_iconst (v := 1) hx hb dL_isStore_219 (by decide) ?_
                refine lv_goto (tgt := 224) hx hb dL_isStore_220 (by decide) ?_
                replace h := (Option.some.inj h).symm
                exact haj51 _ _ _ _ _ _ _ h hw (lv_sub hl [] rfl)
              replace h := h1aj43
              obtain ⟨aj41, h1aj41, kaj41, raj41⟩ := ol1 h
              have haj41 : ∀ (w39 : CS) (H : Heap) (lc : List Loc) (cn sn : Nat) (ls : Array Slot), aj41 = Sum.inl w39 → wH g s.heap.size (w39, m31) H lc → lv_has ls 10 [(9, .int v23)] → W p l e (rmO g 15 353 s.heap) s mi args below meth cd H lc cn sn Q (F0 mi 212 ls []) := by
                intro w39 H lc cn sn ls h hw hl
                replace h := kaj41 _ h
                refine lv_iload hx hb dL_isStore_212 (lv_at hl 0 rfl) ?_
                refine lv_bipush (v := (-10)) hx hb dL_isStore_214 (by decide) ?_
                refine lv_icmp_ne (tgt := 223) hx hb dL_isStore_216 (by decide) (fun c40 => ?_) (fun c40 => ?_)
                · replace h := oe c40 h
                  refine lv_iconst (v := 0) hx hb dL_isStore_223 (by decide) ?_
                  replace h := (Option.some.inj h).symm
                  replace h := raj43 _ h
                  exact haj51 _ _ _ _ _ _ _ h hw (lv_sub hl [] rfl)
                · replace h := ot c40 h
                  replace h := (Option.some.inj h).symm
                  exact haj43 _ _ _ _ _ _ h hw (lv_sub hl [] rfl)
              replace h := h1aj41
              refine lv_if_ne (tgt := 212) hx hb dL_isStore_193 (by decide) (fun c34 => ?_) (fun c34 => ?_)
              · replace h := oe c34 h
                replace h := (Option.some.inj h).symm
                exact haj41 _ _ _ _ _ _ h hw (lv_sub hl [0] rfl)
              · replace h := ot c34 h
                refine t_aload_n hx hb dL_isStore_196 rfl (lv_at hl 1 rfl) ?_
                refine lv_iconst (v := 1) hx hb dL_isStore_197 (by decide) ?_
                refine lv_iload_n hx hb dL_isStore_198 rfl (lv_at hl 2 rfl) ?_
                refine lv_iload hx hb dL_isStore_199 (lv_at hl 3 rfl) ?_
                refine lv_iload hx hb dL_isStore_201 (lv_at hl 5 rfl) ?_
                refine lv_iconst (v := 0) hx hb dL_isStore_203 (by decide) ?_
                obtain ⟨v36, w37, e35, h⟩ := oc2 h
                refine g_callSWi (n := 6) (As := [rv p0, .int 1, .int p3, .int p4, .int p6, .int 0]) (rest := []) hX hw (c_L_does g l hG hC hst m31 p0 1 p3 p4 p6 0 w24 v36 w37 e35) gL_isStore_L_does rfl (by decide +kernel) rfl hl.1 rfl (Nat.le_of_ble_eq_true rfl) ⟨by decide, by decide⟩ dL_isStore_204 (fun H lc cn sn hw => ?_)
                refine lv_bipush (v := (-10)) hx hb dL_isStore_207 (by decide) ?_
                refine lv_icmp_eq (tgt := 219) hx hb dL_isStore_209 (by decide) (fun c38 => ?_) (fun c38 => ?_)
                · replace h := ot c38 h
                  replace h := (Option.some.inj h).symm
                  replace h := raj41 _ h
                  exact haj43 _ _ _ _ _ _ h hw (lv_sub hl [] rfl)
                · replace h := oe c38 h
                  replace h := (Option.some.inj h).symm
                  exact haj41 _ _ _ _ _ _ h hw (lv_sub hl [0] rfl)
            · replace h := ot c33 h
              refine lv_iload hx hb dL_isStore_178 (lv_at hl 0 rfl) ?_
              refine lv_if_ne (tgt := 187) hx hb dL_isStore_180 (by decide) (fun c44 => ?_) (fun c44 => ?_)
              · replace h := oe c44 h
                refine lv_iconst (v := 0) hx hb dL_isStore_187 (by decide) ?_
                refine lv_goto (tgt := 224) hx hb dL_isStore_188 (by decide) ?_
                replace h := (Option.some.inj h).symm
                exact haj51 _ _ _ _ _ _ _ h hw (lv_sub hl [] rfl)
              · replace h := ot c44 h
                refine lv_iconst (v := 1) hx hb dL_isStore_183 (by decide) ?_
                refine lv_goto (tgt := 224) hx hb dL_isStore_184 (by decide) ?_
                replace h := (Option.some.inj h).symm
                exact haj51 _ _ _ _ _ _ _ h hw (lv_sub hl [] rfl)
          · replace h := ot c32 h
            refine lv_iload hx hb dL_isStore_153 (lv_at hl 0 rfl) ?_
            obtain ⟨aj47, h1aj47, kaj47, raj47⟩ := ol0 h
            have haj47 : ∀ (H : Heap) (lc : List Loc) (cn sn : Nat) (ls : Array Slot), aj47 = Sum.inl () → wH g s.heap.size (w24, m31) H lc → lv_has ls 10 [] → W p l e (rmO g 15 353 s.heap) s mi args below meth cd H lc cn sn Q (F0 mi 169 ls []) := by
              intro H lc cn sn ls h hw hl
              replace h := kaj47 h
              refine lv_iconst (v := 0) hx hb dL_isStore_169 (by decide) ?_
              refine lv_goto (tgt := 224) hx hb dL_isStore_170 (by decide) ?_
              replace h := (Option.some.inj h).symm
              exact haj51 _ _ _ _ _ _ _ h hw (lv_sub hl [] rfl)
            replace h := h1aj47
            refine lv_if_lt (tgt := 169) hx hb dL_isStore_155 (by decide) (fun c45 => ?_) (fun c45 => ?_)
            · replace h := ot c45 h
              replace h := (Option.some.inj h).symm
              exact haj47 _ _ _ _ _ h hw (lv_sub hl [] rfl)
            · replace h := oe c45 h
              refine lv_iload hx hb dL_isStore_158 (lv_at hl 0 rfl) ?_
              refine lv_bipush (v := 41) hx hb dL_isStore_160 (by decide) ?_
              refine lv_icmp_ge (tgt := 169) hx hb dL_isStore_162 (by decide) (fun c46 => ?_) (fun c46 => ?_)
              · replace h := ot c46 h
                replace h := (Option.some.inj h).symm
                exact haj47 _ _ _ _ _ h hw (lv_sub hl [] rfl)
              · replace h := oe c46 h
                refine lv_iconst (v := 1) hx hb dL_isStore_165 (by decide) ?_
                refine lv_goto (tgt := 224) hx hb dL_isStore_166 (by decide) ?_
                replace h := (Option.some.inj h).symm
                replace h := raj47 _ h
                exact haj51 _ _ _ _ _ _ _ h hw (lv_sub hl [] rfl)
        replace h := h1aj52
        refine lv_if_ne (tgt := 132) hx hb dL_isStore_125 (by decide) (fun c26 => ?_) (fun c26 => ?_)
        · replace h := oe c26 h
          refine lv_iload hx hb dL_isStore_132 (lv_at hl 7 rfl) ?_
          refine lv_iconst (v := 4) hx hb dL_isStore_134 (by decide) ?_
          refine lv_icmp_ne (tgt := 142) hx hb dL_isStore_135 (by decide) (fun c27 => ?_) (fun c27 => ?_)
          · replace h := oe c27 h
            refine lv_aload_n hx hb dL_isStore_142 rfl (lv_at hl 4 rfl) ?_
            refine lv_iload hx hb dL_isStore_143 (lv_at hl 6 rfl) ?_
            obtain ⟨c28, h⟩ := og h
            refine m_ld hX hn hw 4 (by decide) rfl c28 dL_isStore_145 ?_
            replace h := (Option.some.inj h).symm
            exact haj52 _ _ _ _ _ _ h hw (lv_sub hl [0, 3, 5, 6, 7, 8] rfl)
          · replace h := ot c27 h
            refine lv_iconst (v := 0) hx hb dL_isStore_138 (by decide) ?_
            refine lv_goto (tgt := 146) hx hb dL_isStore_139 (by decide) ?_
            replace h := (Option.some.inj h).symm
            exact haj52 _ _ _ _ _ _ h hw (lv_sub hl [0, 3, 5, 6, 7, 8] rfl)
        · replace h := ot c26 h
          refine lv_iconst (v := 1) hx hb dL_isStore_128 (by decide) ?_
          refine lv_goto (tgt := 146) hx hb dL_isStore_129 (by decide) ?_
          replace h := (Option.some.inj h).symm
          exact haj52 _ _ _ _ _ _ h hw (lv_sub hl [0, 3, 5, 6, 7, 8] rfl)
      · replace h := ot c25 h
        refine lv_iload hx hb dL_isStore_97 (lv_at hl 0 rfl) ?_
        refine lv_iload hx hb dL_isStore_99 (lv_at hl 2 rfl) ?_
        obtain ⟨aj59, h1aj59, kaj59⟩ := ob1 h
        have haj59 : ∀ (v54 : Int32) (H : Heap) (lc : List Loc) (cn sn : Nat) (ls : Array Slot), aj59 = v54 → wH g s.heap.size (w24, mm) H lc → lv_has ls 10 [] → W p l e (rmO g 15 353 s.heap) s mi args below meth cd H lc cn sn Q (F0 mi 111 ls [.int v54, .int v23]) := by
          intro v54 H lc cn sn ls h hw hl
          replace h := kaj59 _ h
          obtain ⟨aj58, h1aj58, kaj58⟩ := ob1 h
          have haj58 : ∀ (v56 : Int32) (H : Heap) (lc : List Loc) (cn sn : Nat) (ls : Array Slot), aj58 = v56 → wH g s.heap.size (w24, mm) H lc → lv_has ls 10 [] → W p l e (rmO g 15 353 s.heap) s mi args below meth cd H lc cn sn Q (F0 mi 119 ls [.int v56]) := by
            intro v56 H lc cn sn ls h hw hl
            replace h := kaj58 _ h
            obtain ⟨c57, h⟩ := og h
            replace h := (Option.some.inj h).symm
            obtain ⟨rfl, h8⟩ := Prod.mk.inj h
            obtain ⟨rfl, rfl⟩ := Prod.mk.inj h8
            exact hret _ _ _ _ _ _ _ dL_isStore_119 c57 hw rfl
          replace h := h1aj58
          refine lv_icmp_ne (tgt := 118) hx hb dL_isStore_111 (by decide) (fun c55 => ?_) (fun c55 => ?_)
          · replace h := oe c55 h
            refine lv_iconst (v := 0) hx hb dL_isStore_118 (by decide) ?_
            replace h := (Option.some.inj h).symm
            exact haj58 _ _ _ _ _ _ h hw (lv_sub hl [] rfl)
          · replace h := ot c55 h
            refine lv_iconst (v := 1) hx hb dL_isStore_114 (by decide) ?_
            refine lv_goto (tgt := 119) hx hb dL_isStore_115 (by decide) ?_
            replace h := (Option.some.inj h).symm
            exact haj58 _ _ _ _ _ _ h hw (lv_sub hl [] rfl)
        replace h := h1aj59
        refine lv_if_eq (tgt := 109) hx hb dL_isStore_101 (by decide) (fun c53 => ?_) (fun c53 => ?_)
        · replace h := ot c53 h
          refine lv_bipush (v := (-30)) hx hb dL_isStore_109 (by decide) ?_
          replace h := (Option.some.inj h).symm
          exact haj59 _ _ _ _ _ _ h hw (lv_sub hl [] rfl)
        · replace h := oe c53 h
          refine lv_bipush (v := (-10)) hx hb dL_isStore_104 (by decide) ?_
          refine lv_goto (tgt := 111) hx hb dL_isStore_106 (by decide) ?_
          replace h := (Option.some.inj h).symm
          exact haj59 _ _ _ _ _ _ h hw (lv_sub hl [] rfl)
    replace h := h1aj60
    obtain ⟨aj20, h1aj20, kaj20, raj20⟩ := ol0 h
    have haj20 : ∀ (H : Heap) (lc : List Loc) (cn sn : Nat) (ls : Array Slot), aj20 = Sum.inl () → wH g s.heap.size (w, mm) H lc → lv_has ls 10 [(7, .int v12), (0, rv p0), (2, .ref (gmd g 4)), (3, .int p3), (4, .int p4), (5, .int p5), (6, .int p6)] → W p l e (rmO g 15 353 s.heap) s mi args below meth cd H lc cn sn Q (F0 mi 75 ls []) := by
      intro H lc cn sn ls h hw hl
      replace h := kaj20 h
      refine lv_iconst (v := 0) hx hb dL_isStore_75 (by decide) ?_
      replace h := (Option.some.inj h).symm
      exact haj60 _ _ _ _ _ _ h hw (lv_sub hl [0, 1, 2, 3, 4, 5, 6] rfl)
    replace h := h1aj20
    refine lv_if_eq (tgt := 75) hx hb dL_isStore_48 (by decide) (fun c13 => ?_) (fun c13 => ?_)
    · replace h := ot c13 h
      replace h := (Option.some.inj h).symm
      exact haj20 _ _ _ _ _ h hw (lv_sub hl [0, 1, 3, 4, 5, 6, 7] rfl)
    · replace h := oe c13 h
      refine lv_iload_n hx hb dL_isStore_51 rfl (lv_at hl 4 rfl) ?_
      refine lv_aload_n hx hb dL_isStore_52 rfl (lv_at hl 2 rfl) ?_
      refine lv_bipush (v := 13) hx hb dL_isStore_53 (by decide) ?_
      obtain ⟨c14, h⟩ := og h
      refine m_ld hX hn hw 3 (by decide) rfl c14 dL_isStore_55 ?_
      refine lv_icmp_ne (tgt := 75) hx hb dL_isStore_56 (by decide) (fun c15 => ?_) (fun c15 => ?_)
      · replace h := oe c15 h
        replace h := (Option.some.inj h).symm
        exact haj20 _ _ _ _ _ h hw (lv_sub hl [0, 1, 3, 4, 5, 6, 7] rfl)
      · replace h := ot c15 h
        refine lv_iload hx hb dL_isStore_59 (lv_at hl 6 rfl) ?_
        obtain ⟨aj19, h1aj19, kaj19, raj19⟩ := ol0 h
        have haj19 : ∀ (H : Heap) (lc : List Loc) (cn sn : Nat) (ls : Array Slot), aj19 = Sum.inl () → wH g s.heap.size (w, mm) H lc → lv_has ls 10 [(7, .int v12), (0, rv p0), (2, .ref (gmd g 4)), (3, .int p3), (4, .int p4), (5, .int p5), (6, .int p6)] → W p l e (rmO g 15 353 s.heap) s mi args below meth cd H lc cn sn Q (F0 mi 71 ls []) := by
          intro H lc cn sn ls h hw hl
          replace h := kaj19 h
          refine lv_iconst (v := 1) hx hb dL_isStore_71 (by decide) ?_
          refine lv_goto (tgt := 76) hx hb dL_isStore_72 (by decide) ?_
          replace h := (Option.some.inj h).symm
          replace h := raj20 _ h
          exact haj60 _ _ _ _ _ _ h hw (lv_sub hl [0, 1, 2, 3, 4, 5, 6] rfl)
        replace h := h1aj19
        refine lv_if_ne (tgt := 71) hx hb dL_isStore_61 (by decide) (fun c16 => ?_) (fun c16 => ?_)
        · replace h := oe c16 h
          replace h := (Option.some.inj h).symm
          exact haj19 _ _ _ _ _ h hw (lv_sub hl [0, 1, 3, 4, 5, 6, 7] rfl)
        · replace h := ot c16 h
          refine lv_aload_n hx hb dL_isStore_64 rfl (lv_at hl 3 rfl) ?_
          refine lv_iload hx hb dL_isStore_65 (lv_at hl 5 rfl) ?_
          obtain ⟨c17, h⟩ := og h
          refine m_ld hX hn hw 4 (by decide) rfl c17 dL_isStore_67 ?_
          refine lv_if_ne (tgt := 75) hx hb dL_isStore_68 (by decide) (fun c18 => ?_) (fun c18 => ?_)
          · replace h := oe c18 h
            replace h := (Option.some.inj h).symm
            replace h := raj19 _ h
            exact haj20 _ _ _ _ _ h hw (lv_sub hl [0, 1, 3, 4, 5, 6, 7] rfl)
          · replace h := ot c18 h
            replace h := (Option.some.inj h).symm
            exact haj19 _ _ _ _ _ h hw (lv_sub hl [0, 1, 3, 4, 5, 6, 7] rfl)
  replace h := h1aj61
  obtain ⟨aj11, h1aj11, kaj11, raj11⟩ := ol0 h
  have haj11 : ∀ (H : Heap) (lc : List Loc) (cn sn : Nat) (ls : Array Slot), aj11 = Sum.inl () → wH g s.heap.size (w, mm) H lc → lv_has ls 10 [(0, rv p0), (1, .ref (gmd g 3)), (2, .ref (gmd g 4)), (3, .int p3), (4, .int p4), (5, .int p5), (6, .int p6)] → W p l e (rmO g 15 353 s.heap) s mi args below meth cd H lc cn sn Q (F0 mi 43 ls []) := by
    intro H lc cn sn ls h hw hl
    replace h := kaj11 h
    refine lv_iconst (v := 0) hx hb dL_isStore_43 (by decide) ?_
    replace h := (Option.some.inj h).symm
    exact haj61 _ _ _ _ _ _ h hw (lv_sub hl [0, 1, 2, 3, 4, 5, 6] rfl)
  replace h := h1aj11
  refine lv_icmp_ge (tgt := 43) hx hb dL_isStore_5 (by decide) (fun c2 => ?_) (fun c2 => ?_)
  · replace h := ot c2 h
    replace h := (Option.some.inj h).symm
    exact haj11 _ _ _ _ _ h hw (lv_sub hl [0, 1, 2, 3, 4, 5, 6] rfl)
  · replace h := oe c2 h
    refine lv_iload hx hb dL_isStore_8 (lv_at hl 4 rfl) ?_
    refine lv_iconst (v := 3) hx hb dL_isStore_10 (by decide) ?_
    refine lv_icmp_ge (tgt := 43) hx hb dL_isStore_11 (by decide) (fun c3 => ?_) (fun c3 => ?_)
    · replace h := ot c3 h
      replace h := (Option.some.inj h).symm
      exact haj11 _ _ _ _ _ h hw (lv_sub hl [0, 1, 2, 3, 4, 5, 6] rfl)
    · replace h := oe c3 h
      refine lv_iload hx hb dL_isStore_14 (lv_at hl 5 rfl) ?_
      obtain ⟨aj10, h1aj10, kaj10, raj10⟩ := ol0 h
      have haj10 : ∀ (H : Heap) (lc : List Loc) (cn sn : Nat) (ls : Array Slot), aj10 = Sum.inl () → wH g s.heap.size (w, mm) H lc → lv_has ls 10 [(0, rv p0), (1, .ref (gmd g 3)), (2, .ref (gmd g 4)), (3, .int p3), (4, .int p4), (5, .int p5), (6, .int p6)] → W p l e (rmO g 15 353 s.heap) s mi args below meth cd H lc cn sn Q (F0 mi 27 ls []) := by
        intro H lc cn sn ls h hw hl
        replace h := kaj10 h
        refine lv_iload hx hb dL_isStore_27 (lv_at hl 5 rfl) ?_
        refine lv_iconst (v := 1) hx hb dL_isStore_29 (by decide) ?_
        obtain ⟨aj9, h1aj9, kaj9, raj9⟩ := ol0 h
        have haj9 : ∀ (H : Heap) (lc : List Loc) (cn sn : Nat) (ls : Array Slot), aj9 = Sum.inl () → wH g s.heap.size (w, mm) H lc → lv_has ls 10 [(0, rv p0), (1, .ref (gmd g 3)), (2, .ref (gmd g 4)), (3, .int p3), (4, .int p4), (5, .int p5), (6, .int p6)] → W p l e (rmO g 15 353 s.heap) s mi args below meth cd H lc cn sn Q (F0 mi 39 ls []) := by
          intro H lc cn sn ls h hw hl
          replace h := kaj9 h
          refine lv_iconst (v := 1) hx hb dL_isStore_39 (by decide) ?_
          refine lv_goto (tgt := 44) hx hb dL_isStore_40 (by decide) ?_
          replace h := (Option.some.inj h).symm
          replace h := raj11 _ h
          exact haj61 _ _ _ _ _ _ h hw (lv_sub hl [0, 1, 2, 3, 4, 5, 6] rfl)
        replace h := h1aj9
        refine lv_icmp_ne (tgt := 39) hx hb dL_isStore_30 (by decide) (fun c7 => ?_) (fun c7 => ?_)
        · replace h := oe c7 h
          replace h := (Option.some.inj h).symm
          exact haj9 _ _ _ _ _ h hw (lv_sub hl [0, 1, 2, 3, 4, 5, 6] rfl)
        · replace h := ot c7 h
          refine lv_iload hx hb dL_isStore_33 (lv_at hl 6 rfl) ?_
          refine lv_iconst (v := 2) hx hb dL_isStore_35 (by decide) ?_
          refine lv_icmp_ge (tgt := 43) hx hb dL_isStore_36 (by decide) (fun c8 => ?_) (fun c8 => ?_)
          · replace h := ot c8 h
            replace h := (Option.some.inj h).symm
            replace h := raj9 _ h
            exact haj11 _ _ _ _ _ h hw (lv_sub hl [0, 1, 2, 3, 4, 5, 6] rfl)
          · replace h := oe c8 h
            replace h := (Option.some.inj h).symm
            exact haj9 _ _ _ _ _ h hw (lv_sub hl [0, 1, 2, 3, 4, 5, 6] rfl)
      replace h := h1aj10
      refine lv_if_eq (tgt := 27) hx hb dL_isStore_16 (by decide) (fun c4 => ?_) (fun c4 => ?_)
      · replace h := ot c4 h
        replace h := (Option.some.inj h).symm
        exact haj10 _ _ _ _ _ h hw (lv_sub hl [0, 1, 2, 3, 4, 5, 6] rfl)
      · replace h := oe c4 h
        refine lv_aload_n hx hb dL_isStore_19 rfl (lv_at hl 2 rfl) ?_
        refine lv_iload hx hb dL_isStore_20 (lv_at hl 4 rfl) ?_
        obtain ⟨c5, h⟩ := og h
        refine m_ld hX hn hw 4 (by decide) rfl c5 dL_isStore_22 ?_
        refine lv_iconst (v := 1) hx hb dL_isStore_23 (by decide) ?_
        refine lv_icmp_ne (tgt := 43) hx hb dL_isStore_24 (by decide) (fun c6 => ?_) (fun c6 => ?_)
        · replace h := oe c6 h
          replace h := (Option.some.inj h).symm
          replace h := raj10 _ h
          exact haj11 _ _ _ _ _ h hw (lv_sub hl [0, 1, 2, 3, 4, 5, 6] rfl)
        · replace h := ot c6 h
          replace h := (Option.some.inj h).symm
          exact haj10 _ _ _ _ _ h hw (lv_sub hl [0, 1, 2, 3, 4, 5, 6] rfl)

def x_L_isRow (p0 : Nat) (p5 : Int32) (p6 : Int32) (p7 : Int32) (p8 : Int32) (w : CS) (mm : MS) : Option (Int32 × CS) :=
  if vR 14 16 then
  bd (
    l0 (
      if ((ga mm 3 (14 : Int32).toNatClampNeg) : Int32) ≤ p5 then
        some (.inl ())
      else
        if (3 : Int32) ≤ p6 then
          some (.inl ())
        else
          bd (
            if (3 : Int32) ≤ p6 then
              some (0 : Int32)
            else
              some p6) (fun (v5 : Int32) =>
          if vR v5 6 then
          if ((ga mm 4 v5.toNatClampNeg) : Int32) = 1 then
            some (.inr ((1 : Int32)))
          else
            some (.inl ())
          else none)) (fun (_ : Unit) =>
    some (0 : Int32))) (fun (v10 : Int32) =>
  bd (
    l0 (
      if (p7 : Int32) < 0 then
        some (.inl ())
      else
        if (1000 : Int32) ≤ (p7 - p7 / 1000000 * 1000000) then
          some (.inl ())
        else
          if (2000000 : Int32) ≤ p7 then
            some (.inl ())
          else
            if (10000 : Int32) ≤ p8 then
              some (.inl ())
            else
              some (.inr ((1 : Int32)))) (fun (_ : Unit) =>
    some (0 : Int32))) (fun (v16 : Int32) =>
  bd (
    l0 (
      if (v10 : Int32) = 0 then
        some (.inl ())
      else
        if vR p5 60 then
        if ((ga mm 1 p5.toNatClampNeg) : Int32) = 1 then
          if vR p5 60 then
          if ((((ga mm 2 p5.toNatClampNeg) >>> (p6 &&& 31)) &&& 1) : Int32) = 1 then
            some (.inr ((1 : Int32)))
          else
            some (.inl ())
          else none
        else
          some (.inl ())
        else none) (fun (_ : Unit) =>
    some (0 : Int32))) (fun (v23 : Int32) =>
  bd (
    l0 (
      if (v23 : Int32) = 0 then
        some (.inl ())
      else
        if vR p5 60 then
        if (((ga mm 2 p5.toNatClampNeg) &&& 8) : Int32) = 8 then
          some (.inr ((1 : Int32)))
        else
          some (.inl ())
        else none) (fun (_ : Unit) =>
    some (0 : Int32))) (fun (v28 : Int32) =>
  l0 (
    if (v10 : Int32) = 0 then
      some (.inl ())
    else
      if (v16 : Int32) = 0 then
        some (.inl ())
      else
        if (v23 : Int32) = 0 then
          b2 (x_L_does p0 8 p5 p6 p7 p8 w) (fun (v103 : Int32) (w104 : CS) =>
          b2 (
            l1 (
              if (v103 : Int32) = (-10) then
                b2 (x_L_does p0 9 p5 p6 p7 p7 w104) (fun (v107 : Int32) (w108 : CS) =>
                if (v107 : Int32) = (-10) then
                  b2 (x_L_does p0 10 p5 p6 p7 0 w108) (fun (v111 : Int32) (w112 : CS) =>
                  if (v111 : Int32) = (-10) then
                    b2 (x_L_does p0 11 p5 p6 0 3999999 w112) (fun (v115 : Int32) (w116 : CS) =>
                    if (v115 : Int32) = (-10) then
                      some (.inr (((1 : Int32), w116)))
                    else
                      some (.inl w116))
                  else
                    some (.inl w112))
                else
                  some (.inl w108))
              else
                some (.inl w104)) (fun (w118 : CS) =>
            some ((0 : Int32), w118))) (fun (v120 : Int32) (w121 : CS) =>
          if isB v120 then
          some (.inr ((v120, w121)))
          else none))
        else
          if wJ w 0 p0 = 6 then
          bn3 (x_X6_count p0 p5 p6 0 3999999 w) (fun (v34 : Int32) =>
          bn3 (x_X6_get p0 p5 p6 p7 w) (fun (v36 : Int32) =>
          bd (
            l0 (
              if (v34 : Int32) < 0 then
                some (.inl ())
              else
                if (41 : Int32) ≤ v34 then
                  some (.inl ())
                else
                  if (v36 : Int32) < (-1) then
                    some (.inl ())
                  else
                    if (10000 : Int32) ≤ v36 then
                      some (.inl ())
                    else
                      bn3 (x_X6_count p0 p5 p6 p7 p7 w) (fun (v42 : Int32) =>
                      bd (
                        if (0 : Int32) ≤ v36 then
                          some (1 : Int32)
                        else
                          some (0 : Int32)) (fun (v44 : Int32) =>
                      if (v42 : Int32) = v44 then
                        bn3 (x_X6_count p0 p5 p6 3999999 0 w) (fun (v47 : Int32) =>
                        if (v47 : Int32) = 0 then
                          some (.inr ((1 : Int32)))
                        else
                          some (.inl ()))
                      else
                        some (.inl ())))) (fun (_ : Unit) =>
            some (0 : Int32))) (fun (v51 : Int32) =>
          b2 (x_L_does p0 8 p5 p6 p7 p8 w) (fun (v53 : Int32) (w54 : CS) =>
          l0 (
            if (v28 : Int32) = 0 then
              some (.inl ())
            else
              if (v53 : Int32) = (-10) then
                some (.inl ())
              else
                bd (
                  l0 (
                    if (v51 : Int32) = 0 then
                      some (.inl ())
                    else
                      bd (
                        if (0 : Int32) ≤ v36 then
                          some (0 : Int32)
                        else
                          some (1 : Int32)) (fun (v59 : Int32) =>
                      if (v53 : Int32) = v59 then
                        if wJ w54 0 p0 = 6 then
                        bn3 (x_X6_get p0 p5 p6 p7 w54) (fun (v63 : Int32) =>
                        if (v63 : Int32) = p8 then
                          bn3 (x_X6_count p0 p5 p6 0 3999999 w54) (fun (v66 : Int32) =>
                          if (v66 : Int32) = (v34 + v53) then
                            bn3 (x_X6_count p0 p5 p6 0 p7 w54) (fun (v69 : Int32) =>
                            bn3 (x_X6_count p0 p5 p6 p7 3999999 w54) (fun (v71 : Int32) =>
                            if ((v69 + v71) : Int32) = ((v34 + v53) + 1) then
                              some (.inr ((1 : Int32)))
                            else
                              some (.inl ())))
                          else
                            some (.inl ()))
                        else
                          some (.inl ()))
                        else none
                      else
                        some (.inl ()))) (fun (_ : Unit) =>
                  some (0 : Int32))) (fun (v75 : Int32) =>
                if isB v75 then
                some (.inr (.inr ((v75, w54))))
                else none)) (fun (_ : Unit) =>
          b2 (
            l1 (
              if (v51 : Int32) = 0 then
                some (.inl w54)
              else
                if (v53 : Int32) = (-10) then
                  if wJ w54 0 p0 = 6 then
                  bn3 (x_X6_get p0 p5 p6 p7 w54) (fun (v82 : Int32) =>
                  if (v82 : Int32) = v36 then
                    bn3 (x_X6_count p0 p5 p6 0 3999999 w54) (fun (v85 : Int32) =>
                    if (v85 : Int32) = v34 then
                      l1 (
                        if (v28 : Int32) = 0 then
                          b2 (x_L_does p0 9 p5 p6 0 0 w54) (fun (v89 : Int32) (w90 : CS) =>
                          if (v89 : Int32) = (-10) then
                            some (.inl w90)
                          else
                            some (.inr (.inl w90)))
                        else
                          some (.inl w54)) (fun (w92 : CS) =>
                      some (.inr (((1 : Int32), w92))))
                    else
                      some (.inl w54))
                  else
                    some (.inl w54))
                  else none
                else
                  some (.inl w54)) (fun (w94 : CS) =>
            some ((0 : Int32), w94))) (fun (v96 : Int32) (w97 : CS) =>
          if isB v96 then
          some (.inr ((v96, w97)))
          else none))))))
          else none) (fun (_ : Unit) =>
  b2 (x_L_does p0 8 p5 p6 p7 p8 w) (fun (v125 : Int32) (w126 : CS) =>
  bd (
    if (v10 : Int32) = 0 then
      some ((-30) : Int32)
    else
      some ((-20) : Int32)) (fun (v128 : Int32) =>
  bd (
    if (v125 : Int32) = v128 then
      some (1 : Int32)
    else
      some (0 : Int32)) (fun (v130 : Int32) =>
  if isB v130 then
  some ((v130, w126))
  else none))))))))
  else none
set_option maxHeartbeats 4000000 in
set_option maxRecDepth 100000 in
theorem c_L_isRow (g : GG) (l : Launch) (hG : XG g) (hC : NC g) (hst : l.stackTraces = false) (hn : gnn g 4 = 1) {b L : Nat} {xs : Nat → Int32} (hS : SCG g b L xs) (p0 : Nat) (p5 : Int32) (p6 : Int32) (p7 : Int32) (p8 : Int32) (w : CS) (mm : MS) (r : Int32) (w' : CS) (h : x_L_isRow p0 p5 p6 p7 p8 w mm = some (r, w')) : MetG g l yL_isRow wsL_isRow 15 353 [rv p0, .ref (gmd g 1), .ref (gmd g 2), .ref (gmd g 3), .ref (gmd g 4), .int p5, .int p6, .int p7, .int p8] (w, mm) (some (.int r)) (w', mm) := by
  refine g_start_z (some (.int r)) (own := RL) (by decide +kernel) rfl rfl (by simp [lg_sl, rv_cat, ct_i, ct_l, ct_r]) ?_
  intro p e s mi args below meth cd ls Q hX hnm hw hl hret
  have hl : lv_has ls 17 [(0, rv p0), (1, .ref (gmd g 1)), (2, .ref (gmd g 2)), (3, .ref (gmd g 3)), (4, .ref (gmd g 4)), (5, .int p5), (6, .int p6), (7, .int p7), (8, .int p8)] := by simpa [lv_args, rv_cat, ct_i, ct_l, ct_r] using hl
  obtain ⟨⟨hx, hb, -, hown, hts⟩, -⟩ := id hX
  unfold x_L_isRow at h
  refine lv_iload hx hb dL_isRow_0 (lv_at hl 5 rfl) ?_
  refine lv_aload_n hx hb dL_isRow_2 rfl (lv_at hl 3 rfl) ?_
  refine lv_bipush (v := 14) hx hb dL_isRow_3 (by decide) ?_
  obtain ⟨c1, h⟩ := og h
  refine m_ld hX hn hw 3 (by decide) rfl c1 dL_isRow_5 ?_
  obtain ⟨aj138, h1aj138, kaj138⟩ := ob1 h
  have haj138 : ∀ (v10 : Int32) (H : Heap) (lc : List Loc) (cn sn : Nat) (ls : Array Slot), aj138 = v10 → wH g s.heap.size (w, mm) H lc → lv_has ls 17 [(0, rv p0), (1, .ref (gmd g 1)), (2, .ref (gmd g 2)), (5, .int p5), (6, .int p6), (7, .int p7), (8, .int p8)] → W p l e (rmO g 15 353 s.heap) s mi args below meth cd H lc cn sn Q (F0 mi 39 ls [.int v10]) := by
    intro v10 H lc cn sn ls h hw hl
    replace h := kaj138 _ h
    refine lv_istore (lv' := [(9, .int v10), (0, rv p0), (1, .ref (gmd g 1)), (2, .ref (gmd g 2)), (5, .int p5), (6, .int p6), (7, .int p7), (8, .int p8)]) hx hb dL_isRow_39 hl (by decide) rfl (fun ls hl => ?_)
    refine lv_iload hx hb dL_isRow_41 (lv_at hl 6 rfl) ?_
    obtain ⟨aj137, h1aj137, kaj137⟩ := ob1 h
    have haj137 : ∀ (v16 : Int32) (H : Heap) (lc : List Loc) (cn sn : Nat) (ls : Array Slot), aj137 = v16 → wH g s.heap.size (w, mm) H lc → lv_has ls 17 [(9, .int v10), (0, rv p0), (1, .ref (gmd g 1)), (2, .ref (gmd g 2)), (5, .int p5), (6, .int p6), (7, .int p7), (8, .int p8)] → W p l e (rmO g 15 353 s.heap) s mi args below meth cd H lc cn sn Q (F0 mi 77 ls [.int v16]) := by
      intro v16 H lc cn sn ls h hw hl
      replace h := kaj137 _ h
      refine lv_istore (lv' := [(10, .int v16), (9, .int v10), (0, rv p0), (1, .ref (gmd g 1)), (2, .ref (gmd g 2)), (5, .int p5), (6, .int p6), (7, .int p7), (8, .int p8)]) hx hb dL_isRow_77 hl (by decide) rfl (fun ls hl => ?_)
      refine lv_iload hx hb dL_isRow_79 (lv_at hl 1 rfl) ?_
      obtain ⟨aj136, h1aj136, kaj136⟩ := ob1 h
      have haj136 : ∀ (v23 : Int32) (H : Heap) (lc : List Loc) (cn sn : Nat) (ls : Array Slot), aj136 = v23 → wH g s.heap.size (w, mm) H lc → lv_has ls 17 [(10, .int v16), (9, .int v10), (0, rv p0), (2, .ref (gmd g 2)), (5, .int p5), (6, .int p6), (7, .int p7), (8, .int p8)] → W p l e (rmO g 15 353 s.heap) s mi args below meth cd H lc cn sn Q (F0 mi 110 ls [.int v23]) := by
        intro v23 H lc cn sn ls h hw hl
        replace h := kaj136 _ h
        refine lv_istore (lv' := [(11, .int v23), (10, .int v16), (9, .int v10), (0, rv p0), (2, .ref (gmd g 2)), (5, .int p5), (6, .int p6), (7, .int p7), (8, .int p8)]) hx hb dL_isRow_110 hl (by decide) rfl (fun ls hl => ?_)
        refine lv_iload hx hb dL_isRow_112 (lv_at hl 0 rfl) ?_
        obtain ⟨aj135, h1aj135, kaj135⟩ := ob1 h
        have haj135 : ∀ (v28 : Int32) (H : Heap) (lc : List Loc) (cn sn : Nat) (ls : Array Slot), aj135 = v28 → wH g s.heap.size (w, mm) H lc → lv_has ls 17 [(11, .int v23), (10, .int v16), (9, .int v10), (0, rv p0), (5, .int p5), (6, .int p6), (7, .int p7), (8, .int p8)] → W p l e (rmO g 15 353 s.heap) s mi args below meth cd H lc cn sn Q (F0 mi 134 ls [.int v28]) := by
          intro v28 H lc cn sn ls h hw hl
          replace h := kaj135 _ h
          refine lv_istore (lv' := [(12, .int v28), (11, .int v23), (10, .int v16), (9, .int v10), (0, rv p0), (5, .int p5), (6, .int p6), (7, .int p7), (8, .int p8)]) hx hb dL_isRow_134 hl (by decide) rfl (fun ls hl => ?_)
          refine lv_iload hx hb dL_isRow_136 (lv_at hl 3 rfl) ?_
          obtain ⟨aj134, h1aj134, kaj134, raj134⟩ := ol0 h
          have haj134 : ∀ (H : Heap) (lc : List Loc) (cn sn : Nat) (ls : Array Slot), aj134 = Sum.inl () → wH g s.heap.size (w, mm) H lc → lv_has ls 17 [(9, .int v10), (0, rv p0), (5, .int p5), (6, .int p6), (7, .int p7), (8, .int p8)] → W p l e (rmO g 15 353 s.heap) s mi args below meth cd H lc cn sn Q (F0 mi 146 ls []) := by
            intro H lc cn sn ls h hw hl
            replace h := kaj134 h
            refine t_aload_n hx hb dL_isRow_146 rfl (lv_at hl 1 rfl) ?_
            refine lv_bipush (v := 8) hx hb dL_isRow_147 (by decide) ?_
            refine lv_iload hx hb dL_isRow_149 (lv_at hl 2 rfl) ?_
            refine lv_iload hx hb dL_isRow_151 (lv_at hl 3 rfl) ?_
            refine lv_iload hx hb dL_isRow_153 (lv_at hl 4 rfl) ?_
            refine lv_iload hx hb dL_isRow_155 (lv_at hl 5 rfl) ?_
            obtain ⟨v125, w126, e124, h⟩ := oc2 h
            refine g_callSWi (n := 6) (As := [rv p0, .int 8, .int p5, .int p6, .int p7, .int p8]) (rest := []) hX hw (c_L_does g l hG hC hst mm p0 8 p5 p6 p7 p8 w v125 w126 e124) gL_isRow_L_does rfl (by decide +kernel) rfl hl.1 rfl (Nat.le_of_ble_eq_true rfl) ⟨by decide, by decide⟩ dL_isRow_157 (fun H lc cn sn hw => ?_)
            refine lv_iload hx hb dL_isRow_160 (lv_at hl 0 rfl) ?_
            obtain ⟨aj133, h1aj133, kaj133⟩ := ob1 h
            have haj133 : ∀ (v128 : Int32) (H : Heap) (lc : List Loc) (cn sn : Nat) (ls : Array Slot), aj133 = v128 → wH g s.heap.size (w126, mm) H lc → lv_has ls 17 [] → W p l e (rmO g 15 353 s.heap) s mi args below meth cd H lc cn sn Q (F0 mi 172 ls [.int v128, .int v125]) := by
              intro v128 H lc cn sn ls h hw hl
              replace h := kaj133 _ h
              obtain ⟨aj132, h1aj132, kaj132⟩ := ob1 h
              have haj132 : ∀ (v130 : Int32) (H : Heap) (lc : List Loc) (cn sn : Nat) (ls : Array Slot), aj132 = v130 → wH g s.heap.size (w126, mm) H lc → lv_has ls 17 [] → W p l e (rmO g 15 353 s.heap) s mi args below meth cd H lc cn sn Q (F0 mi 180 ls [.int v130]) := by
                intro v130 H lc cn sn ls h hw hl
                replace h := kaj132 _ h
                obtain ⟨c131, h⟩ := og h
                replace h := (Option.some.inj h).symm
                obtain ⟨rfl, rfl⟩ := Prod.mk.inj h
                exact hret _ _ _ _ _ _ _ dL_isRow_180 c131 hw rfl
              replace h := h1aj132
              refine lv_icmp_ne (tgt := 179) hx hb dL_isRow_172 (by decide) (fun c129 => ?_) (fun c129 => ?_)
              · replace h := oe c129 h
                refine lv_iconst (v := 0) hx hb dL_isRow_179 (by decide) ?_
                replace h := (Option.some.inj h).symm
                exact haj132 _ _ _ _ _ _ h hw (lv_sub hl [] rfl)
              · replace h := ot c129 h
                refine lv_iconst (v := 1) hx hb dL_isRow_175 (by decide) ?_
                refine lv_goto (tgt := 180) hx hb dL_isRow_176 (by decide) ?_
                replace h := (Option.some.inj h).symm
                exact haj132 _ _ _ _ _ _ h hw (lv_sub hl [] rfl)
            replace h := h1aj133
            refine lv_if_eq (tgt := 170) hx hb dL_isRow_162 (by decide) (fun c127 => ?_) (fun c127 => ?_)
            · replace h := ot c127 h
              refine lv_bipush (v := (-30)) hx hb dL_isRow_170 (by decide) ?_
              replace h := (Option.some.inj h).symm
              exact haj133 _ _ _ _ _ _ h hw (lv_sub hl [] rfl)
            · replace h := oe c127 h
              refine lv_bipush (v := (-20)) hx hb dL_isRow_165 (by decide) ?_
              refine lv_goto (tgt := 172) hx hb dL_isRow_167 (by decide) ?_
              replace h := (Option.some.inj h).symm
              exact haj133 _ _ _ _ _ _ h hw (lv_sub hl [] rfl)
          replace h := h1aj134
          refine lv_if_eq (tgt := 146) hx hb dL_isRow_138 (by decide) (fun c29 => ?_) (fun c29 => ?_)
          · replace h := ot c29 h
            replace h := (Option.some.inj h).symm
            exact haj134 _ _ _ _ _ h hw (lv_sub hl [3, 4, 5, 6, 7, 8] rfl)
          · replace h := oe c29 h
            refine lv_iload hx hb dL_isRow_141 (lv_at hl 2 rfl) ?_
            refine lv_if_ne (tgt := 181) hx hb dL_isRow_143 (by decide) (fun c30 => ?_) (fun c30 => ?_)
            · replace h := oe c30 h
              refine lv_iload hx hb dL_isRow_181 (lv_at hl 1 rfl) ?_
              refine lv_if_ne (tgt := 266) hx hb dL_isRow_183 (by decide) (fun c31 => ?_) (fun c31 => ?_)
              · replace h := oe c31 h
                refine t_aload_n hx hb dL_isRow_266 rfl (lv_at hl 4 rfl) ?_
                refine lv_iload hx hb dL_isRow_267 (lv_at hl 5 rfl) ?_
                refine lv_iload hx hb dL_isRow_269 (lv_at hl 6 rfl) ?_
                refine lv_iconst (v := 0) hx hb dL_isRow_271 (by decide) ?_
                refine lv_ldc (v := 3999999) hx hb hown (hts (.constant RL 116 (3999999)) (by decide +kernel)) dL_isRow_272 ?_
                obtain ⟨c32, h⟩ := og h
                obtain ⟨v34, e33, h⟩ := obn3 h
                refine x_callVNi (n := 4) (As := [.int p5, .int p6, .int 0, .int 3999999]) (rest := []) hX hw (c_X6_count g l hG hst mm p0 p5 p6 0 3999999 w _ e33) gL_isRow_X6_count rfl (by decide +kernel) rfl (x_nz hw c32) (c_recv hX hw (ce_6 c32) rfl) hl.1 rfl (Nat.le_of_ble_eq_true rfl) ⟨by decide, by decide⟩ dL_isRow_274 (fun H lc cn sn hw => ?_)
                have hw : wH g s.heap.size (w, mm) H lc := hw
                refine lv_istore (lv' := [(13, .int v34), (12, .int v28), (11, .int v23), (10, .int v16), (9, .int v10), (0, rv p0), (5, .int p5), (6, .int p6), (7, .int p7), (8, .int p8)]) hx hb dL_isRow_277 hl (by decide) rfl (fun ls hl => ?_)
                refine t_aload_n hx hb dL_isRow_279 rfl (lv_at hl 5 rfl) ?_
                refine lv_iload hx hb dL_isRow_280 (lv_at hl 6 rfl) ?_
                refine lv_iload hx hb dL_isRow_282 (lv_at hl 7 rfl) ?_
                refine lv_iload hx hb dL_isRow_284 (lv_at hl 8 rfl) ?_
                obtain ⟨v36, e35, h⟩ := obn3 h
                refine x_callVNi (n := 3) (As := [.int p5, .int p6, .int p7]) (rest := []) hX hw (c_X6_get g l hG hst mm p0 p5 p6 p7 w _ e35) gL_isRow_X6_get rfl (by decide +kernel) rfl (x_nz hw c32) (c_recv hX hw (ce_6 c32) rfl) hl.1 rfl (Nat.le_of_ble_eq_true rfl) ⟨by decide, by decide⟩ dL_isRow_286 (fun H lc cn sn hw => ?_)
                have hw : wH g s.heap.size (w, mm) H lc := hw
                refine lv_istore (lv' := [(14, .int v36), (13, .int v34), (12, .int v28), (11, .int v23), (10, .int v16), (9, .int v10), (0, rv p0), (5, .int p5), (6, .int p6), (7, .int p7), (8, .int p8)]) hx hb dL_isRow_289 hl (by decide) rfl (fun ls hl => ?_)
                refine lv_iload hx hb dL_isRow_291 (lv_at hl 1 rfl) ?_
                obtain ⟨aj101, h1aj101, kaj101⟩ := ob1 h
                have haj101 : ∀ (v51 : Int32) (H : Heap) (lc : List Loc) (cn sn : Nat) (ls : Array Slot), aj101 = v51 → wH g s.heap.size (w, mm) H lc → lv_has ls 17 [(14, .int v36), (13, .int v34), (12, .int v28), (0, rv p0), (5, .int p5), (6, .int p6), (7, .int p7), (8, .int p8)] → W p l e (rmO g 15 353 s.heap) s mi args below meth cd H lc cn sn Q (F0 mi 361 ls [.int v51]) := by
                  intro v51 H lc cn sn ls h hw hl
                  replace h := kaj101 _ h
                  refine lv_istore (lv' := [(15, .int v51), (14, .int v36), (13, .int v34), (12, .int v28), (0, rv p0), (5, .int p5), (6, .int p6), (7, .int p7), (8, .int p8)]) hx hb dL_isRow_361 hl (by decide) rfl (fun ls hl => ?_)
                  refine t_aload_n hx hb dL_isRow_363 rfl (lv_at hl 4 rfl) ?_
                  refine lv_bipush (v := 8) hx hb dL_isRow_364 (by decide) ?_
                  refine lv_iload hx hb dL_isRow_366 (lv_at hl 5 rfl) ?_
                  refine lv_iload hx hb dL_isRow_368 (lv_at hl 6 rfl) ?_
                  refine lv_iload hx hb dL_isRow_370 (lv_at hl 7 rfl) ?_
                  refine lv_iload hx hb dL_isRow_372 (lv_at hl 8 rfl) ?_
                  obtain ⟨v53, w54, e52, h⟩ := oc2 h
                  refine g_callSWi (n := 6) (As := [rv p0, .int 8, .int p5, .int p6, .int p7, .int p8]) (rest := []) hX hw (c_L_does g l hG hC hst mm p0 8 p5 p6 p7 p8 w v53 w54 e52) gL_isRow_L_does rfl (by decide +kernel) rfl hl.1 rfl (Nat.le_of_ble_eq_true rfl) ⟨by decide, by decide⟩ dL_isRow_374 (fun H lc cn sn hw => ?_)
                  refine lv_istore (lv' := [(16, .int v53), (15, .int v51), (14, .int v36), (13, .int v34), (12, .int v28), (0, rv p0), (5, .int p5), (6, .int p6), (7, .int p7), (8, .int p8)]) hx hb dL_isRow_377 hl (by decide) rfl (fun ls hl => ?_)
                  refine lv_iload hx hb dL_isRow_379 (lv_at hl 4 rfl) ?_
                  obtain ⟨aj100, h1aj100, kaj100, raj100⟩ := ol0 h
                  have haj100 : ∀ (H : Heap) (lc : List Loc) (cn sn : Nat) (ls : Array Slot), aj100 = Sum.inl () → wH g s.heap.size (w54, mm) H lc → lv_has ls 17 [(16, .int v53), (15, .int v51), (14, .int v36), (13, .int v34), (12, .int v28), (0, rv p0), (5, .int p5), (6, .int p6), (7, .int p7)] → W p l e (rmO g 15 353 s.heap) s mi args below meth cd H lc cn sn Q (F0 mi 391 ls []) := by
                    intro H lc cn sn ls h hw hl
                    replace h := kaj100 h
                    refine lv_iload hx hb dL_isRow_391 (lv_at hl 1 rfl) ?_
                    obtain ⟨aj99, h1aj99, kaj99⟩ := ob2 h
                    have haj99 : ∀ (v96 : Int32) (w97 : CS) (H : Heap) (lc : List Loc) (cn sn : Nat) (ls : Array Slot), aj99 = (v96, w97) → wH g s.heap.size (w97, mm) H lc → lv_has ls 17 [] → W p l e (rmO g 15 353 s.heap) s mi args below meth cd H lc cn sn Q (F0 mi 461 ls [.int v96]) := by
                      intro v96 w97 H lc cn sn ls h hw hl
                      replace h := kaj99 _ _ h
                      obtain ⟨c98, h⟩ := og h
                      replace h := (Option.some.inj h).symm
                      replace h := raj134 _ h
                      obtain ⟨rfl, rfl⟩ := Prod.mk.inj h
                      exact hret _ _ _ _ _ _ _ dL_isRow_461 c98 hw rfl
                    replace h := h1aj99
                    obtain ⟨aj95, h1aj95, kaj95, raj95⟩ := ol1 h
                    have haj95 : ∀ (w94 : CS) (H : Heap) (lc : List Loc) (cn sn : Nat) (ls : Array Slot), aj95 = Sum.inl w94 → wH g s.heap.size (w94, mm) H lc → lv_has ls 17 [] → W p l e (rmO g 15 353 s.heap) s mi args below meth cd H lc cn sn Q (F0 mi 460 ls []) := by
                      intro w94 H lc cn sn ls h hw hl
                      replace h := kaj95 _ h
                      refine lv_iconst (v := 0) hx hb dL_isRow_460 (by decide) ?_
                      replace h := (Option.some.inj h).symm
                      exact haj99 _ _ _ _ _ _ _ h hw (lv_sub hl [] rfl)
                    replace h := h1aj95
                    refine lv_if_eq (tgt := 460) hx hb dL_isRow_393 (by decide) (fun c78 => ?_) (fun c78 => ?_)
                    · replace h := ot c78 h
                      replace h := (Option.some.inj h).symm
                      exact haj95 _ _ _ _ _ _ h hw (lv_sub hl [] rfl)
                    · replace h := oe c78 h
                      refine lv_iload hx hb dL_isRow_396 (lv_at hl 0 rfl) ?_
                      refine lv_bipush (v := (-10)) hx hb dL_isRow_398 (by decide) ?_
                      refine lv_icmp_ne (tgt := 460) hx hb dL_isRow_400 (by decide) (fun c79 => ?_) (fun c79 => ?_)
                      · replace h := oe c79 h
                        replace h := (Option.some.inj h).symm
                        exact haj95 _ _ _ _ _ _ h hw (lv_sub hl [] rfl)
                      · replace h := ot c79 h
                        refine t_aload_n hx hb dL_isRow_403 rfl (lv_at hl 5 rfl) ?_
                        refine lv_iload hx hb dL_isRow_404 (lv_at hl 6 rfl) ?_
                        refine lv_iload hx hb dL_isRow_406 (lv_at hl 7 rfl) ?_
                        refine lv_iload hx hb dL_isRow_408 (lv_at hl 8 rfl) ?_
                        obtain ⟨c80, h⟩ := og h
                        obtain ⟨v82, e81, h⟩ := obn3 h
                        refine x_callVNi (n := 3) (As := [.int p5, .int p6, .int p7]) (rest := []) hX hw (c_X6_get g l hG hst mm p0 p5 p6 p7 w54 _ e81) gL_isRow_X6_get rfl (by decide +kernel) rfl (x_nz hw c80) (c_recv hX hw (ce_6 c80) rfl) hl.1 rfl (Nat.le_of_ble_eq_true rfl) ⟨by decide, by decide⟩ dL_isRow_410 (fun H lc cn sn hw => ?_)
                        have hw : wH g s.heap.size (w54, mm) H lc := hw
                        refine lv_iload hx hb dL_isRow_413 (lv_at hl 2 rfl) ?_
                        refine lv_icmp_ne (tgt := 460) hx hb dL_isRow_415 (by decide) (fun c83 => ?_) (fun c83 => ?_)
                        · replace h := oe c83 h
                          replace h := (Option.some.inj h).symm
                          exact haj95 _ _ _ _ _ _ h hw (lv_sub hl [] rfl)
                        · replace h := ot c83 h
                          refine t_aload_n hx hb dL_isRow_418 rfl (lv_at hl 5 rfl) ?_
                          refine lv_iload hx hb dL_isRow_419 (lv_at hl 6 rfl) ?_
                          refine lv_iload hx hb dL_isRow_421 (lv_at hl 7 rfl) ?_
                          refine lv_iconst (v := 0) hx hb dL_isRow_423 (by decide) ?_
                          refine lv_ldc (v := 3999999) hx hb hown (hts (.constant RL 116 (3999999)) (by decide +kernel)) dL_isRow_424 ?_
                          obtain ⟨v85, e84, h⟩ := obn3 h
                          refine x_callVNi (n := 4) (As := [.int p5, .int p6, .int 0, .int 3999999]) (rest := []) hX hw (c_X6_count g l hG hst mm p0 p5 p6 0 3999999 w54 _ e84) gL_isRow_X6_count rfl (by decide +kernel) rfl (x_nz hw c80) (c_recv hX hw (ce_6 c80) rfl) hl.1 rfl (Nat.le_of_ble_eq_true rfl) ⟨by decide, by decide⟩ dL_isRow_426 (fun H lc cn sn hw => ?_)
                          have hw : wH g s.heap.size (w54, mm) H lc := hw
                          refine lv_iload hx hb dL_isRow_429 (lv_at hl 3 rfl) ?_
                          refine lv_icmp_ne (tgt := 460) hx hb dL_isRow_431 (by decide) (fun c86 => ?_) (fun c86 => ?_)
                          · replace h := oe c86 h
                            replace h := (Option.some.inj h).symm
                            exact haj95 _ _ _ _ _ _ h hw (lv_sub hl [] rfl)
                          · replace h := ot c86 h
                            refine lv_iload hx hb dL_isRow_434 (lv_at hl 4 rfl) ?_
                            obtain ⟨aj93, h1aj93, kaj93, raj93⟩ := ol1 h
                            have haj93 : ∀ (w92 : CS) (H : Heap) (lc : List Loc) (cn sn : Nat) (ls : Array Slot), aj93 = Sum.inl w92 → wH g s.heap.size (w92, mm) H lc → lv_has ls 17 [] → W p l e (rmO g 15 353 s.heap) s mi args below meth cd H lc cn sn Q (F0 mi 456 ls []) := by
                              intro w92 H lc cn sn ls h hw hl
                              replace h := kaj93 _ h
                              refine lv_iconst (v := 1) hx hb dL_isRow_456 (by decide) ?_
                              refine lv_goto (tgt := 461) hx hb dL_isRow_457 (by decide) ?_
                              replace h := (Option.some.inj h).symm
                              replace h := raj95 _ h
                              exact haj99 _ _ _ _ _ _ _ h hw (lv_sub hl [] rfl)
                            replace h := h1aj93
                            refine lv_if_ne (tgt := 456) hx hb dL_isRow_436 (by decide) (fun c87 => ?_) (fun c87 => ?_)
                            · replace h := oe c87 h
                              replace h := (Option.some.inj h).symm
                              exact haj93 _ _ _ _ _ _ h hw (lv_sub hl [] rfl)
                            · replace h := ot c87 h
                              refine t_aload_n hx hb dL_isRow_439 rfl (lv_at hl 5 rfl) ?_
                              refine lv_bipush (v := 9) hx hb dL_isRow_440 (by decide) ?_
                              refine lv_iload hx hb dL_isRow_442 (lv_at hl 6 rfl) ?_
                              refine lv_iload hx hb dL_isRow_444 (lv_at hl 7 rfl) ?_
                              refine lv_iconst (v := 0) hx hb dL_isRow_446 (by decide) ?_
                              refine lv_iconst (v := 0) hx hb dL_isRow_447 (by decide) ?_
                              obtain ⟨v89, w90, e88, h⟩ := oc2 h
                              refine g_callSWi (n := 6) (As := [rv p0, .int 9, .int p5, .int p6, .int 0, .int 0]) (rest := []) hX hw (c_L_does g l hG hC hst mm p0 9 p5 p6 0 0 w54 v89 w90 e88) gL_isRow_L_does rfl (by decide +kernel) rfl hl.1 rfl (Nat.le_of_ble_eq_true rfl) ⟨by decide, by decide⟩ dL_isRow_448 (fun H lc cn sn hw => ?_)
                              refine lv_bipush (v := (-10)) hx hb dL_isRow_451 (by decide) ?_
                              refine lv_icmp_ne (tgt := 460) hx hb dL_isRow_453 (by decide) (fun c91 => ?_) (fun c91 => ?_)
                              · replace h := oe c91 h
                                replace h := (Option.some.inj h).symm
                                replace h := raj93 _ h
                                exact haj95 _ _ _ _ _ _ h hw (lv_sub hl [] rfl)
                              · replace h := ot c91 h
                                replace h := (Option.some.inj h).symm
                                exact haj93 _ _ _ _ _ _ h hw (lv_sub hl [] rfl)
                  replace h := h1aj100
                  refine lv_if_eq (tgt := 391) hx hb dL_isRow_381 (by decide) (fun c55 => ?_) (fun c55 => ?_)
                  · replace h := ot c55 h
                    replace h := (Option.some.inj h).symm
                    exact haj100 _ _ _ _ _ h hw (lv_sub hl [0, 1, 2, 3, 4, 5, 6, 7, 8] rfl)
                  · replace h := oe c55 h
                    refine lv_iload hx hb dL_isRow_384 (lv_at hl 0 rfl) ?_
                    refine lv_bipush (v := (-10)) hx hb dL_isRow_386 (by decide) ?_
                    refine lv_icmp_ne (tgt := 462) hx hb dL_isRow_388 (by decide) (fun c56 => ?_) (fun c56 => ?_)
                    · replace h := oe c56 h
                      refine lv_iload hx hb dL_isRow_462 (lv_at hl 1 rfl) ?_
                      obtain ⟨aj77, h1aj77, kaj77⟩ := ob1 h
                      have haj77 : ∀ (v75 : Int32) (H : Heap) (lc : List Loc) (cn sn : Nat) (ls : Array Slot), aj77 = v75 → wH g s.heap.size (w54, mm) H lc → lv_has ls 17 [] → W p l e (rmO g 15 353 s.heap) s mi args below meth cd H lc cn sn Q (F0 mi 555 ls [.int v75]) := by
                        intro v75 H lc cn sn ls h hw hl
                        replace h := kaj77 _ h
                        obtain ⟨c76, h⟩ := og h
                        replace h := (Option.some.inj h).symm
                        replace h := raj100 _ h
                        replace h := raj134 _ h
                        obtain ⟨rfl, rfl⟩ := Prod.mk.inj h
                        exact hret _ _ _ _ _ _ _ dL_isRow_555 c76 hw rfl
                      replace h := h1aj77
                      obtain ⟨aj74, h1aj74, kaj74, raj74⟩ := ol0 h
                      have haj74 : ∀ (H : Heap) (lc : List Loc) (cn sn : Nat) (ls : Array Slot), aj74 = Sum.inl () → wH g s.heap.size (w54, mm) H lc → lv_has ls 17 [] → W p l e (rmO g 15 353 s.heap) s mi args below meth cd H lc cn sn Q (F0 mi 554 ls []) := by
                        intro H lc cn sn ls h hw hl
                        replace h := kaj74 h
                        refine lv_iconst (v := 0) hx hb dL_isRow_554 (by decide) ?_
                        replace h := (Option.some.inj h).symm
                        exact haj77 _ _ _ _ _ _ h hw (lv_sub hl [] rfl)
                      replace h := h1aj74
                      refine lv_if_eq (tgt := 554) hx hb dL_isRow_464 (by decide) (fun c57 => ?_) (fun c57 => ?_)
                      · replace h := ot c57 h
                        replace h := (Option.some.inj h).symm
                        exact haj74 _ _ _ _ _ h hw (lv_sub hl [] rfl)
                      · replace h := oe c57 h
                        refine lv_iload hx hb dL_isRow_467 (lv_at hl 0 rfl) ?_
                        refine lv_iload hx hb dL_isRow_469 (lv_at hl 2 rfl) ?_
                        obtain ⟨aj73, h1aj73, kaj73⟩ := ob1 h
                        have haj73 : ∀ (v59 : Int32) (H : Heap) (lc : List Loc) (cn sn : Nat) (ls : Array Slot), aj73 = v59 → wH g s.heap.size (w54, mm) H lc → lv_has ls 17 [(16, .int v53), (13, .int v34), (0, rv p0), (5, .int p5), (6, .int p6), (7, .int p7), (8, .int p8)] → W p l e (rmO g 15 353 s.heap) s mi args below meth cd H lc cn sn Q (F0 mi 479 ls [.int v59, .int v53]) := by
                          intro v59 H lc cn sn ls h hw hl
                          replace h := kaj73 _ h
                          refine lv_icmp_ne (tgt := 554) hx hb dL_isRow_479 (by decide) (fun c60 => ?_) (fun c60 => ?_)
                          · replace h := oe c60 h
                            replace h := (Option.some.inj h).symm
                            exact haj74 _ _ _ _ _ h hw (lv_sub hl [] rfl)
                          · replace h := ot c60 h
                            refine t_aload_n hx hb dL_isRow_482 rfl (lv_at hl 2 rfl) ?_
                            refine lv_iload hx hb dL_isRow_483 (lv_at hl 3 rfl) ?_
                            refine lv_iload hx hb dL_isRow_485 (lv_at hl 4 rfl) ?_
                            refine lv_iload hx hb dL_isRow_487 (lv_at hl 5 rfl) ?_
                            obtain ⟨c61, h⟩ := og h
                            obtain ⟨v63, e62, h⟩ := obn3 h
                            refine x_callVNi (n := 3) (As := [.int p5, .int p6, .int p7]) (rest := []) hX hw (c_X6_get g l hG hst mm p0 p5 p6 p7 w54 _ e62) gL_isRow_X6_get rfl (by decide +kernel) rfl (x_nz hw c61) (c_recv hX hw (ce_6 c61) rfl) hl.1 rfl (Nat.le_of_ble_eq_true rfl) ⟨by decide, by decide⟩ dL_isRow_489 (fun H lc cn sn hw => ?_)
                            have hw : wH g s.heap.size (w54, mm) H lc := hw
                            refine lv_iload hx hb dL_isRow_492 (lv_at hl 6 rfl) ?_
                            refine lv_icmp_ne (tgt := 554) hx hb dL_isRow_494 (by decide) (fun c64 => ?_) (fun c64 => ?_)
                            · replace h := oe c64 h
                              replace h := (Option.some.inj h).symm
                              exact haj74 _ _ _ _ _ h hw (lv_sub hl [] rfl)
                            · replace h := ot c64 h
                              refine t_aload_n hx hb dL_isRow_497 rfl (lv_at hl 2 rfl) ?_
                              refine lv_iload hx hb dL_isRow_498 (lv_at hl 3 rfl) ?_
                              refine lv_iload hx hb dL_isRow_500 (lv_at hl 4 rfl) ?_
                              refine lv_iconst (v := 0) hx hb dL_isRow_502 (by decide) ?_
                              refine lv_ldc (v := 3999999) hx hb hown (hts (.constant RL 116 (3999999)) (by decide +kernel)) dL_isRow_503 ?_
                              obtain ⟨v66, e65, h⟩ := obn3 h
                              refine x_callVNi (n := 4) (As := [.int p5, .int p6, .int 0, .int 3999999]) (rest := []) hX hw (c_X6_count g l hG hst mm p0 p5 p6 0 3999999 w54 _ e65) gL_isRow_X6_count rfl (by decide +kernel) rfl (x_nz hw c61) (c_recv hX hw (ce_6 c61) rfl) hl.1 rfl (Nat.le_of_ble_eq_true rfl) ⟨by decide, by decide⟩ dL_isRow_505 (fun H lc cn sn hw => ?_)
                              have hw : wH g s.heap.size (w54, mm) H lc := hw
                              refine lv_iload hx hb dL_isRow_508 (lv_at hl 1 rfl) ?_
                              refine lv_iload hx hb dL_isRow_510 (lv_at hl 0 rfl) ?_
                              refine lv_iadd hx hb dL_isRow_512 ?_
                              refine lv_icmp_ne (tgt := 554) hx hb dL_isRow_513 (by decide) (fun c67 => ?_) (fun c67 => ?_)
                              · replace h := oe c67 h
                                replace h := (Option.some.inj h).symm
                                exact haj74 _ _ _ _ _ h hw (lv_sub hl [] rfl)
                              · replace h := ot c67 h
                                refine t_aload_n hx hb dL_isRow_516 rfl (lv_at hl 2 rfl) ?_
                                refine lv_iload hx hb dL_isRow_517 (lv_at hl 3 rfl) ?_
                                refine lv_iload hx hb dL_isRow_519 (lv_at hl 4 rfl) ?_
                                refine lv_iconst (v := 0) hx hb dL_isRow_521 (by decide) ?_
                                refine lv_iload hx hb dL_isRow_522 (lv_at hl 5 rfl) ?_
                                obtain ⟨v69, e68, h⟩ := obn3 h
                                refine x_callVNi (n := 4) (As := [.int p5, .int p6, .int 0, .int p7]) (rest := []) hX hw (c_X6_count g l hG hst mm p0 p5 p6 0 p7 w54 _ e68) gL_isRow_X6_count rfl (by decide +kernel) rfl (x_nz hw c61) (c_recv hX hw (ce_6 c61) rfl) hl.1 rfl (Nat.le_of_ble_eq_true rfl) ⟨by decide, by decide⟩ dL_isRow_524 (fun H lc cn sn hw => ?_)
                                have hw : wH g s.heap.size (w54, mm) H lc := hw
                                refine t_aload_n hx hb dL_isRow_527 rfl (lv_at hl 2 rfl) ?_
                                refine lv_iload hx hb dL_isRow_528 (lv_at hl 3 rfl) ?_
                                refine lv_iload hx hb dL_isRow_530 (lv_at hl 4 rfl) ?_
                                refine lv_iload hx hb dL_isRow_532 (lv_at hl 5 rfl) ?_
                                refine lv_ldc (v := 3999999) hx hb hown (hts (.constant RL 116 (3999999)) (by decide +kernel)) dL_isRow_534 ?_
                                obtain ⟨v71, e70, h⟩ := obn3 h
                                refine x_callVNi (n := 4) (As := [.int p5, .int p6, .int p7, .int 3999999]) (rest := [.int v69]) hX hw (c_X6_count g l hG hst mm p0 p5 p6 p7 3999999 w54 _ e70) gL_isRow_X6_count rfl (by decide +kernel) rfl (x_nz hw c61) (c_recv hX hw (ce_6 c61) rfl) hl.1 rfl (by simp [rv_cat, ct_i, ct_l, ct_r]) ⟨by decide, by decide⟩ dL_isRow_536 (fun H lc cn sn hw => ?_)
                                have hw : wH g s.heap.size (w54, mm) H lc := hw
                                refine lv_iadd hx hb dL_isRow_539 ?_
                                refine lv_iload hx hb dL_isRow_540 (lv_at hl 1 rfl) ?_
                                refine lv_iload hx hb dL_isRow_542 (lv_at hl 0 rfl) ?_
                                refine lv_iadd hx hb dL_isRow_544 ?_
                                refine lv_iconst (v := 1) hx hb dL_isRow_545 (by decide) ?_
                                refine lv_iadd hx hb dL_isRow_546 ?_
                                refine lv_icmp_ne (tgt := 554) hx hb dL_isRow_547 (by decide) (fun c72 => ?_) (fun c72 => ?_)
                                · replace h := oe c72 h
                                  replace h := (Option.some.inj h).symm
                                  exact haj74 _ _ _ _ _ h hw (lv_sub hl [] rfl)
                                · replace h := ot c72 h
                                  refine lv_iconst (v := 1) hx hb dL_isRow_550 (by decide) ?_
                                  refine lv_goto (tgt := 555) hx hb dL_isRow_551 (by decide) ?_
                                  replace h := (Option.some.inj h).symm
                                  replace h := raj74 _ h
                                  exact haj77 _ _ _ _ _ _ h hw (lv_sub hl [] rfl)
                        replace h := h1aj73
                        refine lv_if_ge (tgt := 478) hx hb dL_isRow_471 (by decide) (fun c58 => ?_) (fun c58 => ?_)
                        · replace h := ot c58 h
                          refine lv_iconst (v := 0) hx hb dL_isRow_478 (by decide) ?_
                          replace h := (Option.some.inj h).symm
                          exact haj73 _ _ _ _ _ _ h hw (lv_sub hl [0, 3, 5, 6, 7, 8, 9] rfl)
                        · replace h := oe c58 h
                          refine lv_iconst (v := 1) hx hb dL_isRow_474 (by decide) ?_
                          refine lv_goto (tgt := 479) hx hb dL_isRow_475 (by decide) ?_
                          replace h := (Option.some.inj h).symm
                          exact haj73 _ _ _ _ _ _ h hw (lv_sub hl [0, 3, 5, 6, 7, 8, 9] rfl)
                    · replace h := ot c56 h
                      replace h := (Option.some.inj h).symm
                      exact haj100 _ _ _ _ _ h hw (lv_sub hl [0, 1, 2, 3, 4, 5, 6, 7, 8] rfl)
                replace h := h1aj101
                obtain ⟨aj50, h1aj50, kaj50, raj50⟩ := ol0 h
                have haj50 : ∀ (H : Heap) (lc : List Loc) (cn sn : Nat) (ls : Array Slot), aj50 = Sum.inl () → wH g s.heap.size (w, mm) H lc → lv_has ls 17 [(14, .int v36), (13, .int v34), (12, .int v28), (0, rv p0), (5, .int p5), (6, .int p6), (7, .int p7), (8, .int p8)] → W p l e (rmO g 15 353 s.heap) s mi args below meth cd H lc cn sn Q (F0 mi 360 ls []) := by
                  intro H lc cn sn ls h hw hl
                  replace h := kaj50 h
                  refine lv_iconst (v := 0) hx hb dL_isRow_360 (by decide) ?_
                  replace h := (Option.some.inj h).symm
                  exact haj101 _ _ _ _ _ _ h hw (lv_sub hl [0, 1, 2, 3, 4, 5, 6, 7] rfl)
                replace h := h1aj50
                refine lv_if_lt (tgt := 360) hx hb dL_isRow_293 (by decide) (fun c37 => ?_) (fun c37 => ?_)
                · replace h := ot c37 h
                  replace h := (Option.some.inj h).symm
                  exact haj50 _ _ _ _ _ h hw (lv_sub hl [0, 1, 2, 6, 7, 8, 9, 10] rfl)
                · replace h := oe c37 h
                  refine lv_iload hx hb dL_isRow_296 (lv_at hl 1 rfl) ?_
                  refine lv_bipush (v := 41) hx hb dL_isRow_298 (by decide) ?_
                  refine lv_icmp_ge (tgt := 360) hx hb dL_isRow_300 (by decide) (fun c38 => ?_) (fun c38 => ?_)
                  · replace h := ot c38 h
                    replace h := (Option.some.inj h).symm
                    exact haj50 _ _ _ _ _ h hw (lv_sub hl [0, 1, 2, 6, 7, 8, 9, 10] rfl)
                  · replace h := oe c38 h
                    refine lv_iload hx hb dL_isRow_303 (lv_at hl 0 rfl) ?_
                    refine lv_iconst (v := (-1)) hx hb dL_isRow_305 (by decide) ?_
                    refine lv_icmp_lt (tgt := 360) hx hb dL_isRow_306 (by decide) (fun c39 => ?_) (fun c39 => ?_)
                    · replace h := ot c39 h
                      replace h := (Option.some.inj h).symm
                      exact haj50 _ _ _ _ _ h hw (lv_sub hl [0, 1, 2, 6, 7, 8, 9, 10] rfl)
                    · replace h := oe c39 h
                      refine lv_iload hx hb dL_isRow_309 (lv_at hl 0 rfl) ?_
                      refine lv_sipush (v := 10000) hx hb dL_isRow_311 (by decide) ?_
                      refine lv_icmp_ge (tgt := 360) hx hb dL_isRow_314 (by decide) (fun c40 => ?_) (fun c40 => ?_)
                      · replace h := ot c40 h
                        replace h := (Option.some.inj h).symm
                        exact haj50 _ _ _ _ _ h hw (lv_sub hl [0, 1, 2, 6, 7, 8, 9, 10] rfl)
                      · replace h := oe c40 h
                        refine t_aload_n hx hb dL_isRow_317 rfl (lv_at hl 6 rfl) ?_
                        refine lv_iload hx hb dL_isRow_318 (lv_at hl 7 rfl) ?_
                        refine lv_iload hx hb dL_isRow_320 (lv_at hl 8 rfl) ?_
                        refine lv_iload hx hb dL_isRow_322 (lv_at hl 9 rfl) ?_
                        refine lv_iload hx hb dL_isRow_324 (lv_at hl 9 rfl) ?_
                        obtain ⟨v42, e41, h⟩ := obn3 h
                        refine x_callVNi (n := 4) (As := [.int p5, .int p6, .int p7, .int p7]) (rest := []) hX hw (c_X6_count g l hG hst mm p0 p5 p6 p7 p7 w _ e41) gL_isRow_X6_count rfl (by decide +kernel) rfl (x_nz hw c32) (c_recv hX hw (ce_6 c32) rfl) hl.1 rfl (Nat.le_of_ble_eq_true rfl) ⟨by decide, by decide⟩ dL_isRow_326 (fun H lc cn sn hw => ?_)
                        have hw : wH g s.heap.size (w, mm) H lc := hw
                        refine lv_iload hx hb dL_isRow_329 (lv_at hl 0 rfl) ?_
                        obtain ⟨aj49, h1aj49, kaj49⟩ := ob1 h
                        have haj49 : ∀ (v44 : Int32) (H : Heap) (lc : List Loc) (cn sn : Nat) (ls : Array Slot), aj49 = v44 → wH g s.heap.size (w, mm) H lc → lv_has ls 17 [(14, .int v36), (13, .int v34), (12, .int v28), (0, rv p0), (5, .int p5), (6, .int p6), (7, .int p7), (8, .int p8)] → W p l e (rmO g 15 353 s.heap) s mi args below meth cd H lc cn sn Q (F0 mi 339 ls [.int v44, .int v42]) := by
                          intro v44 H lc cn sn ls h hw hl
                          replace h := kaj49 _ h
                          refine lv_icmp_ne (tgt := 360) hx hb dL_isRow_339 (by decide) (fun c45 => ?_) (fun c45 => ?_)
                          · replace h := oe c45 h
                            replace h := (Option.some.inj h).symm
                            exact haj50 _ _ _ _ _ h hw (lv_sub hl [0, 1, 2, 3, 4, 5, 6, 7] rfl)
                          · replace h := ot c45 h
                            refine t_aload_n hx hb dL_isRow_342 rfl (lv_at hl 3 rfl) ?_
                            refine lv_iload hx hb dL_isRow_343 (lv_at hl 4 rfl) ?_
                            refine lv_iload hx hb dL_isRow_345 (lv_at hl 5 rfl) ?_
                            refine lv_ldc (v := 3999999) hx hb hown (hts (.constant RL 116 (3999999)) (by decide +kernel)) dL_isRow_347 ?_
                            refine lv_iconst (v := 0) hx hb dL_isRow_349 (by decide) ?_
                            obtain ⟨v47, e46, h⟩ := obn3 h
                            refine x_callVNi (n := 4) (As := [.int p5, .int p6, .int 3999999, .int 0]) (rest := []) hX hw (c_X6_count g l hG hst mm p0 p5 p6 3999999 0 w _ e46) gL_isRow_X6_count rfl (by decide +kernel) rfl (x_nz hw c32) (c_recv hX hw (ce_6 c32) rfl) hl.1 rfl (Nat.le_of_ble_eq_true rfl) ⟨by decide, by decide⟩ dL_isRow_350 (fun H lc cn sn hw => ?_)
                            have hw : wH g s.heap.size (w, mm) H lc := hw
                            refine lv_if_ne (tgt := 360) hx hb dL_isRow_353 (by decide) (fun c48 => ?_) (fun c48 => ?_)
                            · replace h := oe c48 h
                              replace h := (Option.some.inj h).symm
                              exact haj50 _ _ _ _ _ h hw (lv_sub hl [0, 1, 2, 3, 4, 5, 6, 7] rfl)
                            · replace h := ot c48 h
                              refine lv_iconst (v := 1) hx hb dL_isRow_356 (by decide) ?_
                              refine lv_goto (tgt := 361) hx hb dL_isRow_357 (by decide) ?_
                              replace h := (Option.some.inj h).symm
                              replace h := raj50 _ h
                              exact haj101 _ _ _ _ _ _ h hw (lv_sub hl [0, 1, 2, 3, 4, 5, 6, 7] rfl)
                        replace h := h1aj49
                        refine lv_if_ge (tgt := 338) hx hb dL_isRow_331 (by decide) (fun c43 => ?_) (fun c43 => ?_)
                        · replace h := ot c43 h
                          refine lv_iconst (v := 1) hx hb dL_isRow_338 (by decide) ?_
                          replace h := (Option.some.inj h).symm
                          exact haj49 _ _ _ _ _ _ h hw (lv_sub hl [0, 1, 2, 6, 7, 8, 9, 10] rfl)
                        · replace h := oe c43 h
                          refine lv_iconst (v := 0) hx hb dL_isRow_334 (by decide) ?_
                          refine lv_goto (tgt := 339) hx hb dL_isRow_335 (by decide) ?_
                          replace h := (Option.some.inj h).symm
                          exact haj49 _ _ _ _ _ _ h hw (lv_sub hl [0, 1, 2, 6, 7, 8, 9, 10] rfl)
              · replace h := ot c31 h
                refine t_aload_n hx hb dL_isRow_186 rfl (lv_at hl 4 rfl) ?_
                refine lv_bipush (v := 8) hx hb dL_isRow_187 (by decide) ?_
                refine lv_iload hx hb dL_isRow_189 (lv_at hl 5 rfl) ?_
                refine lv_iload hx hb dL_isRow_191 (lv_at hl 6 rfl) ?_
                refine lv_iload hx hb dL_isRow_193 (lv_at hl 7 rfl) ?_
                refine lv_iload hx hb dL_isRow_195 (lv_at hl 8 rfl) ?_
                obtain ⟨v103, w104, e102, h⟩ := oc2 h
                refine g_callSWi (n := 6) (As := [rv p0, .int 8, .int p5, .int p6, .int p7, .int p8]) (rest := []) hX hw (c_L_does g l hG hC hst mm p0 8 p5 p6 p7 p8 w v103 w104 e102) gL_isRow_L_does rfl (by decide +kernel) rfl hl.1 rfl (Nat.le_of_ble_eq_true rfl) ⟨by decide, by decide⟩ dL_isRow_197 (fun H lc cn sn hw => ?_)
                refine lv_bipush (v := (-10)) hx hb dL_isRow_200 (by decide) ?_
                obtain ⟨aj123, h1aj123, kaj123⟩ := ob2 h
                have haj123 : ∀ (v120 : Int32) (w121 : CS) (H : Heap) (lc : List Loc) (cn sn : Nat) (ls : Array Slot), aj123 = (v120, w121) → wH g s.heap.size (w121, mm) H lc → lv_has ls 17 [] → W p l e (rmO g 15 353 s.heap) s mi args below meth cd H lc cn sn Q (F0 mi 265 ls [.int v120]) := by
                  intro v120 w121 H lc cn sn ls h hw hl
                  replace h := kaj123 _ _ h
                  obtain ⟨c122, h⟩ := og h
                  replace h := (Option.some.inj h).symm
                  replace h := raj134 _ h
                  obtain ⟨rfl, rfl⟩ := Prod.mk.inj h
                  exact hret _ _ _ _ _ _ _ dL_isRow_265 c122 hw rfl
                replace h := h1aj123
                obtain ⟨aj119, h1aj119, kaj119, raj119⟩ := ol1 h
                have haj119 : ∀ (w118 : CS) (H : Heap) (lc : List Loc) (cn sn : Nat) (ls : Array Slot), aj119 = Sum.inl w118 → wH g s.heap.size (w118, mm) H lc → lv_has ls 17 [] → W p l e (rmO g 15 353 s.heap) s mi args below meth cd H lc cn sn Q (F0 mi 264 ls []) := by
                  intro w118 H lc cn sn ls h hw hl
                  replace h := kaj119 _ h
                  refine lv_iconst (v := 0) hx hb dL_isRow_264 (by decide) ?_
                  replace h := (Option.some.inj h).symm
                  exact haj123 _ _ _ _ _ _ _ h hw (lv_sub hl [] rfl)
                replace h := h1aj119
                refine lv_icmp_ne (tgt := 264) hx hb dL_isRow_202 (by decide) (fun c105 => ?_) (fun c105 => ?_)
                · replace h := oe c105 h
                  replace h := (Option.some.inj h).symm
                  exact haj119 _ _ _ _ _ _ h hw (lv_sub hl [] rfl)
                · replace h := ot c105 h
                  refine t_aload_n hx hb dL_isRow_205 rfl (lv_at hl 4 rfl) ?_
                  refine lv_bipush (v := 9) hx hb dL_isRow_206 (by decide) ?_
                  refine lv_iload hx hb dL_isRow_208 (lv_at hl 5 rfl) ?_
                  refine lv_iload hx hb dL_isRow_210 (lv_at hl 6 rfl) ?_
                  refine lv_iload hx hb dL_isRow_212 (lv_at hl 7 rfl) ?_
                  refine lv_iload hx hb dL_isRow_214 (lv_at hl 7 rfl) ?_
                  obtain ⟨v107, w108, e106, h⟩ := oc2 h
                  refine g_callSWi (n := 6) (As := [rv p0, .int 9, .int p5, .int p6, .int p7, .int p7]) (rest := []) hX hw (c_L_does g l hG hC hst mm p0 9 p5 p6 p7 p7 w104 v107 w108 e106) gL_isRow_L_does rfl (by decide +kernel) rfl hl.1 rfl (Nat.le_of_ble_eq_true rfl) ⟨by decide, by decide⟩ dL_isRow_216 (fun H lc cn sn hw => ?_)
                  refine lv_bipush (v := (-10)) hx hb dL_isRow_219 (by decide) ?_
                  refine lv_icmp_ne (tgt := 264) hx hb dL_isRow_221 (by decide) (fun c109 => ?_) (fun c109 => ?_)
                  · replace h := oe c109 h
                    replace h := (Option.some.inj h).symm
                    exact haj119 _ _ _ _ _ _ h hw (lv_sub hl [] rfl)
                  · replace h := ot c109 h
                    refine t_aload_n hx hb dL_isRow_224 rfl (lv_at hl 4 rfl) ?_
                    refine lv_bipush (v := 10) hx hb dL_isRow_225 (by decide) ?_
                    refine lv_iload hx hb dL_isRow_227 (lv_at hl 5 rfl) ?_
                    refine lv_iload hx hb dL_isRow_229 (lv_at hl 6 rfl) ?_
                    refine lv_iload hx hb dL_isRow_231 (lv_at hl 7 rfl) ?_
                    refine lv_iconst (v := 0) hx hb dL_isRow_233 (by decide) ?_
                    obtain ⟨v111, w112, e110, h⟩ := oc2 h
                    refine g_callSWi (n := 6) (As := [rv p0, .int 10, .int p5, .int p6, .int p7, .int 0]) (rest := []) hX hw (c_L_does g l hG hC hst mm p0 10 p5 p6 p7 0 w108 v111 w112 e110) gL_isRow_L_does rfl (by decide +kernel) rfl hl.1 rfl (Nat.le_of_ble_eq_true rfl) ⟨by decide, by decide⟩ dL_isRow_234 (fun H lc cn sn hw => ?_)
                    refine lv_bipush (v := (-10)) hx hb dL_isRow_237 (by decide) ?_
                    refine lv_icmp_ne (tgt := 264) hx hb dL_isRow_239 (by decide) (fun c113 => ?_) (fun c113 => ?_)
                    · replace h := oe c113 h
                      replace h := (Option.some.inj h).symm
                      exact haj119 _ _ _ _ _ _ h hw (lv_sub hl [] rfl)
                    · replace h := ot c113 h
                      refine t_aload_n hx hb dL_isRow_242 rfl (lv_at hl 4 rfl) ?_
                      refine lv_bipush (v := 11) hx hb dL_isRow_243 (by decide) ?_
                      refine lv_iload hx hb dL_isRow_245 (lv_at hl 5 rfl) ?_
                      refine lv_iload hx hb dL_isRow_247 (lv_at hl 6 rfl) ?_
                      refine lv_iconst (v := 0) hx hb dL_isRow_249 (by decide) ?_
                      refine lv_ldc (v := 3999999) hx hb hown (hts (.constant RL 116 (3999999)) (by decide +kernel)) dL_isRow_250 ?_
                      obtain ⟨v115, w116, e114, h⟩ := oc2 h
                      refine g_callSWi (n := 6) (As := [rv p0, .int 11, .int p5, .int p6, .int 0, .int 3999999]) (rest := []) hX hw (c_L_does g l hG hC hst mm p0 11 p5 p6 0 3999999 w112 v115 w116 e114) gL_isRow_L_does rfl (by decide +kernel) rfl hl.1 rfl (Nat.le_of_ble_eq_true rfl) ⟨by decide, by decide⟩ dL_isRow_252 (fun H lc cn sn hw => ?_)
                      refine lv_bipush (v := (-10)) hx hb dL_isRow_255 (by decide) ?_
                      refine lv_icmp_ne (tgt := 264) hx hb dL_isRow_257 (by decide) (fun c117 => ?_) (fun c117 => ?_)
                      · replace h := oe c117 h
                        replace h := (Option.some.inj h).symm
                        exact haj119 _ _ _ _ _ _ h hw (lv_sub hl [] rfl)
                      · replace h := ot c117 h
                        refine lv_iconst (v := 1) hx hb dL_isRow_260 (by decide) ?_
                        refine lv_goto (tgt := 265) hx hb dL_isRow_261 (by decide) ?_
                        replace h := (Option.some.inj h).symm
                        replace h := raj119 _ h
                        exact haj123 _ _ _ _ _ _ _ h hw (lv_sub hl [] rfl)
            · replace h := ot c30 h
              replace h := (Option.some.inj h).symm
              exact haj134 _ _ _ _ _ h hw (lv_sub hl [3, 4, 5, 6, 7, 8] rfl)
        replace h := h1aj135
        obtain ⟨aj27, h1aj27, kaj27, raj27⟩ := ol0 h
        have haj27 : ∀ (H : Heap) (lc : List Loc) (cn sn : Nat) (ls : Array Slot), aj27 = Sum.inl () → wH g s.heap.size (w, mm) H lc → lv_has ls 17 [(11, .int v23), (10, .int v16), (9, .int v10), (0, rv p0), (5, .int p5), (6, .int p6), (7, .int p7), (8, .int p8)] → W p l e (rmO g 15 353 s.heap) s mi args below meth cd H lc cn sn Q (F0 mi 133 ls []) := by
          intro H lc cn sn ls h hw hl
          replace h := kaj27 h
          refine lv_iconst (v := 0) hx hb dL_isRow_133 (by decide) ?_
          replace h := (Option.some.inj h).symm
          exact haj135 _ _ _ _ _ _ h hw (lv_sub hl [0, 1, 2, 3, 4, 5, 6, 7] rfl)
        replace h := h1aj27
        refine lv_if_eq (tgt := 133) hx hb dL_isRow_114 (by decide) (fun c24 => ?_) (fun c24 => ?_)
        · replace h := ot c24 h
          replace h := (Option.some.inj h).symm
          exact haj27 _ _ _ _ _ h hw (lv_sub hl [0, 1, 2, 3, 5, 6, 7, 8] rfl)
        · replace h := oe c24 h
          refine lv_aload_n hx hb dL_isRow_117 rfl (lv_at hl 4 rfl) ?_
          refine lv_iload hx hb dL_isRow_118 (lv_at hl 5 rfl) ?_
          obtain ⟨c25, h⟩ := og h
          refine m_ld hX hn hw 2 (by decide) rfl c25 dL_isRow_120 ?_
          refine lv_bipush (v := 8) hx hb dL_isRow_121 (by decide) ?_
          refine lv_iand hx hb dL_isRow_123 ?_
          refine lv_bipush (v := 8) hx hb dL_isRow_124 (by decide) ?_
          refine lv_icmp_ne (tgt := 133) hx hb dL_isRow_126 (by decide) (fun c26 => ?_) (fun c26 => ?_)
          · replace h := oe c26 h
            replace h := (Option.some.inj h).symm
            exact haj27 _ _ _ _ _ h hw (lv_sub hl [0, 1, 2, 3, 5, 6, 7, 8] rfl)
          · replace h := ot c26 h
            refine lv_iconst (v := 1) hx hb dL_isRow_129 (by decide) ?_
            refine lv_goto (tgt := 134) hx hb dL_isRow_130 (by decide) ?_
            replace h := (Option.some.inj h).symm
            replace h := raj27 _ h
            exact haj135 _ _ _ _ _ _ h hw (lv_sub hl [0, 1, 2, 3, 5, 6, 7, 8] rfl)
      replace h := h1aj136
      obtain ⟨aj22, h1aj22, kaj22, raj22⟩ := ol0 h
      have haj22 : ∀ (H : Heap) (lc : List Loc) (cn sn : Nat) (ls : Array Slot), aj22 = Sum.inl () → wH g s.heap.size (w, mm) H lc → lv_has ls 17 [(10, .int v16), (9, .int v10), (0, rv p0), (2, .ref (gmd g 2)), (5, .int p5), (6, .int p6), (7, .int p7), (8, .int p8)] → W p l e (rmO g 15 353 s.heap) s mi args below meth cd H lc cn sn Q (F0 mi 109 ls []) := by
        intro H lc cn sn ls h hw hl
        replace h := kaj22 h
        refine lv_iconst (v := 0) hx hb dL_isRow_109 (by decide) ?_
        replace h := (Option.some.inj h).symm
        exact haj136 _ _ _ _ _ _ h hw (lv_sub hl [0, 1, 2, 3, 4, 5, 6, 7] rfl)
      replace h := h1aj22
      refine lv_if_eq (tgt := 109) hx hb dL_isRow_81 (by decide) (fun c17 => ?_) (fun c17 => ?_)
      · replace h := ot c17 h
        replace h := (Option.some.inj h).symm
        exact haj22 _ _ _ _ _ h hw (lv_sub hl [0, 1, 2, 4, 5, 6, 7, 8] rfl)
      · replace h := oe c17 h
        refine lv_aload_n hx hb dL_isRow_84 rfl (lv_at hl 3 rfl) ?_
        refine lv_iload hx hb dL_isRow_85 (lv_at hl 5 rfl) ?_
        obtain ⟨c18, h⟩ := og h
        refine m_ld hX hn hw 1 (by decide) rfl c18 dL_isRow_87 ?_
        refine lv_iconst (v := 1) hx hb dL_isRow_88 (by decide) ?_
        refine lv_icmp_ne (tgt := 109) hx hb dL_isRow_89 (by decide) (fun c19 => ?_) (fun c19 => ?_)
        · replace h := oe c19 h
          replace h := (Option.some.inj h).symm
          exact haj22 _ _ _ _ _ h hw (lv_sub hl [0, 1, 2, 4, 5, 6, 7, 8] rfl)
        · replace h := ot c19 h
          refine lv_aload_n hx hb dL_isRow_92 rfl (lv_at hl 4 rfl) ?_
          refine lv_iload hx hb dL_isRow_93 (lv_at hl 5 rfl) ?_
          obtain ⟨c20, h⟩ := og h
          refine m_ld hX hn hw 2 (by decide) rfl c20 dL_isRow_95 ?_
          refine lv_iload hx hb dL_isRow_96 (lv_at hl 6 rfl) ?_
          refine lv_ishr hx hb dL_isRow_98 ?_
          refine lv_iconst (v := 1) hx hb dL_isRow_99 (by decide) ?_
          refine lv_iand hx hb dL_isRow_100 ?_
          refine lv_iconst (v := 1) hx hb dL_isRow_101 (by decide) ?_
          refine lv_icmp_ne (tgt := 109) hx hb dL_isRow_102 (by decide) (fun c21 => ?_) (fun c21 => ?_)
          · replace h := oe c21 h
            replace h := (Option.some.inj h).symm
            exact haj22 _ _ _ _ _ h hw (lv_sub hl [0, 1, 2, 4, 5, 6, 7, 8] rfl)
          · replace h := ot c21 h
            refine lv_iconst (v := 1) hx hb dL_isRow_105 (by decide) ?_
            refine lv_goto (tgt := 110) hx hb dL_isRow_106 (by decide) ?_
            replace h := (Option.some.inj h).symm
            replace h := raj22 _ h
            exact haj136 _ _ _ _ _ _ h hw (lv_sub hl [0, 1, 2, 4, 5, 6, 7, 8] rfl)
    replace h := h1aj137
    obtain ⟨aj15, h1aj15, kaj15, raj15⟩ := ol0 h
    have haj15 : ∀ (H : Heap) (lc : List Loc) (cn sn : Nat) (ls : Array Slot), aj15 = Sum.inl () → wH g s.heap.size (w, mm) H lc → lv_has ls 17 [(9, .int v10), (0, rv p0), (1, .ref (gmd g 1)), (2, .ref (gmd g 2)), (5, .int p5), (6, .int p6), (7, .int p7), (8, .int p8)] → W p l e (rmO g 15 353 s.heap) s mi args below meth cd H lc cn sn Q (F0 mi 76 ls []) := by
      intro H lc cn sn ls h hw hl
      replace h := kaj15 h
      refine lv_iconst (v := 0) hx hb dL_isRow_76 (by decide) ?_
      replace h := (Option.some.inj h).symm
      exact haj137 _ _ _ _ _ _ h hw (lv_sub hl [0, 1, 2, 3, 4, 5, 6, 7] rfl)
    replace h := h1aj15
    refine lv_if_lt (tgt := 76) hx hb dL_isRow_43 (by decide) (fun c11 => ?_) (fun c11 => ?_)
    · replace h := ot c11 h
      replace h := (Option.some.inj h).symm
      exact haj15 _ _ _ _ _ h hw (lv_sub hl [0, 1, 2, 3, 4, 5, 6, 7] rfl)
    · replace h := oe c11 h
      refine lv_iload hx hb dL_isRow_46 (lv_at hl 6 rfl) ?_
      refine lv_ldc (v := 1000000) hx hb hown (hts (.constant RL 114 (1000000)) (by decide +kernel)) dL_isRow_48 ?_
      refine lv_irem hx hb dL_isRow_50 (by decide) ?_
      refine lv_sipush (v := 1000) hx hb dL_isRow_51 (by decide) ?_
      refine lv_icmp_ge (tgt := 76) hx hb dL_isRow_54 (by decide) (fun c12 => ?_) (fun c12 => ?_)
      · replace h := ot c12 h
        replace h := (Option.some.inj h).symm
        exact haj15 _ _ _ _ _ h hw (lv_sub hl [0, 1, 2, 3, 4, 5, 6, 7] rfl)
      · replace h := oe c12 h
        refine lv_iload hx hb dL_isRow_57 (lv_at hl 6 rfl) ?_
        refine lv_ldc (v := 2000000) hx hb hown (hts (.constant RL 115 (2000000)) (by decide +kernel)) dL_isRow_59 ?_
        refine lv_icmp_ge (tgt := 76) hx hb dL_isRow_61 (by decide) (fun c13 => ?_) (fun c13 => ?_)
        · replace h := ot c13 h
          replace h := (Option.some.inj h).symm
          exact haj15 _ _ _ _ _ h hw (lv_sub hl [0, 1, 2, 3, 4, 5, 6, 7] rfl)
        · replace h := oe c13 h
          refine lv_iload hx hb dL_isRow_64 (lv_at hl 7 rfl) ?_
          refine lv_sipush (v := 10000) hx hb dL_isRow_66 (by decide) ?_
          refine lv_icmp_ge (tgt := 76) hx hb dL_isRow_69 (by decide) (fun c14 => ?_) (fun c14 => ?_)
          · replace h := ot c14 h
            replace h := (Option.some.inj h).symm
            exact haj15 _ _ _ _ _ h hw (lv_sub hl [0, 1, 2, 3, 4, 5, 6, 7] rfl)
          · replace h := oe c14 h
            refine lv_iconst (v := 1) hx hb dL_isRow_72 (by decide) ?_
            refine lv_goto (tgt := 77) hx hb dL_isRow_73 (by decide) ?_
            replace h := (Option.some.inj h).symm
            replace h := raj15 _ h
            exact haj137 _ _ _ _ _ _ h hw (lv_sub hl [0, 1, 2, 3, 4, 5, 6, 7] rfl)
  replace h := h1aj138
  obtain ⟨aj9, h1aj9, kaj9, raj9⟩ := ol0 h
  have haj9 : ∀ (H : Heap) (lc : List Loc) (cn sn : Nat) (ls : Array Slot), aj9 = Sum.inl () → wH g s.heap.size (w, mm) H lc → lv_has ls 17 [(0, rv p0), (1, .ref (gmd g 1)), (2, .ref (gmd g 2)), (5, .int p5), (6, .int p6), (7, .int p7), (8, .int p8)] → W p l e (rmO g 15 353 s.heap) s mi args below meth cd H lc cn sn Q (F0 mi 38 ls []) := by
    intro H lc cn sn ls h hw hl
    replace h := kaj9 h
    refine lv_iconst (v := 0) hx hb dL_isRow_38 (by decide) ?_
    replace h := (Option.some.inj h).symm
    exact haj138 _ _ _ _ _ _ h hw (lv_sub hl [0, 1, 2, 3, 4, 5, 6] rfl)
  replace h := h1aj9
  refine lv_icmp_ge (tgt := 38) hx hb dL_isRow_6 (by decide) (fun c2 => ?_) (fun c2 => ?_)
  · replace h := ot c2 h
    replace h := (Option.some.inj h).symm
    exact haj9 _ _ _ _ _ h hw (lv_sub hl [0, 1, 2, 5, 6, 7, 8] rfl)
  · replace h := oe c2 h
    refine lv_iload hx hb dL_isRow_9 (lv_at hl 6 rfl) ?_
    refine lv_iconst (v := 3) hx hb dL_isRow_11 (by decide) ?_
    refine lv_icmp_ge (tgt := 38) hx hb dL_isRow_12 (by decide) (fun c3 => ?_) (fun c3 => ?_)
    · replace h := ot c3 h
      replace h := (Option.some.inj h).symm
      exact haj9 _ _ _ _ _ h hw (lv_sub hl [0, 1, 2, 5, 6, 7, 8] rfl)
    · replace h := oe c3 h
      refine lv_aload hx hb dL_isRow_15 (lv_at hl 4 rfl) ?_
      refine lv_iload hx hb dL_isRow_17 (lv_at hl 6 rfl) ?_
      refine lv_iconst (v := 3) hx hb dL_isRow_19 (by decide) ?_
      obtain ⟨aj8, h1aj8, kaj8⟩ := ob1 h
      have haj8 : ∀ (v5 : Int32) (H : Heap) (lc : List Loc) (cn sn : Nat) (ls : Array Slot), aj8 = v5 → wH g s.heap.size (w, mm) H lc → lv_has ls 17 [(0, rv p0), (1, .ref (gmd g 1)), (2, .ref (gmd g 2)), (5, .int p5), (6, .int p6), (7, .int p7), (8, .int p8)] → W p l e (rmO g 15 353 s.heap) s mi args below meth cd H lc cn sn Q (F0 mi 29 ls [.int v5, .ref (gmd g 4)]) := by
        intro v5 H lc cn sn ls h hw hl
        replace h := kaj8 _ h
        obtain ⟨c6, h⟩ := og h
        refine m_ld hX hn hw 4 (by decide) rfl c6 dL_isRow_29 ?_
        refine lv_iconst (v := 1) hx hb dL_isRow_30 (by decide) ?_
        refine lv_icmp_ne (tgt := 38) hx hb dL_isRow_31 (by decide) (fun c7 => ?_) (fun c7 => ?_)
        · replace h := oe c7 h
          replace h := (Option.some.inj h).symm
          exact haj9 _ _ _ _ _ h hw (lv_sub hl [0, 1, 2, 3, 4, 5, 6] rfl)
        · replace h := ot c7 h
          refine lv_iconst (v := 1) hx hb dL_isRow_34 (by decide) ?_
          refine lv_goto (tgt := 39) hx hb dL_isRow_35 (by decide) ?_
          replace h := (Option.some.inj h).symm
          replace h := raj9 _ h
          exact haj138 _ _ _ _ _ _ h hw (lv_sub hl [0, 1, 2, 3, 4, 5, 6] rfl)
      replace h := h1aj8
      refine lv_icmp_ge (tgt := 28) hx hb dL_isRow_20 (by decide) (fun c4 => ?_) (fun c4 => ?_)
      · replace h := ot c4 h
        refine lv_iconst (v := 0) hx hb dL_isRow_28 (by decide) ?_
        replace h := (Option.some.inj h).symm
        exact haj8 _ _ _ _ _ _ h hw (lv_sub hl [0, 1, 2, 5, 6, 7, 8] rfl)
      · replace h := oe c4 h
        refine lv_iload hx hb dL_isRow_23 (lv_at hl 6 rfl) ?_
        refine lv_goto (tgt := 29) hx hb dL_isRow_25 (by decide) ?_
        replace h := (Option.some.inj h).symm
        exact haj8 _ _ _ _ _ _ h hw (lv_sub hl [0, 1, 2, 5, 6, 7, 8] rfl)

def x_L_isRemoved (p0 : Nat) (p5 : Int32) (p6 : Int32) (p7 : Int32) (p8 : Int32) (w : CS) (mm : MS) : Option (Int32 × CS) :=
  if vR 14 16 then
  bd (
    l0 (
      if ((ga mm 3 (14 : Int32).toNatClampNeg) : Int32) ≤ p5 then
        some (.inl ())
      else
        if (3 : Int32) ≤ p6 then
          some (.inl ())
        else
          bd (
            if (3 : Int32) ≤ p6 then
              some (0 : Int32)
            else
              some p6) (fun (v5 : Int32) =>
          if vR v5 6 then
          if ((ga mm 4 v5.toNatClampNeg) : Int32) = 1 then
            if vR p5 60 then
            if ((ga mm 1 p5.toNatClampNeg) : Int32) = 1 then
              if vR p5 60 then
              if ((((ga mm 2 p5.toNatClampNeg) >>> (p6 &&& 31)) &&& 1) : Int32) = 1 then
                if vR p5 60 then
                if (((ga mm 2 p5.toNatClampNeg) &&& 8) : Int32) = 8 then
                  some (.inr ((1 : Int32)))
                else
                  some (.inl ())
                else none
              else
                some (.inl ())
              else none
            else
              some (.inl ())
            else none
          else
            some (.inl ())
          else none)) (fun (_ : Unit) =>
    some (0 : Int32))) (fun (v16 : Int32) =>
  if (v16 : Int32) = 0 then
    b2 (x_L_does p0 9 p5 p6 p7 p8 w) (fun (v39 : Int32) (w40 : CS) =>
    bd (
      if (0 : Int32) ≤ v39 then
        some (0 : Int32)
      else
        some (1 : Int32)) (fun (v42 : Int32) =>
    if isB v42 then
    some ((v42, w40))
    else none))
  else
    if wJ w 0 p0 = 6 then
    bn3 (x_X6_count p0 p5 p6 0 3999999 w) (fun (v20 : Int32) =>
    bn3 (x_X6_count p0 p5 p6 p7 p8 w) (fun (v22 : Int32) =>
    bn2 (x_X6_remove p0 p5 p6 p7 p8 w) (fun (v24 : Int32) (w25 : CS) =>
    bd (
      l0 (
        if (v24 : Int32) = v22 then
          if wJ w25 0 p0 = 6 then
          bn3 (x_X6_count p0 p5 p6 0 3999999 w25) (fun (v29 : Int32) =>
          if (v29 : Int32) = (v20 - v22) then
            bn3 (x_X6_count p0 p5 p6 p7 p8 w25) (fun (v32 : Int32) =>
            if (v32 : Int32) = 0 then
              some (.inr ((1 : Int32)))
            else
              some (.inl ()))
          else
            some (.inl ()))
          else none
        else
          some (.inl ())) (fun (_ : Unit) =>
      some (0 : Int32))) (fun (v35 : Int32) =>
    if isB v35 then
    some ((v35, w25))
    else none))))
    else none)
  else none
set_option maxHeartbeats 4000000 in
set_option maxRecDepth 100000 in
theorem c_L_isRemoved (g : GG) (l : Launch) (hG : XG g) (hC : NC g) (hst : l.stackTraces = false) (hn : gnn g 4 = 1) {b L : Nat} {xs : Nat → Int32} (hS : SCG g b L xs) (p0 : Nat) (p5 : Int32) (p6 : Int32) (p7 : Int32) (p8 : Int32) (w : CS) (mm : MS) (r : Int32) (w' : CS) (h : x_L_isRemoved p0 p5 p6 p7 p8 w mm = some (r, w')) : MetG g l yL_isRemoved wsL_isRemoved 15 353 [rv p0, .ref (gmd g 1), .ref (gmd g 2), .ref (gmd g 3), .ref (gmd g 4), .int p5, .int p6, .int p7, .int p8] (w, mm) (some (.int r)) (w', mm) := by
  refine g_start_z (some (.int r)) (own := RL) (by decide +kernel) rfl rfl (by simp [lg_sl, rv_cat, ct_i, ct_l, ct_r]) ?_
  intro p e s mi args below meth cd ls Q hX hnm hw hl hret
  have hl : lv_has ls 12 [(0, rv p0), (1, .ref (gmd g 1)), (2, .ref (gmd g 2)), (3, .ref (gmd g 3)), (4, .ref (gmd g 4)), (5, .int p5), (6, .int p6), (7, .int p7), (8, .int p8)] := by simpa [lv_args, rv_cat, ct_i, ct_l, ct_r] using hl
  obtain ⟨⟨hx, hb, -, hown, hts⟩, -⟩ := id hX
  unfold x_L_isRemoved at h
  refine lv_iload hx hb dL_isRemoved_0 (lv_at hl 5 rfl) ?_
  refine lv_aload_n hx hb dL_isRemoved_2 rfl (lv_at hl 3 rfl) ?_
  refine lv_bipush (v := 14) hx hb dL_isRemoved_3 (by decide) ?_
  obtain ⟨c1, h⟩ := og h
  refine m_ld hX hn hw 3 (by decide) rfl c1 dL_isRemoved_5 ?_
  obtain ⟨aj45, h1aj45, kaj45⟩ := ob1 h
  have haj45 : ∀ (v16 : Int32) (H : Heap) (lc : List Loc) (cn sn : Nat) (ls : Array Slot), aj45 = v16 → wH g s.heap.size (w, mm) H lc → lv_has ls 12 [(0, rv p0), (5, .int p5), (6, .int p6), (7, .int p7), (8, .int p8)] → W p l e (rmO g 15 353 s.heap) s mi args below meth cd H lc cn sn Q (F0 mi 72 ls [.int v16]) := by
    intro v16 H lc cn sn ls h hw hl
    replace h := kaj45 _ h
    refine lv_istore (lv' := [(9, .int v16), (0, rv p0), (5, .int p5), (6, .int p6), (7, .int p7), (8, .int p8)]) hx hb dL_isRemoved_72 hl (by decide) rfl (fun ls hl => ?_)
    refine lv_iload hx hb dL_isRemoved_74 (lv_at hl 0 rfl) ?_
    refine lv_if_ne (tgt := 102) hx hb dL_isRemoved_76 (by decide) (fun c17 => ?_) (fun c17 => ?_)
    · replace h := oe c17 h
      refine t_aload_n hx hb dL_isRemoved_102 rfl (lv_at hl 1 rfl) ?_
      refine lv_iload hx hb dL_isRemoved_103 (lv_at hl 2 rfl) ?_
      refine lv_iload hx hb dL_isRemoved_105 (lv_at hl 3 rfl) ?_
      refine lv_iconst (v := 0) hx hb dL_isRemoved_107 (by decide) ?_
      refine lv_ldc (v := 3999999) hx hb hown (hts (.constant RL 116 (3999999)) (by decide +kernel)) dL_isRemoved_108 ?_
      obtain ⟨c18, h⟩ := og h
      obtain ⟨v20, e19, h⟩ := obn3 h
      refine x_callVNi (n := 4) (As := [.int p5, .int p6, .int 0, .int 3999999]) (rest := []) hX hw (c_X6_count g l hG hst mm p0 p5 p6 0 3999999 w _ e19) gL_isRemoved_X6_count rfl (by decide +kernel) rfl (x_nz hw c18) (c_recv hX hw (ce_6 c18) rfl) hl.1 rfl (Nat.le_of_ble_eq_true rfl) ⟨by decide, by decide⟩ dL_isRemoved_110 (fun H lc cn sn hw => ?_)
      have hw : wH g s.heap.size (w, mm) H lc := hw
      refine lv_istore (lv' := [(10, .int v20), (9, .int v16), (0, rv p0), (5, .int p5), (6, .int p6), (7, .int p7), (8, .int p8)]) hx hb dL_isRemoved_113 hl (by decide) rfl (fun ls hl => ?_)
      refine t_aload_n hx hb dL_isRemoved_115 rfl (lv_at hl 2 rfl) ?_
      refine lv_iload hx hb dL_isRemoved_116 (lv_at hl 3 rfl) ?_
      refine lv_iload hx hb dL_isRemoved_118 (lv_at hl 4 rfl) ?_
      refine lv_iload hx hb dL_isRemoved_120 (lv_at hl 5 rfl) ?_
      refine lv_iload hx hb dL_isRemoved_122 (lv_at hl 6 rfl) ?_
      obtain ⟨v22, e21, h⟩ := obn3 h
      refine x_callVNi (n := 4) (As := [.int p5, .int p6, .int p7, .int p8]) (rest := []) hX hw (c_X6_count g l hG hst mm p0 p5 p6 p7 p8 w _ e21) gL_isRemoved_X6_count rfl (by decide +kernel) rfl (x_nz hw c18) (c_recv hX hw (ce_6 c18) rfl) hl.1 rfl (Nat.le_of_ble_eq_true rfl) ⟨by decide, by decide⟩ dL_isRemoved_124 (fun H lc cn sn hw => ?_)
      have hw : wH g s.heap.size (w, mm) H lc := hw
      refine lv_istore (lv' := [(11, .int v22), (10, .int v20), (9, .int v16), (0, rv p0), (5, .int p5), (6, .int p6), (7, .int p7), (8, .int p8)]) hx hb dL_isRemoved_127 hl (by decide) rfl (fun ls hl => ?_)
      refine t_aload_n hx hb dL_isRemoved_129 rfl (lv_at hl 3 rfl) ?_
      refine lv_iload hx hb dL_isRemoved_130 (lv_at hl 4 rfl) ?_
      refine lv_iload hx hb dL_isRemoved_132 (lv_at hl 5 rfl) ?_
      refine lv_iload hx hb dL_isRemoved_134 (lv_at hl 6 rfl) ?_
      refine lv_iload hx hb dL_isRemoved_136 (lv_at hl 7 rfl) ?_
      obtain ⟨v24, w25, e23, h⟩ := obn2 h
      refine x_callVNi (n := 4) (As := [.int p5, .int p6, .int p7, .int p8]) (rest := []) hX hw (c_X6_remove g l hG hst mm p0 p5 p6 p7 p8 w _ e23) gL_isRemoved_X6_remove rfl (by decide +kernel) rfl (x_nz hw c18) (c_recv hX hw (ce_6 c18) rfl) hl.1 rfl (Nat.le_of_ble_eq_true rfl) ⟨by decide, by decide⟩ dL_isRemoved_138 (fun H lc cn sn hw => ?_)
      have hw : wH g s.heap.size (w25, mm) H lc := hw
      refine lv_iload hx hb dL_isRemoved_141 (lv_at hl 0 rfl) ?_
      obtain ⟨aj37, h1aj37, kaj37⟩ := ob1 h
      have haj37 : ∀ (v35 : Int32) (H : Heap) (lc : List Loc) (cn sn : Nat) (ls : Array Slot), aj37 = v35 → wH g s.heap.size (w25, mm) H lc → lv_has ls 12 [] → W p l e (rmO g 15 353 s.heap) s mi args below meth cd H lc cn sn Q (F0 mi 185 ls [.int v35]) := by
        intro v35 H lc cn sn ls h hw hl
        replace h := kaj37 _ h
        obtain ⟨c36, h⟩ := og h
        replace h := (Option.some.inj h).symm
        obtain ⟨rfl, rfl⟩ := Prod.mk.inj h
        exact hret _ _ _ _ _ _ _ dL_isRemoved_185 c36 hw rfl
      replace h := h1aj37
      obtain ⟨aj34, h1aj34, kaj34, raj34⟩ := ol0 h
      have haj34 : ∀ (H : Heap) (lc : List Loc) (cn sn : Nat) (ls : Array Slot), aj34 = Sum.inl () → wH g s.heap.size (w25, mm) H lc → lv_has ls 12 [] → W p l e (rmO g 15 353 s.heap) s mi args below meth cd H lc cn sn Q (F0 mi 184 ls []) := by
        intro H lc cn sn ls h hw hl
        replace h := kaj34 h
        refine lv_iconst (v := 0) hx hb dL_isRemoved_184 (by decide) ?_
        replace h := (Option.some.inj h).symm
        exact haj37 _ _ _ _ _ _ h hw (lv_sub hl [] rfl)
      replace h := h1aj34
      refine lv_icmp_ne (tgt := 184) hx hb dL_isRemoved_143 (by decide) (fun c26 => ?_) (fun c26 => ?_)
      · replace h := oe c26 h
        replace h := (Option.some.inj h).symm
        exact haj34 _ _ _ _ _ h hw (lv_sub hl [] rfl)
      · replace h := ot c26 h
        refine t_aload_n hx hb dL_isRemoved_146 rfl (lv_at hl 3 rfl) ?_
        refine lv_iload hx hb dL_isRemoved_147 (lv_at hl 4 rfl) ?_
        refine lv_iload hx hb dL_isRemoved_149 (lv_at hl 5 rfl) ?_
        refine lv_iconst (v := 0) hx hb dL_isRemoved_151 (by decide) ?_
        refine lv_ldc (v := 3999999) hx hb hown (hts (.constant RL 116 (3999999)) (by decide +kernel)) dL_isRemoved_152 ?_
        obtain ⟨c27, h⟩ := og h
        obtain ⟨v29, e28, h⟩ := obn3 h
        refine x_callVNi (n := 4) (As := [.int p5, .int p6, .int 0, .int 3999999]) (rest := []) hX hw (c_X6_count g l hG hst mm p0 p5 p6 0 3999999 w25 _ e28) gL_isRemoved_X6_count rfl (by decide +kernel) rfl (x_nz hw c27) (c_recv hX hw (ce_6 c27) rfl) hl.1 rfl (Nat.le_of_ble_eq_true rfl) ⟨by decide, by decide⟩ dL_isRemoved_154 (fun H lc cn sn hw => ?_)
        have hw : wH g s.heap.size (w25, mm) H lc := hw
        refine lv_iload hx hb dL_isRemoved_157 (lv_at hl 1 rfl) ?_
        refine lv_iload hx hb dL_isRemoved_159 (lv_at hl 0 rfl) ?_
        refine lv_isub hx hb dL_isRemoved_161 ?_
        refine lv_icmp_ne (tgt := 184) hx hb dL_isRemoved_162 (by decide) (fun c30 => ?_) (fun c30 => ?_)
        · replace h := oe c30 h
          replace h := (Option.some.inj h).symm
          exact haj34 _ _ _ _ _ h hw (lv_sub hl [] rfl)
        · replace h := ot c30 h
          refine t_aload_n hx hb dL_isRemoved_165 rfl (lv_at hl 3 rfl) ?_
          refine lv_iload hx hb dL_isRemoved_166 (lv_at hl 4 rfl) ?_
          refine lv_iload hx hb dL_isRemoved_168 (lv_at hl 5 rfl) ?_
          refine lv_iload hx hb dL_isRemoved_170 (lv_at hl 6 rfl) ?_
          refine lv_iload hx hb dL_isRemoved_172 (lv_at hl 7 rfl) ?_
          obtain ⟨v32, e31, h⟩ := obn3 h
          refine x_callVNi (n := 4) (As := [.int p5, .int p6, .int p7, .int p8]) (rest := []) hX hw (c_X6_count g l hG hst mm p0 p5 p6 p7 p8 w25 _ e31) gL_isRemoved_X6_count rfl (by decide +kernel) rfl (x_nz hw c27) (c_recv hX hw (ce_6 c27) rfl) hl.1 rfl (Nat.le_of_ble_eq_true rfl) ⟨by decide, by decide⟩ dL_isRemoved_174 (fun H lc cn sn hw => ?_)
          have hw : wH g s.heap.size (w25, mm) H lc := hw
          refine lv_if_ne (tgt := 184) hx hb dL_isRemoved_177 (by decide) (fun c33 => ?_) (fun c33 => ?_)
          · replace h := oe c33 h
            replace h := (Option.some.inj h).symm
            exact haj34 _ _ _ _ _ h hw (lv_sub hl [] rfl)
          · replace h := ot c33 h
            refine lv_iconst (v := 1) hx hb dL_isRemoved_180 (by decide) ?_
            refine lv_goto (tgt := 185) hx hb dL_isRemoved_181 (by decide) ?_
            replace h := (Option.some.inj h).symm
            replace h := raj34 _ h
            exact haj37 _ _ _ _ _ _ h hw (lv_sub hl [] rfl)
    · replace h := ot c17 h
      refine t_aload_n hx hb dL_isRemoved_79 rfl (lv_at hl 1 rfl) ?_
      refine lv_bipush (v := 9) hx hb dL_isRemoved_80 (by decide) ?_
      refine lv_iload hx hb dL_isRemoved_82 (lv_at hl 2 rfl) ?_
      refine lv_iload hx hb dL_isRemoved_84 (lv_at hl 3 rfl) ?_
      refine lv_iload hx hb dL_isRemoved_86 (lv_at hl 4 rfl) ?_
      refine lv_iload hx hb dL_isRemoved_88 (lv_at hl 5 rfl) ?_
      obtain ⟨v39, w40, e38, h⟩ := oc2 h
      refine g_callSWi (n := 6) (As := [rv p0, .int 9, .int p5, .int p6, .int p7, .int p8]) (rest := []) hX hw (c_L_does g l hG hC hst mm p0 9 p5 p6 p7 p8 w v39 w40 e38) gL_isRemoved_L_does rfl (by decide +kernel) rfl hl.1 rfl (Nat.le_of_ble_eq_true rfl) ⟨by decide, by decide⟩ dL_isRemoved_90 (fun H lc cn sn hw => ?_)
      obtain ⟨aj44, h1aj44, kaj44⟩ := ob1 h
      have haj44 : ∀ (v42 : Int32) (H : Heap) (lc : List Loc) (cn sn : Nat) (ls : Array Slot), aj44 = v42 → wH g s.heap.size (w40, mm) H lc → lv_has ls 12 [] → W p l e (rmO g 15 353 s.heap) s mi args below meth cd H lc cn sn Q (F0 mi 101 ls [.int v42]) := by
        intro v42 H lc cn sn ls h hw hl
        replace h := kaj44 _ h
        obtain ⟨c43, h⟩ := og h
        replace h := (Option.some.inj h).symm
        obtain ⟨rfl, rfl⟩ := Prod.mk.inj h
        exact hret _ _ _ _ _ _ _ dL_isRemoved_101 c43 hw rfl
      replace h := h1aj44
      refine lv_if_ge (tgt := 100) hx hb dL_isRemoved_93 (by decide) (fun c41 => ?_) (fun c41 => ?_)
      · replace h := ot c41 h
        refine lv_iconst (v := 0) hx hb dL_isRemoved_100 (by decide) ?_
        replace h := (Option.some.inj h).symm
        exact haj44 _ _ _ _ _ _ h hw (lv_sub hl [] rfl)
      · replace h := oe c41 h
        refine lv_iconst (v := 1) hx hb dL_isRemoved_96 (by decide) ?_
        refine lv_goto (tgt := 101) hx hb dL_isRemoved_97 (by decide) ?_
        replace h := (Option.some.inj h).symm
        exact haj44 _ _ _ _ _ _ h hw (lv_sub hl [] rfl)
  replace h := h1aj45
  obtain ⟨aj15, h1aj15, kaj15, raj15⟩ := ol0 h
  have haj15 : ∀ (H : Heap) (lc : List Loc) (cn sn : Nat) (ls : Array Slot), aj15 = Sum.inl () → wH g s.heap.size (w, mm) H lc → lv_has ls 12 [(0, rv p0), (5, .int p5), (6, .int p6), (7, .int p7), (8, .int p8)] → W p l e (rmO g 15 353 s.heap) s mi args below meth cd H lc cn sn Q (F0 mi 71 ls []) := by
    intro H lc cn sn ls h hw hl
    replace h := kaj15 h
    refine lv_iconst (v := 0) hx hb dL_isRemoved_71 (by decide) ?_
    replace h := (Option.some.inj h).symm
    exact haj45 _ _ _ _ _ _ h hw (lv_sub hl [0, 1, 2, 3, 4] rfl)
  replace h := h1aj15
  refine lv_icmp_ge (tgt := 71) hx hb dL_isRemoved_6 (by decide) (fun c2 => ?_) (fun c2 => ?_)
  · replace h := ot c2 h
    replace h := (Option.some.inj h).symm
    exact haj15 _ _ _ _ _ h hw (lv_sub hl [0, 5, 6, 7, 8] rfl)
  · replace h := oe c2 h
    refine lv_iload hx hb dL_isRemoved_9 (lv_at hl 6 rfl) ?_
    refine lv_iconst (v := 3) hx hb dL_isRemoved_11 (by decide) ?_
    refine lv_icmp_ge (tgt := 71) hx hb dL_isRemoved_12 (by decide) (fun c3 => ?_) (fun c3 => ?_)
    · replace h := ot c3 h
      replace h := (Option.some.inj h).symm
      exact haj15 _ _ _ _ _ h hw (lv_sub hl [0, 5, 6, 7, 8] rfl)
    · replace h := oe c3 h
      refine lv_aload hx hb dL_isRemoved_15 (lv_at hl 4 rfl) ?_
      refine lv_iload hx hb dL_isRemoved_17 (lv_at hl 6 rfl) ?_
      refine lv_iconst (v := 3) hx hb dL_isRemoved_19 (by decide) ?_
      obtain ⟨aj14, h1aj14, kaj14⟩ := ob1 h
      have haj14 : ∀ (v5 : Int32) (H : Heap) (lc : List Loc) (cn sn : Nat) (ls : Array Slot), aj14 = v5 → wH g s.heap.size (w, mm) H lc → lv_has ls 12 [(0, rv p0), (1, .ref (gmd g 1)), (2, .ref (gmd g 2)), (5, .int p5), (6, .int p6), (7, .int p7), (8, .int p8)] → W p l e (rmO g 15 353 s.heap) s mi args below meth cd H lc cn sn Q (F0 mi 29 ls [.int v5, .ref (gmd g 4)]) := by
        intro v5 H lc cn sn ls h hw hl
        replace h := kaj14 _ h
        obtain ⟨c6, h⟩ := og h
        refine m_ld hX hn hw 4 (by decide) rfl c6 dL_isRemoved_29 ?_
        refine lv_iconst (v := 1) hx hb dL_isRemoved_30 (by decide) ?_
        refine lv_icmp_ne (tgt := 71) hx hb dL_isRemoved_31 (by decide) (fun c7 => ?_) (fun c7 => ?_)
        · replace h := oe c7 h
          replace h := (Option.some.inj h).symm
          exact haj15 _ _ _ _ _ h hw (lv_sub hl [0, 3, 4, 5, 6] rfl)
        · replace h := ot c7 h
          refine lv_aload_n hx hb dL_isRemoved_34 rfl (lv_at hl 1 rfl) ?_
          refine lv_iload hx hb dL_isRemoved_35 (lv_at hl 3 rfl) ?_
          obtain ⟨c8, h⟩ := og h
          refine m_ld hX hn hw 1 (by decide) rfl c8 dL_isRemoved_37 ?_
          refine lv_iconst (v := 1) hx hb dL_isRemoved_38 (by decide) ?_
          refine lv_icmp_ne (tgt := 71) hx hb dL_isRemoved_39 (by decide) (fun c9 => ?_) (fun c9 => ?_)
          · replace h := oe c9 h
            replace h := (Option.some.inj h).symm
            exact haj15 _ _ _ _ _ h hw (lv_sub hl [0, 3, 4, 5, 6] rfl)
          · replace h := ot c9 h
            refine lv_aload_n hx hb dL_isRemoved_42 rfl (lv_at hl 2 rfl) ?_
            refine lv_iload hx hb dL_isRemoved_43 (lv_at hl 3 rfl) ?_
            obtain ⟨c10, h⟩ := og h
            refine m_ld hX hn hw 2 (by decide) rfl c10 dL_isRemoved_45 ?_
            refine lv_iload hx hb dL_isRemoved_46 (lv_at hl 4 rfl) ?_
            refine lv_ishr hx hb dL_isRemoved_48 ?_
            refine lv_iconst (v := 1) hx hb dL_isRemoved_49 (by decide) ?_
            refine lv_iand hx hb dL_isRemoved_50 ?_
            refine lv_iconst (v := 1) hx hb dL_isRemoved_51 (by decide) ?_
            refine lv_icmp_ne (tgt := 71) hx hb dL_isRemoved_52 (by decide) (fun c11 => ?_) (fun c11 => ?_)
            · replace h := oe c11 h
              replace h := (Option.some.inj h).symm
              exact haj15 _ _ _ _ _ h hw (lv_sub hl [0, 3, 4, 5, 6] rfl)
            · replace h := ot c11 h
              refine lv_aload_n hx hb dL_isRemoved_55 rfl (lv_at hl 2 rfl) ?_
              refine lv_iload hx hb dL_isRemoved_56 (lv_at hl 3 rfl) ?_
              obtain ⟨c12, h⟩ := og h
              refine m_ld hX hn hw 2 (by decide) rfl c12 dL_isRemoved_58 ?_
              refine lv_bipush (v := 8) hx hb dL_isRemoved_59 (by decide) ?_
              refine lv_iand hx hb dL_isRemoved_61 ?_
              refine lv_bipush (v := 8) hx hb dL_isRemoved_62 (by decide) ?_
              refine lv_icmp_ne (tgt := 71) hx hb dL_isRemoved_64 (by decide) (fun c13 => ?_) (fun c13 => ?_)
              · replace h := oe c13 h
                replace h := (Option.some.inj h).symm
                exact haj15 _ _ _ _ _ h hw (lv_sub hl [0, 3, 4, 5, 6] rfl)
              · replace h := ot c13 h
                refine lv_iconst (v := 1) hx hb dL_isRemoved_67 (by decide) ?_
                refine lv_goto (tgt := 72) hx hb dL_isRemoved_68 (by decide) ?_
                replace h := (Option.some.inj h).symm
                replace h := raj15 _ h
                exact haj45 _ _ _ _ _ _ h hw (lv_sub hl [0, 3, 4, 5, 6] rfl)
      replace h := h1aj14
      refine lv_icmp_ge (tgt := 28) hx hb dL_isRemoved_20 (by decide) (fun c4 => ?_) (fun c4 => ?_)
      · replace h := ot c4 h
        refine lv_iconst (v := 0) hx hb dL_isRemoved_28 (by decide) ?_
        replace h := (Option.some.inj h).symm
        exact haj14 _ _ _ _ _ _ h hw (lv_sub hl [0, 1, 2, 5, 6, 7, 8] rfl)
      · replace h := oe c4 h
        refine lv_iload hx hb dL_isRemoved_23 (lv_at hl 6 rfl) ?_
        refine lv_goto (tgt := 29) hx hb dL_isRemoved_25 (by decide) ?_
        replace h := (Option.some.inj h).symm
        exact haj14 _ _ _ _ _ _ h hw (lv_sub hl [0, 1, 2, 5, 6, 7, 8] rfl)

def x_L_isDone (L : Nat) (xs : Nat → Int32) (p0 : Nat) (p2 : Int32) (w : CS) (mm : MS) : Option (Int32 × CS × MS) :=
  bd (x_L_part L xs p2 40) (fun (v2 : Int32) =>
  bd (x_L_part L xs (p2 + 1) 6000) (fun (v4 : Int32) =>
  bd (x_L_part L xs (p2 + 2) 7000) (fun (v6 : Int32) =>
  bd (x_L_part L xs (p2 + 3) 8000) (fun (v8 : Int32) =>
  bd (
    if ((v6 - v6 / 3 * 3) : Int32) = 0 then
      if vR 14 16 then
      if ¬ ((ga mm 3 (14 : Int32).toNatClampNeg) + 1) = 0 then
      some ((v6 / 3) - (v6 / 3) / ((ga mm 3 (14 : Int32).toNatClampNeg) + 1) * ((ga mm 3 (14 : Int32).toNatClampNeg) + 1))
      else none
      else none
    else
      if vR 13 16 then
      if ((ga mm 3 (13 : Int32).toNatClampNeg) : Int32) < 0 then
        if vR 14 16 then
        if ((ga mm 3 (14 : Int32).toNatClampNeg) : Int32) = 0 then
          some (0 : Int32)
        else
          if vR 14 16 then
          some ((ga mm 3 (14 : Int32).toNatClampNeg) - 1)
          else none
        else none
      else
        if vR 13 16 then
        some (ga mm 3 (13 : Int32).toNatClampNeg)
        else none
      else none) (fun (v18 : Int32) =>
  if (6 : Int32) ≤ v2 then
    if (9 : Int32) ≤ v2 then
      if (15 : Int32) ≤ v2 then
        if (21 : Int32) ≤ v2 then
          if (26 : Int32) ≤ v2 then
            if (37 : Int32) ≤ v2 then
              b2 (x_L_isRemoved p0 v18 (v4 - v4 / 3 * 3) (v8 - v8 / 20 * 20) ((v8 / 20) - (v8 / 20) / 30 * 30) w mm) (fun (v26 : Int32) (w27 : CS) =>
              if isB v26 then
              some ((v26, w27, mm))
              else none)
            else
              bd (
                if ((v8 - v8 / 30 * 30) : Int32) = 0 then
                  some (1000 : Int32)
                else
                  some ((v8 - v8 / 20 * 20) + (((v8 / 20) - (v8 / 20) / 2 * 2) * 1000000))) (fun (v30 : Int32) =>
              bd (
                if ((v4 - v4 / 9 * 9) : Int32) = 0 then
                  some (3 : Int32)
                else
                  some (v4 - v4 / 3 * 3)) (fun (v32 : Int32) =>
              bd (
                if ((v6 - v6 / 30 * 30) : Int32) = 0 then
                  some (10000 : Int32)
                else
                  some (v6 - v6 / 997 * 997)) (fun (v34 : Int32) =>
              b2 (x_L_isRow p0 v18 v32 v30 v34 w mm) (fun (v36 : Int32) (w37 : CS) =>
              if isB v36 then
              some ((v36, w37, mm))
              else none))))
          else
            bd (
              if (24 : Int32) ≤ v2 then
                some (0 : Int32)
              else
                some (1 : Int32)) (fun (v43 : Int32) =>
            b3 (x_L_isEnded p0 v18 v43 w mm) (fun (v45 : Int32) (w46 : CS) (m47 : MS) =>
            if isB v45 then
            some ((v45, w46, m47))
            else none))
        else
          bd (
            if ((v4 - v4 / 11 * 11) : Int32) = 0 then
              some (4 : Int32)
            else
              some (v4 - v4 / 4 * 4)) (fun (v51 : Int32) =>
          bd (
            if (((v8 / 8) - (v8 / 8) / 3 * 3) : Int32) ≤ 0 then
              some (0 : Int32)
            else
              some (1 : Int32)) (fun (v53 : Int32) =>
          b3 (x_L_isBegun p0 v51 (v8 - v8 / 8 * 8) v53 w mm) (fun (v55 : Int32) (w56 : CS) (m57 : MS) =>
          if isB v55 then
          some ((v55, w56, m57))
          else none)))
      else
        bd (
          if (12 : Int32) ≤ v2 then
            if (14 : Int32) ≤ v2 then
              some (4 : Int32)
            else
              some (1 : Int32)
          else
            some (0 : Int32)) (fun (v63 : Int32) =>
        b3 (x_L_isStore p0 v18 (v4 - v4 / 4 * 4) v63 (v8 - v8 / 3 * 3) w mm) (fun (v65 : Int32) (w66 : CS) (m67 : MS) =>
        if isB v65 then
        some ((v65, w66, m67))
        else none))
    else
      bd (
        if ((v4 - v4 / 11 * 11) : Int32) = 0 then
          some (4 : Int32)
        else
          some (v4 - v4 / 4 * 4)) (fun (v71 : Int32) =>
      b3 (x_L_isClosed p0 v71 w mm) (fun (v73 : Int32) (w74 : CS) (m75 : MS) =>
      if isB v73 then
      some ((v73, w74, m75))
      else none))
  else
    bd (
      if ((v4 - v4 / 11 * 11) : Int32) = 0 then
        some (4 : Int32)
      else
        some (v4 - v4 / 4 * 4)) (fun (v79 : Int32) =>
    bd (
      if ((v6 - v6 / 25 * 25) : Int32) = 0 then
        some (101 : Int32)
      else
        if ((v8 - v8 / 3 * 3) : Int32) ≤ 0 then
          some (v6 - v6 / 9 * 9)
        else
          if vR 12 16 then
          if vR 12 16 then
          bd (
            if ((ga mm 3 (12 : Int32).toNatClampNeg) : Int32) = 0 then
              some (0 : Int32)
            else
              some (1 : Int32)) (fun (v85 : Int32) =>
          some (((ga mm 3 (12 : Int32).toNatClampNeg) + (v8 - v8 / 3 * 3)) - v85))
          else none
          else none) (fun (v87 : Int32) =>
    b3 (x_L_isOpened p0 v79 v87 w mm) (fun (v89 : Int32) (w90 : CS) (m91 : MS) =>
    if isB v89 then
    some ((v89, w90, m91))
    else none))))))))
set_option maxHeartbeats 4000000 in
set_option maxRecDepth 100000 in
theorem c_L_isDone (g : GG) (l : Launch) (hG : XG g) (hC : NC g) (hst : l.stackTraces = false) (hn : gnn g 4 = 1) {b L : Nat} {xs : Nat → Int32} (hS : SCG g b L xs) (p0 : Nat) (p2 : Int32) (w : CS) (mm : MS) (r : Int32) (w' : CS) (mm' : MS) (h : x_L_isDone L xs p0 p2 w mm = some (r, w', mm')) : MetG g l yL_isDone wsL_isDone 16 389 [rv p0, .ref b, .int p2, .ref (gmd g 1), .ref (gmd g 2), .ref (gmd g 3), .ref (gmd g 4)] (w, mm) (some (.int r)) (w', mm') := by
  refine g_start_z (some (.int r)) (own := RL) (by decide +kernel) rfl rfl (by simp [lg_sl, rv_cat, ct_i, ct_l, ct_r]) ?_
  intro p e s mi args below meth cd ls Q hX hnm hw hl hret
  have hl : lv_has ls 13 [(0, rv p0), (1, .ref b), (2, .int p2), (3, .ref (gmd g 1)), (4, .ref (gmd g 2)), (5, .ref (gmd g 3)), (6, .ref (gmd g 4))] := by simpa [lv_args, rv_cat, ct_i, ct_l, ct_r] using hl
  obtain ⟨⟨hx, hb, -, hown, hts⟩, -⟩ := id hX
  unfold x_L_isDone at h
  refine lv_aload_n hx hb dL_isDone_0 rfl (lv_at hl 1 rfl) ?_
  refine lv_iload_n hx hb dL_isDone_1 rfl (lv_at hl 2 rfl) ?_
  refine lv_bipush (v := 40) hx hb dL_isDone_2 (by decide) ?_
  obtain ⟨v2, e1, h⟩ := ob h
  refine g_callSi (n := 3) (As := [.ref b, .int p2, .int 40]) (rest := []) hX hw (c_L_part g l hG hC hst hn hS p2 40 w mm v2  e1) gL_isDone_L_part rfl (by decide +kernel) rfl hl.1 rfl (Nat.le_of_ble_eq_true rfl) ⟨by decide, by decide⟩ dL_isDone_4 (fun H lc cn sn hw => ?_)
  refine lv_istore (lv' := [(7, .int v2), (0, rv p0), (1, .ref b), (2, .int p2), (3, .ref (gmd g 1)), (4, .ref (gmd g 2)), (5, .ref (gmd g 3)), (6, .ref (gmd g 4))]) hx hb dL_isDone_7 hl (by decide) (by simp [rv_cat, ct_i, ct_l, ct_r] <;> decide) (fun ls hl => ?_)
  refine lv_aload_n hx hb dL_isDone_9 rfl (lv_at hl 2 rfl) ?_
  refine lv_iload_n hx hb dL_isDone_10 rfl (lv_at hl 3 rfl) ?_
  refine lv_iconst (v := 1) hx hb dL_isDone_11 (by decide) ?_
  refine lv_iadd hx hb dL_isDone_12 ?_
  refine lv_sipush (v := 6000) hx hb dL_isDone_13 (by decide) ?_
  obtain ⟨v4, e3, h⟩ := ob h
  refine g_callSi (n := 3) (As := [.ref b, .int (p2 + 1), .int 6000]) (rest := []) hX hw (c_L_part g l hG hC hst hn hS (p2 + 1) 6000 w mm v4  e3) gL_isDone_L_part rfl (by decide +kernel) rfl hl.1 rfl (Nat.le_of_ble_eq_true rfl) ⟨by decide, by decide⟩ dL_isDone_16 (fun H lc cn sn hw => ?_)
  refine lv_istore (lv' := [(8, .int v4), (7, .int v2), (0, rv p0), (1, .ref b), (2, .int p2), (3, .ref (gmd g 1)), (4, .ref (gmd g 2)), (5, .ref (gmd g 3)), (6, .ref (gmd g 4))]) hx hb dL_isDone_19 hl (by decide) rfl (fun ls hl => ?_)
  refine lv_aload_n hx hb dL_isDone_21 rfl (lv_at hl 3 rfl) ?_
  refine lv_iload_n hx hb dL_isDone_22 rfl (lv_at hl 4 rfl) ?_
  refine lv_iconst (v := 2) hx hb dL_isDone_23 (by decide) ?_
  refine lv_iadd hx hb dL_isDone_24 ?_
  refine lv_sipush (v := 7000) hx hb dL_isDone_25 (by decide) ?_
  obtain ⟨v6, e5, h⟩ := ob h
  refine g_callSi (n := 3) (As := [.ref b, .int (p2 + 2), .int 7000]) (rest := []) hX hw (c_L_part g l hG hC hst hn hS (p2 + 2) 7000 w mm v6  e5) gL_isDone_L_part rfl (by decide +kernel) rfl hl.1 rfl (Nat.le_of_ble_eq_true rfl) ⟨by decide, by decide⟩ dL_isDone_28 (fun H lc cn sn hw => ?_)
  refine lv_istore (lv' := [(9, .int v6), (8, .int v4), (7, .int v2), (0, rv p0), (1, .ref b), (2, .int p2), (3, .ref (gmd g 1)), (4, .ref (gmd g 2)), (5, .ref (gmd g 3)), (6, .ref (gmd g 4))]) hx hb dL_isDone_31 hl (by decide) rfl (fun ls hl => ?_)
  refine lv_aload_n hx hb dL_isDone_33 rfl (lv_at hl 4 rfl) ?_
  refine lv_iload_n hx hb dL_isDone_34 rfl (lv_at hl 5 rfl) ?_
  refine lv_iconst (v := 3) hx hb dL_isDone_35 (by decide) ?_
  refine lv_iadd hx hb dL_isDone_36 ?_
  refine lv_sipush (v := 8000) hx hb dL_isDone_37 (by decide) ?_
  obtain ⟨v8, e7, h⟩ := ob h
  refine g_callSi (n := 3) (As := [.ref b, .int (p2 + 3), .int 8000]) (rest := []) hX hw (c_L_part g l hG hC hst hn hS (p2 + 3) 8000 w mm v8  e7) gL_isDone_L_part rfl (by decide +kernel) rfl hl.1 rfl (Nat.le_of_ble_eq_true rfl) ⟨by decide, by decide⟩ dL_isDone_40 (fun H lc cn sn hw => ?_)
  refine lv_istore (lv' := [(10, .int v8), (9, .int v6), (8, .int v4), (7, .int v2), (0, rv p0), (1, .ref b), (2, .int p2), (3, .ref (gmd g 1)), (4, .ref (gmd g 2)), (5, .ref (gmd g 3)), (6, .ref (gmd g 4))]) hx hb dL_isDone_43 hl (by decide) rfl (fun ls hl => ?_)
  refine lv_iload hx hb dL_isDone_45 (lv_at hl 1 rfl) ?_
  refine lv_iconst (v := 3) hx hb dL_isDone_47 (by decide) ?_
  refine lv_irem hx hb dL_isDone_48 (by decide) ?_
  obtain ⟨aj95, h1aj95, kaj95⟩ := ob1 h
  have haj95 : ∀ (v18 : Int32) (H : Heap) (lc : List Loc) (cn sn : Nat) (ls : Array Slot), aj95 = v18 → wH g s.heap.size (w, mm) H lc → lv_has ls 13 [(10, .int v8), (9, .int v6), (8, .int v4), (7, .int v2), (0, rv p0), (3, .ref (gmd g 1)), (4, .ref (gmd g 2)), (5, .ref (gmd g 3)), (6, .ref (gmd g 4))] → W p l e (rmO g 16 389 s.heap) s mi args below meth cd H lc cn sn Q (F0 mi 102 ls [.int v18]) := by
    intro v18 H lc cn sn ls h hw hl
    replace h := kaj95 _ h
    refine lv_istore (lv' := [(11, .int v18), (10, .int v8), (9, .int v6), (8, .int v4), (7, .int v2), (0, rv p0), (3, .ref (gmd g 1)), (4, .ref (gmd g 2)), (5, .ref (gmd g 3)), (6, .ref (gmd g 4))]) hx hb dL_isDone_102 hl (by decide) rfl (fun ls hl => ?_)
    refine lv_iload hx hb dL_isDone_104 (lv_at hl 4 rfl) ?_
    refine lv_bipush (v := 6) hx hb dL_isDone_106 (by decide) ?_
    refine lv_icmp_ge (tgt := 191) hx hb dL_isDone_108 (by decide) (fun c19 => ?_) (fun c19 => ?_)
    · replace h := ot c19 h
      refine lv_iload hx hb dL_isDone_191 (lv_at hl 4 rfl) ?_
      refine lv_bipush (v := 9) hx hb dL_isDone_193 (by decide) ?_
      refine lv_icmp_ge (tgt := 226) hx hb dL_isDone_195 (by decide) (fun c20 => ?_) (fun c20 => ?_)
      · replace h := ot c20 h
        refine lv_iload hx hb dL_isDone_226 (lv_at hl 4 rfl) ?_
        refine lv_bipush (v := 15) hx hb dL_isDone_228 (by decide) ?_
        refine lv_icmp_ge (tgt := 275) hx hb dL_isDone_230 (by decide) (fun c21 => ?_) (fun c21 => ?_)
        · replace h := ot c21 h
          refine lv_iload hx hb dL_isDone_275 (lv_at hl 4 rfl) ?_
          refine lv_bipush (v := 21) hx hb dL_isDone_277 (by decide) ?_
          refine lv_icmp_ge (tgt := 330) hx hb dL_isDone_279 (by decide) (fun c22 => ?_) (fun c22 => ?_)
          · replace h := ot c22 h
            refine lv_iload hx hb dL_isDone_330 (lv_at hl 4 rfl) ?_
            refine lv_bipush (v := 26) hx hb dL_isDone_332 (by decide) ?_
            refine lv_icmp_ge (tgt := 363) hx hb dL_isDone_334 (by decide) (fun c23 => ?_) (fun c23 => ?_)
            · replace h := ot c23 h
              refine lv_iload hx hb dL_isDone_363 (lv_at hl 4 rfl) ?_
              refine lv_bipush (v := 37) hx hb dL_isDone_365 (by decide) ?_
              refine lv_icmp_ge (tgt := 454) hx hb dL_isDone_367 (by decide) (fun c24 => ?_) (fun c24 => ?_)
              · replace h := ot c24 h
                refine t_aload_n hx hb dL_isDone_454 rfl (lv_at hl 5 rfl) ?_
                refine lv_aload_n hx hb dL_isDone_455 rfl (lv_at hl 6 rfl) ?_
                refine lv_aload hx hb dL_isDone_456 (lv_at hl 7 rfl) ?_
                refine lv_aload hx hb dL_isDone_458 (lv_at hl 8 rfl) ?_
                refine lv_aload hx hb dL_isDone_460 (lv_at hl 9 rfl) ?_
                refine lv_iload hx hb dL_isDone_462 (lv_at hl 0 rfl) ?_
                refine lv_iload hx hb dL_isDone_464 (lv_at hl 3 rfl) ?_
                refine lv_iconst (v := 3) hx hb dL_isDone_466 (by decide) ?_
                refine lv_irem hx hb dL_isDone_467 (by decide) ?_
                refine lv_iload hx hb dL_isDone_468 (lv_at hl 1 rfl) ?_
                refine lv_bipush (v := 20) hx hb dL_isDone_470 (by decide) ?_
                refine lv_irem hx hb dL_isDone_472 (by decide) ?_
                refine lv_iload hx hb dL_isDone_473 (lv_at hl 1 rfl) ?_
                refine lv_bipush (v := 20) hx hb dL_isDone_475 (by decide) ?_
                refine lv_idiv hx hb dL_isDone_477 (by decide) ?_
                refine lv_bipush (v := 30) hx hb dL_isDone_478 (by decide) ?_
                refine lv_irem hx hb dL_isDone_480 (by decide) ?_
                obtain ⟨v26, w27, e25, h⟩ := oc2 h
                refine g_callSi (n := 9) (As := [rv p0, .ref (gmd g 1), .ref (gmd g 2), .ref (gmd g 3), .ref (gmd g 4), .int v18, .int (v4 - v4 / 3 * 3), .int (v8 - v8 / 20 * 20), .int ((v8 / 20) - (v8 / 20) / 30 * 30)]) (rest := []) hX hw (c_L_isRemoved g l hG hC hst hn hS p0 v18 (v4 - v4 / 3 * 3) (v8 - v8 / 20 * 20) ((v8 / 20) - (v8 / 20) / 30 * 30) w mm v26  w27 e25) gL_isDone_L_isRemoved rfl (by decide +kernel) rfl hl.1 rfl (Nat.le_of_ble_eq_true rfl) ⟨by decide, by decide⟩ dL_isDone_481 (fun H lc cn sn hw => ?_)
                obtain ⟨c28, h⟩ := og h
                replace h := (Option.some.inj h).symm
                obtain ⟨rfl, h8⟩ := Prod.mk.inj h
                obtain ⟨rfl, rfl⟩ := Prod.mk.inj h8
                exact hret _ _ _ _ _ _ _ dL_isDone_484 c28 hw rfl
              · replace h := oe c24 h
                refine lv_iload hx hb dL_isDone_370 (lv_at hl 1 rfl) ?_
                refine lv_bipush (v := 30) hx hb dL_isDone_372 (by decide) ?_
                refine lv_irem hx hb dL_isDone_374 (by decide) ?_
                obtain ⟨aj41, h1aj41, kaj41⟩ := ob1 h
                have haj41 : ∀ (v30 : Int32) (H : Heap) (lc : List Loc) (cn sn : Nat) (ls : Array Slot), aj41 = v30 → wH g s.heap.size (w, mm) H lc → lv_has ls 13 [(11, .int v18), (9, .int v6), (8, .int v4), (0, rv p0), (3, .ref (gmd g 1)), (4, .ref (gmd g 2)), (5, .ref (gmd g 3)), (6, .ref (gmd g 4))] → W p l e (rmO g 16 389 s.heap) s mi args below meth cd H lc cn sn Q (F0 mi 400 ls [.int v30]) := by
                  intro v30 H lc cn sn ls h hw hl
                  replace h := kaj41 _ h
                  refine lv_istore (lv' := [(12, .int v30), (11, .int v18), (9, .int v6), (8, .int v4), (0, rv p0), (3, .ref (gmd g 1)), (4, .ref (gmd g 2)), (5, .ref (gmd g 3)), (6, .ref (gmd g 4))]) hx hb dL_isDone_400 hl (by decide) rfl (fun ls hl => ?_)
                  refine t_aload_n hx hb dL_isDone_402 rfl (lv_at hl 4 rfl) ?_
                  refine lv_aload_n hx hb dL_isDone_403 rfl (lv_at hl 5 rfl) ?_
                  refine lv_aload hx hb dL_isDone_404 (lv_at hl 6 rfl) ?_
                  refine lv_aload hx hb dL_isDone_406 (lv_at hl 7 rfl) ?_
                  refine lv_aload hx hb dL_isDone_408 (lv_at hl 8 rfl) ?_
                  refine lv_iload hx hb dL_isDone_410 (lv_at hl 1 rfl) ?_
                  refine lv_iload hx hb dL_isDone_412 (lv_at hl 3 rfl) ?_
                  refine lv_bipush (v := 9) hx hb dL_isDone_414 (by decide) ?_
                  refine lv_irem hx hb dL_isDone_416 (by decide) ?_
                  obtain ⟨aj40, h1aj40, kaj40⟩ := ob1 h
                  have haj40 : ∀ (v32 : Int32) (H : Heap) (lc : List Loc) (cn sn : Nat) (ls : Array Slot), aj40 = v32 → wH g s.heap.size (w, mm) H lc → lv_has ls 13 [(12, .int v30), (9, .int v6)] → W p l e (rmO g 16 389 s.heap) s mi args below meth cd H lc cn sn Q (F0 mi 428 ls [.int v32, .int v18, .ref (gmd g 4), .ref (gmd g 3), .ref (gmd g 2), .ref (gmd g 1), rv p0]) := by
                    intro v32 H lc cn sn ls h hw hl
                    replace h := kaj40 _ h
                    refine lv_iload hx hb dL_isDone_428 (lv_at hl 0 rfl) ?_
                    refine lv_iload hx hb dL_isDone_430 (lv_at hl 1 rfl) ?_
                    refine lv_bipush (v := 30) hx hb dL_isDone_432 (by decide) ?_
                    refine lv_irem hx hb dL_isDone_434 (by decide) ?_
                    obtain ⟨aj39, h1aj39, kaj39⟩ := ob1 h
                    have haj39 : ∀ (v34 : Int32) (H : Heap) (lc : List Loc) (cn sn : Nat) (ls : Array Slot), aj39 = v34 → wH g s.heap.size (w, mm) H lc → lv_has ls 13 [] → W p l e (rmO g 16 389 s.heap) s mi args below meth cd H lc cn sn Q (F0 mi 450 ls [.int v34, .int v30, .int v32, .int v18, .ref (gmd g 4), .ref (gmd g 3), .ref (gmd g 2), .ref (gmd g 1), rv p0]) := by
                      intro v34 H lc cn sn ls h hw hl
                      replace h := kaj39 _ h
                      obtain ⟨v36, w37, e35, h⟩ := oc2 h
                      refine g_callSi (n := 9) (As := [rv p0, .ref (gmd g 1), .ref (gmd g 2), .ref (gmd g 3), .ref (gmd g 4), .int v18, .int v32, .int v30, .int v34]) (rest := []) hX hw (c_L_isRow g l hG hC hst hn hS p0 v18 v32 v30 v34 w mm v36  w37 e35) gL_isDone_L_isRow rfl (by decide +kernel) rfl hl.1 rfl (Nat.le_of_ble_eq_true rfl) ⟨by decide, by decide⟩ dL_isDone_450 (fun H lc cn sn hw => ?_)
                      obtain ⟨c38, h⟩ := og h
                      replace h := (Option.some.inj h).symm
                      obtain ⟨rfl, h8⟩ := Prod.mk.inj h
                      obtain ⟨rfl, rfl⟩ := Prod.mk.inj h8
                      exact hret _ _ _ _ _ _ _ dL_isDone_453 c38 hw rfl
                    replace h := h1aj39
                    refine lv_if_ne (tgt := 444) hx hb dL_isDone_435 (by decide) (fun c33 => ?_) (fun c33 => ?_)
                    · replace h := oe c33 h
                      refine lv_iload hx hb dL_isDone_444 (lv_at hl 1 rfl) ?_
                      refine lv_sipush (v := 997) hx hb dL_isDone_446 (by decide) ?_
                      refine lv_irem hx hb dL_isDone_449 (by decide) ?_
                      replace h := (Option.some.inj h).symm
                      exact haj39 _ _ _ _ _ _ h hw (lv_sub hl [] rfl)
                    · replace h := ot c33 h
                      refine lv_sipush (v := 10000) hx hb dL_isDone_438 (by decide) ?_
                      refine lv_goto (tgt := 450) hx hb dL_isDone_441 (by decide) ?_
                      replace h := (Option.some.inj h).symm
                      exact haj39 _ _ _ _ _ _ h hw (lv_sub hl [] rfl)
                  replace h := h1aj40
                  refine lv_if_ne (tgt := 424) hx hb dL_isDone_417 (by decide) (fun c31 => ?_) (fun c31 => ?_)
                  · replace h := oe c31 h
                    refine lv_iload hx hb dL_isDone_424 (lv_at hl 3 rfl) ?_
                    refine lv_iconst (v := 3) hx hb dL_isDone_426 (by decide) ?_
                    refine lv_irem hx hb dL_isDone_427 (by decide) ?_
                    replace h := (Option.some.inj h).symm
                    exact haj40 _ _ _ _ _ _ h hw (lv_sub hl [0, 2] rfl)
                  · replace h := ot c31 h
                    refine lv_iconst (v := 3) hx hb dL_isDone_420 (by decide) ?_
                    refine lv_goto (tgt := 428) hx hb dL_isDone_421 (by decide) ?_
                    replace h := (Option.some.inj h).symm
                    exact haj40 _ _ _ _ _ _ h hw (lv_sub hl [0, 2] rfl)
                replace h := h1aj41
                refine lv_if_ne (tgt := 384) hx hb dL_isDone_375 (by decide) (fun c29 => ?_) (fun c29 => ?_)
                · replace h := oe c29 h
                  refine lv_iload hx hb dL_isDone_384 (lv_at hl 1 rfl) ?_
                  refine lv_bipush (v := 20) hx hb dL_isDone_386 (by decide) ?_
                  refine lv_irem hx hb dL_isDone_388 (by decide) ?_
                  refine lv_iload hx hb dL_isDone_389 (lv_at hl 1 rfl) ?_
                  refine lv_bipush (v := 20) hx hb dL_isDone_391 (by decide) ?_
                  refine lv_idiv hx hb dL_isDone_393 (by decide) ?_
                  refine lv_iconst (v := 2) hx hb dL_isDone_394 (by decide) ?_
                  refine lv_irem hx hb dL_isDone_395 (by decide) ?_
                  refine lv_ldc (v := 1000000) hx hb hown (hts (.constant RL 114 (1000000)) (by decide +kernel)) dL_isDone_396 ?_
                  refine lv_imul hx hb dL_isDone_398 ?_
                  refine lv_iadd hx hb dL_isDone_399 ?_
                  replace h := (Option.some.inj h).symm
                  exact haj41 _ _ _ _ _ _ h hw (lv_sub hl [0, 2, 3, 5, 6, 7, 8, 9] rfl)
                · replace h := ot c29 h
                  refine lv_sipush (v := 1000) hx hb dL_isDone_378 (by decide) ?_
                  refine lv_goto (tgt := 400) hx hb dL_isDone_381 (by decide) ?_
                  replace h := (Option.some.inj h).symm
                  exact haj41 _ _ _ _ _ _ h hw (lv_sub hl [0, 2, 3, 5, 6, 7, 8, 9] rfl)
            · replace h := oe c23 h
              refine t_aload_n hx hb dL_isDone_337 rfl (lv_at hl 5 rfl) ?_
              refine lv_aload_n hx hb dL_isDone_338 rfl (lv_at hl 6 rfl) ?_
              refine lv_aload hx hb dL_isDone_339 (lv_at hl 7 rfl) ?_
              refine lv_aload hx hb dL_isDone_341 (lv_at hl 8 rfl) ?_
              refine lv_aload hx hb dL_isDone_343 (lv_at hl 9 rfl) ?_
              refine lv_iload hx hb dL_isDone_345 (lv_at hl 0 rfl) ?_
              refine lv_iload hx hb dL_isDone_347 (lv_at hl 4 rfl) ?_
              refine lv_bipush (v := 24) hx hb dL_isDone_349 (by decide) ?_
              obtain ⟨aj49, h1aj49, kaj49⟩ := ob1 h
              have haj49 : ∀ (v43 : Int32) (H : Heap) (lc : List Loc) (cn sn : Nat) (ls : Array Slot), aj49 = v43 → wH g s.heap.size (w, mm) H lc → lv_has ls 13 [] → W p l e (rmO g 16 389 s.heap) s mi args below meth cd H lc cn sn Q (F0 mi 359 ls [.int v43, .int v18, .ref (gmd g 4), .ref (gmd g 3), .ref (gmd g 2), .ref (gmd g 1), rv p0]) := by
                intro v43 H lc cn sn ls h hw hl
                replace h := kaj49 _ h
                obtain ⟨v45, w46, m47, e44, h⟩ := oc3 h
                refine g_callSi (n := 7) (As := [rv p0, .ref (gmd g 1), .ref (gmd g 2), .ref (gmd g 3), .ref (gmd g 4), .int v18, .int v43]) (rest := []) hX hw (c_L_isEnded g l hG hC hst hn hS p0 v18 v43 w mm v45  w46 m47 e44) gL_isDone_L_isEnded rfl (by decide +kernel) rfl hl.1 rfl (Nat.le_of_ble_eq_true rfl) ⟨by decide, by decide⟩ dL_isDone_359 (fun H lc cn sn hw => ?_)
                obtain ⟨c48, h⟩ := og h
                replace h := (Option.some.inj h).symm
                obtain ⟨rfl, h8⟩ := Prod.mk.inj h
                obtain ⟨rfl, rfl⟩ := Prod.mk.inj h8
                exact hret _ _ _ _ _ _ _ dL_isDone_362 c48 hw rfl
              replace h := h1aj49
              refine lv_icmp_ge (tgt := 358) hx hb dL_isDone_351 (by decide) (fun c42 => ?_) (fun c42 => ?_)
              · replace h := ot c42 h
                refine lv_iconst (v := 0) hx hb dL_isDone_358 (by decide) ?_
                replace h := (Option.some.inj h).symm
                exact haj49 _ _ _ _ _ _ h hw (lv_sub hl [] rfl)
              · replace h := oe c42 h
                refine lv_iconst (v := 1) hx hb dL_isDone_354 (by decide) ?_
                refine lv_goto (tgt := 359) hx hb dL_isDone_355 (by decide) ?_
                replace h := (Option.some.inj h).symm
                exact haj49 _ _ _ _ _ _ h hw (lv_sub hl [] rfl)
          · replace h := oe c22 h
            refine t_aload_n hx hb dL_isDone_282 rfl (lv_at hl 5 rfl) ?_
            refine lv_aload_n hx hb dL_isDone_283 rfl (lv_at hl 6 rfl) ?_
            refine lv_aload hx hb dL_isDone_284 (lv_at hl 7 rfl) ?_
            refine lv_aload hx hb dL_isDone_286 (lv_at hl 8 rfl) ?_
            refine lv_aload hx hb dL_isDone_288 (lv_at hl 9 rfl) ?_
            refine lv_iload hx hb dL_isDone_290 (lv_at hl 3 rfl) ?_
            refine lv_bipush (v := 11) hx hb dL_isDone_292 (by decide) ?_
            refine lv_irem hx hb dL_isDone_294 (by decide) ?_
            obtain ⟨aj60, h1aj60, kaj60⟩ := ob1 h
            have haj60 : ∀ (v51 : Int32) (H : Heap) (lc : List Loc) (cn sn : Nat) (ls : Array Slot), aj60 = v51 → wH g s.heap.size (w, mm) H lc → lv_has ls 13 [(10, .int v8)] → W p l e (rmO g 16 389 s.heap) s mi args below meth cd H lc cn sn Q (F0 mi 306 ls [.int v51, .ref (gmd g 4), .ref (gmd g 3), .ref (gmd g 2), .ref (gmd g 1), rv p0]) := by
              intro v51 H lc cn sn ls h hw hl
              replace h := kaj60 _ h
              refine lv_iload hx hb dL_isDone_306 (lv_at hl 0 rfl) ?_
              refine lv_bipush (v := 8) hx hb dL_isDone_308 (by decide) ?_
              refine lv_irem hx hb dL_isDone_310 (by decide) ?_
              refine lv_iload hx hb dL_isDone_311 (lv_at hl 0 rfl) ?_
              refine lv_bipush (v := 8) hx hb dL_isDone_313 (by decide) ?_
              refine lv_idiv hx hb dL_isDone_315 (by decide) ?_
              refine lv_iconst (v := 3) hx hb dL_isDone_316 (by decide) ?_
              refine lv_irem hx hb dL_isDone_317 (by decide) ?_
              obtain ⟨aj59, h1aj59, kaj59⟩ := ob1 h
              have haj59 : ∀ (v53 : Int32) (H : Heap) (lc : List Loc) (cn sn : Nat) (ls : Array Slot), aj59 = v53 → wH g s.heap.size (w, mm) H lc → lv_has ls 13 [] → W p l e (rmO g 16 389 s.heap) s mi args below meth cd H lc cn sn Q (F0 mi 326 ls [.int v53, .int (v8 - v8 / 8 * 8), .int v51, .ref (gmd g 4), .ref (gmd g 3), .ref (gmd g 2), .ref (gmd g 1), rv p0]) := by
                intro v53 H lc cn sn ls h hw hl
                replace h := kaj59 _ h
                obtain ⟨v55, w56, m57, e54, h⟩ := oc3 h
                refine g_callSi (n := 8) (As := [rv p0, .ref (gmd g 1), .ref (gmd g 2), .ref (gmd g 3), .ref (gmd g 4), .int v51, .int (v8 - v8 / 8 * 8), .int v53]) (rest := []) hX hw (c_L_isBegun g l hG hC hst hn hS p0 v51 (v8 - v8 / 8 * 8) v53 w mm v55  w56 m57 e54) gL_isDone_L_isBegun rfl (by decide +kernel) rfl hl.1 rfl (Nat.le_of_ble_eq_true rfl) ⟨by decide, by decide⟩ dL_isDone_326 (fun H lc cn sn hw => ?_)
                obtain ⟨c58, h⟩ := og h
                replace h := (Option.some.inj h).symm
                obtain ⟨rfl, h8⟩ := Prod.mk.inj h
                obtain ⟨rfl, rfl⟩ := Prod.mk.inj h8
                exact hret _ _ _ _ _ _ _ dL_isDone_329 c58 hw rfl
              replace h := h1aj59
              refine lv_if_le (tgt := 325) hx hb dL_isDone_318 (by decide) (fun c52 => ?_) (fun c52 => ?_)
              · replace h := ot c52 h
                refine lv_iconst (v := 0) hx hb dL_isDone_325 (by decide) ?_
                replace h := (Option.some.inj h).symm
                exact haj59 _ _ _ _ _ _ h hw (lv_sub hl [] rfl)
              · replace h := oe c52 h
                refine lv_iconst (v := 1) hx hb dL_isDone_321 (by decide) ?_
                refine lv_goto (tgt := 326) hx hb dL_isDone_322 (by decide) ?_
                replace h := (Option.some.inj h).symm
                exact haj59 _ _ _ _ _ _ h hw (lv_sub hl [] rfl)
            replace h := h1aj60
            refine lv_if_ne (tgt := 302) hx hb dL_isDone_295 (by decide) (fun c50 => ?_) (fun c50 => ?_)
            · replace h := oe c50 h
              refine lv_iload hx hb dL_isDone_302 (lv_at hl 3 rfl) ?_
              refine lv_iconst (v := 4) hx hb dL_isDone_304 (by decide) ?_
              refine lv_irem hx hb dL_isDone_305 (by decide) ?_
              replace h := (Option.some.inj h).symm
              exact haj60 _ _ _ _ _ _ h hw (lv_sub hl [1] rfl)
            · replace h := ot c50 h
              refine lv_iconst (v := 4) hx hb dL_isDone_298 (by decide) ?_
              refine lv_goto (tgt := 306) hx hb dL_isDone_299 (by decide) ?_
              replace h := (Option.some.inj h).symm
              exact haj60 _ _ _ _ _ _ h hw (lv_sub hl [1] rfl)
        · replace h := oe c21 h
          refine t_aload_n hx hb dL_isDone_233 rfl (lv_at hl 5 rfl) ?_
          refine lv_aload hx hb dL_isDone_234 (lv_at hl 8 rfl) ?_
          refine lv_aload hx hb dL_isDone_236 (lv_at hl 9 rfl) ?_
          refine lv_iload hx hb dL_isDone_238 (lv_at hl 0 rfl) ?_
          refine lv_iload hx hb dL_isDone_240 (lv_at hl 3 rfl) ?_
          refine lv_iconst (v := 4) hx hb dL_isDone_242 (by decide) ?_
          refine lv_irem hx hb dL_isDone_243 (by decide) ?_
          refine lv_iload hx hb dL_isDone_244 (lv_at hl 4 rfl) ?_
          refine lv_bipush (v := 12) hx hb dL_isDone_246 (by decide) ?_
          obtain ⟨aj69, h1aj69, kaj69⟩ := ob1 h
          have haj69 : ∀ (v63 : Int32) (H : Heap) (lc : List Loc) (cn sn : Nat) (ls : Array Slot), aj69 = v63 → wH g s.heap.size (w, mm) H lc → lv_has ls 13 [(10, .int v8)] → W p l e (rmO g 16 389 s.heap) s mi args below meth cd H lc cn sn Q (F0 mi 267 ls [.int v63, .int (v4 - v4 / 4 * 4), .int v18, .ref (gmd g 4), .ref (gmd g 3), rv p0]) := by
            intro v63 H lc cn sn ls h hw hl
            replace h := kaj69 _ h
            refine lv_iload hx hb dL_isDone_267 (lv_at hl 0 rfl) ?_
            refine lv_iconst (v := 3) hx hb dL_isDone_269 (by decide) ?_
            refine lv_irem hx hb dL_isDone_270 (by decide) ?_
            obtain ⟨v65, w66, m67, e64, h⟩ := oc3 h
            refine g_callSi (n := 7) (As := [rv p0, .ref (gmd g 3), .ref (gmd g 4), .int v18, .int (v4 - v4 / 4 * 4), .int v63, .int (v8 - v8 / 3 * 3)]) (rest := []) hX hw (c_L_isStore g l hG hC hst hn hS p0 v18 (v4 - v4 / 4 * 4) v63 (v8 - v8 / 3 * 3) w mm v65  w66 m67 e64) gL_isDone_L_isStore rfl (by decide +kernel) rfl hl.1 rfl (Nat.le_of_ble_eq_true rfl) ⟨by decide, by decide⟩ dL_isDone_271 (fun H lc cn sn hw => ?_)
            obtain ⟨c68, h⟩ := og h
            replace h := (Option.some.inj h).symm
            obtain ⟨rfl, h8⟩ := Prod.mk.inj h
            obtain ⟨rfl, rfl⟩ := Prod.mk.inj h8
            exact hret _ _ _ _ _ _ _ dL_isDone_274 c68 hw rfl
          replace h := h1aj69
          refine lv_icmp_ge (tgt := 255) hx hb dL_isDone_248 (by decide) (fun c61 => ?_) (fun c61 => ?_)
          · replace h := ot c61 h
            refine lv_iload hx hb dL_isDone_255 (lv_at hl 4 rfl) ?_
            refine lv_bipush (v := 14) hx hb dL_isDone_257 (by decide) ?_
            refine lv_icmp_ge (tgt := 266) hx hb dL_isDone_259 (by decide) (fun c62 => ?_) (fun c62 => ?_)
            · replace h := ot c62 h
              refine lv_iconst (v := 4) hx hb dL_isDone_266 (by decide) ?_
              replace h := (Option.some.inj h).symm
              exact haj69 _ _ _ _ _ _ h hw (lv_sub hl [1] rfl)
            · replace h := oe c62 h
              refine lv_iconst (v := 1) hx hb dL_isDone_262 (by decide) ?_
              refine lv_goto (tgt := 267) hx hb dL_isDone_263 (by decide) ?_
              replace h := (Option.some.inj h).symm
              exact haj69 _ _ _ _ _ _ h hw (lv_sub hl [1] rfl)
          · replace h := oe c61 h
            refine lv_iconst (v := 0) hx hb dL_isDone_251 (by decide) ?_
            refine lv_goto (tgt := 267) hx hb dL_isDone_252 (by decide) ?_
            replace h := (Option.some.inj h).symm
            exact haj69 _ _ _ _ _ _ h hw (lv_sub hl [1] rfl)
      · replace h := oe c20 h
        refine t_aload_n hx hb dL_isDone_198 rfl (lv_at hl 5 rfl) ?_
        refine lv_aload_n hx hb dL_isDone_199 rfl (lv_at hl 6 rfl) ?_
        refine lv_aload hx hb dL_isDone_200 (lv_at hl 7 rfl) ?_
        refine lv_aload hx hb dL_isDone_202 (lv_at hl 8 rfl) ?_
        refine lv_aload hx hb dL_isDone_204 (lv_at hl 9 rfl) ?_
        refine lv_iload hx hb dL_isDone_206 (lv_at hl 3 rfl) ?_
        refine lv_bipush (v := 11) hx hb dL_isDone_208 (by decide) ?_
        refine lv_irem hx hb dL_isDone_210 (by decide) ?_
        obtain ⟨aj77, h1aj77, kaj77⟩ := ob1 h
        have haj77 : ∀ (v71 : Int32) (H : Heap) (lc : List Loc) (cn sn : Nat) (ls : Array Slot), aj77 = v71 → wH g s.heap.size (w, mm) H lc → lv_has ls 13 [] → W p l e (rmO g 16 389 s.heap) s mi args below meth cd H lc cn sn Q (F0 mi 222 ls [.int v71, .ref (gmd g 4), .ref (gmd g 3), .ref (gmd g 2), .ref (gmd g 1), rv p0]) := by
          intro v71 H lc cn sn ls h hw hl
          replace h := kaj77 _ h
          obtain ⟨v73, w74, m75, e72, h⟩ := oc3 h
          refine g_callSi (n := 6) (As := [rv p0, .ref (gmd g 1), .ref (gmd g 2), .ref (gmd g 3), .ref (gmd g 4), .int v71]) (rest := []) hX hw (c_L_isClosed g l hG hC hst hn hS p0 v71 w mm v73  w74 m75 e72) gL_isDone_L_isClosed rfl (by decide +kernel) rfl hl.1 rfl (Nat.le_of_ble_eq_true rfl) ⟨by decide, by decide⟩ dL_isDone_222 (fun H lc cn sn hw => ?_)
          obtain ⟨c76, h⟩ := og h
          replace h := (Option.some.inj h).symm
          obtain ⟨rfl, h8⟩ := Prod.mk.inj h
          obtain ⟨rfl, rfl⟩ := Prod.mk.inj h8
          exact hret _ _ _ _ _ _ _ dL_isDone_225 c76 hw rfl
        replace h := h1aj77
        refine lv_if_ne (tgt := 218) hx hb dL_isDone_211 (by decide) (fun c70 => ?_) (fun c70 => ?_)
        · replace h := oe c70 h
          refine lv_iload hx hb dL_isDone_218 (lv_at hl 3 rfl) ?_
          refine lv_iconst (v := 4) hx hb dL_isDone_220 (by decide) ?_
          refine lv_irem hx hb dL_isDone_221 (by decide) ?_
          replace h := (Option.some.inj h).symm
          exact haj77 _ _ _ _ _ _ h hw (lv_sub hl [] rfl)
        · replace h := ot c70 h
          refine lv_iconst (v := 4) hx hb dL_isDone_214 (by decide) ?_
          refine lv_goto (tgt := 222) hx hb dL_isDone_215 (by decide) ?_
          replace h := (Option.some.inj h).symm
          exact haj77 _ _ _ _ _ _ h hw (lv_sub hl [] rfl)
    · replace h := oe c19 h
      refine t_aload_n hx hb dL_isDone_111 rfl (lv_at hl 5 rfl) ?_
      refine lv_aload_n hx hb dL_isDone_112 rfl (lv_at hl 6 rfl) ?_
      refine lv_aload hx hb dL_isDone_113 (lv_at hl 7 rfl) ?_
      refine lv_aload hx hb dL_isDone_115 (lv_at hl 8 rfl) ?_
      refine lv_aload hx hb dL_isDone_117 (lv_at hl 9 rfl) ?_
      refine lv_iload hx hb dL_isDone_119 (lv_at hl 3 rfl) ?_
      refine lv_bipush (v := 11) hx hb dL_isDone_121 (by decide) ?_
      refine lv_irem hx hb dL_isDone_123 (by decide) ?_
      obtain ⟨aj94, h1aj94, kaj94⟩ := ob1 h
      have haj94 : ∀ (v79 : Int32) (H : Heap) (lc : List Loc) (cn sn : Nat) (ls : Array Slot), aj94 = v79 → wH g s.heap.size (w, mm) H lc → lv_has ls 13 [(10, .int v8), (9, .int v6), (5, .ref (gmd g 3))] → W p l e (rmO g 16 389 s.heap) s mi args below meth cd H lc cn sn Q (F0 mi 135 ls [.int v79, .ref (gmd g 4), .ref (gmd g 3), .ref (gmd g 2), .ref (gmd g 1), rv p0]) := by
        intro v79 H lc cn sn ls h hw hl
        replace h := kaj94 _ h
        refine lv_iload hx hb dL_isDone_135 (lv_at hl 1 rfl) ?_
        refine lv_bipush (v := 25) hx hb dL_isDone_137 (by decide) ?_
        refine lv_irem hx hb dL_isDone_139 (by decide) ?_
        obtain ⟨aj93, h1aj93, kaj93⟩ := ob1 h
        have haj93 : ∀ (v87 : Int32) (H : Heap) (lc : List Loc) (cn sn : Nat) (ls : Array Slot), aj93 = v87 → wH g s.heap.size (w, mm) H lc → lv_has ls 13 [] → W p l e (rmO g 16 389 s.heap) s mi args below meth cd H lc cn sn Q (F0 mi 187 ls [.int v87, .int v79, .ref (gmd g 4), .ref (gmd g 3), .ref (gmd g 2), .ref (gmd g 1), rv p0]) := by
          intro v87 H lc cn sn ls h hw hl
          replace h := kaj93 _ h
          obtain ⟨v89, w90, m91, e88, h⟩ := oc3 h
          refine g_callSi (n := 7) (As := [rv p0, .ref (gmd g 1), .ref (gmd g 2), .ref (gmd g 3), .ref (gmd g 4), .int v79, .int v87]) (rest := []) hX hw (c_L_isOpened g l hG hC hst hn hS p0 v79 v87 w mm v89  w90 m91 e88) gL_isDone_L_isOpened rfl (by decide +kernel) rfl hl.1 rfl (Nat.le_of_ble_eq_true rfl) ⟨by decide, by decide⟩ dL_isDone_187 (fun H lc cn sn hw => ?_)
          obtain ⟨c92, h⟩ := og h
          replace h := (Option.some.inj h).symm
          obtain ⟨rfl, h8⟩ := Prod.mk.inj h
          obtain ⟨rfl, rfl⟩ := Prod.mk.inj h8
          exact hret _ _ _ _ _ _ _ dL_isDone_190 c92 hw rfl
        replace h := h1aj93
        refine lv_if_ne (tgt := 148) hx hb dL_isDone_140 (by decide) (fun c80 => ?_) (fun c80 => ?_)
        · replace h := oe c80 h
          refine lv_iload hx hb dL_isDone_148 (lv_at hl 0 rfl) ?_
          refine lv_iconst (v := 3) hx hb dL_isDone_150 (by decide) ?_
          refine lv_irem hx hb dL_isDone_151 (by decide) ?_
          refine lv_if_le (tgt := 182) hx hb dL_isDone_152 (by decide) (fun c81 => ?_) (fun c81 => ?_)
          · replace h := ot c81 h
            refine lv_iload hx hb dL_isDone_182 (lv_at hl 1 rfl) ?_
            refine lv_bipush (v := 9) hx hb dL_isDone_184 (by decide) ?_
            refine lv_irem hx hb dL_isDone_186 (by decide) ?_
            replace h := (Option.some.inj h).symm
            exact haj93 _ _ _ _ _ _ h hw (lv_sub hl [] rfl)
          · replace h := oe c81 h
            refine lv_aload hx hb dL_isDone_155 (lv_at hl 2 rfl) ?_
            refine lv_bipush (v := 12) hx hb dL_isDone_157 (by decide) ?_
            obtain ⟨c82, h⟩ := og h
            refine m_ld hX hn hw 3 (by decide) rfl c82 dL_isDone_159 ?_
            refine lv_iload hx hb dL_isDone_160 (lv_at hl 0 rfl) ?_
            refine lv_iconst (v := 3) hx hb dL_isDone_162 (by decide) ?_
            refine lv_irem hx hb dL_isDone_163 (by decide) ?_
            refine lv_iadd hx hb dL_isDone_164 ?_
            refine lv_aload hx hb dL_isDone_165 (lv_at hl 2 rfl) ?_
            refine lv_bipush (v := 12) hx hb dL_isDone_167 (by decide) ?_
            obtain ⟨c83, h⟩ := og h
            refine m_ld hX hn hw 3 (by decide) rfl c83 dL_isDone_169 ?_
            obtain ⟨aj86, h1aj86, kaj86⟩ := ob1 h
            have haj86 : ∀ (v85 : Int32) (H : Heap) (lc : List Loc) (cn sn : Nat) (ls : Array Slot), aj86 = v85 → wH g s.heap.size (w, mm) H lc → lv_has ls 13 [] → W p l e (rmO g 16 389 s.heap) s mi args below meth cd H lc cn sn Q (F0 mi 178 ls [.int v85, .int ((ga mm 3 (12 : Int32).toNatClampNeg) + (v8 - v8 / 3 * 3)), .int v79, .ref (gmd g 4), .ref (gmd g 3), .ref (gmd g 2), .ref (gmd g 1), rv p0]) := by
              intro v85 H lc cn sn ls h hw hl
              replace h := kaj86 _ h
              refine lv_isub hx hb dL_isDone_178 ?_
              refine lv_goto (tgt := 187) hx hb dL_isDone_179 (by decide) ?_
              replace h := (Option.some.inj h).symm
              exact haj93 _ _ _ _ _ _ h hw (lv_sub hl [] rfl)
            replace h := h1aj86
            refine lv_if_ne (tgt := 177) hx hb dL_isDone_170 (by decide) (fun c84 => ?_) (fun c84 => ?_)
            · replace h := oe c84 h
              refine lv_iconst (v := 1) hx hb dL_isDone_177 (by decide) ?_
              replace h := (Option.some.inj h).symm
              exact haj86 _ _ _ _ _ _ h hw (lv_sub hl [] rfl)
            · replace h := ot c84 h
              refine lv_iconst (v := 0) hx hb dL_isDone_173 (by decide) ?_
              refine lv_goto (tgt := 178) hx hb dL_isDone_174 (by decide) ?_
              replace h := (Option.some.inj h).symm
              exact haj86 _ _ _ _ _ _ h hw (lv_sub hl [] rfl)
        · replace h := ot c80 h
          refine lv_bipush (v := 101) hx hb dL_isDone_143 (by decide) ?_
          refine lv_goto (tgt := 187) hx hb dL_isDone_145 (by decide) ?_
          replace h := (Option.some.inj h).symm
          exact haj93 _ _ _ _ _ _ h hw (lv_sub hl [] rfl)
      replace h := h1aj94
      refine lv_if_ne (tgt := 131) hx hb dL_isDone_124 (by decide) (fun c78 => ?_) (fun c78 => ?_)
      · replace h := oe c78 h
        refine lv_iload hx hb dL_isDone_131 (lv_at hl 3 rfl) ?_
        refine lv_iconst (v := 4) hx hb dL_isDone_133 (by decide) ?_
        refine lv_irem hx hb dL_isDone_134 (by decide) ?_
        replace h := (Option.some.inj h).symm
        exact haj94 _ _ _ _ _ _ h hw (lv_sub hl [1, 2, 8] rfl)
      · replace h := ot c78 h
        refine lv_iconst (v := 4) hx hb dL_isDone_127 (by decide) ?_
        refine lv_goto (tgt := 135) hx hb dL_isDone_128 (by decide) ?_
        replace h := (Option.some.inj h).symm
        exact haj94 _ _ _ _ _ _ h hw (lv_sub hl [1, 2, 8] rfl)
  replace h := h1aj95
  refine lv_if_ne (tgt := 67) hx hb dL_isDone_49 (by decide) (fun c9 => ?_) (fun c9 => ?_)
  · replace h := oe c9 h
    refine lv_aload hx hb dL_isDone_67 (lv_at hl 9 rfl) ?_
    refine lv_bipush (v := 13) hx hb dL_isDone_69 (by decide) ?_
    obtain ⟨c10, h⟩ := og h
    refine m_ld hX hn hw 3 (by decide) rfl c10 dL_isDone_71 ?_
    refine lv_if_lt (tgt := 83) hx hb dL_isDone_72 (by decide) (fun c11 => ?_) (fun c11 => ?_)
    · replace h := ot c11 h
      refine lv_aload hx hb dL_isDone_83 (lv_at hl 9 rfl) ?_
      refine lv_bipush (v := 14) hx hb dL_isDone_85 (by decide) ?_
      obtain ⟨c12, h⟩ := og h
      refine m_ld hX hn hw 3 (by decide) rfl c12 dL_isDone_87 ?_
      refine lv_if_ne (tgt := 95) hx hb dL_isDone_88 (by decide) (fun c13 => ?_) (fun c13 => ?_)
      · replace h := oe c13 h
        refine lv_aload hx hb dL_isDone_95 (lv_at hl 9 rfl) ?_
        refine lv_bipush (v := 14) hx hb dL_isDone_97 (by decide) ?_
        obtain ⟨c14, h⟩ := og h
        refine m_ld hX hn hw 3 (by decide) rfl c14 dL_isDone_99 ?_
        refine lv_iconst (v := 1) hx hb dL_isDone_100 (by decide) ?_
        refine lv_isub hx hb dL_isDone_101 ?_
        replace h := (Option.some.inj h).symm
        exact haj95 _ _ _ _ _ _ h hw (lv_sub hl [0, 1, 2, 3, 4, 7, 8, 9, 10] rfl)
      · replace h := ot c13 h
        refine lv_iconst (v := 0) hx hb dL_isDone_91 (by decide) ?_
        refine lv_goto (tgt := 102) hx hb dL_isDone_92 (by decide) ?_
        replace h := (Option.some.inj h).symm
        exact haj95 _ _ _ _ _ _ h hw (lv_sub hl [0, 1, 2, 3, 4, 7, 8, 9, 10] rfl)
    · replace h := oe c11 h
      refine lv_aload hx hb dL_isDone_75 (lv_at hl 9 rfl) ?_
      refine lv_bipush (v := 13) hx hb dL_isDone_77 (by decide) ?_
      obtain ⟨c15, h⟩ := og h
      refine m_ld hX hn hw 3 (by decide) rfl c15 dL_isDone_79 ?_
      refine lv_goto (tgt := 102) hx hb dL_isDone_80 (by decide) ?_
      replace h := (Option.some.inj h).symm
      exact haj95 _ _ _ _ _ _ h hw (lv_sub hl [0, 1, 2, 3, 4, 7, 8, 9, 10] rfl)
  · replace h := ot c9 h
    refine lv_iload hx hb dL_isDone_52 (lv_at hl 1 rfl) ?_
    refine lv_iconst (v := 3) hx hb dL_isDone_54 (by decide) ?_
    refine lv_idiv hx hb dL_isDone_55 (by decide) ?_
    refine lv_aload hx hb dL_isDone_56 (lv_at hl 9 rfl) ?_
    refine lv_bipush (v := 14) hx hb dL_isDone_58 (by decide) ?_
    obtain ⟨c16, h⟩ := og h
    refine m_ld hX hn hw 3 (by decide) rfl c16 dL_isDone_60 ?_
    refine lv_iconst (v := 1) hx hb dL_isDone_61 (by decide) ?_
    refine lv_iadd hx hb dL_isDone_62 ?_
    obtain ⟨c17, h⟩ := og h
    refine lv_irem hx hb dL_isDone_63 c17 ?_
    refine lv_goto (tgt := 102) hx hb dL_isDone_64 (by decide) ?_
    replace h := (Option.some.inj h).symm
    exact haj95 _ _ _ _ _ _ h hw (lv_sub hl [0, 1, 2, 3, 4, 7, 8, 9, 10] rfl)
