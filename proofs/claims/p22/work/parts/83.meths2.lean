/-! ===== the law's methods over its own arrays (printed by gp.py) ===== -/
def x_L_part (L : Nat) (xs : Nat → Int32) (p1 : Int32) (p2 : Int32) : Option (Int32) :=
  bd (
    if ((nI L) : Int32) ≤ p1 then
      some ((397 * p1) + ((263 * p1) * p1))
    else
      if vR p1 L then
      some (xs p1.toNatClampNeg)
      else none) (fun (v3 : Int32) =>
  if ¬ p2 = 0 then
  some (((v3 &&& 2147483647) - (v3 &&& 2147483647) / p2 * p2))
  else none)
set_option maxHeartbeats 4000000 in
set_option maxRecDepth 100000 in
theorem c_L_part (g : GG) (l : Launch) (hG : XG g) (hC : NC g) (hst : l.stackTraces = false) (hn : gnn g 4 = 1) {b L : Nat} {xs : Nat → Int32} (hS : SCG g b L xs) (p1 : Int32) (p2 : Int32) (w : CS) (mm : MS) (r : Int32) (h : x_L_part L xs p1 p2 = some r) : MetG g l yL_part wsL_part 0 0 [.ref b, .int p1, .int p2] (w, mm) (some (.int r)) (w, mm) := by
  refine g_start_i (some (.int r)) (own := RL) (by decide +kernel) rfl rfl (by simp [lg_sl, rv_cat, ct_i, ct_l, ct_r]) ?_
  intro p e s mi args below meth cd ls Q hX hnm hw hl hret
  have hl : lv_has ls 4 [(0, .ref b), (1, .int p1), (2, .int p2)] := by simpa [lv_args, rv_cat, ct_i, ct_l, ct_r] using hl
  obtain ⟨⟨hx, hb, -, hown, hts⟩, -⟩ := id hX
  unfold x_L_part at h
  refine lv_iload_n hx hb dL_part_0 rfl (lv_at hl 1 rfl) ?_
  refine lv_aload_n hx hb dL_part_1 rfl (lv_at hl 0 rfl) ?_
  refine c_slenG hX hw hS dL_part_2 ?_
  obtain ⟨aj5, h1aj5, kaj5⟩ := ob1 h
  have haj5 : ∀ (v3 : Int32) (H : Heap) (lc : List Loc) (cn sn : Nat) (ls : Array Slot), aj5 = v3 → wH g s.heap.size (w, mm) H lc → lv_has ls 4 [(2, .int p2)] → W p l e (rmO g 0 0 s.heap) s mi args below meth cd H lc cn sn Q (F0 mi 25 ls [.int v3]) := by
    intro v3 H lc cn sn ls h hw hl
    replace h := kaj5 _ h
    refine lv_istore_n (lv' := [(3, .int v3), (2, .int p2)]) hx hb dL_part_25 rfl hl (by decide) rfl (fun ls hl => ?_)
    refine lv_iload_n hx hb dL_part_26 rfl (lv_at hl 0 rfl) ?_
    refine lv_ldc (v := 2147483647) hx hb hown (hts (.constant RL 7 (2147483647)) (by decide +kernel)) dL_part_27 ?_
    refine lv_iand hx hb dL_part_29 ?_
    refine lv_iload_n hx hb dL_part_30 rfl (lv_at hl 1 rfl) ?_
    obtain ⟨c4, h⟩ := og h
    refine lv_irem hx hb dL_part_31 c4 ?_
    replace h := (Option.some.inj h).symm
    subst h
    exact hret _ _ _ _ _ _ _ dL_part_32 hw rfl
  replace h := h1aj5
  refine lv_icmp_ge (tgt := 12) hx hb dL_part_3 (by decide) (fun c1 => ?_) (fun c1 => ?_)
  · replace h := ot c1 h
    refine lv_sipush (v := 397) hx hb dL_part_12 (by decide) ?_
    refine lv_iload_n hx hb dL_part_15 rfl (lv_at hl 1 rfl) ?_
    refine lv_imul hx hb dL_part_16 ?_
    refine lv_sipush (v := 263) hx hb dL_part_17 (by decide) ?_
    refine lv_iload_n hx hb dL_part_20 rfl (lv_at hl 1 rfl) ?_
    refine lv_imul hx hb dL_part_21 ?_
    refine lv_iload_n hx hb dL_part_22 rfl (lv_at hl 1 rfl) ?_
    refine lv_imul hx hb dL_part_23 ?_
    refine lv_iadd hx hb dL_part_24 ?_
    replace h := (Option.some.inj h).symm
    exact haj5 _ _ _ _ _ _ h hw (lv_sub hl [2] rfl)
  · replace h := oe c1 h
    refine lv_aload_n hx hb dL_part_6 rfl (lv_at hl 0 rfl) ?_
    refine lv_iload_n hx hb dL_part_7 rfl (lv_at hl 1 rfl) ?_
    obtain ⟨c2, h⟩ := og h
    refine c_sldG hX hw hS c2 dL_part_8 ?_
    refine lv_goto (tgt := 25) hx hb dL_part_9 (by decide) ?_
    replace h := (Option.some.inj h).symm
    exact haj5 _ _ _ _ _ _ h hw (lv_sub hl [2] rfl)

def x_L_isAlive (p1 : Int32) (mm : MS) : Option (Int32) :=
  if vR p1 60 then
  bd (
    l0 (
      if ((ga mm 1 p1.toNatClampNeg) : Int32) = 0 then
        some (.inl ())
      else
        if vR p1 60 then
        if ((ga mm 1 p1.toNatClampNeg) : Int32) = 1 then
          some (.inl ())
        else
          some (.inr ((0 : Int32)))
        else none) (fun (_ : Unit) =>
    some (1 : Int32))) (fun (v6 : Int32) =>
  if isB v6 then
  some (v6)
  else none)
  else none
set_option maxHeartbeats 4000000 in
set_option maxRecDepth 100000 in
theorem c_L_isAlive (g : GG) (l : Launch) (hG : XG g) (hC : NC g) (hst : l.stackTraces = false) (hn : gnn g 4 = 1) {b L : Nat} {xs : Nat → Int32} (hS : SCG g b L xs) (p1 : Int32) (w : CS) (mm : MS) (r : Int32) (h : x_L_isAlive p1 mm = some r) : MetG g l yL_isAlive wsL_isAlive 0 0 [.ref (gmd g 1), .int p1] (w, mm) (some (.int r)) (w, mm) := by
  refine g_start_z (some (.int r)) (own := RL) (by decide +kernel) rfl rfl (by simp [lg_sl, rv_cat, ct_i, ct_l, ct_r]) ?_
  intro p e s mi args below meth cd ls Q hX hnm hw hl hret
  have hl : lv_has ls 2 [(0, .ref (gmd g 1)), (1, .int p1)] := by simpa [lv_args, rv_cat, ct_i, ct_l, ct_r] using hl
  obtain ⟨⟨hx, hb, -, hown, hts⟩, -⟩ := id hX
  unfold x_L_isAlive at h
  refine lv_aload_n hx hb dL_isAlive_0 rfl (lv_at hl 0 rfl) ?_
  refine lv_iload_n hx hb dL_isAlive_1 rfl (lv_at hl 1 rfl) ?_
  obtain ⟨c1, h⟩ := og h
  refine m_ld hX hn hw 1 (by decide) rfl c1 dL_isAlive_2 ?_
  obtain ⟨aj8, h1aj8, kaj8⟩ := ob1 h
  have haj8 : ∀ (v6 : Int32) (H : Heap) (lc : List Loc) (cn sn : Nat) (ls : Array Slot), aj8 = v6 → wH g s.heap.size (w, mm) H lc → lv_has ls 2 [] → W p l e (rmO g 0 0 s.heap) s mi args below meth cd H lc cn sn Q (F0 mi 18 ls [.int v6]) := by
    intro v6 H lc cn sn ls h hw hl
    replace h := kaj8 _ h
    obtain ⟨c7, h⟩ := og h
    replace h := (Option.some.inj h).symm
    subst h
    exact hret _ _ _ _ _ _ _ dL_isAlive_18 c7 hw rfl
  replace h := h1aj8
  obtain ⟨aj5, h1aj5, kaj5, raj5⟩ := ol0 h
  have haj5 : ∀ (H : Heap) (lc : List Loc) (cn sn : Nat) (ls : Array Slot), aj5 = Sum.inl () → wH g s.heap.size (w, mm) H lc → lv_has ls 2 [] → W p l e (rmO g 0 0 s.heap) s mi args below meth cd H lc cn sn Q (F0 mi 13 ls []) := by
    intro H lc cn sn ls h hw hl
    replace h := kaj5 h
    refine lv_iconst (v := 1) hx hb dL_isAlive_13 (by decide) ?_
    refine lv_goto (tgt := 18) hx hb dL_isAlive_14 (by decide) ?_
    replace h := (Option.some.inj h).symm
    exact haj8 _ _ _ _ _ _ h hw (lv_sub hl [] rfl)
  replace h := h1aj5
  refine lv_if_eq (tgt := 13) hx hb dL_isAlive_3 (by decide) (fun c2 => ?_) (fun c2 => ?_)
  · replace h := ot c2 h
    replace h := (Option.some.inj h).symm
    exact haj5 _ _ _ _ _ h hw (lv_sub hl [] rfl)
  · replace h := oe c2 h
    refine lv_aload_n hx hb dL_isAlive_6 rfl (lv_at hl 0 rfl) ?_
    refine lv_iload_n hx hb dL_isAlive_7 rfl (lv_at hl 1 rfl) ?_
    obtain ⟨c3, h⟩ := og h
    refine m_ld hX hn hw 1 (by decide) rfl c3 dL_isAlive_8 ?_
    refine lv_iconst (v := 1) hx hb dL_isAlive_9 (by decide) ?_
    refine lv_icmp_ne (tgt := 17) hx hb dL_isAlive_10 (by decide) (fun c4 => ?_) (fun c4 => ?_)
    · replace h := oe c4 h
      refine lv_iconst (v := 0) hx hb dL_isAlive_17 (by decide) ?_
      replace h := (Option.some.inj h).symm
      replace h := raj5 _ h
      exact haj8 _ _ _ _ _ _ h hw (lv_sub hl [] rfl)
    · replace h := ot c4 h
      replace h := (Option.some.inj h).symm
      exact haj5 _ _ _ _ _ h hw (lv_sub hl [] rfl)

def x_L_goesOn_L2 (m3 : MS) (v1 : Int32) : Nat → Int32 → Int32 → Option (Int32)
  | 0, _, _ => none
  | n + 1, v6, v7 =>
    if (v1 : Int32) ≤ v6 then
      some v7
    else
      bd (
        l0 (
          if (v7 : Int32) = 0 then
            bd (x_L_isAlive v6 m3) (fun (v11 : Int32) =>
            l0 (
              if (v11 : Int32) = 0 then
                some (.inl ())
              else
                if vR v6 60 then
                if vR v1 60 then
                if ((((ga m3 2 v6.toNatClampNeg) &&& (ga m3 2 v1.toNatClampNeg)) &&& 7) : Int32) = 0 then
                  some (.inl ())
                else
                  if vR v6 60 then
                  if vR v1 60 then
                  if ((((ga m3 2 v6.toNatClampNeg) ||| (ga m3 2 v1.toNatClampNeg)) &&& 8) : Int32) = 0 then
                    some (.inl ())
                  else
                    some (.inr (.inl ()))
                  else none
                  else none
                else none
                else none) (fun (_ : Unit) =>
            some (.inr ((0 : Int32)))))
          else
            some (.inl ())) (fun (_ : Unit) =>
        some (1 : Int32))) (fun (v21 : Int32) =>
      x_L_goesOn_L2 m3 v1 n (v6 + 1) v21)
def x_L_goesOn_L1 : Nat → Int32 → Int32 → MS → Option (Int32 × MS)
  | 0, _, _, _ => none
  | n + 1, v1, v2, m3 =>
    if vR 14 16 then
    if ((ga m3 3 (14 : Int32).toNatClampNeg) : Int32) ≤ v1 then
      some (v2, m3)
    else
      bd (x_L_goesOn_L2 m3 v1 FU 0 0) (fun (v23 : Int32) =>
      if vR v1 60 then
      b2 (
        if ((ga m3 1 v1.toNatClampNeg) : Int32) = 0 then
          if (v23 : Int32) = 0 then
            if vR v1 60 then
            bs (sa m3 1 v1.toNatClampNeg 1) (fun (m28 : MS) =>
            some ((v2 + 1), m28))
            else none
          else
            some (v2, m3)
        else
          some (v2, m3)) (fun (v29 : Int32) (m30 : MS) =>
      x_L_goesOn_L1 n (v1 + 1) v29 m30)
      else none)
    else none
def x_L_goesOn (mm : MS) : Option (Int32 × MS) :=
  b2 (x_L_goesOn_L1 FU 0 0 mm) (fun (v33 : Int32) (m34 : MS) =>
  some ((v33, m34)))
set_option maxHeartbeats 4000000 in
set_option maxRecDepth 100000 in
theorem c_L_goesOn (g : GG) (l : Launch) (hG : XG g) (hC : NC g) (hst : l.stackTraces = false) (hn : gnn g 4 = 1) {b L : Nat} {xs : Nat → Int32} (hS : SCG g b L xs) (w : CS) (mm : MS) (r : Int32) (mm' : MS) (h : x_L_goesOn mm = some (r, mm')) : MetG g l yL_goesOn wsL_goesOn 1 21 [.ref (gmd g 1), .ref (gmd g 2), .ref (gmd g 3)] (w, mm) (some (.int r)) (w, mm') := by
  refine g_start_i (some (.int r)) (own := RL) (by decide +kernel) rfl rfl (by simp [lg_sl, rv_cat, ct_i, ct_l, ct_r]) ?_
  intro p e s mi args below meth cd ls Q hX hnm hw hl hret
  have hl : lv_has ls 7 [(0, .ref (gmd g 1)), (1, .ref (gmd g 2)), (2, .ref (gmd g 3))] := by simpa [lv_args, rv_cat, ct_i, ct_l, ct_r] using hl
  obtain ⟨⟨hx, hb, -, hown, hts⟩, -⟩ := id hX
  unfold x_L_goesOn at h
  refine lv_iconst (v := 0) hx hb dL_goesOn_0 (by decide) ?_
  refine lv_istore_n (lv' := [(3, .int 0), (0, .ref (gmd g 1)), (1, .ref (gmd g 2)), (2, .ref (gmd g 3))]) hx hb dL_goesOn_1 rfl hl (by decide) (by simp [rv_cat, ct_i, ct_l, ct_r] <;> decide) (fun ls hl => ?_)
  refine lv_iconst (v := 0) hx hb dL_goesOn_2 (by decide) ?_
  refine lv_istore (lv' := [(4, .int 0), (3, .int 0), (0, .ref (gmd g 1)), (1, .ref (gmd g 2)), (2, .ref (gmd g 3))]) hx hb dL_goesOn_3 hl (by decide) rfl (fun ls hl => ?_)
  obtain ⟨aj35, h1aj35, kaj35⟩ := ob2 h
  have haj35 : ∀ (v33 : Int32) (m34 : MS) (H : Heap) (lc : List Loc) (cn sn : Nat) (ls : Array Slot), aj35 = (v33, m34) → wH g s.heap.size (w, m34) H lc → lv_has ls 7 [(3, .int v33)] → W p l e (rmO g 1 21 s.heap) s mi args below meth cd H lc cn sn Q (F0 mi 110 ls []) := by
    intro v33 m34 H lc cn sn ls h hw hl
    replace h := kaj35 _ _ h
    refine lv_iload_n hx hb dL_goesOn_110 rfl (lv_at hl 0 rfl) ?_
    replace h := (Option.some.inj h).symm
    obtain ⟨rfl, rfl⟩ := Prod.mk.inj h
    exact hret _ _ _ _ _ _ _ dL_goesOn_111 hw rfl
  have hkj35 : ∀ (n : Nat) (v1 : Int32) (v2 : Int32) (m3 : MS) (H : Heap) (lc : List Loc) (cn sn : Nat) (ls : Array Slot), x_L_goesOn_L1 n v1 v2 m3 = some aj35 → wH g s.heap.size (w, m3) H lc → lv_has ls 7 [(4, .int v1), (3, .int v2), (0, .ref (gmd g 1)), (1, .ref (gmd g 2)), (2, .ref (gmd g 3))] → W p l e (rmO g 1 21 s.heap) s mi args below meth cd H lc cn sn Q (F0 mi 5 ls []) := by
    intro n
    induction n with
    | zero =>
      intro v1 v2 m3 H lc cn sn ls h
      rw [x_L_goesOn_L1] at h
      cases h
    | succ n ih =>
      intro v1 v2 m3 H lc cn sn ls h hw hl
      rw [x_L_goesOn_L1] at h
      refine lv_iload hx hb dL_goesOn_5 (lv_at hl 0 rfl) ?_
      refine lv_aload_n hx hb dL_goesOn_7 rfl (lv_at hl 4 rfl) ?_
      refine lv_bipush (v := 14) hx hb dL_goesOn_8 (by decide) ?_
      obtain ⟨c4, h⟩ := og h
      refine m_ld hX hn hw 3 (by decide) rfl c4 dL_goesOn_10 ?_
      refine lv_icmp_ge (tgt := 110) hx hb dL_goesOn_11 (by decide) (fun c5 => ?_) (fun c5 => ?_)
      · replace h := ot c5 h
        replace h := (Option.some.inj h).symm
        exact haj35 _ _ _ _ _ _ _ h hw (lv_sub hl [1] rfl)
      · replace h := oe c5 h
        refine lv_iconst (v := 0) hx hb dL_goesOn_14 (by decide) ?_
        refine lv_istore (lv' := [(5, .int 0), (4, .int v1), (3, .int v2), (0, .ref (gmd g 1)), (1, .ref (gmd g 2)), (2, .ref (gmd g 3))]) hx hb dL_goesOn_15 hl (by decide) rfl (fun ls hl => ?_)
        refine lv_iconst (v := 0) hx hb dL_goesOn_17 (by decide) ?_
        refine lv_istore (lv' := [(6, .int 0), (5, .int 0), (4, .int v1), (3, .int v2), (0, .ref (gmd g 1)), (1, .ref (gmd g 2)), (2, .ref (gmd g 3))]) hx hb dL_goesOn_18 hl (by decide) rfl (fun ls hl => ?_)
        obtain ⟨aj32, h1aj32, kaj32⟩ := ob1 h
        have haj32 : ∀ (v23 : Int32) (H : Heap) (lc : List Loc) (cn sn : Nat) (ls : Array Slot), aj32 = v23 → wH g s.heap.size (w, m3) H lc → lv_has ls 7 [(5, .int v23), (4, .int v1), (3, .int v2), (0, .ref (gmd g 1)), (1, .ref (gmd g 2)), (2, .ref (gmd g 3))] → W p l e (rmO g 1 21 s.heap) s mi args below meth cd H lc cn sn Q (F0 mi 84 ls []) := by
          intro v23 H lc cn sn ls h hw hl
          replace h := kaj32 _ h
          refine lv_aload_n hx hb dL_goesOn_84 rfl (lv_at hl 3 rfl) ?_
          refine lv_iload hx hb dL_goesOn_85 (lv_at hl 1 rfl) ?_
          obtain ⟨c24, h⟩ := og h
          refine m_ld hX hn hw 1 (by decide) rfl c24 dL_goesOn_87 ?_
          obtain ⟨aj31, h1aj31, kaj31⟩ := ob2 h
          have haj31 : ∀ (v29 : Int32) (m30 : MS) (H : Heap) (lc : List Loc) (cn sn : Nat) (ls : Array Slot), aj31 = (v29, m30) → wH g s.heap.size (w, m30) H lc → lv_has ls 7 [(4, .int v1), (3, .int v29), (0, .ref (gmd g 1)), (1, .ref (gmd g 2)), (2, .ref (gmd g 3))] → W p l e (rmO g 1 21 s.heap) s mi args below meth cd H lc cn sn Q (F0 mi 104 ls []) := by
            intro v29 m30 H lc cn sn ls h hw hl
            replace h := kaj31 _ _ h
            refine lv_iinc (v := (v1 + 1)) (lv' := [(4, .int (v1 + 1)), (3, .int v29), (0, .ref (gmd g 1)), (1, .ref (gmd g 2)), (2, .ref (gmd g 3))]) hx hb dL_goesOn_104 hl (k := 0) rfl (by rfl) (by decide) rfl (fun ls hl => ?_)
            refine lv_goto (tgt := 5) hx hb dL_goesOn_107 (by decide) ?_
            exact ih _ _ _ _ _ _ _ _ h hw (lv_sub hl [0, 1, 2, 3, 4] rfl)
          replace h := h1aj31
          refine lv_if_ne (tgt := 104) hx hb dL_goesOn_88 (by decide) (fun c25 => ?_) (fun c25 => ?_)
          · replace h := oe c25 h
            replace h := (Option.some.inj h).symm
            exact haj31 _ _ _ _ _ _ _ h hw (lv_sub hl [1, 2, 3, 4, 5] rfl)
          · replace h := ot c25 h
            refine lv_iload hx hb dL_goesOn_91 (lv_at hl 0 rfl) ?_
            refine lv_if_ne (tgt := 104) hx hb dL_goesOn_93 (by decide) (fun c26 => ?_) (fun c26 => ?_)
            · replace h := oe c26 h
              replace h := (Option.some.inj h).symm
              exact haj31 _ _ _ _ _ _ _ h hw (lv_sub hl [1, 2, 3, 4, 5] rfl)
            · replace h := ot c26 h
              refine lv_aload_n hx hb dL_goesOn_96 rfl (lv_at hl 3 rfl) ?_
              refine lv_iload hx hb dL_goesOn_97 (lv_at hl 1 rfl) ?_
              refine lv_iconst (v := 1) hx hb dL_goesOn_99 (by decide) ?_
              obtain ⟨c27, h⟩ := og h
              obtain ⟨m28, em28, h⟩ := ol h
              refine m_st hX hn hw 1 (by decide) rfl c27 dL_goesOn_100 (fun H lc hw => ?_)
              have hw := hm_eq em28 hw
              refine lv_iinc (v := (v2 + 1)) (lv' := [(3, .int (v2 + 1)), (5, .int v23), (4, .int v1), (0, .ref (gmd g 1)), (1, .ref (gmd g 2)), (2, .ref (gmd g 3))]) hx hb dL_goesOn_101 hl (k := 2) rfl (by rfl) (by decide) (by simp [rv_cat, ct_i, ct_l, ct_r] <;> decide) (fun ls hl => ?_)
              replace h := (Option.some.inj h).symm
              exact haj31 _ _ _ _ _ _ _ h hw (lv_sub hl [2, 0, 3, 4, 5] rfl)
        have hkj32 : ∀ (n : Nat) (v6 : Int32) (v7 : Int32) (H : Heap) (lc : List Loc) (cn sn : Nat) (ls : Array Slot), x_L_goesOn_L2 m3 v1 n v6 v7 = some aj32 → wH g s.heap.size (w, m3) H lc → lv_has ls 7 [(6, .int v6), (5, .int v7), (4, .int v1), (3, .int v2), (0, .ref (gmd g 1)), (1, .ref (gmd g 2)), (2, .ref (gmd g 3))] → W p l e (rmO g 1 21 s.heap) s mi args below meth cd H lc cn sn Q (F0 mi 20 ls []) := by
          intro n
          induction n with
          | zero =>
            intro v6 v7 H lc cn sn ls h
            rw [x_L_goesOn_L2] at h
            cases h
          | succ n ih =>
            intro v6 v7 H lc cn sn ls h hw hl
            rw [x_L_goesOn_L2] at h
            refine lv_iload hx hb dL_goesOn_20 (lv_at hl 0 rfl) ?_
            refine lv_iload hx hb dL_goesOn_22 (lv_at hl 2 rfl) ?_
            refine lv_icmp_ge (tgt := 84) hx hb dL_goesOn_24 (by decide) (fun c8 => ?_) (fun c8 => ?_)
            · replace h := ot c8 h
              replace h := (Option.some.inj h).symm
              exact haj32 _ _ _ _ _ _ h hw (lv_sub hl [1, 2, 3, 4, 5, 6] rfl)
            · replace h := oe c8 h
              refine lv_iload hx hb dL_goesOn_27 (lv_at hl 1 rfl) ?_
              obtain ⟨aj22, h1aj22, kaj22⟩ := ob1 h
              have haj22 : ∀ (v21 : Int32) (H : Heap) (lc : List Loc) (cn sn : Nat) (ls : Array Slot), aj22 = v21 → wH g s.heap.size (w, m3) H lc → lv_has ls 7 [(6, .int v6), (4, .int v1), (3, .int v2), (0, .ref (gmd g 1)), (1, .ref (gmd g 2)), (2, .ref (gmd g 3))] → W p l e (rmO g 1 21 s.heap) s mi args below meth cd H lc cn sn Q (F0 mi 76 ls [.int v21]) := by
                intro v21 H lc cn sn ls h hw hl
                replace h := kaj22 _ h
                refine lv_istore (lv' := [(5, .int v21), (6, .int v6), (4, .int v1), (3, .int v2), (0, .ref (gmd g 1)), (1, .ref (gmd g 2)), (2, .ref (gmd g 3))]) hx hb dL_goesOn_76 hl (by decide) rfl (fun ls hl => ?_)
                refine lv_iinc (v := (v6 + 1)) (lv' := [(6, .int (v6 + 1)), (5, .int v21), (4, .int v1), (3, .int v2), (0, .ref (gmd g 1)), (1, .ref (gmd g 2)), (2, .ref (gmd g 3))]) hx hb dL_goesOn_78 hl (k := 1) rfl (by rfl) (by decide) rfl (fun ls hl => ?_)
                refine lv_goto (tgt := 20) hx hb dL_goesOn_81 (by decide) ?_
                exact ih _ _ _ _ _ _ _ h hw (lv_sub hl [0, 1, 2, 3, 4, 5, 6] rfl)
              replace h := h1aj22
              obtain ⟨aj20, h1aj20, kaj20, raj20⟩ := ol0 h
              have haj20 : ∀ (H : Heap) (lc : List Loc) (cn sn : Nat) (ls : Array Slot), aj20 = Sum.inl () → wH g s.heap.size (w, m3) H lc → lv_has ls 7 [(6, .int v6), (4, .int v1), (3, .int v2), (0, .ref (gmd g 1)), (1, .ref (gmd g 2)), (2, .ref (gmd g 3))] → W p l e (rmO g 1 21 s.heap) s mi args below meth cd H lc cn sn Q (F0 mi 71 ls []) := by
                intro H lc cn sn ls h hw hl
                replace h := kaj20 h
                refine lv_iconst (v := 1) hx hb dL_goesOn_71 (by decide) ?_
                refine lv_goto (tgt := 76) hx hb dL_goesOn_72 (by decide) ?_
                replace h := (Option.some.inj h).symm
                exact haj22 _ _ _ _ _ _ h hw (lv_sub hl [0, 1, 2, 3, 4, 5] rfl)
              replace h := h1aj20
              refine lv_if_ne (tgt := 71) hx hb dL_goesOn_29 (by decide) (fun c9 => ?_) (fun c9 => ?_)
              · replace h := oe c9 h
                replace h := (Option.some.inj h).symm
                exact haj20 _ _ _ _ _ h hw (lv_sub hl [0, 2, 3, 4, 5, 6] rfl)
              · replace h := ot c9 h
                refine lv_aload_n hx hb dL_goesOn_32 rfl (lv_at hl 4 rfl) ?_
                refine lv_iload hx hb dL_goesOn_33 (lv_at hl 0 rfl) ?_
                obtain ⟨v11, e10, h⟩ := ob h
                refine g_callSi (n := 2) (As := [.ref (gmd g 1), .int v6]) (rest := []) hX hw (c_L_isAlive g l hG hC hst hn hS v6 w m3 v11  e10) gL_goesOn_L_isAlive rfl (by decide +kernel) rfl hl.1 rfl (Nat.le_of_ble_eq_true rfl) ⟨by decide, by decide⟩ dL_goesOn_35 (fun H lc cn sn hw => ?_)
                obtain ⟨aj19, h1aj19, kaj19, raj19⟩ := ol0 h
                have haj19 : ∀ (H : Heap) (lc : List Loc) (cn sn : Nat) (ls : Array Slot), aj19 = Sum.inl () → wH g s.heap.size (w, m3) H lc → lv_has ls 7 [(6, .int v6), (4, .int v1), (3, .int v2), (0, .ref (gmd g 1)), (1, .ref (gmd g 2)), (2, .ref (gmd g 3))] → W p l e (rmO g 1 21 s.heap) s mi args below meth cd H lc cn sn Q (F0 mi 75 ls []) := by
                  intro H lc cn sn ls h hw hl
                  replace h := kaj19 h
                  refine lv_iconst (v := 0) hx hb dL_goesOn_75 (by decide) ?_
                  replace h := (Option.some.inj h).symm
                  replace h := raj20 _ h
                  exact haj22 _ _ _ _ _ _ h hw (lv_sub hl [0, 1, 2, 3, 4, 5] rfl)
                replace h := h1aj19
                refine lv_if_eq (tgt := 75) hx hb dL_goesOn_38 (by decide) (fun c12 => ?_) (fun c12 => ?_)
                · replace h := ot c12 h
                  replace h := (Option.some.inj h).symm
                  exact haj19 _ _ _ _ _ h hw (lv_sub hl [0, 2, 3, 4, 5, 6] rfl)
                · replace h := oe c12 h
                  refine lv_aload_n hx hb dL_goesOn_41 rfl (lv_at hl 5 rfl) ?_
                  refine lv_iload hx hb dL_goesOn_42 (lv_at hl 0 rfl) ?_
                  obtain ⟨c13, h⟩ := og h
                  refine m_ld hX hn hw 2 (by decide) rfl c13 dL_goesOn_44 ?_
                  refine lv_aload_n hx hb dL_goesOn_45 rfl (lv_at hl 5 rfl) ?_
                  refine lv_iload hx hb dL_goesOn_46 (lv_at hl 2 rfl) ?_
                  obtain ⟨c14, h⟩ := og h
                  refine m_ld hX hn hw 2 (by decide) rfl c14 dL_goesOn_48 ?_
                  refine lv_iand hx hb dL_goesOn_49 ?_
                  refine lv_bipush (v := 7) hx hb dL_goesOn_50 (by decide) ?_
                  refine lv_iand hx hb dL_goesOn_52 ?_
                  refine lv_if_eq (tgt := 75) hx hb dL_goesOn_53 (by decide) (fun c15 => ?_) (fun c15 => ?_)
                  · replace h := ot c15 h
                    replace h := (Option.some.inj h).symm
                    exact haj19 _ _ _ _ _ h hw (lv_sub hl [0, 2, 3, 4, 5, 6] rfl)
                  · replace h := oe c15 h
                    refine lv_aload_n hx hb dL_goesOn_56 rfl (lv_at hl 5 rfl) ?_
                    refine lv_iload hx hb dL_goesOn_57 (lv_at hl 0 rfl) ?_
                    obtain ⟨c16, h⟩ := og h
                    refine m_ld hX hn hw 2 (by decide) rfl c16 dL_goesOn_59 ?_
                    refine lv_aload_n hx hb dL_goesOn_60 rfl (lv_at hl 5 rfl) ?_
                    refine lv_iload hx hb dL_goesOn_61 (lv_at hl 2 rfl) ?_
                    obtain ⟨c17, h⟩ := og h
                    refine m_ld hX hn hw 2 (by decide) rfl c17 dL_goesOn_63 ?_
                    refine lv_ior hx hb dL_goesOn_64 ?_
                    refine lv_bipush (v := 8) hx hb dL_goesOn_65 (by decide) ?_
                    refine lv_iand hx hb dL_goesOn_67 ?_
                    refine lv_if_eq (tgt := 75) hx hb dL_goesOn_68 (by decide) (fun c18 => ?_) (fun c18 => ?_)
                    · replace h := ot c18 h
                      replace h := (Option.some.inj h).symm
                      exact haj19 _ _ _ _ _ h hw (lv_sub hl [0, 2, 3, 4, 5, 6] rfl)
                    · replace h := oe c18 h
                      replace h := (Option.some.inj h).symm
                      replace h := raj19 _ h
                      exact haj20 _ _ _ _ _ h hw (lv_sub hl [0, 2, 3, 4, 5, 6] rfl)
        exact hkj32 FU 0 0 _ _ _ _ _ h1aj32 hw (lv_sub hl [0, 1, 2, 3, 4, 5, 6] rfl)
  exact hkj35 FU 0 0 mm _ _ _ _ _ h1aj35 hw (lv_sub hl [0, 1, 2, 3, 4] rfl)

def x_L_isBusy_L1 (mm : MS) (p1 : Int32) : Nat → Int32 → Int32 → Option (Int32)
  | 0, _, _ => none
  | n + 1, v1, v2 =>
    if (4 : Int32) ≤ v1 then
      some v2
    else
      bd (
        l0 (
          if (v2 : Int32) = 0 then
            l0 (
              if (v1 : Int32) = p1 then
                some (.inl ())
              else
                if vR (3 * v1) 16 then
                if ((ga mm 3 (3 * v1).toNatClampNeg) : Int32) = 1 then
                  some (.inr (.inl ()))
                else
                  if vR (3 * v1) 16 then
                  if ((ga mm 3 (3 * v1).toNatClampNeg) : Int32) = 2 then
                    some (.inr (.inl ()))
                  else
                    some (.inl ())
                  else none
                else none) (fun (_ : Unit) =>
            some (.inr ((0 : Int32))))
          else
            some (.inl ())) (fun (_ : Unit) =>
        some (1 : Int32))) (fun (v12 : Int32) =>
      x_L_isBusy_L1 mm p1 n (v1 + 1) v12)
def x_L_isBusy (p1 : Int32) (mm : MS) : Option (Int32) :=
  bd (x_L_isBusy_L1 mm p1 FU 0 0) (fun (v14 : Int32) =>
  if isB v14 then
  some (v14)
  else none)
set_option maxHeartbeats 4000000 in
set_option maxRecDepth 100000 in
theorem c_L_isBusy (g : GG) (l : Launch) (hG : XG g) (hC : NC g) (hst : l.stackTraces = false) (hn : gnn g 4 = 1) {b L : Nat} {xs : Nat → Int32} (hS : SCG g b L xs) (p1 : Int32) (w : CS) (mm : MS) (r : Int32) (h : x_L_isBusy p1 mm = some r) : MetG g l yL_isBusy wsL_isBusy 0 0 [.ref (gmd g 3), .int p1] (w, mm) (some (.int r)) (w, mm) := by
  refine g_start_z (some (.int r)) (own := RL) (by decide +kernel) rfl rfl (by simp [lg_sl, rv_cat, ct_i, ct_l, ct_r]) ?_
  intro p e s mi args below meth cd ls Q hX hnm hw hl hret
  have hl : lv_has ls 4 [(0, .ref (gmd g 3)), (1, .int p1)] := by simpa [lv_args, rv_cat, ct_i, ct_l, ct_r] using hl
  obtain ⟨⟨hx, hb, -, hown, hts⟩, -⟩ := id hX
  unfold x_L_isBusy at h
  refine lv_iconst (v := 0) hx hb dL_isBusy_0 (by decide) ?_
  refine lv_istore_n (lv' := [(2, .int 0), (0, .ref (gmd g 3)), (1, .int p1)]) hx hb dL_isBusy_1 rfl hl (by decide) rfl (fun ls hl => ?_)
  refine lv_iconst (v := 0) hx hb dL_isBusy_2 (by decide) ?_
  refine lv_istore_n (lv' := [(3, .int 0), (2, .int 0), (0, .ref (gmd g 3)), (1, .int p1)]) hx hb dL_isBusy_3 rfl hl (by decide) rfl (fun ls hl => ?_)
  obtain ⟨aj16, h1aj16, kaj16⟩ := ob1 h
  have haj16 : ∀ (v14 : Int32) (H : Heap) (lc : List Loc) (cn sn : Nat) (ls : Array Slot), aj16 = v14 → wH g s.heap.size (w, mm) H lc → lv_has ls 4 [(2, .int v14)] → W p l e (rmO g 0 0 s.heap) s mi args below meth cd H lc cn sn Q (F0 mi 48 ls []) := by
    intro v14 H lc cn sn ls h hw hl
    replace h := kaj16 _ h
    refine lv_iload_n hx hb dL_isBusy_48 rfl (lv_at hl 0 rfl) ?_
    obtain ⟨c15, h⟩ := og h
    replace h := (Option.some.inj h).symm
    subst h
    exact hret _ _ _ _ _ _ _ dL_isBusy_49 c15 hw rfl
  have hkj16 : ∀ (n : Nat) (v1 : Int32) (v2 : Int32) (H : Heap) (lc : List Loc) (cn sn : Nat) (ls : Array Slot), x_L_isBusy_L1 mm p1 n v1 v2 = some aj16 → wH g s.heap.size (w, mm) H lc → lv_has ls 4 [(3, .int v1), (2, .int v2), (0, .ref (gmd g 3)), (1, .int p1)] → W p l e (rmO g 0 0 s.heap) s mi args below meth cd H lc cn sn Q (F0 mi 4 ls []) := by
    intro n
    induction n with
    | zero =>
      intro v1 v2 H lc cn sn ls h
      rw [x_L_isBusy_L1] at h
      cases h
    | succ n ih =>
      intro v1 v2 H lc cn sn ls h hw hl
      rw [x_L_isBusy_L1] at h
      refine lv_iload_n hx hb dL_isBusy_4 rfl (lv_at hl 0 rfl) ?_
      refine lv_iconst (v := 4) hx hb dL_isBusy_5 (by decide) ?_
      refine lv_icmp_ge (tgt := 48) hx hb dL_isBusy_6 (by decide) (fun c3 => ?_) (fun c3 => ?_)
      · replace h := ot c3 h
        replace h := (Option.some.inj h).symm
        exact haj16 _ _ _ _ _ _ h hw (lv_sub hl [1] rfl)
      · replace h := oe c3 h
        refine lv_iload_n hx hb dL_isBusy_9 rfl (lv_at hl 1 rfl) ?_
        obtain ⟨aj13, h1aj13, kaj13⟩ := ob1 h
        have haj13 : ∀ (v12 : Int32) (H : Heap) (lc : List Loc) (cn sn : Nat) (ls : Array Slot), aj13 = v12 → wH g s.heap.size (w, mm) H lc → lv_has ls 4 [(3, .int v1), (0, .ref (gmd g 3)), (1, .int p1)] → W p l e (rmO g 0 0 s.heap) s mi args below meth cd H lc cn sn Q (F0 mi 41 ls [.int v12]) := by
          intro v12 H lc cn sn ls h hw hl
          replace h := kaj13 _ h
          refine lv_istore_n (lv' := [(2, .int v12), (3, .int v1), (0, .ref (gmd g 3)), (1, .int p1)]) hx hb dL_isBusy_41 rfl hl (by decide) rfl (fun ls hl => ?_)
          refine lv_iinc (v := (v1 + 1)) (lv' := [(3, .int (v1 + 1)), (2, .int v12), (0, .ref (gmd g 3)), (1, .int p1)]) hx hb dL_isBusy_42 hl (k := 1) rfl (by rfl) (by decide) rfl (fun ls hl => ?_)
          refine lv_goto (tgt := 4) hx hb dL_isBusy_45 (by decide) ?_
          exact ih _ _ _ _ _ _ _ h hw (lv_sub hl [0, 1, 2, 3] rfl)
        replace h := h1aj13
        obtain ⟨aj11, h1aj11, kaj11, raj11⟩ := ol0 h
        have haj11 : ∀ (H : Heap) (lc : List Loc) (cn sn : Nat) (ls : Array Slot), aj11 = Sum.inl () → wH g s.heap.size (w, mm) H lc → lv_has ls 4 [(3, .int v1), (0, .ref (gmd g 3)), (1, .int p1)] → W p l e (rmO g 0 0 s.heap) s mi args below meth cd H lc cn sn Q (F0 mi 36 ls []) := by
          intro H lc cn sn ls h hw hl
          replace h := kaj11 h
          refine lv_iconst (v := 1) hx hb dL_isBusy_36 (by decide) ?_
          refine lv_goto (tgt := 41) hx hb dL_isBusy_37 (by decide) ?_
          replace h := (Option.some.inj h).symm
          exact haj13 _ _ _ _ _ _ h hw (lv_sub hl [0, 1, 2] rfl)
        replace h := h1aj11
        refine lv_if_ne (tgt := 36) hx hb dL_isBusy_10 (by decide) (fun c4 => ?_) (fun c4 => ?_)
        · replace h := oe c4 h
          replace h := (Option.some.inj h).symm
          exact haj11 _ _ _ _ _ h hw (lv_sub hl [0, 2, 3] rfl)
        · replace h := ot c4 h
          refine lv_iload_n hx hb dL_isBusy_13 rfl (lv_at hl 0 rfl) ?_
          refine lv_iload_n hx hb dL_isBusy_14 rfl (lv_at hl 3 rfl) ?_
          obtain ⟨aj10, h1aj10, kaj10, raj10⟩ := ol0 h
          have haj10 : ∀ (H : Heap) (lc : List Loc) (cn sn : Nat) (ls : Array Slot), aj10 = Sum.inl () → wH g s.heap.size (w, mm) H lc → lv_has ls 4 [(3, .int v1), (0, .ref (gmd g 3)), (1, .int p1)] → W p l e (rmO g 0 0 s.heap) s mi args below meth cd H lc cn sn Q (F0 mi 40 ls []) := by
            intro H lc cn sn ls h hw hl
            replace h := kaj10 h
            refine lv_iconst (v := 0) hx hb dL_isBusy_40 (by decide) ?_
            replace h := (Option.some.inj h).symm
            replace h := raj11 _ h
            exact haj13 _ _ _ _ _ _ h hw (lv_sub hl [0, 1, 2] rfl)
          replace h := h1aj10
          refine lv_icmp_eq (tgt := 40) hx hb dL_isBusy_15 (by decide) (fun c5 => ?_) (fun c5 => ?_)
          · replace h := ot c5 h
            replace h := (Option.some.inj h).symm
            exact haj10 _ _ _ _ _ h hw (lv_sub hl [0, 2, 3] rfl)
          · replace h := oe c5 h
            refine lv_aload_n hx hb dL_isBusy_18 rfl (lv_at hl 2 rfl) ?_
            refine lv_iconst (v := 3) hx hb dL_isBusy_19 (by decide) ?_
            refine lv_iload_n hx hb dL_isBusy_20 rfl (lv_at hl 0 rfl) ?_
            refine lv_imul hx hb dL_isBusy_21 ?_
            obtain ⟨c6, h⟩ := og h
            refine m_ld hX hn hw 3 (by decide) rfl c6 dL_isBusy_22 ?_
            refine lv_iconst (v := 1) hx hb dL_isBusy_23 (by decide) ?_
            refine lv_icmp_eq (tgt := 36) hx hb dL_isBusy_24 (by decide) (fun c7 => ?_) (fun c7 => ?_)
            · replace h := ot c7 h
              replace h := (Option.some.inj h).symm
              replace h := raj10 _ h
              exact haj11 _ _ _ _ _ h hw (lv_sub hl [0, 2, 3] rfl)
            · replace h := oe c7 h
              refine lv_aload_n hx hb dL_isBusy_27 rfl (lv_at hl 2 rfl) ?_
              refine lv_iconst (v := 3) hx hb dL_isBusy_28 (by decide) ?_
              refine lv_iload_n hx hb dL_isBusy_29 rfl (lv_at hl 0 rfl) ?_
              refine lv_imul hx hb dL_isBusy_30 ?_
              obtain ⟨c8, h⟩ := og h
              refine m_ld hX hn hw 3 (by decide) rfl c8 dL_isBusy_31 ?_
              refine lv_iconst (v := 2) hx hb dL_isBusy_32 (by decide) ?_
              refine lv_icmp_ne (tgt := 40) hx hb dL_isBusy_33 (by decide) (fun c9 => ?_) (fun c9 => ?_)
              · replace h := oe c9 h
                replace h := (Option.some.inj h).symm
                exact haj10 _ _ _ _ _ h hw (lv_sub hl [0, 2, 3] rfl)
              · replace h := ot c9 h
                replace h := (Option.some.inj h).symm
                replace h := raj10 _ h
                exact haj11 _ _ _ _ _ h hw (lv_sub hl [0, 2, 3] rfl)
  exact hkj16 FU 0 0 _ _ _ _ _ h1aj16 hw (lv_sub hl [0, 1, 2, 3] rfl)

def x_L_looks_L2 (m2 : MS) : Nat → Int32 → Int32 → Option (Int32)
  | 0, _, _ => none
  | n + 1, v7, v8 =>
    if (4 : Int32) ≤ v7 then
      some v8
    else
      if vR (3 * v7) 16 then
      bd (
        l0 (
          if ((ga m2 3 (3 * v7).toNatClampNeg) : Int32) = 3 then
            l0 (
              if (v8 : Int32) < 0 then
                some (.inl ())
              else
                if vR ((3 * v7) + 2) 16 then
                if vR ((3 * v8) + 2) 16 then
                if ((ga m2 3 ((3 * v8) + 2).toNatClampNeg) : Int32) ≤ (ga m2 3 ((3 * v7) + 2).toNatClampNeg) then
                  some (.inr (.inl ()))
                else
                  some (.inl ())
                else none
                else none) (fun (_ : Unit) =>
            some (.inr (v7)))
          else
            some (.inl ())) (fun (_ : Unit) =>
        some v8)) (fun (v18 : Int32) =>
      x_L_looks_L2 m2 n (v7 + 1) v18)
      else none
def x_L_looks_L3 : Nat → Int32 → MS → Option (MS)
  | 0, _, _ => none
  | n + 1, v41, m42 =>
    if (3 : Int32) ≤ v41 then
      some m42
    else
      if vR v41 6 then
      if vR (3 + v41) 6 then
      bs (sa m42 4 (3 + v41).toNatClampNeg (ga m42 4 v41.toNatClampNeg)) (fun (m46 : MS) =>
      x_L_looks_L3 n (v41 + 1) m46)
      else none
      else none
def x_L_looks_L1 : Nat → Int32 → MS → Option (MS)
  | 0, _, _ => none
  | n + 1, v1, m2 =>
    if (v1 : Int32) = 0 then
      some m2
    else
      bd (x_L_isBusy (-1) m2) (fun (v5 : Int32) =>
      if (v5 : Int32) = 0 then
        bd (x_L_looks_L2 m2 FU 0 (-1)) (fun (v20 : Int32) =>
        bd (
          if (v20 : Int32) < 0 then
            some (0 : Int32)
          else
            some (1 : Int32)) (fun (v22 : Int32) =>
        bd (
          l0 (
            if (v22 : Int32) = 0 then
              some (.inl ())
            else
              if vR ((3 * v20) + 1) 16 then
              if vR 12 16 then
              if ((ga m2 3 ((3 * v20) + 1).toNatClampNeg) : Int32) ≤ (ga m2 3 (12 : Int32).toNatClampNeg) then
                some (.inl ())
              else
                if vR (3 * v20) 16 then
                bs (sa m2 3 (3 * v20).toNatClampNeg 2) (fun (m28 : MS) =>
                if vR 14 16 then
                if vR 13 16 then
                bs (sa m28 3 (13 : Int32).toNatClampNeg (ga m28 3 (14 : Int32).toNatClampNeg)) (fun (m31 : MS) =>
                if vR 14 16 then
                if vR (ga m31 3 (14 : Int32).toNatClampNeg) 60 then
                bs (sa m31 1 (ga m31 3 (14 : Int32).toNatClampNeg).toNatClampNeg 1) (fun (m34 : MS) =>
                if vR 14 16 then
                if vR (ga m34 3 (14 : Int32).toNatClampNeg) 60 then
                bs (sa m34 2 (ga m34 3 (14 : Int32).toNatClampNeg).toNatClampNeg ((16 * v20) + 15)) (fun (m37 : MS) =>
                if vR 14 16 then
                if vR 14 16 then
                bs (sa m37 3 (14 : Int32).toNatClampNeg ((ga m37 3 (14 : Int32).toNatClampNeg) + 1)) (fun (m40 : MS) =>
                bd (x_L_looks_L3 FU 0 m40) (fun (m47 : MS) =>
                some (.inr (m47))))
                else none
                else none)
                else none
                else none)
                else none
                else none)
                else none
                else none)
                else none
              else none
              else none) (fun (_ : Unit) =>
          if (v22 : Int32) = 0 then
            some m2
          else
            if vR (3 * v20) 16 then
            bs (sa m2 3 (3 * v20).toNatClampNeg 0) (fun (m51 : MS) =>
            some m51)
            else none)) (fun (m53 : MS) =>
        x_L_looks_L1 n v22 m53)))
      else
        some m2)
def x_L_looks (mm : MS) : Option (MS) :=
  bd (x_L_looks_L1 FU 1 mm) (fun (m57 : MS) =>
  some (m57))
set_option maxHeartbeats 4000000 in
set_option maxRecDepth 100000 in
theorem c_L_looks (g : GG) (l : Launch) (hG : XG g) (hC : NC g) (hst : l.stackTraces = false) (hn : gnn g 4 = 1) {b L : Nat} {xs : Nat → Int32} (hS : SCG g b L xs) (w : CS) (mm : MS) (mm' : MS) (h : x_L_looks mm = some mm') : MetG g l yL_looks wsL_looks 1 23 [.ref (gmd g 1), .ref (gmd g 2), .ref (gmd g 3), .ref (gmd g 4)] (w, mm) (none) (w, mm') := by
  refine g_start_v (none) (own := RL) (by decide +kernel) rfl rfl (by simp [lg_sl, rv_cat, ct_i, ct_l, ct_r]) ?_
  intro p e s mi args below meth cd ls Q hX hnm hw hl hret
  have hl : lv_has ls 7 [(0, .ref (gmd g 1)), (1, .ref (gmd g 2)), (2, .ref (gmd g 3)), (3, .ref (gmd g 4))] := by simpa [lv_args, rv_cat, ct_i, ct_l, ct_r] using hl
  obtain ⟨⟨hx, hb, -, hown, hts⟩, -⟩ := id hX
  unfold x_L_looks at h
  refine lv_iconst (v := 1) hx hb dL_looks_0 (by decide) ?_
  refine lv_istore (lv' := [(4, .int 1), (0, .ref (gmd g 1)), (1, .ref (gmd g 2)), (2, .ref (gmd g 3)), (3, .ref (gmd g 4))]) hx hb dL_looks_1 hl (by decide) (by simp [rv_cat, ct_i, ct_l, ct_r] <;> decide) (fun ls hl => ?_)
  obtain ⟨aj58, h1aj58, kaj58⟩ := ob1 h
  have haj58 : ∀ (m57 : MS) (H : Heap) (lc : List Loc) (cn sn : Nat) (ls : Array Slot), aj58 = m57 → wH g s.heap.size (w, m57) H lc → lv_has ls 7 [] → W p l e (rmO g 1 23 s.heap) s mi args below meth cd H lc cn sn Q (F0 mi 196 ls []) := by
    intro m57 H lc cn sn ls h hw hl
    replace h := kaj58 _ h
    replace h := (Option.some.inj h).symm
    subst h
    exact hret _ _ _ _ _ _ dL_looks_196 hw rfl
  have hkj58 : ∀ (n : Nat) (v1 : Int32) (m2 : MS) (H : Heap) (lc : List Loc) (cn sn : Nat) (ls : Array Slot), x_L_looks_L1 n v1 m2 = some aj58 → wH g s.heap.size (w, m2) H lc → lv_has ls 7 [(4, .int v1), (0, .ref (gmd g 1)), (1, .ref (gmd g 2)), (2, .ref (gmd g 3)), (3, .ref (gmd g 4))] → W p l e (rmO g 1 23 s.heap) s mi args below meth cd H lc cn sn Q (F0 mi 3 ls []) := by
    intro n
    induction n with
    | zero =>
      intro v1 m2 H lc cn sn ls h
      rw [x_L_looks_L1] at h
      cases h
    | succ n ih =>
      intro v1 m2 H lc cn sn ls h hw hl
      rw [x_L_looks_L1] at h
      refine lv_iload hx hb dL_looks_3 (lv_at hl 0 rfl) ?_
      refine lv_if_eq (tgt := 196) hx hb dL_looks_5 (by decide) (fun c3 => ?_) (fun c3 => ?_)
      · replace h := ot c3 h
        replace h := (Option.some.inj h).symm
        exact haj58 _ _ _ _ _ _ h hw (lv_sub hl [] rfl)
      · replace h := oe c3 h
        refine lv_aload_n hx hb dL_looks_8 rfl (lv_at hl 3 rfl) ?_
        refine lv_iconst (v := (-1)) hx hb dL_looks_9 (by decide) ?_
        obtain ⟨v5, e4, h⟩ := ob h
        refine g_callSi (n := 2) (As := [.ref (gmd g 3), .int (-1)]) (rest := []) hX hw (c_L_isBusy g l hG hC hst hn hS (-1) w m2 v5  e4) gL_looks_L_isBusy rfl (by decide +kernel) rfl hl.1 rfl (Nat.le_of_ble_eq_true rfl) ⟨by decide, by decide⟩ dL_looks_10 (fun H lc cn sn hw => ?_)
        refine lv_if_ne (tgt := 196) hx hb dL_looks_13 (by decide) (fun c6 => ?_) (fun c6 => ?_)
        · replace h := oe c6 h
          replace h := (Option.some.inj h).symm
          exact haj58 _ _ _ _ _ _ h hw (lv_sub hl [] rfl)
        · replace h := ot c6 h
          refine lv_iconst (v := (-1)) hx hb dL_looks_16 (by decide) ?_
          refine lv_istore (lv' := [(5, .int (-1)), (4, .int v1), (0, .ref (gmd g 1)), (1, .ref (gmd g 2)), (2, .ref (gmd g 3)), (3, .ref (gmd g 4))]) hx hb dL_looks_17 hl (by decide) rfl (fun ls hl => ?_)
          refine lv_iconst (v := 0) hx hb dL_looks_19 (by decide) ?_
          refine lv_istore (lv' := [(6, .int 0), (5, .int (-1)), (4, .int v1), (0, .ref (gmd g 1)), (1, .ref (gmd g 2)), (2, .ref (gmd g 3)), (3, .ref (gmd g 4))]) hx hb dL_looks_20 hl (by decide) rfl (fun ls hl => ?_)
          obtain ⟨aj56, h1aj56, kaj56⟩ := ob1 h
          have haj56 : ∀ (v20 : Int32) (H : Heap) (lc : List Loc) (cn sn : Nat) (ls : Array Slot), aj56 = v20 → wH g s.heap.size (w, m2) H lc → lv_has ls 7 [(5, .int v20), (0, .ref (gmd g 1)), (1, .ref (gmd g 2)), (2, .ref (gmd g 3)), (3, .ref (gmd g 4))] → W p l e (rmO g 1 23 s.heap) s mi args below meth cd H lc cn sn Q (F0 mi 77 ls []) := by
            intro v20 H lc cn sn ls h hw hl
            replace h := kaj56 _ h
            refine lv_iload hx hb dL_looks_77 (lv_at hl 0 rfl) ?_
            obtain ⟨aj55, h1aj55, kaj55⟩ := ob1 h
            have haj55 : ∀ (v22 : Int32) (H : Heap) (lc : List Loc) (cn sn : Nat) (ls : Array Slot), aj55 = v22 → wH g s.heap.size (w, m2) H lc → lv_has ls 7 [(5, .int v20), (0, .ref (gmd g 1)), (1, .ref (gmd g 2)), (2, .ref (gmd g 3)), (3, .ref (gmd g 4))] → W p l e (rmO g 1 23 s.heap) s mi args below meth cd H lc cn sn Q (F0 mi 87 ls [.int v22]) := by
              intro v22 H lc cn sn ls h hw hl
              replace h := kaj55 _ h
              refine lv_istore (lv' := [(4, .int v22), (5, .int v20), (0, .ref (gmd g 1)), (1, .ref (gmd g 2)), (2, .ref (gmd g 3)), (3, .ref (gmd g 4))]) hx hb dL_looks_87 hl (by decide) (by simp [rv_cat, ct_i, ct_l, ct_r] <;> decide) (fun ls hl => ?_)
              refine lv_iload hx hb dL_looks_89 (lv_at hl 0 rfl) ?_
              obtain ⟨aj54, h1aj54, kaj54⟩ := ob1 h
              have haj54 : ∀ (m53 : MS) (H : Heap) (lc : List Loc) (cn sn : Nat) (ls : Array Slot), aj54 = m53 → wH g s.heap.size (w, m53) H lc → lv_has ls 7 [(4, .int v22), (0, .ref (gmd g 1)), (1, .ref (gmd g 2)), (2, .ref (gmd g 3)), (3, .ref (gmd g 4))] → W p l e (rmO g 1 23 s.heap) s mi args below meth cd H lc cn sn Q (F0 mi 193 ls []) := by
                intro m53 H lc cn sn ls h hw hl
                replace h := kaj54 _ h
                refine lv_goto (tgt := 3) hx hb dL_looks_193 (by decide) ?_
                exact ih _ _ _ _ _ _ _ h hw (lv_sub hl [0, 1, 2, 3, 4] rfl)
              replace h := h1aj54
              obtain ⟨aj52, h1aj52, kaj52, raj52⟩ := ol0 h
              have haj52 : ∀ (H : Heap) (lc : List Loc) (cn sn : Nat) (ls : Array Slot), aj52 = Sum.inl () → wH g s.heap.size (w, m2) H lc → lv_has ls 7 [(4, .int v22), (5, .int v20), (0, .ref (gmd g 1)), (1, .ref (gmd g 2)), (2, .ref (gmd g 3)), (3, .ref (gmd g 4))] → W p l e (rmO g 1 23 s.heap) s mi args below meth cd H lc cn sn Q (F0 mi 181 ls []) := by
                intro H lc cn sn ls h hw hl
                replace h := kaj52 h
                refine lv_iload hx hb dL_looks_181 (lv_at hl 0 rfl) ?_
                refine lv_if_eq (tgt := 193) hx hb dL_looks_183 (by decide) (fun c49 => ?_) (fun c49 => ?_)
                · replace h := ot c49 h
                  replace h := (Option.some.inj h).symm
                  exact haj54 _ _ _ _ _ _ h hw (lv_sub hl [0, 2, 3, 4, 5] rfl)
                · replace h := oe c49 h
                  refine lv_aload_n hx hb dL_looks_186 rfl (lv_at hl 4 rfl) ?_
                  refine lv_iconst (v := 3) hx hb dL_looks_187 (by decide) ?_
                  refine lv_iload hx hb dL_looks_188 (lv_at hl 1 rfl) ?_
                  refine lv_imul hx hb dL_looks_190 ?_
                  refine lv_iconst (v := 0) hx hb dL_looks_191 (by decide) ?_
                  obtain ⟨c50, h⟩ := og h
                  obtain ⟨m51, em51, h⟩ := ol h
                  refine m_st hX hn hw 3 (by decide) rfl c50 dL_looks_192 (fun H lc hw => ?_)
                  have hw := hm_eq em51 hw
                  replace h := (Option.some.inj h).symm
                  exact haj54 _ _ _ _ _ _ h hw (lv_sub hl [0, 2, 3, 4, 5] rfl)
              replace h := h1aj52
              refine lv_if_eq (tgt := 181) hx hb dL_looks_91 (by decide) (fun c23 => ?_) (fun c23 => ?_)
              · replace h := ot c23 h
                replace h := (Option.some.inj h).symm
                exact haj52 _ _ _ _ _ h hw (lv_sub hl [0, 1, 2, 3, 4, 5] rfl)
              · replace h := oe c23 h
                refine lv_aload_n hx hb dL_looks_94 rfl (lv_at hl 4 rfl) ?_
                refine lv_iconst (v := 3) hx hb dL_looks_95 (by decide) ?_
                refine lv_iload hx hb dL_looks_96 (lv_at hl 1 rfl) ?_
                refine lv_imul hx hb dL_looks_98 ?_
                refine lv_iconst (v := 1) hx hb dL_looks_99 (by decide) ?_
                refine lv_iadd hx hb dL_looks_100 ?_
                obtain ⟨c24, h⟩ := og h
                refine m_ld hX hn hw 3 (by decide) rfl c24 dL_looks_101 ?_
                refine lv_aload_n hx hb dL_looks_102 rfl (lv_at hl 4 rfl) ?_
                refine lv_bipush (v := 12) hx hb dL_looks_103 (by decide) ?_
                obtain ⟨c25, h⟩ := og h
                refine m_ld hX hn hw 3 (by decide) rfl c25 dL_looks_105 ?_
                refine lv_icmp_le (tgt := 181) hx hb dL_looks_106 (by decide) (fun c26 => ?_) (fun c26 => ?_)
                · replace h := ot c26 h
                  replace h := (Option.some.inj h).symm
                  exact haj52 _ _ _ _ _ h hw (lv_sub hl [0, 1, 2, 3, 4, 5] rfl)
                · replace h := oe c26 h
                  refine lv_aload_n hx hb dL_looks_109 rfl (lv_at hl 4 rfl) ?_
                  refine lv_iconst (v := 3) hx hb dL_looks_110 (by decide) ?_
                  refine lv_iload hx hb dL_looks_111 (lv_at hl 1 rfl) ?_
                  refine lv_imul hx hb dL_looks_113 ?_
                  refine lv_iconst (v := 2) hx hb dL_looks_114 (by decide) ?_
                  obtain ⟨c27, h⟩ := og h
                  obtain ⟨m28, em28, h⟩ := ol h
                  refine m_st hX hn hw 3 (by decide) rfl c27 dL_looks_115 (fun H lc hw => ?_)
                  have hw := hm_eq em28 hw
                  refine lv_aload_n hx hb dL_looks_116 rfl (lv_at hl 4 rfl) ?_
                  refine lv_bipush (v := 13) hx hb dL_looks_117 (by decide) ?_
                  refine lv_aload_n hx hb dL_looks_119 rfl (lv_at hl 4 rfl) ?_
                  refine lv_bipush (v := 14) hx hb dL_looks_120 (by decide) ?_
                  obtain ⟨c29, h⟩ := og h
                  refine m_ld hX hn hw 3 (by decide) rfl c29 dL_looks_122 ?_
                  obtain ⟨c30, h⟩ := og h
                  obtain ⟨m31, em31, h⟩ := ol h
                  refine m_st hX hn hw 3 (by decide) rfl c30 dL_looks_123 (fun H lc hw => ?_)
                  have hw := hm_eq em31 hw
                  refine lv_aload_n hx hb dL_looks_124 rfl (lv_at hl 2 rfl) ?_
                  refine lv_aload_n hx hb dL_looks_125 rfl (lv_at hl 4 rfl) ?_
                  refine lv_bipush (v := 14) hx hb dL_looks_126 (by decide) ?_
                  obtain ⟨c32, h⟩ := og h
                  refine m_ld hX hn hw 3 (by decide) rfl c32 dL_looks_128 ?_
                  refine lv_iconst (v := 1) hx hb dL_looks_129 (by decide) ?_
                  obtain ⟨c33, h⟩ := og h
                  obtain ⟨m34, em34, h⟩ := ol h
                  refine m_st hX hn hw 1 (by decide) rfl c33 dL_looks_130 (fun H lc hw => ?_)
                  have hw := hm_eq em34 hw
                  refine lv_aload_n hx hb dL_looks_131 rfl (lv_at hl 3 rfl) ?_
                  refine lv_aload_n hx hb dL_looks_132 rfl (lv_at hl 4 rfl) ?_
                  refine lv_bipush (v := 14) hx hb dL_looks_133 (by decide) ?_
                  obtain ⟨c35, h⟩ := og h
                  refine m_ld hX hn hw 3 (by decide) rfl c35 dL_looks_135 ?_
                  refine lv_bipush (v := 16) hx hb dL_looks_136 (by decide) ?_
                  refine lv_iload hx hb dL_looks_138 (lv_at hl 1 rfl) ?_
                  refine lv_imul hx hb dL_looks_140 ?_
                  refine lv_bipush (v := 15) hx hb dL_looks_141 (by decide) ?_
                  refine lv_iadd hx hb dL_looks_143 ?_
                  obtain ⟨c36, h⟩ := og h
                  obtain ⟨m37, em37, h⟩ := ol h
                  refine m_st hX hn hw 2 (by decide) rfl c36 dL_looks_144 (fun H lc hw => ?_)
                  have hw := hm_eq em37 hw
                  refine lv_aload_n hx hb dL_looks_145 rfl (lv_at hl 4 rfl) ?_
                  refine lv_bipush (v := 14) hx hb dL_looks_146 (by decide) ?_
                  refine lv_dup2_11 hx hb dL_looks_148 rfl rfl ?_
                  obtain ⟨c38, h⟩ := og h
                  refine m_ld hX hn hw 3 (by decide) rfl c38 dL_looks_149 ?_
                  refine lv_iconst (v := 1) hx hb dL_looks_150 (by decide) ?_
                  refine lv_iadd hx hb dL_looks_151 ?_
                  obtain ⟨c39, h⟩ := og h
                  obtain ⟨m40, em40, h⟩ := ol h
                  refine m_st hX hn hw 3 (by decide) rfl c39 dL_looks_152 (fun H lc hw => ?_)
                  have hw := hm_eq em40 hw
                  refine lv_iconst (v := 0) hx hb dL_looks_153 (by decide) ?_
                  refine lv_istore (lv' := [(6, .int 0), (4, .int v22), (5, .int v20), (0, .ref (gmd g 1)), (1, .ref (gmd g 2)), (2, .ref (gmd g 3)), (3, .ref (gmd g 4))]) hx hb dL_looks_154 hl (by decide) rfl (fun ls hl => ?_)
                  obtain ⟨aj48, h1aj48, kaj48⟩ := ob1 h
                  have haj48 : ∀ (m47 : MS) (H : Heap) (lc : List Loc) (cn sn : Nat) (ls : Array Slot), aj48 = m47 → wH g s.heap.size (w, m47) H lc → lv_has ls 7 [(4, .int v22), (0, .ref (gmd g 1)), (1, .ref (gmd g 2)), (2, .ref (gmd g 3)), (3, .ref (gmd g 4))] → W p l e (rmO g 1 23 s.heap) s mi args below meth cd H lc cn sn Q (F0 mi 178 ls []) := by
                    intro m47 H lc cn sn ls h hw hl
                    replace h := kaj48 _ h
                    refine lv_goto (tgt := 193) hx hb dL_looks_178 (by decide) ?_
                    replace h := (Option.some.inj h).symm
                    replace h := raj52 _ h
                    exact haj54 _ _ _ _ _ _ h hw (lv_sub hl [0, 1, 2, 3, 4] rfl)
                  have hkj48 : ∀ (n : Nat) (v41 : Int32) (m42 : MS) (H : Heap) (lc : List Loc) (cn sn : Nat) (ls : Array Slot), x_L_looks_L3 n v41 m42 = some aj48 → wH g s.heap.size (w, m42) H lc → lv_has ls 7 [(6, .int v41), (4, .int v22), (0, .ref (gmd g 1)), (1, .ref (gmd g 2)), (2, .ref (gmd g 3)), (3, .ref (gmd g 4))] → W p l e (rmO g 1 23 s.heap) s mi args below meth cd H lc cn sn Q (F0 mi 156 ls []) := by
                    intro n
                    induction n with
                    | zero =>
                      intro v41 m42 H lc cn sn ls h
                      rw [x_L_looks_L3] at h
                      cases h
                    | succ n ih =>
                      intro v41 m42 H lc cn sn ls h hw hl
                      rw [x_L_looks_L3] at h
                      refine lv_iload hx hb dL_looks_156 (lv_at hl 0 rfl) ?_
                      refine lv_iconst (v := 3) hx hb dL_looks_158 (by decide) ?_
                      refine lv_icmp_ge (tgt := 178) hx hb dL_looks_159 (by decide) (fun c43 => ?_) (fun c43 => ?_)
                      · replace h := ot c43 h
                        replace h := (Option.some.inj h).symm
                        exact haj48 _ _ _ _ _ _ h hw (lv_sub hl [1, 2, 3, 4, 5] rfl)
                      · replace h := oe c43 h
                        refine lv_aload_n hx hb dL_looks_162 rfl (lv_at hl 5 rfl) ?_
                        refine lv_iconst (v := 3) hx hb dL_looks_163 (by decide) ?_
                        refine lv_iload hx hb dL_looks_164 (lv_at hl 0 rfl) ?_
                        refine lv_iadd hx hb dL_looks_166 ?_
                        refine lv_aload_n hx hb dL_looks_167 rfl (lv_at hl 5 rfl) ?_
                        refine lv_iload hx hb dL_looks_168 (lv_at hl 0 rfl) ?_
                        obtain ⟨c44, h⟩ := og h
                        refine m_ld hX hn hw 4 (by decide) rfl c44 dL_looks_170 ?_
                        obtain ⟨c45, h⟩ := og h
                        obtain ⟨m46, em46, h⟩ := ol h
                        refine m_st hX hn hw 4 (by decide) rfl c45 dL_looks_171 (fun H lc hw => ?_)
                        have hw := hm_eq em46 hw
                        refine lv_iinc (v := (v41 + 1)) (lv' := [(6, .int (v41 + 1)), (4, .int v22), (0, .ref (gmd g 1)), (1, .ref (gmd g 2)), (2, .ref (gmd g 3)), (3, .ref (gmd g 4))]) hx hb dL_looks_172 hl (k := 0) rfl (by rfl) (by decide) rfl (fun ls hl => ?_)
                        refine lv_goto (tgt := 156) hx hb dL_looks_175 (by decide) ?_
                        exact ih _ _ _ _ _ _ _ h hw (lv_sub hl [0, 1, 2, 3, 4, 5] rfl)
                  exact hkj48 FU 0 m40 _ _ _ _ _ h1aj48 hw (lv_sub hl [0, 1, 3, 4, 5, 6] rfl)
            replace h := h1aj55
            refine lv_if_lt (tgt := 86) hx hb dL_looks_79 (by decide) (fun c21 => ?_) (fun c21 => ?_)
            · replace h := ot c21 h
              refine lv_iconst (v := 0) hx hb dL_looks_86 (by decide) ?_
              replace h := (Option.some.inj h).symm
              exact haj55 _ _ _ _ _ _ h hw (lv_sub hl [0, 1, 2, 3, 4] rfl)
            · replace h := oe c21 h
              refine lv_iconst (v := 1) hx hb dL_looks_82 (by decide) ?_
              refine lv_goto (tgt := 87) hx hb dL_looks_83 (by decide) ?_
              replace h := (Option.some.inj h).symm
              exact haj55 _ _ _ _ _ _ h hw (lv_sub hl [0, 1, 2, 3, 4] rfl)
          have hkj56 : ∀ (n : Nat) (v7 : Int32) (v8 : Int32) (H : Heap) (lc : List Loc) (cn sn : Nat) (ls : Array Slot), x_L_looks_L2 m2 n v7 v8 = some aj56 → wH g s.heap.size (w, m2) H lc → lv_has ls 7 [(6, .int v7), (5, .int v8), (0, .ref (gmd g 1)), (1, .ref (gmd g 2)), (2, .ref (gmd g 3)), (3, .ref (gmd g 4))] → W p l e (rmO g 1 23 s.heap) s mi args below meth cd H lc cn sn Q (F0 mi 22 ls []) := by
            intro n
            induction n with
            | zero =>
              intro v7 v8 H lc cn sn ls h
              rw [x_L_looks_L2] at h
              cases h
            | succ n ih =>
              intro v7 v8 H lc cn sn ls h hw hl
              rw [x_L_looks_L2] at h
              refine lv_iload hx hb dL_looks_22 (lv_at hl 0 rfl) ?_
              refine lv_iconst (v := 4) hx hb dL_looks_24 (by decide) ?_
              refine lv_icmp_ge (tgt := 77) hx hb dL_looks_25 (by decide) (fun c9 => ?_) (fun c9 => ?_)
              · replace h := ot c9 h
                replace h := (Option.some.inj h).symm
                exact haj56 _ _ _ _ _ _ h hw (lv_sub hl [1, 2, 3, 4, 5] rfl)
              · replace h := oe c9 h
                refine lv_aload_n hx hb dL_looks_28 rfl (lv_at hl 4 rfl) ?_
                refine lv_iconst (v := 3) hx hb dL_looks_29 (by decide) ?_
                refine lv_iload hx hb dL_looks_30 (lv_at hl 0 rfl) ?_
                refine lv_imul hx hb dL_looks_32 ?_
                obtain ⟨c10, h⟩ := og h
                refine m_ld hX hn hw 3 (by decide) rfl c10 dL_looks_33 ?_
                refine lv_iconst (v := 3) hx hb dL_looks_34 (by decide) ?_
                obtain ⟨aj19, h1aj19, kaj19⟩ := ob1 h
                have haj19 : ∀ (v18 : Int32) (H : Heap) (lc : List Loc) (cn sn : Nat) (ls : Array Slot), aj19 = v18 → wH g s.heap.size (w, m2) H lc → lv_has ls 7 [(6, .int v7), (0, .ref (gmd g 1)), (1, .ref (gmd g 2)), (2, .ref (gmd g 3)), (3, .ref (gmd g 4))] → W p l e (rmO g 1 23 s.heap) s mi args below meth cd H lc cn sn Q (F0 mi 69 ls [.int v18]) := by
                  intro v18 H lc cn sn ls h hw hl
                  replace h := kaj19 _ h
                  refine lv_istore (lv' := [(5, .int v18), (6, .int v7), (0, .ref (gmd g 1)), (1, .ref (gmd g 2)), (2, .ref (gmd g 3)), (3, .ref (gmd g 4))]) hx hb dL_looks_69 hl (by decide) rfl (fun ls hl => ?_)
                  refine lv_iinc (v := (v7 + 1)) (lv' := [(6, .int (v7 + 1)), (5, .int v18), (0, .ref (gmd g 1)), (1, .ref (gmd g 2)), (2, .ref (gmd g 3)), (3, .ref (gmd g 4))]) hx hb dL_looks_71 hl (k := 1) rfl (by rfl) (by decide) rfl (fun ls hl => ?_)
                  refine lv_goto (tgt := 22) hx hb dL_looks_74 (by decide) ?_
                  exact ih _ _ _ _ _ _ _ h hw (lv_sub hl [0, 1, 2, 3, 4, 5] rfl)
                replace h := h1aj19
                obtain ⟨aj17, h1aj17, kaj17, raj17⟩ := ol0 h
                have haj17 : ∀ (H : Heap) (lc : List Loc) (cn sn : Nat) (ls : Array Slot), aj17 = Sum.inl () → wH g s.heap.size (w, m2) H lc → lv_has ls 7 [(6, .int v7), (5, .int v8), (0, .ref (gmd g 1)), (1, .ref (gmd g 2)), (2, .ref (gmd g 3)), (3, .ref (gmd g 4))] → W p l e (rmO g 1 23 s.heap) s mi args below meth cd H lc cn sn Q (F0 mi 67 ls []) := by
                  intro H lc cn sn ls h hw hl
                  replace h := kaj17 h
                  refine lv_iload hx hb dL_looks_67 (lv_at hl 1 rfl) ?_
                  replace h := (Option.some.inj h).symm
                  exact haj19 _ _ _ _ _ _ h hw (lv_sub hl [0, 2, 3, 4, 5] rfl)
                replace h := h1aj17
                refine lv_icmp_ne (tgt := 67) hx hb dL_looks_35 (by decide) (fun c11 => ?_) (fun c11 => ?_)
                · replace h := oe c11 h
                  replace h := (Option.some.inj h).symm
                  exact haj17 _ _ _ _ _ h hw (lv_sub hl [0, 1, 2, 3, 4, 5] rfl)
                · replace h := ot c11 h
                  refine lv_iload hx hb dL_looks_38 (lv_at hl 1 rfl) ?_
                  obtain ⟨aj16, h1aj16, kaj16, raj16⟩ := ol0 h
                  have haj16 : ∀ (H : Heap) (lc : List Loc) (cn sn : Nat) (ls : Array Slot), aj16 = Sum.inl () → wH g s.heap.size (w, m2) H lc → lv_has ls 7 [(6, .int v7), (0, .ref (gmd g 1)), (1, .ref (gmd g 2)), (2, .ref (gmd g 3)), (3, .ref (gmd g 4))] → W p l e (rmO g 1 23 s.heap) s mi args below meth cd H lc cn sn Q (F0 mi 62 ls []) := by
                    intro H lc cn sn ls h hw hl
                    replace h := kaj16 h
                    refine lv_iload hx hb dL_looks_62 (lv_at hl 0 rfl) ?_
                    refine lv_goto (tgt := 69) hx hb dL_looks_64 (by decide) ?_
                    replace h := (Option.some.inj h).symm
                    replace h := raj17 _ h
                    exact haj19 _ _ _ _ _ _ h hw (lv_sub hl [0, 1, 2, 3, 4] rfl)
                  replace h := h1aj16
                  refine lv_if_lt (tgt := 62) hx hb dL_looks_40 (by decide) (fun c12 => ?_) (fun c12 => ?_)
                  · replace h := ot c12 h
                    replace h := (Option.some.inj h).symm
                    exact haj16 _ _ _ _ _ h hw (lv_sub hl [0, 2, 3, 4, 5] rfl)
                  · replace h := oe c12 h
                    refine lv_aload_n hx hb dL_looks_43 rfl (lv_at hl 4 rfl) ?_
                    refine lv_iconst (v := 3) hx hb dL_looks_44 (by decide) ?_
                    refine lv_iload hx hb dL_looks_45 (lv_at hl 0 rfl) ?_
                    refine lv_imul hx hb dL_looks_47 ?_
                    refine lv_iconst (v := 2) hx hb dL_looks_48 (by decide) ?_
                    refine lv_iadd hx hb dL_looks_49 ?_
                    obtain ⟨c13, h⟩ := og h
                    refine m_ld hX hn hw 3 (by decide) rfl c13 dL_looks_50 ?_
                    refine lv_aload_n hx hb dL_looks_51 rfl (lv_at hl 4 rfl) ?_
                    refine lv_iconst (v := 3) hx hb dL_looks_52 (by decide) ?_
                    refine lv_iload hx hb dL_looks_53 (lv_at hl 1 rfl) ?_
                    refine lv_imul hx hb dL_looks_55 ?_
                    refine lv_iconst (v := 2) hx hb dL_looks_56 (by decide) ?_
                    refine lv_iadd hx hb dL_looks_57 ?_
                    obtain ⟨c14, h⟩ := og h
                    refine m_ld hX hn hw 3 (by decide) rfl c14 dL_looks_58 ?_
                    refine lv_icmp_ge (tgt := 67) hx hb dL_looks_59 (by decide) (fun c15 => ?_) (fun c15 => ?_)
                    · replace h := ot c15 h
                      replace h := (Option.some.inj h).symm
                      replace h := raj16 _ h
                      exact haj17 _ _ _ _ _ h hw (lv_sub hl [0, 1, 2, 3, 4, 5] rfl)
                    · replace h := oe c15 h
                      replace h := (Option.some.inj h).symm
                      exact haj16 _ _ _ _ _ h hw (lv_sub hl [0, 2, 3, 4, 5] rfl)
          exact hkj56 FU 0 (-1) _ _ _ _ _ h1aj56 hw (lv_sub hl [0, 1, 3, 4, 5, 6] rfl)
  exact hkj58 FU 1 mm _ _ _ _ _ h1aj58 hw (lv_sub hl [0, 1, 2, 3, 4] rfl)

def x_L_aborts_L1 : Nat → Int32 → MS → Option (MS)
  | 0, _, _ => none
  | n + 1, v9, m10 =>
    if (3 : Int32) ≤ v9 then
      some m10
    else
      if vR (3 + v9) 6 then
      if vR v9 6 then
      bs (sa m10 4 v9.toNatClampNeg (ga m10 4 (3 + v9).toNatClampNeg)) (fun (m14 : MS) =>
      x_L_aborts_L1 n (v9 + 1) m14)
      else none
      else none
def x_L_aborts (p3 : Int32) (p4 : Int32) (mm : MS) : Option (MS) :=
  if vR p3 60 then
  bs (sa mm 1 p3.toNatClampNeg 3) (fun (m2 : MS) =>
  if vR 13 16 then
  bd (
    if (p3 : Int32) = (ga m2 3 (13 : Int32).toNatClampNeg) then
      if vR 13 16 then
      bs (sa m2 3 (13 : Int32).toNatClampNeg (-1)) (fun (m6 : MS) =>
      if vR (3 * p4) 16 then
      bs (sa m6 3 (3 * p4).toNatClampNeg 0) (fun (m8 : MS) =>
      bd (x_L_aborts_L1 FU 0 m8) (fun (m15 : MS) =>
      some m15))
      else none)
      else none
    else
      some m2) (fun (m17 : MS) =>
  some (m17))
  else none)
  else none
set_option maxHeartbeats 4000000 in
set_option maxRecDepth 100000 in
theorem c_L_aborts (g : GG) (l : Launch) (hG : XG g) (hC : NC g) (hst : l.stackTraces = false) (hn : gnn g 4 = 1) {b L : Nat} {xs : Nat → Int32} (hS : SCG g b L xs) (p3 : Int32) (p4 : Int32) (w : CS) (mm : MS) (mm' : MS) (h : x_L_aborts p3 p4 mm = some mm') : MetG g l yL_aborts wsL_aborts 0 0 [.ref (gmd g 1), .ref (gmd g 3), .ref (gmd g 4), .int p3, .int p4] (w, mm) (none) (w, mm') := by
  refine g_start_v (none) (own := RL) (by decide +kernel) rfl rfl (by simp [lg_sl, rv_cat, ct_i, ct_l, ct_r]) ?_
  intro p e s mi args below meth cd ls Q hX hnm hw hl hret
  have hl : lv_has ls 6 [(0, .ref (gmd g 1)), (1, .ref (gmd g 3)), (2, .ref (gmd g 4)), (3, .int p3), (4, .int p4)] := by simpa [lv_args, rv_cat, ct_i, ct_l, ct_r] using hl
  obtain ⟨⟨hx, hb, -, hown, hts⟩, -⟩ := id hX
  unfold x_L_aborts at h
  refine lv_aload_n hx hb dL_aborts_0 rfl (lv_at hl 0 rfl) ?_
  refine lv_iload_n hx hb dL_aborts_1 rfl (lv_at hl 3 rfl) ?_
  refine lv_iconst (v := 3) hx hb dL_aborts_2 (by decide) ?_
  obtain ⟨c1, h⟩ := og h
  obtain ⟨m2, em2, h⟩ := ol h
  refine m_st hX hn hw 1 (by decide) rfl c1 dL_aborts_3 (fun H lc hw => ?_)
  have hw := hm_eq em2 hw
  refine lv_iload_n hx hb dL_aborts_4 rfl (lv_at hl 3 rfl) ?_
  refine lv_aload_n hx hb dL_aborts_5 rfl (lv_at hl 1 rfl) ?_
  refine lv_bipush (v := 13) hx hb dL_aborts_6 (by decide) ?_
  obtain ⟨c3, h⟩ := og h
  refine m_ld hX hn hw 3 (by decide) rfl c3 dL_aborts_8 ?_
  obtain ⟨aj18, h1aj18, kaj18⟩ := ob1 h
  have haj18 : ∀ (m17 : MS) (H : Heap) (lc : List Loc) (cn sn : Nat) (ls : Array Slot), aj18 = m17 → wH g s.heap.size (w, m17) H lc → lv_has ls 6 [] → W p l e (rmO g 0 0 s.heap) s mi args below meth cd H lc cn sn Q (F0 mi 49 ls []) := by
    intro m17 H lc cn sn ls h hw hl
    replace h := kaj18 _ h
    replace h := (Option.some.inj h).symm
    subst h
    exact hret _ _ _ _ _ _ dL_aborts_49 hw rfl
  replace h := h1aj18
  refine lv_icmp_ne (tgt := 49) hx hb dL_aborts_9 (by decide) (fun c4 => ?_) (fun c4 => ?_)
  · replace h := oe c4 h
    replace h := (Option.some.inj h).symm
    exact haj18 _ _ _ _ _ _ h hw (lv_sub hl [] rfl)
  · replace h := ot c4 h
    refine lv_aload_n hx hb dL_aborts_12 rfl (lv_at hl 1 rfl) ?_
    refine lv_bipush (v := 13) hx hb dL_aborts_13 (by decide) ?_
    refine lv_iconst (v := (-1)) hx hb dL_aborts_15 (by decide) ?_
    obtain ⟨c5, h⟩ := og h
    obtain ⟨m6, em6, h⟩ := ol h
    refine m_st hX hn hw 3 (by decide) rfl c5 dL_aborts_16 (fun H lc hw => ?_)
    have hw := hm_eq em6 hw
    refine lv_aload_n hx hb dL_aborts_17 rfl (lv_at hl 1 rfl) ?_
    refine lv_iconst (v := 3) hx hb dL_aborts_18 (by decide) ?_
    refine lv_iload hx hb dL_aborts_19 (lv_at hl 4 rfl) ?_
    refine lv_imul hx hb dL_aborts_21 ?_
    refine lv_iconst (v := 0) hx hb dL_aborts_22 (by decide) ?_
    obtain ⟨c7, h⟩ := og h
    obtain ⟨m8, em8, h⟩ := ol h
    refine m_st hX hn hw 3 (by decide) rfl c7 dL_aborts_23 (fun H lc hw => ?_)
    have hw := hm_eq em8 hw
    refine lv_iconst (v := 0) hx hb dL_aborts_24 (by decide) ?_
    refine lv_istore (lv' := [(5, .int 0), (0, .ref (gmd g 1)), (1, .ref (gmd g 3)), (2, .ref (gmd g 4)), (3, .int p3), (4, .int p4)]) hx hb dL_aborts_25 hl (by decide) rfl (fun ls hl => ?_)
    obtain ⟨aj16, h1aj16, kaj16⟩ := ob1 h
    have haj16 : ∀ (m15 : MS) (H : Heap) (lc : List Loc) (cn sn : Nat) (ls : Array Slot), aj16 = m15 → wH g s.heap.size (w, m15) H lc → lv_has ls 6 [] → W p l e (rmO g 0 0 s.heap) s mi args below meth cd H lc cn sn Q (F0 mi 49 ls []) := by
      intro m15 H lc cn sn ls h hw hl
      replace h := kaj16 _ h
      replace h := (Option.some.inj h).symm
      exact haj18 _ _ _ _ _ _ h hw (lv_sub hl [] rfl)
    have hkj16 : ∀ (n : Nat) (v9 : Int32) (m10 : MS) (H : Heap) (lc : List Loc) (cn sn : Nat) (ls : Array Slot), x_L_aborts_L1 n v9 m10 = some aj16 → wH g s.heap.size (w, m10) H lc → lv_has ls 6 [(5, .int v9), (2, .ref (gmd g 4))] → W p l e (rmO g 0 0 s.heap) s mi args below meth cd H lc cn sn Q (F0 mi 27 ls []) := by
      intro n
      induction n with
      | zero =>
        intro v9 m10 H lc cn sn ls h
        rw [x_L_aborts_L1] at h
        cases h
      | succ n ih =>
        intro v9 m10 H lc cn sn ls h hw hl
        rw [x_L_aborts_L1] at h
        refine lv_iload hx hb dL_aborts_27 (lv_at hl 0 rfl) ?_
        refine lv_iconst (v := 3) hx hb dL_aborts_29 (by decide) ?_
        refine lv_icmp_ge (tgt := 49) hx hb dL_aborts_30 (by decide) (fun c11 => ?_) (fun c11 => ?_)
        · replace h := ot c11 h
          replace h := (Option.some.inj h).symm
          exact haj16 _ _ _ _ _ _ h hw (lv_sub hl [] rfl)
        · replace h := oe c11 h
          refine lv_aload_n hx hb dL_aborts_33 rfl (lv_at hl 1 rfl) ?_
          refine lv_iload hx hb dL_aborts_34 (lv_at hl 0 rfl) ?_
          refine lv_aload_n hx hb dL_aborts_36 rfl (lv_at hl 1 rfl) ?_
          refine lv_iconst (v := 3) hx hb dL_aborts_37 (by decide) ?_
          refine lv_iload hx hb dL_aborts_38 (lv_at hl 0 rfl) ?_
          refine lv_iadd hx hb dL_aborts_40 ?_
          obtain ⟨c12, h⟩ := og h
          refine m_ld hX hn hw 4 (by decide) rfl c12 dL_aborts_41 ?_
          obtain ⟨c13, h⟩ := og h
          obtain ⟨m14, em14, h⟩ := ol h
          refine m_st hX hn hw 4 (by decide) rfl c13 dL_aborts_42 (fun H lc hw => ?_)
          have hw := hm_eq em14 hw
          refine lv_iinc (v := (v9 + 1)) (lv' := [(5, .int (v9 + 1)), (2, .ref (gmd g 4))]) hx hb dL_aborts_43 hl (k := 0) rfl (by rfl) (by decide) rfl (fun ls hl => ?_)
          refine lv_goto (tgt := 27) hx hb dL_aborts_46 (by decide) ?_
          exact ih _ _ _ _ _ _ _ h hw (lv_sub hl [0, 1] rfl)
    exact hkj16 FU 0 m8 _ _ _ _ _ h1aj16 hw (lv_sub hl [0, 3] rfl)

def x_L_isSo_L1 (mm : MS) (p0 : Nat) (w30 : CS) : Nat → Int32 → Int32 → Option (Int32)
  | 0, _, _ => none
  | n + 1, v31, v32 =>
    if (4 : Int32) ≤ v31 then
      some v32
    else
      if (v32 : Int32) = 0 then
        some v32
      else
        if wJ w30 0 p0 = 6 then
        bn3 (x_X6_state p0 v31 w30) (fun (v37 : Int32) =>
        if vR (3 * v31) 16 then
        bd (
          if (v37 : Int32) = (ga mm 3 (3 * v31).toNatClampNeg) then
            some (1 : Int32)
          else
            some (0 : Int32)) (fun (v40 : Int32) =>
        x_L_isSo_L1 mm p0 w30 n (v31 + 1) v40)
        else none)
        else none
def x_L_isSo_L2 (mm : MS) (p0 : Nat) (w30 : CS) : Nat → Int32 → Int32 → Option (Int32)
  | 0, _, _ => none
  | n + 1, v43, v44 =>
    if vR 14 16 then
    if ((ga mm 3 (14 : Int32).toNatClampNeg) : Int32) ≤ v43 then
      some v44
    else
      if (v44 : Int32) = 0 then
        some v44
      else
        if wJ w30 0 p0 = 6 then
        bn3 (x_X6_standing p0 v43 w30) (fun (v50 : Int32) =>
        if vR v43 60 then
        bd (
          if (v50 : Int32) = (ga mm 1 v43.toNatClampNeg) then
            some (1 : Int32)
          else
            some (0 : Int32)) (fun (v53 : Int32) =>
        x_L_isSo_L2 mm p0 w30 n (v43 + 1) v53)
        else none)
        else none
    else none
def x_L_isSo (p0 : Nat) (w : CS) (mm : MS) : Option (Int32 × CS) :=
  if wJ w 0 p0 = 6 then
  bd (x_X6_version p0 w) (fun (v3 : Int32) =>
  if vR 12 16 then
  b2 (
    l1 (
      if (v3 : Int32) = (ga mm 3 (12 : Int32).toNatClampNeg) then
        bd (x_X6_upgrade p0 w) (fun (v7 : Int32) =>
        if vR 13 16 then
        if (v7 : Int32) = (ga mm 3 (13 : Int32).toNatClampNeg) then
          b2 (x_L_asks p0 0 4 w) (fun (v11 : Int32) (w12 : CS) =>
          if (v11 : Int32) = (-30) then
            b2 (x_L_asks p0 0 (-1) w12) (fun (v15 : Int32) (w16 : CS) =>
            if (v15 : Int32) = (-30) then
              if vR 14 16 then
              b2 (x_L_asks p0 1 (ga mm 3 (14 : Int32).toNatClampNeg) w16) (fun (v20 : Int32) (w21 : CS) =>
              if (v20 : Int32) = (-30) then
                b2 (x_L_asks p0 1 (-1) w21) (fun (v24 : Int32) (w25 : CS) =>
                if (v24 : Int32) = (-30) then
                  some (.inr (((1 : Int32), w25)))
                else
                  some (.inl w25))
              else
                some (.inl w21))
              else none
            else
              some (.inl w16))
          else
            some (.inl w12))
        else
          some (.inl w)
        else none)
      else
        some (.inl w)) (fun (w27 : CS) =>
    some ((0 : Int32), w27))) (fun (v29 : Int32) (w30 : CS) =>
  bd (x_L_isSo_L1 mm p0 w30 FU 0 v29) (fun (v42 : Int32) =>
  bd (x_L_isSo_L2 mm p0 w30 FU 0 v42) (fun (v55 : Int32) =>
  if isB v55 then
  some ((v55, w30))
  else none)))
  else none)
  else none
set_option maxHeartbeats 4000000 in
set_option maxRecDepth 100000 in
theorem c_L_isSo (g : GG) (l : Launch) (hG : XG g) (hC : NC g) (hst : l.stackTraces = false) (hn : gnn g 4 = 1) {b L : Nat} {xs : Nat → Int32} (hS : SCG g b L xs) (p0 : Nat) (w : CS) (mm : MS) (r : Int32) (w' : CS) (h : x_L_isSo p0 w mm = some (r, w')) : MetG g l yL_isSo wsL_isSo 9 147 [rv p0, .ref (gmd g 1), .ref (gmd g 3)] (w, mm) (some (.int r)) (w', mm) := by
  refine g_start_z (some (.int r)) (own := RL) (by decide +kernel) rfl rfl (by simp [lg_sl, rv_cat, ct_i, ct_l, ct_r]) ?_
  intro p e s mi args below meth cd ls Q hX hnm hw hl hret
  have hl : lv_has ls 5 [(0, rv p0), (1, .ref (gmd g 1)), (2, .ref (gmd g 3))] := by simpa [lv_args, rv_cat, ct_i, ct_l, ct_r] using hl
  obtain ⟨⟨hx, hb, -, hown, hts⟩, -⟩ := id hX
  unfold x_L_isSo at h
  refine t_aload_n hx hb dL_isSo_0 rfl (lv_at hl 0 rfl) ?_
  obtain ⟨c1, h⟩ := og h
  obtain ⟨v3, e2, h⟩ := ob h
  refine g_callVi (n := 0) (As := []) (rest := []) hX hw (c_X6_version g l hG hst mm p0 w v3 e2) gL_isSo_X6_version rfl (by decide +kernel) rfl (x_nz hw c1) (c_recv hX hw (ce_6 c1) rfl) hl.1 rfl (Nat.le_of_ble_eq_true rfl) ⟨by decide, by decide⟩ dL_isSo_1 (fun H lc cn sn hw => ?_)
  refine lv_aload_n hx hb dL_isSo_4 rfl (lv_at hl 2 rfl) ?_
  refine lv_bipush (v := 12) hx hb dL_isSo_5 (by decide) ?_
  obtain ⟨c4, h⟩ := og h
  refine m_ld hX hn hw 3 (by decide) rfl c4 dL_isSo_7 ?_
  obtain ⟨aj59, h1aj59, kaj59⟩ := ob2 h
  have haj59 : ∀ (v29 : Int32) (w30 : CS) (H : Heap) (lc : List Loc) (cn sn : Nat) (ls : Array Slot), aj59 = (v29, w30) → wH g s.heap.size (w30, mm) H lc → lv_has ls 5 [(0, rv p0), (1, .ref (gmd g 1)), (2, .ref (gmd g 3))] → W p l e (rmO g 9 147 s.heap) s mi args below meth cd H lc cn sn Q (F0 mi 74 ls [.int v29]) := by
    intro v29 w30 H lc cn sn ls h hw hl
    replace h := kaj59 _ _ h
    refine lv_istore_n (lv' := [(3, .int v29), (0, rv p0), (1, .ref (gmd g 1)), (2, .ref (gmd g 3))]) hx hb dL_isSo_74 rfl hl (by decide) (by simp [rv_cat, ct_i, ct_l, ct_r] <;> decide) (fun ls hl => ?_)
    refine lv_iconst (v := 0) hx hb dL_isSo_75 (by decide) ?_
    refine lv_istore (lv' := [(4, .int 0), (3, .int v29), (0, rv p0), (1, .ref (gmd g 1)), (2, .ref (gmd g 3))]) hx hb dL_isSo_76 hl (by decide) rfl (fun ls hl => ?_)
    obtain ⟨aj58, h1aj58, kaj58⟩ := ob1 h
    have haj58 : ∀ (v42 : Int32) (H : Heap) (lc : List Loc) (cn sn : Nat) (ls : Array Slot), aj58 = v42 → wH g s.heap.size (w30, mm) H lc → lv_has ls 5 [(3, .int v42), (0, rv p0), (1, .ref (gmd g 1)), (2, .ref (gmd g 3))] → W p l e (rmO g 9 147 s.heap) s mi args below meth cd H lc cn sn Q (F0 mi 115 ls []) := by
      intro v42 H lc cn sn ls h hw hl
      replace h := kaj58 _ h
      refine lv_iconst (v := 0) hx hb dL_isSo_115 (by decide) ?_
      refine lv_istore (lv' := [(4, .int 0), (3, .int v42), (0, rv p0), (1, .ref (gmd g 1)), (2, .ref (gmd g 3))]) hx hb dL_isSo_116 hl (by decide) rfl (fun ls hl => ?_)
      obtain ⟨aj57, h1aj57, kaj57⟩ := ob1 h
      have haj57 : ∀ (v55 : Int32) (H : Heap) (lc : List Loc) (cn sn : Nat) (ls : Array Slot), aj57 = v55 → wH g s.heap.size (w30, mm) H lc → lv_has ls 5 [(3, .int v55)] → W p l e (rmO g 9 147 s.heap) s mi args below meth cd H lc cn sn Q (F0 mi 156 ls []) := by
        intro v55 H lc cn sn ls h hw hl
        replace h := kaj57 _ h
        refine lv_iload_n hx hb dL_isSo_156 rfl (lv_at hl 0 rfl) ?_
        obtain ⟨c56, h⟩ := og h
        replace h := (Option.some.inj h).symm
        obtain ⟨rfl, rfl⟩ := Prod.mk.inj h
        exact hret _ _ _ _ _ _ _ dL_isSo_157 c56 hw rfl
      have hkj57 : ∀ (n : Nat) (v43 : Int32) (v44 : Int32) (H : Heap) (lc : List Loc) (cn sn : Nat) (ls : Array Slot), x_L_isSo_L2 mm p0 w30 n v43 v44 = some aj57 → wH g s.heap.size (w30, mm) H lc → lv_has ls 5 [(4, .int v43), (3, .int v44), (0, rv p0), (1, .ref (gmd g 1)), (2, .ref (gmd g 3))] → W p l e (rmO g 9 147 s.heap) s mi args below meth cd H lc cn sn Q (F0 mi 118 ls []) := by
        intro n
        induction n with
        | zero =>
          intro v43 v44 H lc cn sn ls h
          rw [x_L_isSo_L2] at h
          cases h
        | succ n ih =>
          intro v43 v44 H lc cn sn ls h hw hl
          rw [x_L_isSo_L2] at h
          refine lv_iload hx hb dL_isSo_118 (lv_at hl 0 rfl) ?_
          refine lv_aload_n hx hb dL_isSo_120 rfl (lv_at hl 4 rfl) ?_
          refine lv_bipush (v := 14) hx hb dL_isSo_121 (by decide) ?_
          obtain ⟨c45, h⟩ := og h
          refine m_ld hX hn hw 3 (by decide) rfl c45 dL_isSo_123 ?_
          refine lv_icmp_ge (tgt := 156) hx hb dL_isSo_124 (by decide) (fun c46 => ?_) (fun c46 => ?_)
          · replace h := ot c46 h
            replace h := (Option.some.inj h).symm
            exact haj57 _ _ _ _ _ _ h hw (lv_sub hl [1] rfl)
          · replace h := oe c46 h
            refine lv_iload_n hx hb dL_isSo_127 rfl (lv_at hl 1 rfl) ?_
            refine lv_if_eq (tgt := 156) hx hb dL_isSo_128 (by decide) (fun c47 => ?_) (fun c47 => ?_)
            · replace h := ot c47 h
              replace h := (Option.some.inj h).symm
              exact haj57 _ _ _ _ _ _ h hw (lv_sub hl [1] rfl)
            · replace h := oe c47 h
              refine t_aload_n hx hb dL_isSo_131 rfl (lv_at hl 2 rfl) ?_
              refine lv_iload hx hb dL_isSo_132 (lv_at hl 0 rfl) ?_
              obtain ⟨c48, h⟩ := og h
              obtain ⟨v50, e49, h⟩ := obn3 h
              refine x_callVNi (n := 1) (As := [.int v43]) (rest := []) hX hw (c_X6_standing g l hG hst mm p0 v43 w30 _ e49) gL_isSo_X6_standing rfl (by decide +kernel) rfl (x_nz hw c48) (c_recv hX hw (ce_6 c48) rfl) hl.1 rfl (Nat.le_of_ble_eq_true rfl) ⟨by decide, by decide⟩ dL_isSo_134 (fun H lc cn sn hw => ?_)
              have hw : wH g s.heap.size (w30, mm) H lc := hw
              refine lv_aload_n hx hb dL_isSo_137 rfl (lv_at hl 3 rfl) ?_
              refine lv_iload hx hb dL_isSo_138 (lv_at hl 0 rfl) ?_
              obtain ⟨c51, h⟩ := og h
              refine m_ld hX hn hw 1 (by decide) rfl c51 dL_isSo_140 ?_
              obtain ⟨aj54, h1aj54, kaj54⟩ := ob1 h
              have haj54 : ∀ (v53 : Int32) (H : Heap) (lc : List Loc) (cn sn : Nat) (ls : Array Slot), aj54 = v53 → wH g s.heap.size (w30, mm) H lc → lv_has ls 5 [(4, .int v43), (0, rv p0), (1, .ref (gmd g 1)), (2, .ref (gmd g 3))] → W p l e (rmO g 9 147 s.heap) s mi args below meth cd H lc cn sn Q (F0 mi 149 ls [.int v53]) := by
                intro v53 H lc cn sn ls h hw hl
                replace h := kaj54 _ h
                refine lv_istore_n (lv' := [(3, .int v53), (4, .int v43), (0, rv p0), (1, .ref (gmd g 1)), (2, .ref (gmd g 3))]) hx hb dL_isSo_149 rfl hl (by decide) (by simp [rv_cat, ct_i, ct_l, ct_r] <;> decide) (fun ls hl => ?_)
                refine lv_iinc (v := (v43 + 1)) (lv' := [(4, .int (v43 + 1)), (3, .int v53), (0, rv p0), (1, .ref (gmd g 1)), (2, .ref (gmd g 3))]) hx hb dL_isSo_150 hl (k := 1) rfl (by rfl) (by decide) rfl (fun ls hl => ?_)
                refine lv_goto (tgt := 118) hx hb dL_isSo_153 (by decide) ?_
                exact ih _ _ _ _ _ _ _ h hw (lv_sub hl [0, 1, 2, 3, 4] rfl)
              replace h := h1aj54
              refine lv_icmp_ne (tgt := 148) hx hb dL_isSo_141 (by decide) (fun c52 => ?_) (fun c52 => ?_)
              · replace h := oe c52 h
                refine lv_iconst (v := 0) hx hb dL_isSo_148 (by decide) ?_
                replace h := (Option.some.inj h).symm
                exact haj54 _ _ _ _ _ _ h hw (lv_sub hl [0, 2, 3, 4] rfl)
              · replace h := ot c52 h
                refine lv_iconst (v := 1) hx hb dL_isSo_144 (by decide) ?_
                refine lv_goto (tgt := 149) hx hb dL_isSo_145 (by decide) ?_
                replace h := (Option.some.inj h).symm
                exact haj54 _ _ _ _ _ _ h hw (lv_sub hl [0, 2, 3, 4] rfl)
      exact hkj57 FU 0 v42 _ _ _ _ _ h1aj57 hw (lv_sub hl [0, 1, 2, 3, 4] rfl)
    have hkj58 : ∀ (n : Nat) (v31 : Int32) (v32 : Int32) (H : Heap) (lc : List Loc) (cn sn : Nat) (ls : Array Slot), x_L_isSo_L1 mm p0 w30 n v31 v32 = some aj58 → wH g s.heap.size (w30, mm) H lc → lv_has ls 5 [(4, .int v31), (3, .int v32), (0, rv p0), (1, .ref (gmd g 1)), (2, .ref (gmd g 3))] → W p l e (rmO g 9 147 s.heap) s mi args below meth cd H lc cn sn Q (F0 mi 78 ls []) := by
      intro n
      induction n with
      | zero =>
        intro v31 v32 H lc cn sn ls h
        rw [x_L_isSo_L1] at h
        cases h
      | succ n ih =>
        intro v31 v32 H lc cn sn ls h hw hl
        rw [x_L_isSo_L1] at h
        refine lv_iload hx hb dL_isSo_78 (lv_at hl 0 rfl) ?_
        refine lv_iconst (v := 4) hx hb dL_isSo_80 (by decide) ?_
        refine lv_icmp_ge (tgt := 115) hx hb dL_isSo_81 (by decide) (fun c33 => ?_) (fun c33 => ?_)
        · replace h := ot c33 h
          replace h := (Option.some.inj h).symm
          exact haj58 _ _ _ _ _ _ h hw (lv_sub hl [1, 2, 3, 4] rfl)
        · replace h := oe c33 h
          refine lv_iload_n hx hb dL_isSo_84 rfl (lv_at hl 1 rfl) ?_
          refine lv_if_eq (tgt := 115) hx hb dL_isSo_85 (by decide) (fun c34 => ?_) (fun c34 => ?_)
          · replace h := ot c34 h
            replace h := (Option.some.inj h).symm
            exact haj58 _ _ _ _ _ _ h hw (lv_sub hl [1, 2, 3, 4] rfl)
          · replace h := oe c34 h
            refine t_aload_n hx hb dL_isSo_88 rfl (lv_at hl 2 rfl) ?_
            refine lv_iload hx hb dL_isSo_89 (lv_at hl 0 rfl) ?_
            obtain ⟨c35, h⟩ := og h
            obtain ⟨v37, e36, h⟩ := obn3 h
            refine x_callVNi (n := 1) (As := [.int v31]) (rest := []) hX hw (c_X6_state g l hG hst mm p0 v31 w30 _ e36) gL_isSo_X6_state rfl (by decide +kernel) rfl (x_nz hw c35) (c_recv hX hw (ce_6 c35) rfl) hl.1 rfl (Nat.le_of_ble_eq_true rfl) ⟨by decide, by decide⟩ dL_isSo_91 (fun H lc cn sn hw => ?_)
            have hw : wH g s.heap.size (w30, mm) H lc := hw
            refine lv_aload_n hx hb dL_isSo_94 rfl (lv_at hl 4 rfl) ?_
            refine lv_iconst (v := 3) hx hb dL_isSo_95 (by decide) ?_
            refine lv_iload hx hb dL_isSo_96 (lv_at hl 0 rfl) ?_
            refine lv_imul hx hb dL_isSo_98 ?_
            obtain ⟨c38, h⟩ := og h
            refine m_ld hX hn hw 3 (by decide) rfl c38 dL_isSo_99 ?_
            obtain ⟨aj41, h1aj41, kaj41⟩ := ob1 h
            have haj41 : ∀ (v40 : Int32) (H : Heap) (lc : List Loc) (cn sn : Nat) (ls : Array Slot), aj41 = v40 → wH g s.heap.size (w30, mm) H lc → lv_has ls 5 [(4, .int v31), (0, rv p0), (1, .ref (gmd g 1)), (2, .ref (gmd g 3))] → W p l e (rmO g 9 147 s.heap) s mi args below meth cd H lc cn sn Q (F0 mi 108 ls [.int v40]) := by
              intro v40 H lc cn sn ls h hw hl
              replace h := kaj41 _ h
              refine lv_istore_n (lv' := [(3, .int v40), (4, .int v31), (0, rv p0), (1, .ref (gmd g 1)), (2, .ref (gmd g 3))]) hx hb dL_isSo_108 rfl hl (by decide) (by simp [rv_cat, ct_i, ct_l, ct_r] <;> decide) (fun ls hl => ?_)
              refine lv_iinc (v := (v31 + 1)) (lv' := [(4, .int (v31 + 1)), (3, .int v40), (0, rv p0), (1, .ref (gmd g 1)), (2, .ref (gmd g 3))]) hx hb dL_isSo_109 hl (k := 1) rfl (by rfl) (by decide) rfl (fun ls hl => ?_)
              refine lv_goto (tgt := 78) hx hb dL_isSo_112 (by decide) ?_
              exact ih _ _ _ _ _ _ _ h hw (lv_sub hl [0, 1, 2, 3, 4] rfl)
            replace h := h1aj41
            refine lv_icmp_ne (tgt := 107) hx hb dL_isSo_100 (by decide) (fun c39 => ?_) (fun c39 => ?_)
            · replace h := oe c39 h
              refine lv_iconst (v := 0) hx hb dL_isSo_107 (by decide) ?_
              replace h := (Option.some.inj h).symm
              exact haj41 _ _ _ _ _ _ h hw (lv_sub hl [0, 2, 3, 4] rfl)
            · replace h := ot c39 h
              refine lv_iconst (v := 1) hx hb dL_isSo_103 (by decide) ?_
              refine lv_goto (tgt := 108) hx hb dL_isSo_104 (by decide) ?_
              replace h := (Option.some.inj h).symm
              exact haj41 _ _ _ _ _ _ h hw (lv_sub hl [0, 2, 3, 4] rfl)
    exact hkj58 FU 0 v29 _ _ _ _ _ h1aj58 hw (lv_sub hl [0, 1, 2, 3, 4] rfl)
  replace h := h1aj59
  obtain ⟨aj28, h1aj28, kaj28, raj28⟩ := ol1 h
  have haj28 : ∀ (w27 : CS) (H : Heap) (lc : List Loc) (cn sn : Nat) (ls : Array Slot), aj28 = Sum.inl w27 → wH g s.heap.size (w27, mm) H lc → lv_has ls 5 [(0, rv p0), (1, .ref (gmd g 1)), (2, .ref (gmd g 3))] → W p l e (rmO g 9 147 s.heap) s mi args below meth cd H lc cn sn Q (F0 mi 73 ls []) := by
    intro w27 H lc cn sn ls h hw hl
    replace h := kaj28 _ h
    refine lv_iconst (v := 0) hx hb dL_isSo_73 (by decide) ?_
    replace h := (Option.some.inj h).symm
    exact haj59 _ _ _ _ _ _ _ h hw (lv_sub hl [0, 1, 2] rfl)
  replace h := h1aj28
  refine lv_icmp_ne (tgt := 73) hx hb dL_isSo_8 (by decide) (fun c5 => ?_) (fun c5 => ?_)
  · replace h := oe c5 h
    replace h := (Option.some.inj h).symm
    exact haj28 _ _ _ _ _ _ h hw (lv_sub hl [0, 1, 2] rfl)
  · replace h := ot c5 h
    refine t_aload_n hx hb dL_isSo_11 rfl (lv_at hl 0 rfl) ?_
    obtain ⟨v7, e6, h⟩ := ob h
    refine g_callVi (n := 0) (As := []) (rest := []) hX hw (c_X6_upgrade g l hG hst mm p0 w v7 e6) gL_isSo_X6_upgrade rfl (by decide +kernel) rfl (x_nz hw c1) (c_recv hX hw (ce_6 c1) rfl) hl.1 rfl (Nat.le_of_ble_eq_true rfl) ⟨by decide, by decide⟩ dL_isSo_12 (fun H lc cn sn hw => ?_)
    refine lv_aload_n hx hb dL_isSo_15 rfl (lv_at hl 2 rfl) ?_
    refine lv_bipush (v := 13) hx hb dL_isSo_16 (by decide) ?_
    obtain ⟨c8, h⟩ := og h
    refine m_ld hX hn hw 3 (by decide) rfl c8 dL_isSo_18 ?_
    refine lv_icmp_ne (tgt := 73) hx hb dL_isSo_19 (by decide) (fun c9 => ?_) (fun c9 => ?_)
    · replace h := oe c9 h
      replace h := (Option.some.inj h).symm
      exact haj28 _ _ _ _ _ _ h hw (lv_sub hl [0, 1, 2] rfl)
    · replace h := ot c9 h
      refine t_aload_n hx hb dL_isSo_22 rfl (lv_at hl 0 rfl) ?_
      refine lv_iconst (v := 0) hx hb dL_isSo_23 (by decide) ?_
      refine lv_iconst (v := 4) hx hb dL_isSo_24 (by decide) ?_
      obtain ⟨v11, w12, e10, h⟩ := oc2 h
      refine g_callSWi (n := 3) (As := [rv p0, .int 0, .int 4]) (rest := []) hX hw (c_L_asks g l hG hC hst mm p0 0 4 w v11 w12 e10) gL_isSo_L_asks rfl (by decide +kernel) rfl hl.1 rfl (Nat.le_of_ble_eq_true rfl) ⟨by decide, by decide⟩ dL_isSo_25 (fun H lc cn sn hw => ?_)
      refine lv_bipush (v := (-30)) hx hb dL_isSo_28 (by decide) ?_
      refine lv_icmp_ne (tgt := 73) hx hb dL_isSo_30 (by decide) (fun c13 => ?_) (fun c13 => ?_)
      · replace h := oe c13 h
        replace h := (Option.some.inj h).symm
        exact haj28 _ _ _ _ _ _ h hw (lv_sub hl [0, 1, 2] rfl)
      · replace h := ot c13 h
        refine t_aload_n hx hb dL_isSo_33 rfl (lv_at hl 0 rfl) ?_
        refine lv_iconst (v := 0) hx hb dL_isSo_34 (by decide) ?_
        refine lv_iconst (v := (-1)) hx hb dL_isSo_35 (by decide) ?_
        obtain ⟨v15, w16, e14, h⟩ := oc2 h
        refine g_callSWi (n := 3) (As := [rv p0, .int 0, .int (-1)]) (rest := []) hX hw (c_L_asks g l hG hC hst mm p0 0 (-1) w12 v15 w16 e14) gL_isSo_L_asks rfl (by decide +kernel) rfl hl.1 rfl (Nat.le_of_ble_eq_true rfl) ⟨by decide, by decide⟩ dL_isSo_36 (fun H lc cn sn hw => ?_)
        refine lv_bipush (v := (-30)) hx hb dL_isSo_39 (by decide) ?_
        refine lv_icmp_ne (tgt := 73) hx hb dL_isSo_41 (by decide) (fun c17 => ?_) (fun c17 => ?_)
        · replace h := oe c17 h
          replace h := (Option.some.inj h).symm
          exact haj28 _ _ _ _ _ _ h hw (lv_sub hl [0, 1, 2] rfl)
        · replace h := ot c17 h
          refine t_aload_n hx hb dL_isSo_44 rfl (lv_at hl 0 rfl) ?_
          refine lv_iconst (v := 1) hx hb dL_isSo_45 (by decide) ?_
          refine lv_aload_n hx hb dL_isSo_46 rfl (lv_at hl 2 rfl) ?_
          refine lv_bipush (v := 14) hx hb dL_isSo_47 (by decide) ?_
          obtain ⟨c18, h⟩ := og h
          refine m_ld hX hn hw 3 (by decide) rfl c18 dL_isSo_49 ?_
          obtain ⟨v20, w21, e19, h⟩ := oc2 h
          refine g_callSWi (n := 3) (As := [rv p0, .int 1, .int (ga mm 3 (14 : Int32).toNatClampNeg)]) (rest := []) hX hw (c_L_asks g l hG hC hst mm p0 1 (ga mm 3 (14 : Int32).toNatClampNeg) w16 v20 w21 e19) gL_isSo_L_asks rfl (by decide +kernel) rfl hl.1 rfl (Nat.le_of_ble_eq_true rfl) ⟨by decide, by decide⟩ dL_isSo_50 (fun H lc cn sn hw => ?_)
          refine lv_bipush (v := (-30)) hx hb dL_isSo_53 (by decide) ?_
          refine lv_icmp_ne (tgt := 73) hx hb dL_isSo_55 (by decide) (fun c22 => ?_) (fun c22 => ?_)
          · replace h := oe c22 h
            replace h := (Option.some.inj h).symm
            exact haj28 _ _ _ _ _ _ h hw (lv_sub hl [0, 1, 2] rfl)
          · replace h := ot c22 h
            refine t_aload_n hx hb dL_isSo_58 rfl (lv_at hl 0 rfl) ?_
            refine lv_iconst (v := 1) hx hb dL_isSo_59 (by decide) ?_
            refine lv_iconst (v := (-1)) hx hb dL_isSo_60 (by decide) ?_
            obtain ⟨v24, w25, e23, h⟩ := oc2 h
            refine g_callSWi (n := 3) (As := [rv p0, .int 1, .int (-1)]) (rest := []) hX hw (c_L_asks g l hG hC hst mm p0 1 (-1) w21 v24 w25 e23) gL_isSo_L_asks rfl (by decide +kernel) rfl hl.1 rfl (Nat.le_of_ble_eq_true rfl) ⟨by decide, by decide⟩ dL_isSo_61 (fun H lc cn sn hw => ?_)
            refine lv_bipush (v := (-30)) hx hb dL_isSo_64 (by decide) ?_
            refine lv_icmp_ne (tgt := 73) hx hb dL_isSo_66 (by decide) (fun c26 => ?_) (fun c26 => ?_)
            · replace h := oe c26 h
              replace h := (Option.some.inj h).symm
              exact haj28 _ _ _ _ _ _ h hw (lv_sub hl [0, 1, 2] rfl)
            · replace h := ot c26 h
              refine lv_iconst (v := 1) hx hb dL_isSo_69 (by decide) ?_
              refine lv_goto (tgt := 74) hx hb dL_isSo_70 (by decide) ?_
              replace h := (Option.some.inj h).symm
              replace h := raj28 _ h
              exact haj59 _ _ _ _ _ _ _ h hw (lv_sub hl [0, 1, 2] rfl)
