/-! ===== the constructors (printed by gen2.py); nest mates' constructors ===== -/
def NG (g : GG) : Prop := ∀ s : State, gP g s → va_Nw (.methodLinkNest RX6 44 yX4_init RX6) s ∧ va_Nw (.methodLinkNest RX6 45 yX3_init RX6) s
theorem g_callIN {p : Program} {l : Launch} {e : Env} {s : State} {m : MethodId} {args : Array Value} {below : List Frame} {meth : Method} {c0 : Code} {H : Heap} {locs : List Loc} {cells slots : Nat} {Q : State → Prop} {cc : ByteArray} {pc : Nat} {ls : Array Slot} {rest st0 As : List Value} {g : GG} {T T' : TW} {Ts ws ws' : List Cond} {nL n index maxL fr lo fr' lo' x : Nat} {own host : String} {ret : Option FieldType} {y : MethodName} {bytes : ByteArray} {v : Option Value}
    (hX : MX g own p s m args c0 cc nL Ts meth ret) (hw : wH g s.heap.size T H locs) (hM : MetG g l y ws fr' lo' (rv x :: As) T v T') (hG : GoodIn Ts ws) (hwc : ws = Cond.code y bytes maxL none :: ws')
    (hd : y.cls ≠ "java/lang/invoke/MethodHandle" ∧ y.cls ≠ "java/lang/invoke/VarHandle" ∧ (parseMethodDescriptor y.desc).map (fun d => d.parameters.length) = some n) (hn : As.length = n) (hx0 : x ≠ 0) (hini : Cond.initialized y.cls ∈ Ts) (hlk : va_Nw (.methodLinkNest own index y host) s) (hins : Cond.instanceMethod y ∈ Ts) (hnm : y.name = "<init>") (hsz : ls.size = nL) (hst : st0 = As.reverse ++ rv x :: rest) (hr8 : (rest.map fun v => v.category).sum ≤ 8)
    (hR : fr' + 1 ≤ fr ∧ 8 + (maxL + 11) + lo' ≤ lo) (hdg : decode cc pc = .ok (.invokespecial index, 3))
    (kk : ∀ (H1 : Heap) (locs1 : List Loc) (cells slots : Nat), wH g s.heap.size T' H1 locs1 → W p l e (rmO g fr lo s.heap) s m args below meth c0 H1 locs1 cells slots Q (F0 m (pc + 3) ls (v.toList ++ rest))) : W p l e (rmO g fr lo s.heap) s m args below meth c0 H locs cells slots Q (F0 m pc ls st0) := by
  rw [rv_ref hx0] at hM hst
  obtain ⟨⟨hx, hb, hml, hown, hts⟩, hK, -⟩ := hX
  refine tw_tight fun c' s' hc hs' hz hzs => ?_
  obtain ⟨w1, w2, w3, ⟨w4, w5, w6, w7, w8⟩, w10⟩ := id hw
  exact tw_go (b := 0) hw (va_runIN (As := As) (rest := rest) ⟨hx, hb, hml, hown, hts⟩ (hM H.size (hsl H)) ⟨va_cnB n hts hG hwc rfl rfl hlk (hts _ hini) hd hR, hnm, hts _ hins⟩ ⟨pcO_blind _ _ _ _ _, fun U hU hW => ⟨rfl, by rw [hU], by rw [hU], by rw [hU]; exact wH_up hw, TB.moved hW hK⟩⟩ rfl hn hsz hst (lv_room hr8) hdg ⟨sub_ok hz (by omega) hc, sub_ok hzs (by omega) hs'⟩) kk
def x_X4_init (o : Nat) (w : CS) : Option (CS) :=
  if wJ w 0 o = 4 then
  bs (sI w 160 o 0) (fun (w2 : CS) =>
  if wJ w2 0 o = 4 then
  bs (sI w2 161 o 0) (fun (w4 : CS) =>
  if wJ w4 0 o = 4 then
  bs (sI w4 162 o 0) (fun (w6 : CS) =>
  some (w6))
  else none)
  else none)
  else none
set_option maxHeartbeats 4000000 in
set_option maxRecDepth 100000 in
theorem c_X4_init (g : GG) (l : Launch) (hG : XG g) (hst : l.stackTraces = false) (mm : MS) (o : Nat) (w : CS) (w' : CS) (h : x_X4_init o w = some w') : MetG g l yX4_init wsX4_init 1 12 [rv o] (w, mm) (none) (w', mm) := by
  refine g_start_v (none) (own := RX4) (by decide +kernel) rfl rfl (by simp [lg_sl, rv_cat, ct_i, ct_l]) ?_
  intro p e s mi args below meth cd ls Q hX hnm hw hl hret
  have hl : lv_has ls 1 [(0, rv o)] := by simpa [lv_args, rv_cat, ct_i, ct_l] using hl
  obtain ⟨⟨hx, hb, -, hown, hts⟩, -⟩ := id hX
  unfold x_X4_init at h
  refine t_aload_n hx hb dX4_init_0 rfl (lv_at hl 0 rfl) ?_
  obtain ⟨c1, h⟩ := og h
  refine c_oinit hX (x_nz hw c1) (by decide +kernel) (by decide +kernel) (by decide +kernel) hl.1 dX4_init_1 ⟨by decide, by simp [rv_cat, ct_i, ct_l]⟩ ?_
  refine t_aload_n hx hb dX4_init_4 rfl (lv_at hl 0 rfl) ?_
  refine lv_iconst (v := 0) hx hb dX4_init_5 (by decide) ?_
  obtain ⟨w2, ew2, h⟩ := ol h
  refine p_4_0 hX hw c1 (by decide +kernel) (by decide +kernel) dX4_init_6 (fun H lc hw => ?_)
  have hw := hw_eq ew2 hw
  refine t_aload_n hx hb dX4_init_9 rfl (lv_at hl 0 rfl) ?_
  refine lv_iconst (v := 0) hx hb dX4_init_10 (by decide) ?_
  obtain ⟨c3, h⟩ := og h
  obtain ⟨w4, ew4, h⟩ := ol h
  refine p_4_1 hX hw c3 (by decide +kernel) (by decide +kernel) dX4_init_11 (fun H lc hw => ?_)
  have hw := hw_eq ew4 hw
  refine t_aload_n hx hb dX4_init_14 rfl (lv_at hl 0 rfl) ?_
  refine lv_iconst (v := 0) hx hb dX4_init_15 (by decide) ?_
  obtain ⟨c5, h⟩ := og h
  obtain ⟨w6, ew6, h⟩ := ol h
  refine p_4_2 hX hw c5 (by decide +kernel) (by decide +kernel) dX4_init_16 (fun H lc hw => ?_)
  have hw := hw_eq ew6 hw
  replace h := (Option.some.inj h).symm
  subst h
  exact hret _ _ _ _ _ _ dX4_init_19 hw rfl

def x_X3_init (o : Nat) (w : CS) : Option (CS) :=
  if wJ w 0 o = 5 then
  if isB 0 then
  bs (sI w 200 o 0) (fun (w3 : CS) =>
  if ¬ (2 : Int32) < 0 ∧ (2 : Int32).toNatClampNeg ≤ 1000 then
  if 1 ≤ wl w3 ∧ (2 : Int32).toNatClampNeg ≤ wk w3 then
  bs (nw w3 8 (2 : Int32).toNatClampNeg (2 : Int32).toNatClampNeg) (fun (w6 : CS) =>
  if wJ w6 0 o = 5 then
  bs (sJ w6 201 o (wz w3 + 1)) (fun (w8 : CS) =>
  if 1 ≤ wl w8 ∧ 3 ≤ wk w8 then
  bs (nw w8 7 0 3) (fun (w10 : CS) =>
  if wJ w10 0 (wz w8 + 1) = 7 then
  bd (x_Jx4a65c_init_da8c8 (wz w8 + 1) w10) (fun (w13 : CS) =>
  if wJ w13 0 o = 5 then
  bs (sJ w13 202 o (wz w8 + 1)) (fun (w15 : CS) =>
  some (w15))
  else none)
  else none)
  else none)
  else none)
  else none
  else none)
  else none
  else none
set_option maxHeartbeats 4000000 in
set_option maxRecDepth 100000 in
theorem c_X3_init (g : GG) (l : Launch) (hG : XG g) (hst : l.stackTraces = false) (mm : MS) (o : Nat) (w : CS) (w' : CS) (h : x_X3_init o w = some w') : MetG g l yX3_init wsX3_init 4 72 [rv o] (w, mm) (none) (w', mm) := by
  refine g_start_v (none) (own := RX3) (by decide +kernel) rfl rfl (by simp [lg_sl, rv_cat, ct_i, ct_l]) ?_
  intro p e s mi args below meth cd ls Q hX hnm hw hl hret
  have hl : lv_has ls 1 [(0, rv o)] := by simpa [lv_args, rv_cat, ct_i, ct_l] using hl
  obtain ⟨⟨hx, hb, -, hown, hts⟩, -⟩ := id hX
  unfold x_X3_init at h
  refine t_aload_n hx hb dX3_init_0 rfl (lv_at hl 0 rfl) ?_
  obtain ⟨c1, h⟩ := og h
  refine c_oinit hX (x_nz hw c1) (by decide +kernel) (by decide +kernel) (by decide +kernel) hl.1 dX3_init_1 ⟨by decide, by simp [rv_cat, ct_i, ct_l]⟩ ?_
  refine t_aload_n hx hb dX3_init_4 rfl (lv_at hl 0 rfl) ?_
  refine lv_iconst (v := 0) hx hb dX3_init_5 (by decide) ?_
  obtain ⟨c2, h⟩ := og h
  obtain ⟨w3, ew3, h⟩ := ol h
  refine p_5_0 hX hw c1 c2 (by decide +kernel) (by decide +kernel) dX3_init_6 (fun H lc hw => ?_)
  have hw := hw_eq ew3 hw
  refine t_aload_n hx hb dX3_init_9 rfl (lv_at hl 0 rfl) ?_
  refine lv_iconst (v := 2) hx hb dX3_init_10 (by decide) ?_
  obtain ⟨c4, h⟩ := og h
  obtain ⟨c5, h⟩ := og h
  obtain ⟨w6, ew6, h⟩ := ol h
  refine n_arrI hX hw (by decide +kernel) c4 c5 dX3_init_11 (fun H cn sn hw => ?_)
  have hw := hw_eq ew6 hw
  obtain ⟨c7, h⟩ := og h
  obtain ⟨w8, ew8, h⟩ := ol h
  refine p_5_1 hX hw c7 hnm rfl (by decide +kernel) (by decide +kernel) dX3_init_13 (fun H lc hw => ?_)
  have hw := hw_eq ew8 hw
  refine t_aload_n hx hb dX3_init_16 rfl (lv_at hl 0 rfl) ?_
  obtain ⟨c9, h⟩ := og h
  obtain ⟨w10, ew10, h⟩ := ol h
  refine n_7 hX hw (by decide +kernel) (by decide +kernel) (by decide +kernel) (by decide +kernel) c9 dX3_init_17 (fun H cn sn hw => ?_)
  have hw := hw_eq ew10 hw
  refine lv_dup hx hb dX3_init_20 (rv_cat _) ?_
  obtain ⟨c11, h⟩ := og h
  obtain ⟨w13, e12, h⟩ := ob h
  refine g_callI (n := 0) (As := []) (rest := [rv (wz w8 + 1), rv o]) hX hw (c_Jx4a65c_init_da8c8 g l hG hst mm (wz w8 + 1) w10 w13 e12) gX3_init_Jx4a65c_init_da8c8 rfl (by decide +kernel) rfl (x_nz hw c11) (by decide +kernel) (by decide +kernel) (by decide +kernel) rfl hl.1 rfl (by simp [rv_cat, ct_i, ct_l]) ⟨by decide, by decide⟩ dX3_init_21 (fun H lc cn sn hw => ?_)
  obtain ⟨c14, h⟩ := og h
  obtain ⟨w15, ew15, h⟩ := ol h
  refine p_5_2 hX hw c14 hnm rfl (by decide +kernel) (by decide +kernel) dX3_init_24 (fun H lc hw => ?_)
  have hw := hw_eq ew15 hw
  replace h := (Option.some.inj h).symm
  subst h
  exact hret _ _ _ _ _ _ dX3_init_27 hw rfl

def x_X6_init_L1 (o : Nat) : Nat → Int32 → CS → Option (CS)
  | 0, _, _ => none
  | n + 1, v37, w38 =>
    if wJ w38 0 o = 6 then
    if wJ w38 0 (wJ w38 240 o) = 11 then
    if ((nI (wJ w38 1 (wJ w38 240 o))) : Int32) ≤ v37 then
      some w38
    else
      if 1 ≤ wl w38 ∧ 3 ≤ wk w38 then
      bs (nw w38 4 0 3) (fun (w43 : CS) =>
      if wJ w43 0 (wz w38 + 1) = 4 then
      bd (x_X4_init (wz w38 + 1) w43) (fun (w46 : CS) =>
      if wJ w46 0 (wJ w38 240 o) = 11 then
      if vR v37 (wJ w46 1 (wJ w38 240 o)) then
      if wJ w46 0 (wz w38 + 1) = 4 then
      bs (sB w46 (wJ w38 240 o) v37.toNatClampNeg (wz w38 + 1)) (fun (w50 : CS) =>
      x_X6_init_L1 o n (v37 + 1) w50)
      else none
      else none
      else none)
      else none)
      else none
    else none
    else none
def x_X6_init_L2 (o : Nat) : Nat → Int32 → CS → Option (CS)
  | 0, _, _ => none
  | n + 1, v52, w53 =>
    if wJ w53 0 o = 6 then
    if wJ w53 0 (wJ w53 241 o) = 10 then
    if ((nI (wJ w53 1 (wJ w53 241 o))) : Int32) ≤ v52 then
      some w53
    else
      if 1 ≤ wl w53 ∧ 3 ≤ wk w53 then
      bs (nw w53 5 0 3) (fun (w58 : CS) =>
      if wJ w58 0 (wz w53 + 1) = 5 then
      bd (x_X3_init (wz w53 + 1) w58) (fun (w61 : CS) =>
      if wJ w61 0 (wJ w53 241 o) = 10 then
      if vR v52 (wJ w61 1 (wJ w53 241 o)) then
      if wJ w61 0 (wz w53 + 1) = 5 then
      bs (sB w61 (wJ w53 241 o) v52.toNatClampNeg (wz w53 + 1)) (fun (w65 : CS) =>
      x_X6_init_L2 o n (v52 + 1) w65)
      else none
      else none
      else none)
      else none)
      else none
    else none
    else none
def x_X6_init_L3 (o : Nat) : Nat → Int32 → CS → Option (CS)
  | 0, _, _ => none
  | n + 1, v67, w68 =>
    if wJ w68 0 o = 6 then
    if wJ w68 0 (wJ w68 242 o) = 10 then
    if ((nI (wJ w68 1 (wJ w68 242 o))) : Int32) ≤ v67 then
      some w68
    else
      if 1 ≤ wl w68 ∧ 3 ≤ wk w68 then
      bs (nw w68 5 0 3) (fun (w73 : CS) =>
      if wJ w73 0 (wz w68 + 1) = 5 then
      bd (x_X3_init (wz w68 + 1) w73) (fun (w76 : CS) =>
      if wJ w76 0 (wJ w68 242 o) = 10 then
      if vR v67 (wJ w76 1 (wJ w68 242 o)) then
      if wJ w76 0 (wz w68 + 1) = 5 then
      bs (sB w76 (wJ w68 242 o) v67.toNatClampNeg (wz w68 + 1)) (fun (w80 : CS) =>
      x_X6_init_L3 o n (v67 + 1) w80)
      else none
      else none
      else none)
      else none)
      else none
    else none
    else none
def x_X6_init (o : Nat) (w : CS) : Option (CS) :=
  if wJ w 0 o = 6 then
  if ¬ (4 : Int32) < 0 ∧ (4 : Int32).toNatClampNeg ≤ 1000 then
  if 1 ≤ wl w ∧ (4 : Int32).toNatClampNeg ≤ wk w then
  bs (nw w 11 (4 : Int32).toNatClampNeg (4 : Int32).toNatClampNeg) (fun (w4 : CS) =>
  if wJ w4 0 o = 6 then
  bs (sJ w4 240 o (wz w + 1)) (fun (w6 : CS) =>
  if ¬ (3 : Int32) < 0 ∧ (3 : Int32).toNatClampNeg ≤ 1000 then
  if 1 ≤ wl w6 ∧ (3 : Int32).toNatClampNeg ≤ wk w6 then
  bs (nw w6 10 (3 : Int32).toNatClampNeg (3 : Int32).toNatClampNeg) (fun (w9 : CS) =>
  if wJ w9 0 o = 6 then
  bs (sJ w9 241 o (wz w6 + 1)) (fun (w11 : CS) =>
  if ¬ (3 : Int32) < 0 ∧ (3 : Int32).toNatClampNeg ≤ 1000 then
  if 1 ≤ wl w11 ∧ (3 : Int32).toNatClampNeg ≤ wk w11 then
  bs (nw w11 10 (3 : Int32).toNatClampNeg (3 : Int32).toNatClampNeg) (fun (w14 : CS) =>
  if wJ w14 0 o = 6 then
  bs (sJ w14 242 o (wz w11 + 1)) (fun (w16 : CS) =>
  if 1 ≤ wl w16 ∧ 3 ≤ wk w16 then
  bs (nw w16 7 0 3) (fun (w18 : CS) =>
  if wJ w18 0 (wz w16 + 1) = 7 then
  bd (x_Jx4a65c_init_da8c8 (wz w16 + 1) w18) (fun (w21 : CS) =>
  if wJ w21 0 o = 6 then
  bs (sJ w21 243 o (wz w16 + 1)) (fun (w23 : CS) =>
  if 1 ≤ wl w23 ∧ 3 ≤ wk w23 then
  bs (nw w23 7 0 3) (fun (w25 : CS) =>
  if wJ w25 0 (wz w23 + 1) = 7 then
  bd (x_Jx4a65c_init_da8c8 (wz w23 + 1) w25) (fun (w28 : CS) =>
  if wJ w28 0 o = 6 then
  bs (sJ w28 244 o (wz w23 + 1)) (fun (w30 : CS) =>
  if wJ w30 0 o = 6 then
  bs (sI w30 245 o 0) (fun (w32 : CS) =>
  if wJ w32 0 o = 6 then
  bs (sI w32 246 o (-1)) (fun (w34 : CS) =>
  if wJ w34 0 o = 6 then
  bs (sI w34 247 o 0) (fun (w36 : CS) =>
  bd (x_X6_init_L1 o FU 0 w36) (fun (w51 : CS) =>
  bd (x_X6_init_L2 o FU 0 w51) (fun (w66 : CS) =>
  bd (x_X6_init_L3 o FU 0 w66) (fun (w81 : CS) =>
  some (w81)))))
  else none)
  else none)
  else none)
  else none)
  else none)
  else none)
  else none)
  else none)
  else none)
  else none)
  else none
  else none)
  else none)
  else none
  else none)
  else none)
  else none
  else none
  else none
set_option maxHeartbeats 4000000 in
set_option maxRecDepth 100000 in
theorem c_X6_init (g : GG) (l : Launch) (hG : XG g) (hN : NG g) (hst : l.stackTraces = false) (mm : MS) (o : Nat) (w : CS) (w' : CS) (h : x_X6_init o w = some w') : MetG g l yX6_init wsX6_init 5 92 [rv o] (w, mm) (none) (w', mm) := by
  refine g_start_v (none) (own := RX6) (by decide +kernel) rfl rfl (by simp [lg_sl, rv_cat, ct_i, ct_l]) ?_
  intro p e s mi args below meth cd ls Q hX hnm hw hl hret
  have hl : lv_has ls 2 [(0, rv o)] := by simpa [lv_args, rv_cat, ct_i, ct_l] using hl
  obtain ⟨⟨hx, hb, -, hown, hts⟩, -⟩ := id hX
  unfold x_X6_init at h
  refine t_aload_n hx hb dX6_init_0 rfl (lv_at hl 0 rfl) ?_
  obtain ⟨c1, h⟩ := og h
  refine c_oinit hX (x_nz hw c1) (by decide +kernel) (by decide +kernel) (by decide +kernel) hl.1 dX6_init_1 ⟨by decide, by simp [rv_cat, ct_i, ct_l]⟩ ?_
  refine t_aload_n hx hb dX6_init_4 rfl (lv_at hl 0 rfl) ?_
  refine lv_iconst (v := 4) hx hb dX6_init_5 (by decide) ?_
  obtain ⟨c2, h⟩ := og h
  obtain ⟨c3, h⟩ := og h
  obtain ⟨w4, ew4, h⟩ := ol h
  refine n_arrT hX hG hw (by decide +kernel) c2 c3 dX6_init_6 (fun H cn sn hw => ?_)
  have hw := hw_eq ew4 hw
  obtain ⟨c5, h⟩ := og h
  obtain ⟨w6, ew6, h⟩ := ol h
  refine p_6_0 hX hw c5 hnm rfl (by decide +kernel) (by decide +kernel) dX6_init_9 (fun H lc hw => ?_)
  have hw := hw_eq ew6 hw
  refine t_aload_n hx hb dX6_init_12 rfl (lv_at hl 0 rfl) ?_
  refine lv_iconst (v := 3) hx hb dX6_init_13 (by decide) ?_
  obtain ⟨c7, h⟩ := og h
  obtain ⟨c8, h⟩ := og h
  obtain ⟨w9, ew9, h⟩ := ol h
  refine n_arrS hX hG hw (by decide +kernel) c7 c8 dX6_init_14 (fun H cn sn hw => ?_)
  have hw := hw_eq ew9 hw
  obtain ⟨c10, h⟩ := og h
  obtain ⟨w11, ew11, h⟩ := ol h
  refine p_6_1 hX hw c10 hnm rfl (by decide +kernel) (by decide +kernel) dX6_init_17 (fun H lc hw => ?_)
  have hw := hw_eq ew11 hw
  refine t_aload_n hx hb dX6_init_20 rfl (lv_at hl 0 rfl) ?_
  refine lv_iconst (v := 3) hx hb dX6_init_21 (by decide) ?_
  obtain ⟨c12, h⟩ := og h
  obtain ⟨c13, h⟩ := og h
  obtain ⟨w14, ew14, h⟩ := ol h
  refine n_arrS hX hG hw (by decide +kernel) c12 c13 dX6_init_22 (fun H cn sn hw => ?_)
  have hw := hw_eq ew14 hw
  obtain ⟨c15, h⟩ := og h
  obtain ⟨w16, ew16, h⟩ := ol h
  refine p_6_2 hX hw c15 hnm rfl (by decide +kernel) (by decide +kernel) dX6_init_25 (fun H lc hw => ?_)
  have hw := hw_eq ew16 hw
  refine t_aload_n hx hb dX6_init_28 rfl (lv_at hl 0 rfl) ?_
  obtain ⟨c17, h⟩ := og h
  obtain ⟨w18, ew18, h⟩ := ol h
  refine n_7 hX hw (by decide +kernel) (by decide +kernel) (by decide +kernel) (by decide +kernel) c17 dX6_init_29 (fun H cn sn hw => ?_)
  have hw := hw_eq ew18 hw
  refine lv_dup hx hb dX6_init_32 (rv_cat _) ?_
  obtain ⟨c19, h⟩ := og h
  obtain ⟨w21, e20, h⟩ := ob h
  refine g_callI (n := 0) (As := []) (rest := [rv (wz w16 + 1), rv o]) hX hw (c_Jx4a65c_init_da8c8 g l hG hst mm (wz w16 + 1) w18 w21 e20) gX6_init_Jx4a65c_init_da8c8 rfl (by decide +kernel) rfl (x_nz hw c19) (by decide +kernel) (by decide +kernel) (by decide +kernel) rfl hl.1 rfl (by simp [rv_cat, ct_i, ct_l]) ⟨by decide, by decide⟩ dX6_init_33 (fun H lc cn sn hw => ?_)
  obtain ⟨c22, h⟩ := og h
  obtain ⟨w23, ew23, h⟩ := ol h
  refine p_6_3 hX hw c22 hnm rfl (by decide +kernel) (by decide +kernel) dX6_init_36 (fun H lc hw => ?_)
  have hw := hw_eq ew23 hw
  refine t_aload_n hx hb dX6_init_39 rfl (lv_at hl 0 rfl) ?_
  obtain ⟨c24, h⟩ := og h
  obtain ⟨w25, ew25, h⟩ := ol h
  refine n_7 hX hw (by decide +kernel) (by decide +kernel) (by decide +kernel) (by decide +kernel) c24 dX6_init_40 (fun H cn sn hw => ?_)
  have hw := hw_eq ew25 hw
  refine lv_dup hx hb dX6_init_43 (rv_cat _) ?_
  obtain ⟨c26, h⟩ := og h
  obtain ⟨w28, e27, h⟩ := ob h
  refine g_callI (n := 0) (As := []) (rest := [rv (wz w23 + 1), rv o]) hX hw (c_Jx4a65c_init_da8c8 g l hG hst mm (wz w23 + 1) w25 w28 e27) gX6_init_Jx4a65c_init_da8c8 rfl (by decide +kernel) rfl (x_nz hw c26) (by decide +kernel) (by decide +kernel) (by decide +kernel) rfl hl.1 rfl (by simp [rv_cat, ct_i, ct_l]) ⟨by decide, by decide⟩ dX6_init_44 (fun H lc cn sn hw => ?_)
  obtain ⟨c29, h⟩ := og h
  obtain ⟨w30, ew30, h⟩ := ol h
  refine p_6_4 hX hw c29 hnm rfl (by decide +kernel) (by decide +kernel) dX6_init_47 (fun H lc hw => ?_)
  have hw := hw_eq ew30 hw
  refine t_aload_n hx hb dX6_init_50 rfl (lv_at hl 0 rfl) ?_
  refine lv_iconst (v := 0) hx hb dX6_init_51 (by decide) ?_
  obtain ⟨c31, h⟩ := og h
  obtain ⟨w32, ew32, h⟩ := ol h
  refine p_6_5 hX hw c31 (by decide +kernel) (by decide +kernel) dX6_init_52 (fun H lc hw => ?_)
  have hw := hw_eq ew32 hw
  refine t_aload_n hx hb dX6_init_55 rfl (lv_at hl 0 rfl) ?_
  refine lv_iconst (v := (-1)) hx hb dX6_init_56 (by decide) ?_
  obtain ⟨c33, h⟩ := og h
  obtain ⟨w34, ew34, h⟩ := ol h
  refine p_6_6 hX hw c33 (by decide +kernel) (by decide +kernel) dX6_init_57 (fun H lc hw => ?_)
  have hw := hw_eq ew34 hw
  refine t_aload_n hx hb dX6_init_60 rfl (lv_at hl 0 rfl) ?_
  refine lv_iconst (v := 0) hx hb dX6_init_61 (by decide) ?_
  obtain ⟨c35, h⟩ := og h
  obtain ⟨w36, ew36, h⟩ := ol h
  refine p_6_7 hX hw c35 (by decide +kernel) (by decide +kernel) dX6_init_62 (fun H lc hw => ?_)
  have hw := hw_eq ew36 hw
  refine lv_iconst (v := 0) hx hb dX6_init_65 (by decide) ?_
  refine lv_istore_n (lv' := [(1, .int 0), (0, rv o)]) hx hb dX6_init_66 rfl hl (by decide) (by simp [rv_cat, ct_i, ct_l] <;> decide) (fun ls hl => ?_)
  obtain ⟨aj84, h1aj84, kaj84⟩ := ob1 h
  have haj84 : ∀ (w51 : CS) (H : Heap) (lc : List Loc) (cn sn : Nat) (ls : Array Slot), aj84 = w51 → wH g s.heap.size (w51, mm) H lc → lv_has ls 2 [(0, rv o)] → W p l e (rmO g 5 92 s.heap) s mi args below meth cd H lc cn sn Q (F0 mi 95 ls []) := by
    intro w51 H lc cn sn ls h hw hl
    replace h := kaj84 _ h
    refine lv_iconst (v := 0) hx hb dX6_init_95 (by decide) ?_
    refine lv_istore_n (lv' := [(1, .int 0), (0, rv o)]) hx hb dX6_init_96 rfl hl (by decide) (by simp [rv_cat, ct_i, ct_l] <;> decide) (fun ls hl => ?_)
    obtain ⟨aj83, h1aj83, kaj83⟩ := ob1 h
    have haj83 : ∀ (w66 : CS) (H : Heap) (lc : List Loc) (cn sn : Nat) (ls : Array Slot), aj83 = w66 → wH g s.heap.size (w66, mm) H lc → lv_has ls 2 [(0, rv o)] → W p l e (rmO g 5 92 s.heap) s mi args below meth cd H lc cn sn Q (F0 mi 125 ls []) := by
      intro w66 H lc cn sn ls h hw hl
      replace h := kaj83 _ h
      refine lv_iconst (v := 0) hx hb dX6_init_125 (by decide) ?_
      refine lv_istore_n (lv' := [(1, .int 0), (0, rv o)]) hx hb dX6_init_126 rfl hl (by decide) (by simp [rv_cat, ct_i, ct_l] <;> decide) (fun ls hl => ?_)
      obtain ⟨aj82, h1aj82, kaj82⟩ := ob1 h
      have haj82 : ∀ (w81 : CS) (H : Heap) (lc : List Loc) (cn sn : Nat) (ls : Array Slot), aj82 = w81 → wH g s.heap.size (w81, mm) H lc → lv_has ls 2 [] → W p l e (rmO g 5 92 s.heap) s mi args below meth cd H lc cn sn Q (F0 mi 155 ls []) := by
        intro w81 H lc cn sn ls h hw hl
        replace h := kaj82 _ h
        replace h := (Option.some.inj h).symm
        subst h
        exact hret _ _ _ _ _ _ dX6_init_155 hw rfl
      have hkj82 : ∀ (n : Nat) (v67 : Int32) (w68 : CS) (H : Heap) (lc : List Loc) (cn sn : Nat) (ls : Array Slot), x_X6_init_L3 o n v67 w68 = some aj82 → wH g s.heap.size (w68, mm) H lc → lv_has ls 2 [(1, .int v67), (0, rv o)] → W p l e (rmO g 5 92 s.heap) s mi args below meth cd H lc cn sn Q (F0 mi 127 ls []) := by
        intro n
        induction n with
        | zero =>
          intro v67 w68 H lc cn sn ls h
          rw [x_X6_init_L3] at h
          cases h
        | succ n ih =>
          intro v67 w68 H lc cn sn ls h hw hl
          rw [x_X6_init_L3] at h
          refine lv_iload_n hx hb dX6_init_127 rfl (lv_at hl 0 rfl) ?_
          refine t_aload_n hx hb dX6_init_128 rfl (lv_at hl 1 rfl) ?_
          obtain ⟨c69, h⟩ := og h
          refine c_gf (C := RX6) (TT := TX6) (N := 8) (ref := "TabStore") (v := rv (wJ w68 242 o)) hX hw (ce_6 c69) rfl 2 (by decide +kernel) (by decide) (by decide +kernel) (fun _ h9 => h9) rfl dX6_init_129 ?_
          obtain ⟨c70, h⟩ := og h
          refine c_alen hX hw 2 (ae_10 c70) rfl dX6_init_132 ?_
          refine lv_icmp_ge (tgt := 155) hx hb dX6_init_133 (by decide) (fun c71 => ?_) (fun c71 => ?_)
          · replace h := ot c71 h
            replace h := (Option.some.inj h).symm
            exact haj82 _ _ _ _ _ _ h hw (lv_sub hl [] rfl)
          · replace h := oe c71 h
            refine t_aload_n hx hb dX6_init_136 rfl (lv_at hl 1 rfl) ?_
            refine c_gf (C := RX6) (TT := TX6) (N := 8) (ref := "TabStore") (v := rv (wJ w68 242 o)) hX hw (ce_6 c69) rfl 2 (by decide +kernel) (by decide) (by decide +kernel) (fun _ h9 => h9) rfl dX6_init_137 ?_
            refine lv_iload_n hx hb dX6_init_140 rfl (lv_at hl 0 rfl) ?_
            obtain ⟨c72, h⟩ := og h
            obtain ⟨w73, ew73, h⟩ := ol h
            refine n_5 hX hw (by decide +kernel) (by decide +kernel) (by decide +kernel) (by decide +kernel) c72 dX6_init_141 (fun H cn sn hw => ?_)
            have hw := hw_eq ew73 hw
            refine lv_dup hx hb dX6_init_144 (rv_cat _) ?_
            obtain ⟨c74, h⟩ := og h
            obtain ⟨w76, e75, h⟩ := ob h
            refine g_callIN (n := 0) (As := []) (rest := [rv (wz w68 + 1), .int v67, rv (wJ w68 242 o)]) hX hw (c_X3_init g l hG hst mm (wz w68 + 1) w73 w76 e75) gX6_init_X3_init_n45 rfl (by decide +kernel) rfl (x_nz hw c74) (by decide +kernel) (hN s hX.2.1.2.1).2 (by decide +kernel) rfl hl.1 rfl (by simp [rv_cat, ct_i, ct_l]) ⟨by decide, by decide⟩ dX6_init_145 (fun H lc cn sn hw => ?_)
            obtain ⟨c77, h⟩ := og h
            obtain ⟨c78, h⟩ := og h
            obtain ⟨c79, h⟩ := og h
            obtain ⟨w80, ew80, h⟩ := ol h
            refine c_ast hX hw 2 (ae_10 c77) (ae_10 c77) (by rw [c77]; decide) rfl c78 (Or.inr (c_anyS hX hw (ce_5 c79) rfl)) dX6_init_148 (fun H lc hw => ?_)
            have hw := hw_eq ew80 hw
            refine lv_iinc (v := (v67 + 1)) (lv' := [(1, .int (v67 + 1)), (0, rv o)]) hx hb dX6_init_149 hl (k := 0) rfl (by rfl) (by decide) (by simp [rv_cat, ct_i, ct_l] <;> decide) (fun ls hl => ?_)
            refine lv_goto (tgt := 127) hx hb dX6_init_152 (by decide) ?_
            exact ih _ _ _ _ _ _ _ h hw (lv_sub hl [0, 1] rfl)
      exact hkj82 FU 0 w66 _ _ _ _ _ h1aj82 hw (lv_sub hl [0, 1] rfl)
    have hkj83 : ∀ (n : Nat) (v52 : Int32) (w53 : CS) (H : Heap) (lc : List Loc) (cn sn : Nat) (ls : Array Slot), x_X6_init_L2 o n v52 w53 = some aj83 → wH g s.heap.size (w53, mm) H lc → lv_has ls 2 [(1, .int v52), (0, rv o)] → W p l e (rmO g 5 92 s.heap) s mi args below meth cd H lc cn sn Q (F0 mi 97 ls []) := by
      intro n
      induction n with
      | zero =>
        intro v52 w53 H lc cn sn ls h
        rw [x_X6_init_L2] at h
        cases h
      | succ n ih =>
        intro v52 w53 H lc cn sn ls h hw hl
        rw [x_X6_init_L2] at h
        refine lv_iload_n hx hb dX6_init_97 rfl (lv_at hl 0 rfl) ?_
        refine t_aload_n hx hb dX6_init_98 rfl (lv_at hl 1 rfl) ?_
        obtain ⟨c54, h⟩ := og h
        refine c_gf (C := RX6) (TT := TX6) (N := 8) (ref := "TabStore") (v := rv (wJ w53 241 o)) hX hw (ce_6 c54) rfl 1 (by decide +kernel) (by decide) (by decide +kernel) (fun _ h9 => h9) rfl dX6_init_99 ?_
        obtain ⟨c55, h⟩ := og h
        refine c_alen hX hw 2 (ae_10 c55) rfl dX6_init_102 ?_
        refine lv_icmp_ge (tgt := 125) hx hb dX6_init_103 (by decide) (fun c56 => ?_) (fun c56 => ?_)
        · replace h := ot c56 h
          replace h := (Option.some.inj h).symm
          exact haj83 _ _ _ _ _ _ h hw (lv_sub hl [1] rfl)
        · replace h := oe c56 h
          refine t_aload_n hx hb dX6_init_106 rfl (lv_at hl 1 rfl) ?_
          refine c_gf (C := RX6) (TT := TX6) (N := 8) (ref := "TabStore") (v := rv (wJ w53 241 o)) hX hw (ce_6 c54) rfl 1 (by decide +kernel) (by decide) (by decide +kernel) (fun _ h9 => h9) rfl dX6_init_107 ?_
          refine lv_iload_n hx hb dX6_init_110 rfl (lv_at hl 0 rfl) ?_
          obtain ⟨c57, h⟩ := og h
          obtain ⟨w58, ew58, h⟩ := ol h
          refine n_5 hX hw (by decide +kernel) (by decide +kernel) (by decide +kernel) (by decide +kernel) c57 dX6_init_111 (fun H cn sn hw => ?_)
          have hw := hw_eq ew58 hw
          refine lv_dup hx hb dX6_init_114 (rv_cat _) ?_
          obtain ⟨c59, h⟩ := og h
          obtain ⟨w61, e60, h⟩ := ob h
          refine g_callIN (n := 0) (As := []) (rest := [rv (wz w53 + 1), .int v52, rv (wJ w53 241 o)]) hX hw (c_X3_init g l hG hst mm (wz w53 + 1) w58 w61 e60) gX6_init_X3_init_n45 rfl (by decide +kernel) rfl (x_nz hw c59) (by decide +kernel) (hN s hX.2.1.2.1).2 (by decide +kernel) rfl hl.1 rfl (by simp [rv_cat, ct_i, ct_l]) ⟨by decide, by decide⟩ dX6_init_115 (fun H lc cn sn hw => ?_)
          obtain ⟨c62, h⟩ := og h
          obtain ⟨c63, h⟩ := og h
          obtain ⟨c64, h⟩ := og h
          obtain ⟨w65, ew65, h⟩ := ol h
          refine c_ast hX hw 2 (ae_10 c62) (ae_10 c62) (by rw [c62]; decide) rfl c63 (Or.inr (c_anyS hX hw (ce_5 c64) rfl)) dX6_init_118 (fun H lc hw => ?_)
          have hw := hw_eq ew65 hw
          refine lv_iinc (v := (v52 + 1)) (lv' := [(1, .int (v52 + 1)), (0, rv o)]) hx hb dX6_init_119 hl (k := 0) rfl (by rfl) (by decide) (by simp [rv_cat, ct_i, ct_l] <;> decide) (fun ls hl => ?_)
          refine lv_goto (tgt := 97) hx hb dX6_init_122 (by decide) ?_
          exact ih _ _ _ _ _ _ _ h hw (lv_sub hl [0, 1] rfl)
    exact hkj83 FU 0 w51 _ _ _ _ _ h1aj83 hw (lv_sub hl [0, 1] rfl)
  have hkj84 : ∀ (n : Nat) (v37 : Int32) (w38 : CS) (H : Heap) (lc : List Loc) (cn sn : Nat) (ls : Array Slot), x_X6_init_L1 o n v37 w38 = some aj84 → wH g s.heap.size (w38, mm) H lc → lv_has ls 2 [(1, .int v37), (0, rv o)] → W p l e (rmO g 5 92 s.heap) s mi args below meth cd H lc cn sn Q (F0 mi 67 ls []) := by
    intro n
    induction n with
    | zero =>
      intro v37 w38 H lc cn sn ls h
      rw [x_X6_init_L1] at h
      cases h
    | succ n ih =>
      intro v37 w38 H lc cn sn ls h hw hl
      rw [x_X6_init_L1] at h
      refine lv_iload_n hx hb dX6_init_67 rfl (lv_at hl 0 rfl) ?_
      refine t_aload_n hx hb dX6_init_68 rfl (lv_at hl 1 rfl) ?_
      obtain ⟨c39, h⟩ := og h
      refine c_gf (C := RX6) (TT := TX6) (N := 8) (ref := "TabStore") (v := rv (wJ w38 240 o)) hX hw (ce_6 c39) rfl 0 (by decide +kernel) (by decide) (by decide +kernel) (fun _ h9 => h9) rfl dX6_init_69 ?_
      obtain ⟨c40, h⟩ := og h
      refine c_alen hX hw 3 (ae_11 c40) rfl dX6_init_72 ?_
      refine lv_icmp_ge (tgt := 95) hx hb dX6_init_73 (by decide) (fun c41 => ?_) (fun c41 => ?_)
      · replace h := ot c41 h
        replace h := (Option.some.inj h).symm
        exact haj84 _ _ _ _ _ _ h hw (lv_sub hl [1] rfl)
      · replace h := oe c41 h
        refine t_aload_n hx hb dX6_init_76 rfl (lv_at hl 1 rfl) ?_
        refine c_gf (C := RX6) (TT := TX6) (N := 8) (ref := "TabStore") (v := rv (wJ w38 240 o)) hX hw (ce_6 c39) rfl 0 (by decide +kernel) (by decide) (by decide +kernel) (fun _ h9 => h9) rfl dX6_init_77 ?_
        refine lv_iload_n hx hb dX6_init_80 rfl (lv_at hl 0 rfl) ?_
        obtain ⟨c42, h⟩ := og h
        obtain ⟨w43, ew43, h⟩ := ol h
        refine n_4 hX hw (by decide +kernel) (by decide +kernel) (by decide +kernel) (by decide +kernel) c42 dX6_init_81 (fun H cn sn hw => ?_)
        have hw := hw_eq ew43 hw
        refine lv_dup hx hb dX6_init_84 (rv_cat _) ?_
        obtain ⟨c44, h⟩ := og h
        obtain ⟨w46, e45, h⟩ := ob h
        refine g_callIN (n := 0) (As := []) (rest := [rv (wz w38 + 1), .int v37, rv (wJ w38 240 o)]) hX hw (c_X4_init g l hG hst mm (wz w38 + 1) w43 w46 e45) gX6_init_X4_init_n44 rfl (by decide +kernel) rfl (x_nz hw c44) (by decide +kernel) (hN s hX.2.1.2.1).1 (by decide +kernel) rfl hl.1 rfl (by simp [rv_cat, ct_i, ct_l]) ⟨by decide, by decide⟩ dX6_init_85 (fun H lc cn sn hw => ?_)
        obtain ⟨c47, h⟩ := og h
        obtain ⟨c48, h⟩ := og h
        obtain ⟨c49, h⟩ := og h
        obtain ⟨w50, ew50, h⟩ := ol h
        refine c_ast hX hw 3 (ae_11 c47) (ae_11 c47) (by rw [c47]; decide) rfl c48 (Or.inr (c_anyS hX hw (ce_4 c49) rfl)) dX6_init_88 (fun H lc hw => ?_)
        have hw := hw_eq ew50 hw
        refine lv_iinc (v := (v37 + 1)) (lv' := [(1, .int (v37 + 1)), (0, rv o)]) hx hb dX6_init_89 hl (k := 0) rfl (by rfl) (by decide) (by simp [rv_cat, ct_i, ct_l] <;> decide) (fun ls hl => ?_)
        refine lv_goto (tgt := 67) hx hb dX6_init_92 (by decide) ?_
        exact ih _ _ _ _ _ _ _ h hw (lv_sub hl [0, 1] rfl)
  exact hkj84 FU 0 w36 _ _ _ _ _ h1aj84 hw (lv_sub hl [0, 1] rfl)
