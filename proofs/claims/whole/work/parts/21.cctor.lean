/-! ===== the constructors (printed by gen2.py); nest mates' constructors ===== -/
def NG (g : GG) : Prop := ∀ s : State, gP g s → va_Nw (.methodLinkNest RX6 44 yX4_init RX6) s ∧ va_Nw (.methodLinkNest RX6 45 yX3_init RX6) s
theorem g_callIN {p : Program} {l : Launch} {e : Env} {s : State} {m : MethodId} {args : Array Value} {below : List Frame} {meth : Method} {c0 : Code} {H : Heap} {locs : List Loc} {cells slots : Nat} {Q : State → Prop} {cc : ByteArray} {pc : Nat} {ls : Array Slot} {rest st0 As : List Value} {g : GG} {T T' : TW} {Ts ws ws' : List Cond} {nL n index maxL fr lo fr' lo' x : Nat} {own host : String} {ret : Option FieldType} {y : MethodName} {bytes : ByteArray} {v : Option Value}
    (hX : MX g own p s m args c0 cc nL Ts meth ret) (hw : wH g s.heap.size T H locs) (hM : MetG g l y ws fr' lo' (rv x :: As) T v T') (hG : GoodIn Ts ws) (hwc : ws = Cond.code y bytes maxL none :: ws')
    (hd : y.cls ≠ "java/lang/invoke/MethodHandle" ∧ y.cls ≠ "java/lang/invoke/VarHandle" ∧ (parseMethodDescriptor y.desc).map (fun d => d.parameters.length) = some n) (hn : As.length = n) (hx0 : x ≠ 0) (hini : Cond.initialized y.cls ∈ Ts) (hlk : va_Nw (.methodLinkNest own index y host) s) (hins : Cond.instanceMethod y ∈ Ts) (hnm : y.name = "<init>") (hsz : ls.size = nL) (hst : st0 = As.reverse ++ rv x :: rest) (hr8 : (rest.map fun v => v.category).sum ≤ 8)
    (hR : fr' + 1 ≤ fr ∧ 8 + (maxL + 11) + lo' ≤ lo) (hdg : decode cc pc = .ok (.invokespecial index, 3))
    (kk : ∀ (H1 : Heap) (locs1 : List Loc) (cells slots : Nat), wH g s.heap.size T' H1 locs1 → W p l e (rmO g fr lo s.heap) s m args below meth c0 H1 locs1 cells slots Q (F0 m (pc + 3) ls (v.toList ++ rest))) : W p l e (rmO g fr lo s.heap) s m args below meth c0 H locs cells slots Q (F0 m pc ls st0) := by
  rw [rv_ref hx0] at hM hst
  obtain ⟨⟨hx, hb, hml, hown, hts⟩, hK, -⟩ := hX
  refine tw_tight fun c' s' hc hs' hz hzs => ?_
  obtain ⟨w1, w2, w3, ⟨w4, w5, w6, w7, w8⟩, w10⟩ := id hw
  exact tw_go (b := 0) hw (va_runIN (As := As) (rest := rest) ⟨hx, hb, hml, hown, hts⟩ (hM H.size (hsl H)) ⟨va_cnB n hts hG hwc rfl rfl hlk (hts _ hini) hd hR, hnm, hts _ hins⟩ ⟨pcO_blind _ _ _ _ _, fun U hU hW => ⟨rfl, by rw [hU], by rw [hU], by rw [hU]; exact wH_up hw, TB.moved hW hK⟩⟩ rfl hn hsz hst (lv_room hr8) hdg ⟨sub_ok hz (by omega) hc, sub_ok hzs (by omega) hs'⟩) kk
def x_X4_init (o : Nat) (w : CS) : Option (CS) :=
  if wJ w 0 o = 4 then
  bs (sI w 160 o 0) (fun (w2 : CS) =>
  if wJ w2 0 o = 4 then
  bs (sI w2 161 o 0) (fun (w4 : CS) =>
  if wJ w4 0 o = 4 then
  bs (sI w4 162 o 0) (fun (w6 : CS) =>
  some (w6))
  else none)
  else none)
  else none
set_option maxHeartbeats 4000000 in
set_option maxRecDepth 100000 in
theorem c_X4_init (g : GG) (l : Launch) (hG : XG g) (hst : l.stackTraces = false) (mm : MS) (o : Nat) (w : CS) (w' : CS) (h : x_X4_init o w = some w') : MetG g l yX4_init wsX4_init 1 12 [rv o] (w, mm) (none) (w', mm) := by
  refine g_start_v (none) (own := RX4) (by decide +kernel) rfl rfl (by simp [lg_sl, rv_cat, ct_i, ct_l]) ?_
  intro p e s mi args below meth cd ls Q hX hnm hw hl hret
  have hl : lv_has ls 1 [(0, rv o)] := by simpa [lv_args, rv_cat, ct_i, ct_l] using hl
  obtain ⟨⟨hx, hb, -, hown, hts⟩, -⟩ := id hX
  unfold x_X4_init at h
  refine t_aload_n hx hb dX4_init_0 rfl (lv_at hl 0 rfl) ?_
  obtain ⟨c1, h⟩ := og h
  refine c_oinit hX (x_nz hw c1) (by decide +kernel) (by decide +kernel) (by decide +kernel) hl.1 dX4_init_1 ⟨by decide, by simp [rv_cat, ct_i, ct_l]⟩ ?_
  refine t_aload_n hx hb dX4_init_4 rfl (lv_at hl 0 rfl) ?_
  refine lv_iconst (v := 0) hx hb dX4_init_5 (by decide) ?_
  obtain ⟨w2, ew2, h⟩ := ol h
  refine p_4_0 hX hw c1 (by decide +kernel) (by decide +kernel) dX4_init_6 (fun H lc hw => ?_)
  have hw := hw_eq ew2 hw
  refine t_aload_n hx hb dX4_init_9 rfl (lv_at hl 0 rfl) ?_
  refine lv_iconst (v := 0) hx hb dX4_init_10 (by decide) ?_
  obtain ⟨c3, h⟩ := og h
  obtain ⟨w4, ew4, h⟩ := ol h
  refine p_4_1 hX hw c3 (by decide +kernel) (by decide +kernel) dX4_init_11 (fun H lc hw => ?_)
  have hw := hw_eq ew4 hw
  refine t_aload_n hx hb dX4_init_14 rfl (lv_at hl 0 rfl) ?_
  refine lv_iconst (v := 0) hx hb dX4_init_15 (by decide) ?_
  obtain ⟨c5, h⟩ := og h
  obtain ⟨w6, ew6, h⟩ := ol h
  refine p_4_2 hX hw c5 (by decide +kernel) (by decide +kernel) dX4_init_16 (fun H lc hw => ?_)
  have hw := hw_eq ew6 hw
  replace h := (Option.some.inj h).symm
  subst h
  exact hret _ _ _ _ _ _ dX4_init_19 hw rfl

def x_X3_init (o : Nat) (w : CS) : Option (CS) :=
  if wJ w 0 o = 5 then
  if isB 0 then
  bs (sI w 200 o 0) (fun (w3 : CS) =>
  if ¬ (2 : Int32) < 0 ∧ (2 : Int32).toNatClampNeg ≤ 1000 then
  if 1 ≤ wl w3 ∧ (2 : Int32).toNatClampNeg ≤ wk w3 then
  bs (nw w3 8 (2 : Int32).toNatClampNeg (2 : Int32).toNatClampNeg) (fun (w6 : CS) =>
  if wJ w6 0 o = 5 then
  bs (sJ w6 201 o (wz w3 + 1)) (fun (w8 : CS) =>
  if 1 ≤ wl w8 ∧ 3 ≤ wk w8 then
  bs (nw w8 7 0 3) (fun (w10 : CS) =>
  if wJ w10 0 (wz w8 + 1) = 7 then
  bd (x_Jx4a65c_init_da8c8 (wz w8 + 1) w10) (fun (w13 : CS) =>
  if wJ w13 0 o = 5 then
  bs (sJ w13 202 o (wz w8 + 1)) (fun (w15 : CS) =>
  some (w15))
  else none)
  else none)
  else none)
  else none)
  else none
  else none)
  else none
  else none
set_option maxHeartbeats 4000000 in
set_option maxRecDepth 100000 in
theorem c_X3_init (g : GG) (l : Launch) (hG : XG g) (hst : l.stackTraces = false) (mm : MS) (o : Nat) (w : CS) (w' : CS) (h : x_X3_init o w = some w') : MetG g l yX3_init wsX3_init 4 72 [rv o] (w, mm) (none) (w', mm) := by
  refine g_start_v (none) (own := RX3) (by decide +kernel) rfl rfl (by simp [lg_sl, rv_cat, ct_i, ct_l]) ?_
  intro p e s mi args below meth cd ls Q hX hnm hw hl hret
  have hl : lv_has ls 1 [(0, rv o)] := by simpa [lv_args, rv_cat, ct_i, ct_l] using hl
  obtain ⟨⟨hx, hb, -, hown, hts⟩, -⟩ := id hX
  unfold x_X3_init at h
  refine t_aload_n hx hb dX3_init_0 rfl (lv_at hl 0 rfl) ?_
  obtain ⟨c1, h⟩ := og h
  refine c_oinit hX (x_nz hw c1) (by decide +kernel) (by decide +kernel) (by decide +kernel) hl.1 dX3_init_1 ⟨by decide, by simp [rv_cat, ct_i, ct_l]⟩ ?_
  refine t_aload_n hx hb dX3_init_4 rfl (lv_at hl 0 rfl) ?_
  refine lv_iconst (v := 0) hx hb dX3_init_5 (by decide) ?_
  obtain ⟨c2, h⟩ := og h
  obtain ⟨w3, ew3, h⟩ := ol h
  refine p_5_0 hX hw c1 c2 (by decide +kernel) (by decide +kernel) dX3_init_6 (fun H lc hw => ?_)
  have hw := hw_eq ew3 hw
  refine t_aload_n hx hb dX3_init_9 rfl (lv_at hl 0 rfl) ?_
  refine lv_iconst (v := 2) hx hb dX3_init_10 (by decide) ?_
  obtain ⟨c4, h⟩ := og h
  obtain ⟨c5, h⟩ := og h
  obtain ⟨w6, ew6, h⟩ := ol h
  refine n_arrI hX hw (by decide +kernel) c4 c5 dX3_init_11 (fun H cn sn hw => ?_)
  have hw := hw_eq ew6 hw
  obtain ⟨c7, h⟩ := og h
  obtain ⟨w8, ew8, h⟩ := ol h
  refine p_5_1 hX hw c7 hnm rfl (by decide +kernel) (by decide +kernel) dX3_init_13 (fun H lc hw => ?_)
  have hw := hw_eq ew8 hw
  refine t_aload_n hx hb dX3_init_16 rfl (lv_at hl 0 rfl) ?_
  obtain ⟨c9, h⟩ := og h
  obtain ⟨w10, ew10, h⟩ := ol h
  refine n_7 hX hw (by decide +kernel) (by decide +kernel) (by decide +kernel) (by decide +kernel) c9 dX3_init_17 (fun H cn sn hw => ?_)
  have hw := hw_eq ew10 hw
  refine lv_dup hx hb dX3_init_20 (rv_cat _) ?_
  obtain ⟨c11, h⟩ := og h
  obtain ⟨w13, e12, h⟩ := ob h
  refine g_callI (n := 0) (As := []) (rest := [rv (wz w8 + 1), rv o]) hX hw (c_Jx4a65c_init_da8c8 g l hG hst mm (wz w8 + 1) w10 w13 e12) gX3_init_Jx4a65c_init_da8c8 rfl (by decide +kernel) rfl (x_nz hw c11) (by decide +kernel) (by decide +kernel) (by decide +kernel) rfl hl.1 rfl (by simp [rv_cat, ct_i, ct_l]) ⟨by decide, by decide⟩ dX3_init_21 (fun H lc cn sn hw => ?_)
  obtain ⟨c14, h⟩ := og h
  obtain ⟨w15, ew15, h⟩ := ol h
  refine p_5_2 hX hw c14 hnm rfl (by decide +kernel) (by decide +kernel) dX3_init_24 (fun H lc hw => ?_)
  have hw := hw_eq ew15 hw
  replace h := (Option.some.inj h).symm
  subst h
  exact hret _ _ _ _ _ _ dX3_init_27 hw rfl

def x_X6_init_L1 (o : Nat) : Nat → Int32 → CS → Option (CS)
  | 0, _, _ => none
  | n + 1, v37, w38 =>
    if wJ w38 0 o = 6 then
    if wJ w38 0 (wJ w38 240 o) = 11 then
    if ((nI (wJ w38 1 (wJ w38 240 o))) : Int32) ≤ v37 then
      some w38
    else
      if 1 ≤ wl w38 ∧ 3 ≤ wk w38 then
      bs (nw w38 4 0 3) (fun (w43 : CS) =>
      if wJ w43 0 (wz w38 + 1) = 4 then
      bd (x_X4_init (wz w38 + 1) w43) (fun (w46 : CS) =>
      if wJ w46 0 (wJ w38 240 o) = 11 then
      if vR v37 (wJ w46 1 (wJ w38 240 o)) then
      if wJ w46 0 (wz w38 + 1) = 4 then
      bs (sB w46 (wJ w38 240 o) v37.toNatClampNeg (wz w38 + 1)) (fun (w50 : CS) =>
      x_X6_init_L1 o n (v37 + 1) w50)
      else none
      else none
      else none)
      else none)
      else none
    else none
    else none
def x_X6_init_L2 (o : Nat) : Nat → Int32 → CS → Option (CS)
  | 0, _, _ => none
  | n + 1, v52, w53 =>
    if wJ w53 0 o = 6 then
    if wJ w53 0 (wJ w53 241 o) = 10 then
    if ((nI (wJ w53 1 (wJ w53 241 o))) : Int32) ≤ v52 then
      some w53
    else
      if 1 ≤ wl w53 ∧ 3 ≤ wk w53 then
      bs (nw w53 5 0 3) (fun (w58 : CS) =>
      if wJ w58 0 (wz w53 + 1) = 5 then
      bd (x_X3_init (wz w53 + 1) w58) (fun (w61 : CS) =>
      if wJ w61 0 (wJ w53 241 o) = 10 then
      if vR v52 (wJ w61 1 (wJ w53 241 o)) then
      if wJ w61 0 (wz w53 + 1) = 5 then
      bs (sB w61 (wJ w53 241 o) v52.toNatClampNeg (wz w53 + 1)) (fun (w65 : CS) =>
      x_X6_init_L2 o n (v52 + 1) w65)
      else none
      else none
      else none)
      else none)
      else none
    else none
    else none
def x_X6_init_L3 (o : Nat) : Nat → Int32 → CS → Option (CS)
  | 0, _, _ => none
  | n + 1, v67, w68 =>
    if wJ w68 0 o = 6 then
    if wJ w68 0 (wJ w68 242 o) = 10 then
    if ((nI (wJ w68 1 (wJ w68 242 o))) : Int32) ≤ v67 then
      some w68
    else
      if 1 ≤ wl w68 ∧ 3 ≤ wk w68 then
      bs (nw w68 5 0 3) (fun (w73 : CS) =>
      if wJ w73 0 (wz w68 + 1) = 5 then
      bd (x_X3_init (wz w68 + 1) w73) (fun (w76 : CS) =>
      if wJ w76 0 (wJ w68 242 o) = 10 then
      if vR v67 (wJ w76 1 (wJ w68 242 o)) then
      if wJ w76 0 (wz w68 + 1) = 5 then
      bs (sB w76 (wJ w68 242 o) v67.toNatClampNeg (wz w68 + 1)) (fun (w80 : CS) =>
      x_X6_init_L3 o n (v67 + 1) w80)
      else none
      else none
      else none)
      else none)
      else none
    else none
    else none
def x_X6_init (o : Nat) (w : CS) : Option (CS) :=
  if wJ w 0 o = 6 then
  if ¬ (4 : Int32) < 0 ∧ (4 : Int32).toNatClampNeg ≤ 1000 then
  if 1 ≤ wl w ∧ (4 : Int32).toNatClampNeg ≤ wk w then
  bs (nw w 11 (4 : Int32).toNatClampNeg (4 : Int32).toNatClampNeg) (fun (w4 : CS) =>
  if wJ w4 0 o = 6 then
  bs (sJ w4 240 o (wz w + 1)) (fun (w6 : CS) =>
  if ¬ (3 : Int32) < 0 ∧ (3 : Int32).toNatClampNeg ≤ 1000 then
  if 1 ≤ wl w6 ∧ (3 : Int32).toNatClampNeg ≤ wk w6 then
  bs (nw w6 10 (3 : Int32).toNatClampNeg (3 : Int32).toNatClampNeg) (fun (w9 : CS) =>
  if wJ w9 0 o = 6 then
  bs (sJ w9 241 o (wz w6 + 1)) (fun (w11 : CS) =>
  if ¬ (3 : Int32) < 0 ∧ (3 : Int32).toNatClampNeg ≤ 1000 then
  if 1 ≤ wl w11 ∧ (3 : Int32).toNatClampNeg ≤ wk w11 then
  bs (nw w11 10 (3 : Int32).toNatClampNeg (3 : Int32).toNatClampNeg) (fun (w14 : CS) =>
  if wJ w14 0 o = 6 then
  bs (sJ w14 242 o (wz w11 + 1)) (fun (w16 : CS) =>
  if 1 ≤ wl w16 ∧ 3 ≤ wk w16 then
  bs (nw w16 7 0 3) (fun (w18 : CS) =>
  if wJ w18 0 (wz w16 + 1) = 7 then
  bd (x_Jx4a65c_init_da8c8 (wz w16 + 1) w18) (fun (w21 : CS) =>
  if wJ w21 0 o = 6 then
  bs (sJ w21 243 o (wz w16 + 1)) (fun (w23 : CS) =>
  if 1 ≤ wl w23 ∧ 3 ≤ wk w23 then
  bs (nw w23 7 0 3) (fun (w25 : CS) =>
  if wJ w25 0 (wz w23 + 1) = 7 then
  bd (x_Jx4a65c_init_da8c8 (wz w23 + 1) w25) (fun (w28 : CS) =>
  if wJ w28 0 o = 6 then
  bs (sJ w28 244 o (wz w23 + 1)) (fun (w30 : CS) =>
  if wJ w30 0 o = 6 then
  bs (sI w30 245 o 0) (fun (w32 : CS) =>
  if wJ w32 0 o = 6 then
  bs (sI w32 246 o (-1)) (fun (w34 : CS) =>
  if wJ w34 0 o = 6 then
  bs (sI w34 247 o 0) (fun (w36 : CS) =>
  bd (x_X6_init_L1 o FU 0 w36) (fun (w51 : CS) =>
  bd (x_X6_init_L2 o FU 0 w51) (fun (w66 : CS) =>
  bd (x_X6_init_L3 o FU 0 w66) (fun (w81 : CS) =>
  some (w81)))))
  else none)
  else none)
  else none)
  else none)
  else none)
  else none)
  else none)
  else none)
  else none)
  else none)
  else none
  else none)
  else none)
  else none
  else none)
  else none)
  else none
  else none
  else none
set_option maxHeartbeats 4000000 in
set_option maxRecDepth 100000 in
theorem c_X6_init (g : GG) (l : Launch) (hG : XG g) (hN : NG g) (hst : l.stackTraces = false) (mm : MS) (o : Nat) (w : CS) (w' : CS) (h : x_X6_init o w = some w') : MetG g l yX6_init wsX6_init 5 92 [rv o] (w, mm) (none) (w', mm) := by
  refine g_start_v (none) (own := RX6) (by decide +kernel) rfl rfl (by simp [lg_sl, rv_cat, ct_i, ct_l]) ?_
  intro p e s mi args below meth cd ls Q hX hnm hw hl hret
  have hl : lv_has ls 2 [(0, rv o)] := by simpa [lv_args, rv_cat, ct_i, ct_l] using hl
  obtain ⟨⟨hx, hb, -, hown, hts⟩, -⟩ := id hX
  unfold x_X6_init at h
  refine t_aload_n hx hb dX6_init_0 rfl (lv_at hl 0 rfl) ?_
  obtain ⟨c1, h⟩ := og h
  refine c_oinit hX (x_nz hw c1) (by decide +kernel) (by decide +kernel) (by decide +kernel) hl.1 dX6_init_1 ⟨by decide, by simp [rv_cat, ct_i, ct_l]⟩ ?_
  refine t_aload_n hx hb dX6_init_4 rfl (lv_at hl 0 rfl) ?_
  refine lv_iconst (v := 4) hx hb dX6_init_5 (by decide) ?_
  obtain ⟨c2, h⟩ := og h
  obtain ⟨c3, h⟩ := og h
  obtain ⟨w4, ew4, h⟩ := ol h
  refine n_arrT hX hG hw (by decide +kernel) c2 c3 dX6_init_6 (fun H cn sn hw => ?_)
  have hw := hw_eq ew4 hw
  obtain ⟨c5, h⟩ := og h
  obtain ⟨w6, ew6, h⟩ := ol h
  refine p_6_0 hX hw c5 hnm rfl (by decide +kernel) (by decide +kernel) dX6_init_9 (fun H lc hw => ?_)
  have hw := hw_eq ew6 hw
  refine t_aload_n hx hb dX6_init_12 rfl (lv_at hl 0 rfl) ?_
  refine lv_iconst (v := 3) hx hb dX6_init_13 (by decide) ?_
  obtain ⟨c7, h⟩ := og h
  obtain ⟨c8, h⟩ := og h
  obtain ⟨w9, ew9, h⟩ := ol h
  refine n_arrS hX hG hw (by decide +kernel) c7 c8 dX6_init_14 (fun H cn sn hw => ?_)
  have hw := hw_eq ew9 hw
  obtain ⟨c10, h⟩ := og h
  obtain ⟨w11, ew11, h⟩ := ol h
  refine p_6_1 hX hw c10 hnm rfl (by decide +kernel) (by decide +kernel) dX6_init_17 (fun H lc hw => ?_)
  have hw := hw_eq ew11 hw
  refine t_aload_n hx hb dX6_init_20 rfl (lv_at hl 0 rfl) ?_
  refine lv_iconst (v := 3) hx hb dX6_init_21 (by decide) ?_
  obtain ⟨c12, h⟩ := og h
  obtain ⟨c13, h⟩ := og h
  obtain ⟨w14, ew14, h⟩ := ol h
  refine n_arrS hX hG hw (by decide +kernel) c12 c13 dX6_init_22 (fun H cn sn hw => ?_)
  have hw := hw_eq ew14 hw
  obtain ⟨c15, h⟩ := og h
  obtain ⟨w16, ew16, h⟩ := ol h
  refine p_6_2 hX hw c15 hnm rfl (by decide +kernel) (by decide +kernel) dX6_init_25 (fun H lc hw => ?_)
  have hw := hw_eq ew16 hw
  refine t_aload_n hx hb dX6_init_28 rfl (lv_at hl 0 rfl) ?_
  obtain ⟨c17, h⟩ := og h
  obtain ⟨w18, ew18, h⟩ := ol h
  refine n_7 hX hw (by decide +kernel) (by decide +kernel) (by decide +kernel) (by decide +kernel) c17 dX6_init_29 (fun H cn sn hw => ?_)
  have hw := hw_eq ew18 hw
  refine lv_dup hx hb dX6_init_32 (rv_cat _) ?_
  obtain ⟨c19, h⟩ := og h
  obtain ⟨w21, e20, h⟩ := ob h
  refine g_callI (n := 0) (As := []) (rest := [rv (wz w16 + 1), rv o]) hX hw (c_Jx4a65c_init_da8c8 g l hG hst mm (wz w16 + 1) w18 w21 e20) gX6_init_Jx4a65c_init_da8c8 rfl (by decide +kernel) rfl (x_nz hw c19) (by decide +kernel) (by decide +kernel) (by decide +kernel) rfl hl.1 rfl (by simp [rv_cat, ct_i, ct_l]) ⟨by decide, by decide⟩ dX6_init_33 (fun H lc cn sn hw => ?_)
  obtain ⟨c22, h⟩ := og h
  obtain ⟨w23, ew23, h⟩ := ol h
  refine p_6_3 hX hw c22 hnm rfl (by decide +kernel) (by decide +kernel) dX6_init_36 (fun H lc hw => ?_)
  have hw := hw_eq ew23 hw
  refine t_aload_n hx hb dX6_init_39 rfl (lv_at hl 0 rfl) ?_
  obtain ⟨c24, h⟩ := og h
  obtain ⟨w25, ew25, h⟩ := ol h
  refine n_7 hX hw (by decide +kernel) (by decide +kernel) (by decide +kernel) (by decide +kernel) c24 dX6_init_40 (fun H cn sn hw => ?_)
  have hw := hw_eq ew25 hw
  refine lv_dup hx hb dX6_init_43 (rv_cat _) ?_
  obtain ⟨c26, h⟩ := og h
  obtain ⟨w28, e27, h⟩ := ob h
  refine g_callI (n := 0) (As := []) (rest := [rv (wz w23 + 1), rv o]) hX hw (c_Jx4a65c_init_da8c8 g l hG hst mm (wz w23 + 1) w25 w28 e27) gX6_init_Jx4a65c_init_da8c8 rfl (by decide +kernel) rfl (x_nz hw c26) (by decide +kernel) (by decide +kernel) (by decide +kernel) rfl hl.1 rfl (by simp [rv_cat, ct_i, ct_l]) ⟨by decide, by decide⟩ dX6_init_44 (fun H lc cn sn hw => ?_)
  obtain ⟨c29, h⟩ := og h
  obtain ⟨w30, ew30, h⟩ := ol h
  refine p_6_4 hX hw c29 hnm rfl (by decide +kernel) (by decide +kernel) dX6_init_47 (fun H lc hw => ?_)
  have hw := hw_eq ew30 hw
  refine t_aload_n hx hb dX6_init_50 rfl (lv_at hl 0 rfl) ?_
  refine lv_iconst (v := 0) hx hb dX6_init_51 (by decide) ?_
  obtain ⟨c31, h⟩ := og h
  obtain ⟨w32, ew32, h⟩ := ol h
  refine p_6_5 hX hw c31 (by decide +kernel) (by decide +kernel) dX6_init_52 (fun H lc hw => ?_)
  have hw := hw_eq ew32 hw
  refine t_aload_n hx hb dX6_init_55 rfl (lv_at hl 0 rfl) ?_
  refine lv_iconst (v := (-1)) hx hb dX6_init_56 (by decide) ?_
  obtain ⟨c33, h⟩ := og h
  obtain ⟨w34, ew34, h⟩ := ol h
  refine p_6_6 hX hw c33 (by decide +kernel) (by decide +kernel) dX6_init_57 (fun H lc hw => ?_)
  have hw := hw_eq ew34 hw
  refine t_aload_n hx hb dX6_init_60 rfl (lv_at hl 0 rfl) ?_
  refine lv_iconst (v := 0) hx hb dX6_init_61 (by decide) ?_
  obtain ⟨c35, h⟩ := og h
  obtain ⟨w36, ew36, h⟩ := ol h
  refine p_6_7 hX hw c35 (by decide +kernel) (by decide +kernel) dX6_init_62 (fun H lc hw => ?_)
  have hw := hw_eq ew36 hw
  refine lv_iconst (v := 0) hx hb dX6_init_65 (by decide) ?_
  refine lv_istore_n (lv' := [(1, .int 0), (0, rv o)]) hx hb dX6_init_66 rfl hl (by decide) (by simp [rv_cat, ct_i, ct_l] <;> decide) (fun ls hl => ?_)
  obtain ⟨aj84, h1aj84, kaj84⟩ := ob1 h
  have haj84 : ∀ (w51 : CS) (H : Heap) (lc : List Loc) (cn sn : Nat) (ls : Array Slot), aj84 = w51 → wH g s.heap.size (w51, mm) H lc → lv_has ls 2 [(0, rv o)] → W p l e (rmO g 5 92 s.heap) s mi args below meth cd H lc cn sn Q (F0 mi 95 ls []) := by
    intro w51 H lc cn sn ls h hw hl
    replace h := kaj84 _ h
    refine lv_iconst (v := 0) hx hb dX6_init_95 (by decide) ?_
    refine lv_istore_n (lv' := [(1, .int 0), (0, rv o)]) hx hb dX6_init_96 rfl hl (by decide) (by simp [rv_cat, ct_i, ct_l] <;> decide) (fun ls hl => ?_)
    obtain ⟨aj83, h1aj83, kaj83⟩ := ob1 h
    have haj83 : ∀ (w66 : CS) (H : Heap) (lc : List Loc) (cn sn : Nat) (ls : Array Slot), aj83 = w66 → wH g s.heap.size (w66, mm) H lc → lv_has ls 2 [(0, rv o)] → W p l e (rmO g 5 92 s.heap) s mi args below meth cd H lc cn sn Q (F0 mi 125 ls []) := by
      intro w66 H lc cn sn ls h hw hl
      replace h := kaj83 _ h
      refine lv_iconst (v := 0) hx hb dX6_init_125 (by decide) ?_
      refine lv_istore_n (lv' := [(1, .int 0), (0, rv o)]) hx hb dX6_init_126 rfl hl (by decide) (by simp [rv_cat, ct_i, ct_l] <;> decide) (fun ls hl => ?_)
      obtain ⟨aj82, h1aj82, kaj82⟩ := ob1 h
      have haj82 : ∀ (w81 : CS) (H : Heap) (lc : List Loc) (cn sn : Nat) (ls : Array Slot), aj82 = w81 → wH g s.heap.size (w81, mm) H lc → lv_has ls 2 [] → W p l e (rmO g 5 92 s.heap) s mi args below meth cd H lc cn sn Q (F0 mi 155 ls []) := by
        intro w81 H lc cn sn ls h hw hl
        replace h := kaj82 _ h
        replace h := (Option.some.inj h).symm
        subst h
        exact hret _ _ _ _ _ _ dX6_init_155 hw rfl
      have hkj82 : ∀ (n : Nat) (v67 : Int32) (w68 : CS) (H : Heap) (lc : List Loc) (cn sn : Nat) (ls : Array Slot), x_X6_init_L3 o n v67 w68 = some aj82 → wH g s.heap.size (w68, mm) H lc → lv_has ls 2 [(1, .int v67), (0, rv o)] → W p l e (rmO g 5 92 s.heap) s mi args below meth cd H lc cn sn Q (F0 mi 127 ls []) := by
        intro n
        induction n with
        | zero =>
          intro v67 w68 H lc cn sn ls h
          rw [x_X6_init_L3] at h
          cases h
        | succ n ih =>
          intro v67 w68 H lc cn sn ls h hw hl
          rw [x_X6_init_L3] at h
          refine lv_iload_n hx hb dX6_init_127 rfl (lv_at hl 0 rfl) ?_
          refine t_aload_n hx hb dX6_init_128 rfl (lv_at hl 1 rfl) ?_
          obtain ⟨c69, h⟩ := og h
          refine c_gf (C := RX6) (TT := TX6) (N := 8) (ref := "TabStore") (v := rv (wJ w68 242 o)) hX hw (ce_6 c69) rfl 2 (by decide +kernel) (by decide) (by decide +kernel) (fun _ h9 => h9) rfl dX6_init_129 ?_
          obtain ⟨c70, h⟩ := og h
          refine c_alen hX hw 2 (ae_10 c70) rfl dX6_init_132 ?_
          refine lv_icmp_ge (tgt := 155) hx hb dX6_init_133 (by decide) (fun c71 => ?_) (fun c71 => ?_)
          · replace h := ot c71 h
            replace h := (Option.some.inj h).symm
            exact haj82 _ _ _ _ _ _ h hw (lv_sub hl [] rfl)
          · replace h := oe c71 h
            refine t_aload_n hx hb dX6_init_136 rfl (lv_at hl 1 rfl) ?_
            refine c_gf (C := RX6) (TT := TX6) (N := 8) (ref := "TabStore") (v := rv (wJ w68 242 o)) hX hw (ce_6 c69) rfl 2 (by decide +kernel) (by decide) (by decide +kernel) (fun _ h9 => h9) rfl dX6_init_137 ?_
            refine lv_iload_n hx hb dX6_init_140 rfl (lv_at hl 0 rfl) ?_
            obtain ⟨c72, h⟩ := og h
            obtain ⟨w73, ew73, h⟩ := ol h
            refine n_5 hX hw (by decide +kernel) (by decide +kernel) (by decide +kernel) (by decide +kernel) c72 dX6_init_141 (fun H cn sn hw => ?_)
            have hw := hw_eq ew73 hw
            refine lv_dup hx hb dX6_init_144 (rv_cat _) ?_
            obtain ⟨c74, h⟩ := og h
            obtain ⟨w76, e75, h⟩ := ob h
            refine g_callIN (n := 0) (As := []) (rest := [rv (wz w68 + 1), .int v67, rv (wJ w68 242 o)]) hX hw (c_X3_init g l hG hst mm (wz w68 + 1) w73 w76 e75) gX6_init_X3_init_n45 rfl (by decide +kernel) rfl (x_nz hw c74) (by decide +kernel) (hN s hX.2.1.2.1).2 (by decide +kernel) rfl hl.1 rfl (by simp [rv_cat, ct_i, ct_l]) ⟨by decide, by decide⟩ dX6_init_145 (fun H lc cn sn hw => ?_)
            obtain ⟨c77, h⟩ := og h
            obtain ⟨c78, h⟩ := og h
            obtain ⟨c79, h⟩ := og h
            obtain ⟨w80, ew80, h⟩ := ol h
            refine c_ast hX hw 2 (ae_10 c77) (ae_10 c77) (by rw [c77]; decide) rfl c78 (Or.inr (c_anyS hX hw (ce_5 c79) rfl)) dX6_init_148 (fun H lc hw => ?_)
            have hw := hw_eq ew80 hw
            refine lv_iinc (v := (v67 + 1)) (lv' := [(1, .int (v67 + 1)), (0, rv o)]) hx hb dX6_init_149 hl (k := 0) rfl (by rfl) (by decide) (by simp [rv_cat, ct_i, ct_l] <;> decide) (fun ls hl => ?_)
            refine lv_goto (tgt := 127) hx hb dX6_init_152 (by decide) ?_
            exact ih _ _ _ _ _ _ _ h hw (lv_sub hl [0, 1] rfl)
      exact hkj82 FU 0 w66 _ _ _ _ _ h1aj82 hw (lv_sub hl [0, 1] rfl)
    have hkj83 : ∀ (n : Nat) (v52 : Int32) (w53 : CS) (H : Heap) (lc : List Loc) (cn sn : Nat) (ls : Array Slot), x_X6_init_L2 o n v52 w53 = some aj83 → wH g s.heap.size (w53, mm) H lc → lv_has ls 2 [(1, .int v52), (0, rv o)] → W p l e (rmO g 5 92 s.heap) s mi args below meth cd H lc cn sn Q (F0 mi 97 ls []) := by
      intro n
      induction n with
      | zero =>
        intro v52 w53 H lc cn sn ls h
        rw [x_X6_init_L2] at h
        cases h
      | succ n ih =>
        intro v52 w53 H lc cn sn ls h hw hl
        rw [x_X6_init_L2] at h
        refine lv_iload_n hx hb dX6_init_97 rfl (lv_at hl 0 rfl) ?_
        refine t_aload_n hx hb dX6_init_98 rfl (lv_at hl 1 rfl) ?_
        obtain ⟨c54, h⟩ := og h
        refine c_gf (C := RX6) (TT := TX6) (N := 8) (ref := "TabStore") (v := rv (wJ w53 241 o)) hX hw (ce_6 c54) rfl 1 (by decide +kernel) (by decide) (by decide +kernel) (fun _ h9 => h9) rfl dX6_init_99 ?_
        obtain ⟨c55, h⟩ := og h
        refine c_alen hX hw 2 (ae_10 c55) rfl dX6_init_102 ?_
        refine lv_icmp_ge (tgt := 125) hx hb dX6_init_103 (by decide) (fun c56 => ?_) (fun c56 => ?_)
        · replace h := ot c56 h
          replace h := (Option.some.inj h).symm
          exact haj83 _ _ _ _ _ _ h hw (lv_sub hl [1] rfl)
        · replace h := oe c56 h
          refine t_aload_n hx hb dX6_init_106 rfl (lv_at hl 1 rfl) ?_
          refine c_gf (C := RX6) (TT := TX6) (N := 8) (ref := "TabStore") (v := rv (wJ w53 241 o)) hX hw (ce_6 c54) rfl 1 (by decide +kernel) (by decide) (by decide +kernel) (fun _ h9 => h9) rfl dX6_init_107 ?_
          refine lv_iload_n hx hb dX6_init_110 rfl (lv_at hl 0 rfl) ?_
          obtain ⟨c57, h⟩ := og h
          obtain ⟨w58, ew58, h⟩ := ol h
          refine n_5 hX hw (by decide +kernel) (by decide +kernel) (by decide +kernel) (by decide +kernel) c57 dX6_init_111 (fun H cn sn hw => ?_)
          have hw := hw_eq ew58 hw
          refine lv_dup hx hb dX6_init_114 (rv_cat _) ?_
          obtain ⟨c59, h⟩ := og h
          obtain ⟨w61, e60, h⟩ := ob h
          refine g_callIN (n := 0) (As := []) (rest := [rv (wz w53 + 1), .int v52, rv (wJ w53 241 o)]) hX hw (c_X3_init g l hG hst mm (wz w53 + 1) w58 w61 e60) gX6_init_X3_init_n45 rfl (by decide +kernel) rfl (x_nz hw c59) (by decide +kernel) (hN s hX.2.1.2.1).2 (by decide +kernel) rfl hl.1 rfl (by simp [rv_cat, ct_i, ct_l]) ⟨by decide, by decide⟩ dX6_init_115 (fun H lc cn sn hw => ?_)
          obtain ⟨c62, h⟩ := og h
          obtain ⟨c63, h⟩ := og h
          obtain ⟨c64, h⟩ := og h
          obtain ⟨w65, ew65, h⟩ := ol h
          refine c_ast hX hw 2 (ae_10 c62) (ae_10 c62) (by rw [c62]; decide) rfl c63 (Or.inr (c_anyS hX hw (ce_5 c64) rfl)) dX6_init_118 (fun H lc hw => ?_)
          have hw := hw_eq ew65 hw
          refine lv_iinc (v := (v52 + 1)) (lv' := [(1, .int (v52 + 1)), (0, rv o)]) hx hb dX6_init_119 hl (k := 0) rfl (by rfl) (by decide) (by simp [rv_cat, ct_i, ct_l] <;> decide) (fun ls hl => ?_)
          refine lv_goto (tgt := 97) hx hb dX6_init_122 (by decide) ?_
          exact ih _ _ _ _ _ _ _ h hw (lv_sub hl [0, 1] rfl)
    exact hkj83 FU 0 w51 _ _ _ _ _ h1aj83 hw (lv_sub hl [0, 1] rfl)
  have hkj84 : ∀ (n : Nat) (v37 : Int32) (w38 : CS) (H : Heap) (lc : List Loc) (cn sn : Nat) (ls : Array Slot), x_X6_init_L1 o n v37 w38 = some aj84 → wH g s.heap.size (w38, mm) H lc → lv_has ls 2 [(1, .int v37), (0, rv o)] → W p l e (rmO g 5 92 s.heap) s mi args below meth cd H lc cn sn Q (F0 mi 67 ls []) := by
    intro n
    induction n with
    | zero =>
      intro v37 w38 H lc cn sn ls h
      rw [x_X6_init_L1] at h
      cases h
    | succ n ih =>
      intro v37 w38 H lc cn sn ls h hw hl
      rw [x_X6_init_L1] at h
      refine lv_iload_n hx hb dX6_init_67 rfl (lv_at hl 0 rfl) ?_
      refine t_aload_n hx hb dX6_init_68 rfl (lv_at hl 1 rfl) ?_
      obtain ⟨c39, h⟩ := og h
      refine c_gf (C := RX6) (TT := TX6) (N := 8) (ref := "TabStore") (v := rv (wJ w38 240 o)) hX hw (ce_6 c39) rfl 0 (by decide +kernel) (by decide) (by decide +kernel) (fun _ h9 => h9) rfl dX6_init_69 ?_
      obtain ⟨c40, h⟩ := og h
      refine c_alen hX hw 3 (ae_11 c40) rfl dX6_init_72 ?_
      refine lv_icmp_ge (tgt := 95) hx hb dX6_init_73 (by decide) (fun c41 => ?_) (fun c41 => ?_)
      · replace h := ot c41 h
        replace h := (Option.some.inj h).symm
        exact haj84 _ _ _ _ _ _ h hw (lv_sub hl [1] rfl)
      · replace h := oe c41 h
        refine t_aload_n hx hb dX6_init_76 rfl (lv_at hl 1 rfl) ?_
        refine c_gf (C := RX6) (TT := TX6) (N := 8) (ref := "TabStore") (v := rv (wJ w38 240 o)) hX hw (ce_6 c39) rfl 0 (by decide +kernel) (by decide) (by decide +kernel) (fun _ h9 => h9) rfl dX6_init_77 ?_
        refine lv_iload_n hx hb dX6_init_80 rfl (lv_at hl 0 rfl) ?_
        obtain ⟨c42, h⟩ := og h
        obtain ⟨w43, ew43, h⟩ := ol h
        refine n_4 hX hw (by decide +kernel) (by decide +kernel) (by decide +kernel) (by decide +kernel) c42 dX6_init_81 (fun H cn sn hw => ?_)
        have hw := hw_eq ew43 hw
        refine lv_dup hx hb dX6_init_84 (rv_cat _) ?_
        obtain ⟨c44, h⟩ := og h
        obtain ⟨w46, e45, h⟩ := ob h
        refine g_callIN (n := 0) (As := []) (rest := [rv (wz w38 + 1), .int v37, rv (wJ w38 240 o)]) hX hw (c_X4_init g l hG hst mm (wz w38 + 1) w43 w46 e45) gX6_init_X4_init_n44 rfl (by decide +kernel) rfl (x_nz hw c44) (by decide +kernel) (hN s hX.2.1.2.1).1 (by decide +kernel) rfl hl.1 rfl (by simp [rv_cat, ct_i, ct_l]) ⟨by decide, by decide⟩ dX6_init_85 (fun H lc cn sn hw => ?_)
        obtain ⟨c47, h⟩ := og h
        obtain ⟨c48, h⟩ := og h
        obtain ⟨c49, h⟩ := og h
        obtain ⟨w50, ew50, h⟩ := ol h
        refine c_ast hX hw 3 (ae_11 c47) (ae_11 c47) (by rw [c47]; decide) rfl c48 (Or.inr (c_anyS hX hw (ce_4 c49) rfl)) dX6_init_88 (fun H lc hw => ?_)
        have hw := hw_eq ew50 hw
        refine lv_iinc (v := (v37 + 1)) (lv' := [(1, .int (v37 + 1)), (0, rv o)]) hx hb dX6_init_89 hl (k := 0) rfl (by rfl) (by decide) (by simp [rv_cat, ct_i, ct_l] <;> decide) (fun ls hl => ?_)
        refine lv_goto (tgt := 67) hx hb dX6_init_92 (by decide) ?_
        exact ih _ _ _ _ _ _ _ h hw (lv_sub hl [0, 1] rfl)
  exact hkj84 FU 0 w36 _ _ _ _ _ h1aj84 hw (lv_sub hl [0, 1] rfl)

def x_X7_init (o : Nat) (w : CS) : Option (CS) :=
  if wJ w 0 o = 14 then
  if ¬ (4 : Int32) < 0 ∧ (4 : Int32).toNatClampNeg ≤ 1000 then
  if 1 ≤ wl w ∧ (4 : Int32).toNatClampNeg ≤ wk w then
  bs (nw w 8 (4 : Int32).toNatClampNeg (4 : Int32).toNatClampNeg) (fun (w4 : CS) =>
  if wJ w4 0 o = 14 then
  bs (sJ w4 561 o (wz w + 1)) (fun (w6 : CS) =>
  if ¬ (4 : Int32) < 0 ∧ (4 : Int32).toNatClampNeg ≤ 1000 then
  if 1 ≤ wl w6 ∧ (4 : Int32).toNatClampNeg ≤ wk w6 then
  bs (nw w6 8 (4 : Int32).toNatClampNeg (4 : Int32).toNatClampNeg) (fun (w9 : CS) =>
  if wJ w9 0 o = 14 then
  bs (sJ w9 562 o (wz w6 + 1)) (fun (w11 : CS) =>
  if ¬ (4 : Int32) < 0 ∧ (4 : Int32).toNatClampNeg ≤ 1000 then
  if 1 ≤ wl w11 ∧ (4 : Int32).toNatClampNeg ≤ wk w11 then
  bs (nw w11 8 (4 : Int32).toNatClampNeg (4 : Int32).toNatClampNeg) (fun (w14 : CS) =>
  if wJ w14 0 o = 14 then
  bs (sJ w14 563 o (wz w11 + 1)) (fun (w16 : CS) =>
  if wJ w16 0 o = 14 then
  bs (sI w16 565 o (-1)) (fun (w18 : CS) =>
  if ¬ (3 : Int32) < 0 ∧ (3 : Int32).toNatClampNeg ≤ 1000 then
  if 1 ≤ wl w18 ∧ (3 : Int32).toNatClampNeg ≤ wk w18 then
  bs (nw w18 9 (3 : Int32).toNatClampNeg (3 : Int32).toNatClampNeg) (fun (w21 : CS) =>
  if wJ w21 0 o = 14 then
  bs (sJ w21 566 o (wz w18 + 1)) (fun (w23 : CS) =>
  if ¬ (6 : Int32) < 0 ∧ (6 : Int32).toNatClampNeg ≤ 1000 then
  if 1 ≤ wl w23 ∧ (6 : Int32).toNatClampNeg ≤ wk w23 then
  bs (nw w23 8 (6 : Int32).toNatClampNeg (6 : Int32).toNatClampNeg) (fun (w26 : CS) =>
  if wJ w26 0 o = 14 then
  bs (sJ w26 567 o (wz w23 + 1)) (fun (w28 : CS) =>
  if ¬ (3 : Int32) < 0 ∧ (3 : Int32).toNatClampNeg ≤ 1000 then
  if 1 ≤ wl w28 ∧ (3 : Int32).toNatClampNeg ≤ wk w28 then
  bs (nw w28 8 (3 : Int32).toNatClampNeg (3 : Int32).toNatClampNeg) (fun (w31 : CS) =>
  if wJ w31 0 o = 14 then
  bs (sJ w31 568 o (wz w28 + 1)) (fun (w33 : CS) =>
  if ¬ (120 : Int32) < 0 ∧ (120 : Int32).toNatClampNeg ≤ 1000 then
  if 1 ≤ wl w33 ∧ (120 : Int32).toNatClampNeg ≤ wk w33 then
  bs (nw w33 8 (120 : Int32).toNatClampNeg (120 : Int32).toNatClampNeg) (fun (w36 : CS) =>
  if wJ w36 0 o = 14 then
  bs (sJ w36 569 o (wz w33 + 1)) (fun (w38 : CS) =>
  if ¬ (120 : Int32) < 0 ∧ (120 : Int32).toNatClampNeg ≤ 1000 then
  if 1 ≤ wl w38 ∧ (120 : Int32).toNatClampNeg ≤ wk w38 then
  bs (nw w38 8 (120 : Int32).toNatClampNeg (120 : Int32).toNatClampNeg) (fun (w41 : CS) =>
  if wJ w41 0 o = 14 then
  bs (sJ w41 570 o (wz w38 + 1)) (fun (w43 : CS) =>
  if ¬ (240 : Int32) < 0 ∧ (240 : Int32).toNatClampNeg ≤ 1000 then
  if 1 ≤ wl w43 ∧ (240 : Int32).toNatClampNeg ≤ wk w43 then
  bs (nw w43 8 (240 : Int32).toNatClampNeg (240 : Int32).toNatClampNeg) (fun (w46 : CS) =>
  if wJ w46 0 o = 14 then
  bs (sJ w46 571 o (wz w43 + 1)) (fun (w48 : CS) =>
  if ¬ (3 : Int32) < 0 ∧ (3 : Int32).toNatClampNeg ≤ 1000 then
  if 1 ≤ wl w48 ∧ (3 : Int32).toNatClampNeg ≤ wk w48 then
  bs (nw w48 9 (3 : Int32).toNatClampNeg (3 : Int32).toNatClampNeg) (fun (w51 : CS) =>
  if wJ w51 0 o = 14 then
  bs (sJ w51 572 o (wz w48 + 1)) (fun (w53 : CS) =>
  if ¬ (6 : Int32) < 0 ∧ (6 : Int32).toNatClampNeg ≤ 1000 then
  if 1 ≤ wl w53 ∧ (6 : Int32).toNatClampNeg ≤ wk w53 then
  bs (nw w53 8 (6 : Int32).toNatClampNeg (6 : Int32).toNatClampNeg) (fun (w56 : CS) =>
  if wJ w56 0 o = 14 then
  bs (sJ w56 573 o (wz w53 + 1)) (fun (w58 : CS) =>
  if ¬ (3 : Int32) < 0 ∧ (3 : Int32).toNatClampNeg ≤ 1000 then
  if 1 ≤ wl w58 ∧ (3 : Int32).toNatClampNeg ≤ wk w58 then
  bs (nw w58 8 (3 : Int32).toNatClampNeg (3 : Int32).toNatClampNeg) (fun (w61 : CS) =>
  if wJ w61 0 o = 14 then
  bs (sJ w61 574 o (wz w58 + 1)) (fun (w63 : CS) =>
  if ¬ (120 : Int32) < 0 ∧ (120 : Int32).toNatClampNeg ≤ 1000 then
  if 1 ≤ wl w63 ∧ (120 : Int32).toNatClampNeg ≤ wk w63 then
  bs (nw w63 8 (120 : Int32).toNatClampNeg (120 : Int32).toNatClampNeg) (fun (w66 : CS) =>
  if wJ w66 0 o = 14 then
  bs (sJ w66 575 o (wz w63 + 1)) (fun (w68 : CS) =>
  if ¬ (120 : Int32) < 0 ∧ (120 : Int32).toNatClampNeg ≤ 1000 then
  if 1 ≤ wl w68 ∧ (120 : Int32).toNatClampNeg ≤ wk w68 then
  bs (nw w68 8 (120 : Int32).toNatClampNeg (120 : Int32).toNatClampNeg) (fun (w71 : CS) =>
  if wJ w71 0 o = 14 then
  bs (sJ w71 576 o (wz w68 + 1)) (fun (w73 : CS) =>
  if ¬ (240 : Int32) < 0 ∧ (240 : Int32).toNatClampNeg ≤ 1000 then
  if 1 ≤ wl w73 ∧ (240 : Int32).toNatClampNeg ≤ wk w73 then
  bs (nw w73 8 (240 : Int32).toNatClampNeg (240 : Int32).toNatClampNeg) (fun (w76 : CS) =>
  if wJ w76 0 o = 14 then
  bs (sJ w76 577 o (wz w73 + 1)) (fun (w78 : CS) =>
  if ¬ (60 : Int32) < 0 ∧ (60 : Int32).toNatClampNeg ≤ 1000 then
  if 1 ≤ wl w78 ∧ (60 : Int32).toNatClampNeg ≤ wk w78 then
  bs (nw w78 8 (60 : Int32).toNatClampNeg (60 : Int32).toNatClampNeg) (fun (w81 : CS) =>
  if wJ w81 0 o = 14 then
  bs (sJ w81 579 o (wz w78 + 1)) (fun (w83 : CS) =>
  if ¬ (60 : Int32) < 0 ∧ (60 : Int32).toNatClampNeg ≤ 1000 then
  if 1 ≤ wl w83 ∧ (60 : Int32).toNatClampNeg ≤ wk w83 then
  bs (nw w83 8 (60 : Int32).toNatClampNeg (60 : Int32).toNatClampNeg) (fun (w86 : CS) =>
  if wJ w86 0 o = 14 then
  bs (sJ w86 580 o (wz w83 + 1)) (fun (w88 : CS) =>
  if ¬ (60 : Int32) < 0 ∧ (60 : Int32).toNatClampNeg ≤ 1000 then
  if 1 ≤ wl w88 ∧ (60 : Int32).toNatClampNeg ≤ wk w88 then
  bs (nw w88 9 (60 : Int32).toNatClampNeg (60 : Int32).toNatClampNeg) (fun (w91 : CS) =>
  if wJ w91 0 o = 14 then
  bs (sJ w91 581 o (wz w88 + 1)) (fun (w93 : CS) =>
  if ¬ (60 : Int32) < 0 ∧ (60 : Int32).toNatClampNeg ≤ 1000 then
  if 1 ≤ wl w93 ∧ (60 : Int32).toNatClampNeg ≤ wk w93 then
  bs (nw w93 8 (60 : Int32).toNatClampNeg (60 : Int32).toNatClampNeg) (fun (w96 : CS) =>
  if wJ w96 0 o = 14 then
  bs (sJ w96 582 o (wz w93 + 1)) (fun (w98 : CS) =>
  if ¬ (40 : Int32) < 0 ∧ (40 : Int32).toNatClampNeg ≤ 1000 then
  if 1 ≤ wl w98 ∧ (40 : Int32).toNatClampNeg ≤ wk w98 then
  bs (nw w98 8 (40 : Int32).toNatClampNeg (40 : Int32).toNatClampNeg) (fun (w101 : CS) =>
  if wJ w101 0 o = 14 then
  bs (sJ w101 584 o (wz w98 + 1)) (fun (w103 : CS) =>
  if ¬ (40 : Int32) < 0 ∧ (40 : Int32).toNatClampNeg ≤ 1000 then
  if 1 ≤ wl w103 ∧ (40 : Int32).toNatClampNeg ≤ wk w103 then
  bs (nw w103 8 (40 : Int32).toNatClampNeg (40 : Int32).toNatClampNeg) (fun (w106 : CS) =>
  if wJ w106 0 o = 14 then
  bs (sJ w106 585 o (wz w103 + 1)) (fun (w108 : CS) =>
  if ¬ (40 : Int32) < 0 ∧ (40 : Int32).toNatClampNeg ≤ 1000 then
  if 1 ≤ wl w108 ∧ (40 : Int32).toNatClampNeg ≤ wk w108 then
  bs (nw w108 8 (40 : Int32).toNatClampNeg (40 : Int32).toNatClampNeg) (fun (w111 : CS) =>
  if wJ w111 0 o = 14 then
  bs (sJ w111 586 o (wz w108 + 1)) (fun (w113 : CS) =>
  if ¬ (40 : Int32) < 0 ∧ (40 : Int32).toNatClampNeg ≤ 1000 then
  if 1 ≤ wl w113 ∧ (40 : Int32).toNatClampNeg ≤ wk w113 then
  bs (nw w113 8 (40 : Int32).toNatClampNeg (40 : Int32).toNatClampNeg) (fun (w116 : CS) =>
  if wJ w116 0 o = 14 then
  bs (sJ w116 587 o (wz w113 + 1)) (fun (w118 : CS) =>
  if ¬ (40 : Int32) < 0 ∧ (40 : Int32).toNatClampNeg ≤ 1000 then
  if 1 ≤ wl w118 ∧ (40 : Int32).toNatClampNeg ≤ wk w118 then
  bs (nw w118 8 (40 : Int32).toNatClampNeg (40 : Int32).toNatClampNeg) (fun (w121 : CS) =>
  if wJ w121 0 o = 14 then
  bs (sJ w121 588 o (wz w118 + 1)) (fun (w123 : CS) =>
  if ¬ (40 : Int32) < 0 ∧ (40 : Int32).toNatClampNeg ≤ 1000 then
  if 1 ≤ wl w123 ∧ (40 : Int32).toNatClampNeg ≤ wk w123 then
  bs (nw w123 8 (40 : Int32).toNatClampNeg (40 : Int32).toNatClampNeg) (fun (w126 : CS) =>
  if wJ w126 0 o = 14 then
  bs (sJ w126 589 o (wz w123 + 1)) (fun (w128 : CS) =>
  if ¬ (40 : Int32) < 0 ∧ (40 : Int32).toNatClampNeg ≤ 1000 then
  if 1 ≤ wl w128 ∧ (40 : Int32).toNatClampNeg ≤ wk w128 then
  bs (nw w128 8 (40 : Int32).toNatClampNeg (40 : Int32).toNatClampNeg) (fun (w131 : CS) =>
  if wJ w131 0 o = 14 then
  bs (sJ w131 590 o (wz w128 + 1)) (fun (w133 : CS) =>
  some (w133))
  else none)
  else none
  else none)
  else none)
  else none
  else none)
  else none)
  else none
  else none)
  else none)
  else none
  else none)
  else none)
  else none
  else none)
  else none)
  else none
  else none)
  else none)
  else none
  else none)
  else none)
  else none
  else none)
  else none)
  else none
  else none)
  else none)
  else none
  else none)
  else none)
  else none
  else none)
  else none)
  else none
  else none)
  else none)
  else none
  else none)
  else none)
  else none
  else none)
  else none)
  else none
  else none)
  else none)
  else none
  else none)
  else none)
  else none
  else none)
  else none)
  else none
  else none)
  else none)
  else none
  else none)
  else none)
  else none
  else none)
  else none)
  else none
  else none)
  else none)
  else none
  else none)
  else none)
  else none
  else none)
  else none)
  else none)
  else none
  else none)
  else none)
  else none
  else none)
  else none)
  else none
  else none
  else none
set_option maxHeartbeats 4000000 in
set_option maxRecDepth 100000 in
theorem c_X7_init (g : GG) (l : Launch) (hG : XG g) (hst : l.stackTraces = false) (mm : MS) (o : Nat) (w : CS) (w' : CS) (h : x_X7_init o w = some w') : MetG g l yX7_init wsX7_init 1 12 [rv o] (w, mm) (none) (w', mm) := by
  refine g_start_v (none) (own := RX7) (by decide +kernel) rfl rfl (by simp [lg_sl, rv_cat, ct_i, ct_l]) ?_
  intro p e s mi args below meth cd ls Q hX hnm hw hl hret
  have hl : lv_has ls 1 [(0, rv o)] := by simpa [lv_args, rv_cat, ct_i, ct_l] using hl
  obtain ⟨⟨hx, hb, -, hown, hts⟩, -⟩ := id hX
  unfold x_X7_init at h
  refine t_aload_n hx hb dX7_init_0 rfl (lv_at hl 0 rfl) ?_
  obtain ⟨c1, h⟩ := og h
  refine c_oinit hX (x_nz hw c1) (by decide +kernel) (by decide +kernel) (by decide +kernel) hl.1 dX7_init_1 ⟨by decide, by simp [rv_cat, ct_i, ct_l]⟩ ?_
  refine t_aload_n hx hb dX7_init_4 rfl (lv_at hl 0 rfl) ?_
  refine lv_iconst (v := 4) hx hb dX7_init_5 (by decide) ?_
  obtain ⟨c2, h⟩ := og h
  obtain ⟨c3, h⟩ := og h
  obtain ⟨w4, ew4, h⟩ := ol h
  refine n_arrI hX hw (by decide +kernel) c2 c3 dX7_init_6 (fun H cn sn hw => ?_)
  have hw := hw_eq ew4 hw
  obtain ⟨c5, h⟩ := og h
  obtain ⟨w6, ew6, h⟩ := ol h
  refine p_14_1 hX hw c5 hnm rfl (by decide +kernel) (by decide +kernel) dX7_init_8 (fun H lc hw => ?_)
  have hw := hw_eq ew6 hw
  refine t_aload_n hx hb dX7_init_11 rfl (lv_at hl 0 rfl) ?_
  refine lv_iconst (v := 4) hx hb dX7_init_12 (by decide) ?_
  obtain ⟨c7, h⟩ := og h
  obtain ⟨c8, h⟩ := og h
  obtain ⟨w9, ew9, h⟩ := ol h
  refine n_arrI hX hw (by decide +kernel) c7 c8 dX7_init_13 (fun H cn sn hw => ?_)
  have hw := hw_eq ew9 hw
  obtain ⟨c10, h⟩ := og h
  obtain ⟨w11, ew11, h⟩ := ol h
  refine p_14_2 hX hw c10 hnm rfl (by decide +kernel) (by decide +kernel) dX7_init_15 (fun H lc hw => ?_)
  have hw := hw_eq ew11 hw
  refine t_aload_n hx hb dX7_init_18 rfl (lv_at hl 0 rfl) ?_
  refine lv_iconst (v := 4) hx hb dX7_init_19 (by decide) ?_
  obtain ⟨c12, h⟩ := og h
  obtain ⟨c13, h⟩ := og h
  obtain ⟨w14, ew14, h⟩ := ol h
  refine n_arrI hX hw (by decide +kernel) c12 c13 dX7_init_20 (fun H cn sn hw => ?_)
  have hw := hw_eq ew14 hw
  obtain ⟨c15, h⟩ := og h
  obtain ⟨w16, ew16, h⟩ := ol h
  refine p_14_3 hX hw c15 hnm rfl (by decide +kernel) (by decide +kernel) dX7_init_22 (fun H lc hw => ?_)
  have hw := hw_eq ew16 hw
  refine t_aload_n hx hb dX7_init_25 rfl (lv_at hl 0 rfl) ?_
  refine lv_iconst (v := (-1)) hx hb dX7_init_26 (by decide) ?_
  obtain ⟨c17, h⟩ := og h
  obtain ⟨w18, ew18, h⟩ := ol h
  refine p_14_5 hX hw c17 (by decide +kernel) (by decide +kernel) dX7_init_27 (fun H lc hw => ?_)
  have hw := hw_eq ew18 hw
  refine t_aload_n hx hb dX7_init_30 rfl (lv_at hl 0 rfl) ?_
  refine lv_iconst (v := 3) hx hb dX7_init_31 (by decide) ?_
  obtain ⟨c19, h⟩ := og h
  obtain ⟨c20, h⟩ := og h
  obtain ⟨w21, ew21, h⟩ := ol h
  refine n_arrZ hX hw (by decide +kernel) c19 c20 dX7_init_32 (fun H cn sn hw => ?_)
  have hw := hw_eq ew21 hw
  obtain ⟨c22, h⟩ := og h
  obtain ⟨w23, ew23, h⟩ := ol h
  refine p_14_6 hX hw c22 hnm rfl (by decide +kernel) (by decide +kernel) dX7_init_34 (fun H lc hw => ?_)
  have hw := hw_eq ew23 hw
  refine t_aload_n hx hb dX7_init_37 rfl (lv_at hl 0 rfl) ?_
  refine lv_bipush (v := 6) hx hb dX7_init_38 (by decide) ?_
  obtain ⟨c24, h⟩ := og h
  obtain ⟨c25, h⟩ := og h
  obtain ⟨w26, ew26, h⟩ := ol h
  refine n_arrI hX hw (by decide +kernel) c24 c25 dX7_init_40 (fun H cn sn hw => ?_)
  have hw := hw_eq ew26 hw
  obtain ⟨c27, h⟩ := og h
  obtain ⟨w28, ew28, h⟩ := ol h
  refine p_14_7 hX hw c27 hnm rfl (by decide +kernel) (by decide +kernel) dX7_init_42 (fun H lc hw => ?_)
  have hw := hw_eq ew28 hw
  refine t_aload_n hx hb dX7_init_45 rfl (lv_at hl 0 rfl) ?_
  refine lv_iconst (v := 3) hx hb dX7_init_46 (by decide) ?_
  obtain ⟨c29, h⟩ := og h
  obtain ⟨c30, h⟩ := og h
  obtain ⟨w31, ew31, h⟩ := ol h
  refine n_arrI hX hw (by decide +kernel) c29 c30 dX7_init_47 (fun H cn sn hw => ?_)
  have hw := hw_eq ew31 hw
  obtain ⟨c32, h⟩ := og h
  obtain ⟨w33, ew33, h⟩ := ol h
  refine p_14_8 hX hw c32 hnm rfl (by decide +kernel) (by decide +kernel) dX7_init_49 (fun H lc hw => ?_)
  have hw := hw_eq ew33 hw
  refine t_aload_n hx hb dX7_init_52 rfl (lv_at hl 0 rfl) ?_
  refine lv_bipush (v := 120) hx hb dX7_init_53 (by decide) ?_
  obtain ⟨c34, h⟩ := og h
  obtain ⟨c35, h⟩ := og h
  obtain ⟨w36, ew36, h⟩ := ol h
  refine n_arrI hX hw (by decide +kernel) c34 c35 dX7_init_55 (fun H cn sn hw => ?_)
  have hw := hw_eq ew36 hw
  obtain ⟨c37, h⟩ := og h
  obtain ⟨w38, ew38, h⟩ := ol h
  refine p_14_9 hX hw c37 hnm rfl (by decide +kernel) (by decide +kernel) dX7_init_57 (fun H lc hw => ?_)
  have hw := hw_eq ew38 hw
  refine t_aload_n hx hb dX7_init_60 rfl (lv_at hl 0 rfl) ?_
  refine lv_bipush (v := 120) hx hb dX7_init_61 (by decide) ?_
  obtain ⟨c39, h⟩ := og h
  obtain ⟨c40, h⟩ := og h
  obtain ⟨w41, ew41, h⟩ := ol h
  refine n_arrI hX hw (by decide +kernel) c39 c40 dX7_init_63 (fun H cn sn hw => ?_)
  have hw := hw_eq ew41 hw
  obtain ⟨c42, h⟩ := og h
  obtain ⟨w43, ew43, h⟩ := ol h
  refine p_14_10 hX hw c42 hnm rfl (by decide +kernel) (by decide +kernel) dX7_init_65 (fun H lc hw => ?_)
  have hw := hw_eq ew43 hw
  refine t_aload_n hx hb dX7_init_68 rfl (lv_at hl 0 rfl) ?_
  refine lv_sipush (v := 240) hx hb dX7_init_69 (by decide) ?_
  obtain ⟨c44, h⟩ := og h
  obtain ⟨c45, h⟩ := og h
  obtain ⟨w46, ew46, h⟩ := ol h
  refine n_arrI hX hw (by decide +kernel) c44 c45 dX7_init_72 (fun H cn sn hw => ?_)
  have hw := hw_eq ew46 hw
  obtain ⟨c47, h⟩ := og h
  obtain ⟨w48, ew48, h⟩ := ol h
  refine p_14_11 hX hw c47 hnm rfl (by decide +kernel) (by decide +kernel) dX7_init_74 (fun H lc hw => ?_)
  have hw := hw_eq ew48 hw
  refine t_aload_n hx hb dX7_init_77 rfl (lv_at hl 0 rfl) ?_
  refine lv_iconst (v := 3) hx hb dX7_init_78 (by decide) ?_
  obtain ⟨c49, h⟩ := og h
  obtain ⟨c50, h⟩ := og h
  obtain ⟨w51, ew51, h⟩ := ol h
  refine n_arrZ hX hw (by decide +kernel) c49 c50 dX7_init_79 (fun H cn sn hw => ?_)
  have hw := hw_eq ew51 hw
  obtain ⟨c52, h⟩ := og h
  obtain ⟨w53, ew53, h⟩ := ol h
  refine p_14_12 hX hw c52 hnm rfl (by decide +kernel) (by decide +kernel) dX7_init_81 (fun H lc hw => ?_)
  have hw := hw_eq ew53 hw
  refine t_aload_n hx hb dX7_init_84 rfl (lv_at hl 0 rfl) ?_
  refine lv_bipush (v := 6) hx hb dX7_init_85 (by decide) ?_
  obtain ⟨c54, h⟩ := og h
  obtain ⟨c55, h⟩ := og h
  obtain ⟨w56, ew56, h⟩ := ol h
  refine n_arrI hX hw (by decide +kernel) c54 c55 dX7_init_87 (fun H cn sn hw => ?_)
  have hw := hw_eq ew56 hw
  obtain ⟨c57, h⟩ := og h
  obtain ⟨w58, ew58, h⟩ := ol h
  refine p_14_13 hX hw c57 hnm rfl (by decide +kernel) (by decide +kernel) dX7_init_89 (fun H lc hw => ?_)
  have hw := hw_eq ew58 hw
  refine t_aload_n hx hb dX7_init_92 rfl (lv_at hl 0 rfl) ?_
  refine lv_iconst (v := 3) hx hb dX7_init_93 (by decide) ?_
  obtain ⟨c59, h⟩ := og h
  obtain ⟨c60, h⟩ := og h
  obtain ⟨w61, ew61, h⟩ := ol h
  refine n_arrI hX hw (by decide +kernel) c59 c60 dX7_init_94 (fun H cn sn hw => ?_)
  have hw := hw_eq ew61 hw
  obtain ⟨c62, h⟩ := og h
  obtain ⟨w63, ew63, h⟩ := ol h
  refine p_14_14 hX hw c62 hnm rfl (by decide +kernel) (by decide +kernel) dX7_init_96 (fun H lc hw => ?_)
  have hw := hw_eq ew63 hw
  refine t_aload_n hx hb dX7_init_99 rfl (lv_at hl 0 rfl) ?_
  refine lv_bipush (v := 120) hx hb dX7_init_100 (by decide) ?_
  obtain ⟨c64, h⟩ := og h
  obtain ⟨c65, h⟩ := og h
  obtain ⟨w66, ew66, h⟩ := ol h
  refine n_arrI hX hw (by decide +kernel) c64 c65 dX7_init_102 (fun H cn sn hw => ?_)
  have hw := hw_eq ew66 hw
  obtain ⟨c67, h⟩ := og h
  obtain ⟨w68, ew68, h⟩ := ol h
  refine p_14_15 hX hw c67 hnm rfl (by decide +kernel) (by decide +kernel) dX7_init_104 (fun H lc hw => ?_)
  have hw := hw_eq ew68 hw
  refine t_aload_n hx hb dX7_init_107 rfl (lv_at hl 0 rfl) ?_
  refine lv_bipush (v := 120) hx hb dX7_init_108 (by decide) ?_
  obtain ⟨c69, h⟩ := og h
  obtain ⟨c70, h⟩ := og h
  obtain ⟨w71, ew71, h⟩ := ol h
  refine n_arrI hX hw (by decide +kernel) c69 c70 dX7_init_110 (fun H cn sn hw => ?_)
  have hw := hw_eq ew71 hw
  obtain ⟨c72, h⟩ := og h
  obtain ⟨w73, ew73, h⟩ := ol h
  refine p_14_16 hX hw c72 hnm rfl (by decide +kernel) (by decide +kernel) dX7_init_112 (fun H lc hw => ?_)
  have hw := hw_eq ew73 hw
  refine t_aload_n hx hb dX7_init_115 rfl (lv_at hl 0 rfl) ?_
  refine lv_sipush (v := 240) hx hb dX7_init_116 (by decide) ?_
  obtain ⟨c74, h⟩ := og h
  obtain ⟨c75, h⟩ := og h
  obtain ⟨w76, ew76, h⟩ := ol h
  refine n_arrI hX hw (by decide +kernel) c74 c75 dX7_init_119 (fun H cn sn hw => ?_)
  have hw := hw_eq ew76 hw
  obtain ⟨c77, h⟩ := og h
  obtain ⟨w78, ew78, h⟩ := ol h
  refine p_14_17 hX hw c77 hnm rfl (by decide +kernel) (by decide +kernel) dX7_init_121 (fun H lc hw => ?_)
  have hw := hw_eq ew78 hw
  refine t_aload_n hx hb dX7_init_124 rfl (lv_at hl 0 rfl) ?_
  refine lv_bipush (v := 60) hx hb dX7_init_125 (by decide) ?_
  obtain ⟨c79, h⟩ := og h
  obtain ⟨c80, h⟩ := og h
  obtain ⟨w81, ew81, h⟩ := ol h
  refine n_arrI hX hw (by decide +kernel) c79 c80 dX7_init_127 (fun H cn sn hw => ?_)
  have hw := hw_eq ew81 hw
  obtain ⟨c82, h⟩ := og h
  obtain ⟨w83, ew83, h⟩ := ol h
  refine p_14_19 hX hw c82 hnm rfl (by decide +kernel) (by decide +kernel) dX7_init_129 (fun H lc hw => ?_)
  have hw := hw_eq ew83 hw
  refine t_aload_n hx hb dX7_init_132 rfl (lv_at hl 0 rfl) ?_
  refine lv_bipush (v := 60) hx hb dX7_init_133 (by decide) ?_
  obtain ⟨c84, h⟩ := og h
  obtain ⟨c85, h⟩ := og h
  obtain ⟨w86, ew86, h⟩ := ol h
  refine n_arrI hX hw (by decide +kernel) c84 c85 dX7_init_135 (fun H cn sn hw => ?_)
  have hw := hw_eq ew86 hw
  obtain ⟨c87, h⟩ := og h
  obtain ⟨w88, ew88, h⟩ := ol h
  refine p_14_20 hX hw c87 hnm rfl (by decide +kernel) (by decide +kernel) dX7_init_137 (fun H lc hw => ?_)
  have hw := hw_eq ew88 hw
  refine t_aload_n hx hb dX7_init_140 rfl (lv_at hl 0 rfl) ?_
  refine lv_bipush (v := 60) hx hb dX7_init_141 (by decide) ?_
  obtain ⟨c89, h⟩ := og h
  obtain ⟨c90, h⟩ := og h
  obtain ⟨w91, ew91, h⟩ := ol h
  refine n_arrZ hX hw (by decide +kernel) c89 c90 dX7_init_143 (fun H cn sn hw => ?_)
  have hw := hw_eq ew91 hw
  obtain ⟨c92, h⟩ := og h
  obtain ⟨w93, ew93, h⟩ := ol h
  refine p_14_21 hX hw c92 hnm rfl (by decide +kernel) (by decide +kernel) dX7_init_145 (fun H lc hw => ?_)
  have hw := hw_eq ew93 hw
  refine t_aload_n hx hb dX7_init_148 rfl (lv_at hl 0 rfl) ?_
  refine lv_bipush (v := 60) hx hb dX7_init_149 (by decide) ?_
  obtain ⟨c94, h⟩ := og h
  obtain ⟨c95, h⟩ := og h
  obtain ⟨w96, ew96, h⟩ := ol h
  refine n_arrI hX hw (by decide +kernel) c94 c95 dX7_init_151 (fun H cn sn hw => ?_)
  have hw := hw_eq ew96 hw
  obtain ⟨c97, h⟩ := og h
  obtain ⟨w98, ew98, h⟩ := ol h
  refine p_14_22 hX hw c97 hnm rfl (by decide +kernel) (by decide +kernel) dX7_init_153 (fun H lc hw => ?_)
  have hw := hw_eq ew98 hw
  refine t_aload_n hx hb dX7_init_156 rfl (lv_at hl 0 rfl) ?_
  refine lv_bipush (v := 40) hx hb dX7_init_157 (by decide) ?_
  obtain ⟨c99, h⟩ := og h
  obtain ⟨c100, h⟩ := og h
  obtain ⟨w101, ew101, h⟩ := ol h
  refine n_arrI hX hw (by decide +kernel) c99 c100 dX7_init_159 (fun H cn sn hw => ?_)
  have hw := hw_eq ew101 hw
  obtain ⟨c102, h⟩ := og h
  obtain ⟨w103, ew103, h⟩ := ol h
  refine p_14_24 hX hw c102 hnm rfl (by decide +kernel) (by decide +kernel) dX7_init_161 (fun H lc hw => ?_)
  have hw := hw_eq ew103 hw
  refine t_aload_n hx hb dX7_init_164 rfl (lv_at hl 0 rfl) ?_
  refine lv_bipush (v := 40) hx hb dX7_init_165 (by decide) ?_
  obtain ⟨c104, h⟩ := og h
  obtain ⟨c105, h⟩ := og h
  obtain ⟨w106, ew106, h⟩ := ol h
  refine n_arrI hX hw (by decide +kernel) c104 c105 dX7_init_167 (fun H cn sn hw => ?_)
  have hw := hw_eq ew106 hw
  obtain ⟨c107, h⟩ := og h
  obtain ⟨w108, ew108, h⟩ := ol h
  refine p_14_25 hX hw c107 hnm rfl (by decide +kernel) (by decide +kernel) dX7_init_169 (fun H lc hw => ?_)
  have hw := hw_eq ew108 hw
  refine t_aload_n hx hb dX7_init_172 rfl (lv_at hl 0 rfl) ?_
  refine lv_bipush (v := 40) hx hb dX7_init_173 (by decide) ?_
  obtain ⟨c109, h⟩ := og h
  obtain ⟨c110, h⟩ := og h
  obtain ⟨w111, ew111, h⟩ := ol h
  refine n_arrI hX hw (by decide +kernel) c109 c110 dX7_init_175 (fun H cn sn hw => ?_)
  have hw := hw_eq ew111 hw
  obtain ⟨c112, h⟩ := og h
  obtain ⟨w113, ew113, h⟩ := ol h
  refine p_14_26 hX hw c112 hnm rfl (by decide +kernel) (by decide +kernel) dX7_init_177 (fun H lc hw => ?_)
  have hw := hw_eq ew113 hw
  refine t_aload_n hx hb dX7_init_180 rfl (lv_at hl 0 rfl) ?_
  refine lv_bipush (v := 40) hx hb dX7_init_181 (by decide) ?_
  obtain ⟨c114, h⟩ := og h
  obtain ⟨c115, h⟩ := og h
  obtain ⟨w116, ew116, h⟩ := ol h
  refine n_arrI hX hw (by decide +kernel) c114 c115 dX7_init_183 (fun H cn sn hw => ?_)
  have hw := hw_eq ew116 hw
  obtain ⟨c117, h⟩ := og h
  obtain ⟨w118, ew118, h⟩ := ol h
  refine p_14_27 hX hw c117 hnm rfl (by decide +kernel) (by decide +kernel) dX7_init_185 (fun H lc hw => ?_)
  have hw := hw_eq ew118 hw
  refine t_aload_n hx hb dX7_init_188 rfl (lv_at hl 0 rfl) ?_
  refine lv_bipush (v := 40) hx hb dX7_init_189 (by decide) ?_
  obtain ⟨c119, h⟩ := og h
  obtain ⟨c120, h⟩ := og h
  obtain ⟨w121, ew121, h⟩ := ol h
  refine n_arrI hX hw (by decide +kernel) c119 c120 dX7_init_191 (fun H cn sn hw => ?_)
  have hw := hw_eq ew121 hw
  obtain ⟨c122, h⟩ := og h
  obtain ⟨w123, ew123, h⟩ := ol h
  refine p_14_28 hX hw c122 hnm rfl (by decide +kernel) (by decide +kernel) dX7_init_193 (fun H lc hw => ?_)
  have hw := hw_eq ew123 hw
  refine t_aload_n hx hb dX7_init_196 rfl (lv_at hl 0 rfl) ?_
  refine lv_bipush (v := 40) hx hb dX7_init_197 (by decide) ?_
  obtain ⟨c124, h⟩ := og h
  obtain ⟨c125, h⟩ := og h
  obtain ⟨w126, ew126, h⟩ := ol h
  refine n_arrI hX hw (by decide +kernel) c124 c125 dX7_init_199 (fun H cn sn hw => ?_)
  have hw := hw_eq ew126 hw
  obtain ⟨c127, h⟩ := og h
  obtain ⟨w128, ew128, h⟩ := ol h
  refine p_14_29 hX hw c127 hnm rfl (by decide +kernel) (by decide +kernel) dX7_init_201 (fun H lc hw => ?_)
  have hw := hw_eq ew128 hw
  refine t_aload_n hx hb dX7_init_204 rfl (lv_at hl 0 rfl) ?_
  refine lv_bipush (v := 40) hx hb dX7_init_205 (by decide) ?_
  obtain ⟨c129, h⟩ := og h
  obtain ⟨c130, h⟩ := og h
  obtain ⟨w131, ew131, h⟩ := ol h
  refine n_arrI hX hw (by decide +kernel) c129 c130 dX7_init_207 (fun H cn sn hw => ?_)
  have hw := hw_eq ew131 hw
  obtain ⟨c132, h⟩ := og h
  obtain ⟨w133, ew133, h⟩ := ol h
  refine p_14_30 hX hw c132 hnm rfl (by decide +kernel) (by decide +kernel) dX7_init_209 (fun H lc hw => ?_)
  have hw := hw_eq ew133 hw
  replace h := (Option.some.inj h).symm
  subst h
  exact hret _ _ _ _ _ _ dX7_init_212 hw rfl
