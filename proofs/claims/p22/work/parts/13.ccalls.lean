/-! ===== contracts of the class's methods: one for those that return, one for those that may throw ===== -/
def qG (g : GG) (T' : TW) (v : Option Value) (z : Nat) : Array Value → State → Outcome → State → Prop := fun _ st oc t => oc = .returned v ∧ wH g z T' t.heap [] ∧ va_F (gA g) st t
def MetG (g : GG) (l : Launch) (y : MethodName) (ws : List Cond) (fr lo : Nat) (As : List Value) (T : TW) (v : Option Value) (T' : TW) : Prop := ∀ sz su : Nat, Met l y ws (rmN g fr lo sz su) (pcO g As T sz su) (qG g T' v sz) (gnn g 1 - sz) (gnn g 2 - su) (gA g)
def exn (k : Nat) : String := match k with
  | 1 => "java/lang/IndexOutOfBoundsException"
  | 2 => "java/lang/IllegalArgumentException"
  | _ => "java/lang/IllegalStateException"
def qX (g : GG) (T' : TW) (o : Nat ⊕ Option Value) (z : Nat) : Array Value → State → Outcome → State → Prop := fun _ st oc t => (∃ v, o = .inr v ∧ oc = .returned v) ∧ wH g z T' t.heap [] ∧ va_F (gA g) st t
def xX (g : GG) (T' : TW) (o : Nat ⊕ Option Value) (z : Nat) : String → State → State → Prop := fun E st t => (∃ k, o = .inl k ∧ E = exn k) ∧ wH g z T' t.heap [] ∧ va_F (gA g) st t
def MetX (g : GG) (l : Launch) (y : MethodName) (ws : List Cond) (fr lo : Nat) (As : List Value) (T : TW) (o : Nat ⊕ Option Value) (T' : TW) : Prop := ∀ sz su : Nat, vx_Met l y ws (rmN g fr lo sz su) (pcO g As T sz su) (qX g T' o sz) (xX g T' o sz) (gnn g 1 - sz) (gnn g 2 - su) (gA g)
theorem tw_stand {p : Program} {l : Launch} {e : Env} {R : Room} {s : State} {m : MethodId} {args : Array Value} {below : List Frame} {meth : Method} {c0 : Code} {H : Heap} {locs : List Loc} {cells slots k n : Nat} {Tt : State} (X : Stand p l e R s m args below meth c0 Tt locs cells slots) (hT : Tt.heap = H) (hk : H.size - s.heap.size ≤ k) (hn : hsl H - hsl s.heap ≤ n) : Stand p l e R s m args below meth c0 Tt locs k n := by
  have hh : (Tt.setVm s.vm).heap = Tt.heap := rfl
  have key := sbn_eq X.same
  obtain ⟨e1, e2, e3, e4, e5, e6⟩ := X.same
  rw [hh] at e2 e3 e4 e5 e6 key
  rw [hT] at key e2
  refine { X with same := ⟨e1, ?_, ?_, ?_, ?_, ?_⟩ }
  · rw [hh, hT]; exact e2
  · rw [hh, hT]; omega
  · rw [hh]; exact e4
  · rw [hh, hT]; omega
  · rw [hh]; exact e6
section CC
variable {p : Program} {l : Launch} {e : Env} {s : State} {m : MethodId} {args : Array Value} {below : List Frame} {meth : Method} {c0 : Code} {H : Heap} {locs : List Loc} {cells slots : Nat} {Q : State → Prop}
variable {cc : ByteArray} {pc : Nat} {ls : Array Slot} {rest st0 As : List Value} {g : GG} {T T' : TW} {Ts ws ws' : List Cond} {nL n index maxL fr lo fr' lo' x k : Nat} {own C : String} {ret ret' : Option FieldType} {y xn : MethodName} {bytes : ByteArray} {v : Option Value}
theorem tw_go {R : Room} {mc ms b : Nat} {a : Array Value} (hw : wH g s.heap.size T H locs) (hr : va_Run p l e R s m args below meth c0 H locs cells slots mc ms (F0 m pc ls st0) rest (qG g T' v H.size a) (gA g))
    (kk : ∀ (H1 : Heap) (locs1 : List Loc) (cells slots : Nat), wH g s.heap.size T' H1 locs1 → W p l e R s m args below meth c0 H1 locs1 cells slots Q (F0 m (pc + 3) ls (v.toList ++ rest))) : W p l e R s m args below meth c0 H locs cells slots Q (F0 m pc ls st0) := by
  intro Tt hT X
  obtain ⟨v', st₀, t, T2, L, h0, X', hL, e1, e2, ⟨hv, hB, hF⟩, st⟩ := hr Tt hT X
  cases hv
  obtain ⟨w1, w2, w3, ⟨w4, w5, w6⟩, w10⟩ := hw
  obtain ⟨t2, a1, b1⟩ := kk T2.heap (locs ++ L) _ _ (wH_re (by rw [e1]; exact hB) w4 w5 (fun q hq => by
    rcases List.mem_append.mp hq with h | h
    · exact w10 q h
    · exact hL q h)) T2 rfl X'
  exact ⟨t2, st t2 a1, b1⟩
theorem tw_go5 {R : Room} {mc ms b : Nat} {a : Array Value} (hw : wH g s.heap.size T H locs) (hr : va_Run5 p l e R s m args below meth c0 H locs cells slots mc ms (F0 m pc ls st0) rest (qG g T' v H.size a) (gA g))
    (kk : ∀ (H1 : Heap) (locs1 : List Loc) (cells slots : Nat), wH g s.heap.size T' H1 locs1 → W p l e R s m args below meth c0 H1 locs1 cells slots Q (F0 m (pc + 5) ls (v.toList ++ rest))) : W p l e R s m args below meth c0 H locs cells slots Q (F0 m pc ls st0) := by
  intro Tt hT X
  obtain ⟨v', st₀, t, T2, L, h0, X', hL, e1, e2, ⟨hv, hB, hF⟩, st⟩ := hr Tt hT X
  cases hv
  obtain ⟨w1, w2, w3, ⟨w4, w5, w6⟩, w10⟩ := hw
  obtain ⟨t2, a1, b1⟩ := kk T2.heap (locs ++ L) _ _ (wH_re (by rw [e1]; exact hB) w4 w5 (fun q hq => by
    rcases List.mem_append.mp hq with h | h
    · exact w10 q h
    · exact hL q h)) T2 rfl X'
  exact ⟨t2, st t2 a1, b1⟩
/-- a call of one that throws -/
theorem tw_xe {R : Room} {mc ms : Nat} {a : Array Value} (hw : wH g s.heap.size T H locs) (hr : vx_Run p l e R s m args below meth c0 H locs cells slots mc ms (F0 m pc ls st0) rest (qX g T' (.inl k) H.size a) (xX g T' (.inl k) H.size) (gA g))
    (kx : ∀ (H1 : Heap) (locs1 : List Loc) (cells slots : Nat) (q : Addr) (ce : Cell), wH g s.heap.size T' H1 locs1 → H1[q]? = some ce → ce.vm = .none → s.vm.findClass (exn k) = some ce.cls → vx_W p l e R s m args below meth c0 H1 locs1 cells slots Q (F0 m pc ls rest) q) : W p l e R s m args below meth c0 H locs cells slots Q (F0 m pc ls st0) := by
  intro Tt hT X
  rcases hr Tt hT X with ⟨v', st₀, t, T2, L, h0, X', hL, e1, e2, ⟨⟨v, hv, -⟩, -⟩, st⟩ | ⟨q, st₀, t, T2, L, E, ce, h0, X', hL, e1, e2, ⟨⟨k', hk, rfl⟩, hB, hF⟩, hce, hcv, hcl, st⟩
  · cases hv
  · cases hk
    obtain ⟨w1, w2, w3, ⟨w4, w5, w6⟩, w10⟩ := hw
    obtain ⟨t2, a1, b1⟩ := kx T2.heap (locs ++ L) _ _ q ce (wH_re (by rw [e1]; exact hB) w4 w5 (fun q hq => by
      rcases List.mem_append.mp hq with h | h
      · exact w10 q h
      · exact hL q h)) (by rw [e1]; exact hce) hcv hcl T2 rfl X'
    exact ⟨t2, st.trans a1, b1⟩
theorem tw_xn {R : Room} {mc ms : Nat} {a : Array Value} (hw : wH g s.heap.size T H locs) (hr : vx_Run p l e R s m args below meth c0 H locs cells slots mc ms (F0 m pc ls st0) rest (qX g T' (.inr v) H.size a) (xX g T' (.inr v) H.size) (gA g))
    (kk : ∀ (H1 : Heap) (locs1 : List Loc) (cells slots : Nat), wH g s.heap.size T' H1 locs1 → W p l e R s m args below meth c0 H1 locs1 cells slots Q (F0 m (pc + 3) ls (v.toList ++ rest))) : W p l e R s m args below meth c0 H locs cells slots Q (F0 m pc ls st0) := by
  intro Tt hT X
  rcases hr Tt hT X with ⟨v', st₀, t, T2, L, h0, X', hL, e1, e2, ⟨⟨v2, hv, hv2⟩, hB, hF⟩, st⟩ | ⟨q, st₀, t, T2, L, E, ce, h0, X', hL, e1, e2, ⟨⟨k', hk, -⟩, -⟩, -⟩
  · cases hv
    cases hv2
    obtain ⟨w1, w2, w3, ⟨w4, w5, w6⟩, w10⟩ := hw
    obtain ⟨t2, a1, b1⟩ := kk T2.heap (locs ++ L) _ _ (wH_re (by rw [e1]; exact hB) w4 w5 (fun q hq => by
      rcases List.mem_append.mp hq with h | h
      · exact w10 q h
      · exact hL q h)) T2 rfl X'
    exact ⟨t2, st t2 a1, b1⟩
  · cases hk
theorem g_callV (hX : MX g own p s m args c0 cc nL Ts meth ret) (hw : wH g s.heap.size T H locs) (hM : MetG g l y ws fr' lo' (rv x :: As) T v T') (hG : GoodIn Ts (wsV own index C y ws)) (hwc : ws = Cond.code y bytes maxL ret' :: ws')
    (hd : y.cls = C ∧ y.cls ≠ "java/lang/invoke/MethodHandle" ∧ y.cls ≠ "java/lang/invoke/VarHandle" ∧ (parseMethodDescriptor y.desc).map (fun d => d.parameters.length) = some n) (hn : As.length = n) (hx0 : x ≠ 0) (hrecv : ∃ cell : Cell, H[x - 1]? = some cell ∧ cell.vm.isStatics = false ∧ s.vm.findClass C = some cell.cls) (hsz : ls.size = nL) (hst : st0 = As.reverse ++ rv x :: rest) (hr8 : (rest.map fun v => v.category).sum ≤ 8)
    (hR : fr' + 1 ≤ fr ∧ 8 + (maxL + 11) + lo' ≤ lo) (hdg : decode cc pc = .ok (.invokevirtual index, 3))
    (kk : ∀ (H1 : Heap) (locs1 : List Loc) (cells slots : Nat), wH g s.heap.size T' H1 locs1 → W p l e (rmO g fr lo s.heap) s m args below meth c0 H1 locs1 cells slots Q (F0 m (pc + 3) ls (v.toList ++ rest))) : W p l e (rmO g fr lo s.heap) s m args below meth c0 H locs cells slots Q (F0 m pc ls st0) := by
  rw [rv_ref hx0] at hM hst
  obtain ⟨⟨hx, hb, hml, hown, hts⟩, hK, -⟩ := hX
  refine tw_tight fun c' s' hc hs' hz hzs => ?_
  obtain ⟨w1, w2, w3, ⟨w4, w5, w6, w7, w8⟩, w10⟩ := id hw
  exact tw_go (b := 0) hw (va_runV (As := As) (rest := rest) ⟨hx, hb, hml, hown, hts⟩ (hM H.size (hsl H)) (cwV n hts hG hwc rfl rfl hd hR) ⟨pcO_blind _ _ _ _ _, hrecv, fun U hU hW => ⟨rfl, by rw [hU], by rw [hU], by rw [hU]; exact wH_up hw, TB.moved hW hK⟩⟩ rfl hn hsz hst (lv_room hr8) hdg ⟨sub_ok hz (by omega) hc, sub_ok hzs (by omega) hs'⟩) kk
theorem g_callS (hX : MX g own p s m args c0 cc nL Ts meth ret) (hw : wH g s.heap.size T H locs) (hM : MetG g l y ws fr' lo' As T v T') (hG : GoodIn Ts (va_wsS own index y ws)) (hwc : ws = Cond.code y bytes maxL ret' :: ws')
    (hd : y.cls ≠ "java/lang/invoke/MethodHandle" ∧ y.cls ≠ "java/lang/invoke/VarHandle" ∧ (parseMethodDescriptor y.desc).map (fun d => d.parameters.length) = some n) (hn : As.length = n) (hsz : ls.size = nL) (hst : st0 = As.reverse ++ rest) (hr8 : (rest.map fun v => v.category).sum ≤ 8)
    (hR : fr' + 1 ≤ fr ∧ 8 + (maxL + 11) + lo' ≤ lo) (hdg : decode cc pc = .ok (.invokestatic index, 3))
    (kk : ∀ (H1 : Heap) (locs1 : List Loc) (cells slots : Nat), wH g s.heap.size T' H1 locs1 → W p l e (rmO g fr lo s.heap) s m args below meth c0 H1 locs1 cells slots Q (F0 m (pc + 3) ls (v.toList ++ rest))) : W p l e (rmO g fr lo s.heap) s m args below meth c0 H locs cells slots Q (F0 m pc ls st0) := by
  obtain ⟨⟨hx, hb, hml, hown, hts⟩, hK, -⟩ := hX
  refine tw_tight fun c' s' hc hs' hz hzs => ?_
  obtain ⟨w1, w2, w3, ⟨w4, w5, w6, w7, w8⟩, w10⟩ := id hw
  exact tw_go (b := 0) hw (va_runS (As := As) (rest := rest) ⟨hx, hb, hml, hown, hts⟩ (hM H.size (hsl H)) (va_cwS n hts hG hwc rfl rfl hd hR) ⟨pcO_blind _ _ _ _ _, fun U hU hW => ⟨rfl, by rw [hU], by rw [hU], by rw [hU]; exact wH_up hw, TB.moved hW hK⟩⟩ rfl hn hsz hst (lv_room hr8) hdg ⟨sub_ok hz (by omega) hc, sub_ok hzs (by omega) hs'⟩) kk
theorem g_callI (hX : MX g own p s m args c0 cc nL Ts meth ret) (hw : wH g s.heap.size T H locs) (hM : MetG g l y ws fr' lo' (rv x :: As) T v T') (hG : GoodIn Ts ws) (hwc : ws = Cond.code y bytes maxL none :: ws')
    (hd : y.cls ≠ "java/lang/invoke/MethodHandle" ∧ y.cls ≠ "java/lang/invoke/VarHandle" ∧ (parseMethodDescriptor y.desc).map (fun d => d.parameters.length) = some n) (hn : As.length = n) (hx0 : x ≠ 0) (hini : Cond.initialized y.cls ∈ Ts) (hlk : Cond.methodLink own index y ∈ Ts) (hins : Cond.instanceMethod y ∈ Ts) (hnm : y.name = "<init>") (hsz : ls.size = nL) (hst : st0 = As.reverse ++ rv x :: rest) (hr8 : (rest.map fun v => v.category).sum ≤ 8)
    (hR : fr' + 1 ≤ fr ∧ 8 + (maxL + 11) + lo' ≤ lo) (hdg : decode cc pc = .ok (.invokespecial index, 3))
    (kk : ∀ (H1 : Heap) (locs1 : List Loc) (cells slots : Nat), wH g s.heap.size T' H1 locs1 → W p l e (rmO g fr lo s.heap) s m args below meth c0 H1 locs1 cells slots Q (F0 m (pc + 3) ls (v.toList ++ rest))) : W p l e (rmO g fr lo s.heap) s m args below meth c0 H locs cells slots Q (F0 m pc ls st0) := by
  rw [rv_ref hx0] at hM hst
  obtain ⟨⟨hx, hb, hml, hown, hts⟩, hK, -⟩ := hX
  refine tw_tight fun c' s' hc hs' hz hzs => ?_
  obtain ⟨w1, w2, w3, ⟨w4, w5, w6, w7, w8⟩, w10⟩ := id hw
  exact tw_go (b := 0) hw (va_runI (As := As) (rest := rest) ⟨hx, hb, hml, hown, hts⟩ (hM H.size (hsl H)) (cwI n hts hG hwc rfl rfl (hts _ hini) (hts _ hlk) (hts _ hins) hnm hd hR) ⟨pcO_blind _ _ _ _ _, fun U hU hW => ⟨rfl, by rw [hU], by rw [hU], by rw [hU]; exact wH_up hw, TB.moved hW hK⟩⟩ rfl hn hsz hst (lv_room hr8) hdg ⟨sub_ok hz (by omega) hc, sub_ok hzs (by omega) hs'⟩) kk
theorem g_callF (hX : MX g own p s m args c0 cc nL Ts meth ret) (hw : wH g s.heap.size T H locs) (hM : MetG g l y ws fr' lo' (rv x :: As) T v T') (hG : GoodIn Ts (va_wsF own index C xn y ws)) (hwc : ws = Cond.code y bytes maxL ret' :: ws')
    (hd : xn.cls ≠ "java/lang/invoke/MethodHandle" ∧ xn.cls ≠ "java/lang/invoke/VarHandle" ∧ (parseMethodDescriptor xn.desc).map (fun d => d.parameters.length) = some n) (hn : As.length = n) (hx0 : x ≠ 0) (hrecv : ∃ cell : Cell, H[x - 1]? = some cell ∧ cell.vm.isStatics = false ∧ s.vm.findClass C = some cell.cls) (hF : va_Fw C xn y s) {ci : Nat} {TT : u_T} {N : Nat} (hcc : vwCl[ci]? = some (C, TT, N)) {count : Nat} (hsz : ls.size = nL) (hst : st0 = As.reverse ++ rv x :: rest) (hr8 : (rest.map fun v => v.category).sum ≤ 8)
    (hR : fr' + 1 ≤ fr ∧ 8 + (maxL + 11) + lo' ≤ lo) (hdg : decode cc pc = .ok (.invokeinterface index count, 5))
    (kk : ∀ (H1 : Heap) (locs1 : List Loc) (cells slots : Nat), wH g s.heap.size T' H1 locs1 → W p l e (rmO g fr lo s.heap) s m args below meth c0 H1 locs1 cells slots Q (F0 m (pc + 5) ls (v.toList ++ rest))) : W p l e (rmO g fr lo s.heap) s m args below meth c0 H locs cells slots Q (F0 m pc ls st0) := by
  rw [rv_ref hx0] at hM hst
  obtain ⟨⟨hx, hb, hml, hown, hts⟩, hK, -⟩ := hX
  refine tw_tight fun c' s' hc hs' hz hzs => ?_
  obtain ⟨w1, w2, w3, ⟨w4, w5, w6, w7, w8⟩, w10⟩ := id hw
  exact tw_go5 (b := 0) hw (va_runF (As := As) (rest := rest) ((hK.1.1 ci _ hcc).2) ⟨hx, hb, hml, hown, hts⟩ (hM H.size (hsl H)) (va_cwF n hts hG hwc rfl rfl hF hd hR) ⟨pcO_blind _ _ _ _ _, hrecv, fun U hU hW => ⟨rfl, by rw [hU], by rw [hU], by rw [hU]; exact wH_up hw, TB.moved hW hK⟩⟩ rfl hn hsz hst (lv_room hr8) hdg ⟨sub_ok hz (by omega) hc, sub_ok hzs (by omega) hs'⟩) kk
theorem x_callVE (hX : MX g own p s m args c0 cc nL Ts meth ret) (hw : wH g s.heap.size T H locs) (hM : MetX g l y ws fr' lo' (rv x :: As) T (.inl k) T') (hG : GoodIn Ts (wsV own index C y ws)) (hwc : ws = Cond.code y bytes maxL ret' :: ws')
    (hd : y.cls = C ∧ y.cls ≠ "java/lang/invoke/MethodHandle" ∧ y.cls ≠ "java/lang/invoke/VarHandle" ∧ (parseMethodDescriptor y.desc).map (fun d => d.parameters.length) = some n) (hn : As.length = n) (hx0 : x ≠ 0) (hrecv : ∃ cell : Cell, H[x - 1]? = some cell ∧ cell.vm.isStatics = false ∧ s.vm.findClass C = some cell.cls) (hsz : ls.size = nL) (hst : st0 = As.reverse ++ rv x :: rest) (hr8 : (rest.map fun v => v.category).sum ≤ 8)
    (hR : fr' + 1 ≤ fr ∧ 8 + (maxL + 11) + lo' ≤ lo) (hdg : decode cc pc = .ok (.invokevirtual index, 3))
    (kk : ∀ (H1 : Heap) (locs1 : List Loc) (cells slots : Nat) (q : Addr) (ce : Cell), wH g s.heap.size T' H1 locs1 → H1[q]? = some ce → ce.vm = .none → s.vm.findClass (exn k) = some ce.cls → vx_W p l e (rmO g fr lo s.heap) s m args below meth c0 H1 locs1 cells slots Q (F0 m pc ls rest) q) : W p l e (rmO g fr lo s.heap) s m args below meth c0 H locs cells slots Q (F0 m pc ls st0) := by
  rw [rv_ref hx0] at hM hst
  obtain ⟨⟨hx, hb, hml, hown, hts⟩, hK, -⟩ := hX
  refine tw_tight fun c' s' hc hs' hz hzs => ?_
  obtain ⟨w1, w2, w3, ⟨w4, w5, w6, w7, w8⟩, w10⟩ := id hw
  exact tw_xe hw (vx_runV (As := As) (rest := rest) ⟨hx, hb, hml, hown, hts⟩ (hM H.size (hsl H)) (cwV n hts hG hwc rfl rfl hd hR) ⟨pcO_blind _ _ _ _ _, hrecv, fun U hU hW => ⟨rfl, by rw [hU], by rw [hU], by rw [hU]; exact wH_up hw, TB.moved hW hK⟩⟩ rfl hn hsz hst (lv_room hr8) hdg ⟨sub_ok hz (by omega) hc, sub_ok hzs (by omega) hs'⟩) kk
theorem x_callVN (hX : MX g own p s m args c0 cc nL Ts meth ret) (hw : wH g s.heap.size T H locs) (hM : MetX g l y ws fr' lo' (rv x :: As) T (.inr v) T') (hG : GoodIn Ts (wsV own index C y ws)) (hwc : ws = Cond.code y bytes maxL ret' :: ws')
    (hd : y.cls = C ∧ y.cls ≠ "java/lang/invoke/MethodHandle" ∧ y.cls ≠ "java/lang/invoke/VarHandle" ∧ (parseMethodDescriptor y.desc).map (fun d => d.parameters.length) = some n) (hn : As.length = n) (hx0 : x ≠ 0) (hrecv : ∃ cell : Cell, H[x - 1]? = some cell ∧ cell.vm.isStatics = false ∧ s.vm.findClass C = some cell.cls) (hsz : ls.size = nL) (hst : st0 = As.reverse ++ rv x :: rest) (hr8 : (rest.map fun v => v.category).sum ≤ 8)
    (hR : fr' + 1 ≤ fr ∧ 8 + (maxL + 11) + lo' ≤ lo) (hdg : decode cc pc = .ok (.invokevirtual index, 3))
    (kk : ∀ (H1 : Heap) (locs1 : List Loc) (cells slots : Nat), wH g s.heap.size T' H1 locs1 → W p l e (rmO g fr lo s.heap) s m args below meth c0 H1 locs1 cells slots Q (F0 m (pc + 3) ls (v.toList ++ rest))) : W p l e (rmO g fr lo s.heap) s m args below meth c0 H locs cells slots Q (F0 m pc ls st0) := by
  rw [rv_ref hx0] at hM hst
  obtain ⟨⟨hx, hb, hml, hown, hts⟩, hK, -⟩ := hX
  refine tw_tight fun c' s' hc hs' hz hzs => ?_
  obtain ⟨w1, w2, w3, ⟨w4, w5, w6, w7, w8⟩, w10⟩ := id hw
  exact tw_xn hw (vx_runV (As := As) (rest := rest) ⟨hx, hb, hml, hown, hts⟩ (hM H.size (hsl H)) (cwV n hts hG hwc rfl rfl hd hR) ⟨pcO_blind _ _ _ _ _, hrecv, fun U hU hW => ⟨rfl, by rw [hU], by rw [hU], by rw [hU]; exact wH_up hw, TB.moved hW hK⟩⟩ rfl hn hsz hst (lv_room hr8) hdg ⟨sub_ok hz (by omega) hc, sub_ok hzs (by omega) hs'⟩) kk
theorem x_callSE (hX : MX g own p s m args c0 cc nL Ts meth ret) (hw : wH g s.heap.size T H locs) (hM : MetX g l y ws fr' lo' As T (.inl k) T') (hG : GoodIn Ts (va_wsS own index y ws)) (hwc : ws = Cond.code y bytes maxL ret' :: ws')
    (hd : y.cls ≠ "java/lang/invoke/MethodHandle" ∧ y.cls ≠ "java/lang/invoke/VarHandle" ∧ (parseMethodDescriptor y.desc).map (fun d => d.parameters.length) = some n) (hn : As.length = n) (hsz : ls.size = nL) (hst : st0 = As.reverse ++ rest) (hr8 : (rest.map fun v => v.category).sum ≤ 8)
    (hR : fr' + 1 ≤ fr ∧ 8 + (maxL + 11) + lo' ≤ lo) (hdg : decode cc pc = .ok (.invokestatic index, 3))
    (kk : ∀ (H1 : Heap) (locs1 : List Loc) (cells slots : Nat) (q : Addr) (ce : Cell), wH g s.heap.size T' H1 locs1 → H1[q]? = some ce → ce.vm = .none → s.vm.findClass (exn k) = some ce.cls → vx_W p l e (rmO g fr lo s.heap) s m args below meth c0 H1 locs1 cells slots Q (F0 m pc ls rest) q) : W p l e (rmO g fr lo s.heap) s m args below meth c0 H locs cells slots Q (F0 m pc ls st0) := by
  obtain ⟨⟨hx, hb, hml, hown, hts⟩, hK, -⟩ := hX
  refine tw_tight fun c' s' hc hs' hz hzs => ?_
  obtain ⟨w1, w2, w3, ⟨w4, w5, w6, w7, w8⟩, w10⟩ := id hw
  exact tw_xe hw (vx_runS (As := As) (rest := rest) ⟨hx, hb, hml, hown, hts⟩ (hM H.size (hsl H)) (va_cwS n hts hG hwc rfl rfl hd hR) ⟨pcO_blind _ _ _ _ _, fun U hU hW => ⟨rfl, by rw [hU], by rw [hU], by rw [hU]; exact wH_up hw, TB.moved hW hK⟩⟩ rfl hn hsz hst (lv_room hr8) hdg ⟨sub_ok hz (by omega) hc, sub_ok hzs (by omega) hs'⟩) kk
theorem x_callSN (hX : MX g own p s m args c0 cc nL Ts meth ret) (hw : wH g s.heap.size T H locs) (hM : MetX g l y ws fr' lo' As T (.inr v) T') (hG : GoodIn Ts (va_wsS own index y ws)) (hwc : ws = Cond.code y bytes maxL ret' :: ws')
    (hd : y.cls ≠ "java/lang/invoke/MethodHandle" ∧ y.cls ≠ "java/lang/invoke/VarHandle" ∧ (parseMethodDescriptor y.desc).map (fun d => d.parameters.length) = some n) (hn : As.length = n) (hsz : ls.size = nL) (hst : st0 = As.reverse ++ rest) (hr8 : (rest.map fun v => v.category).sum ≤ 8)
    (hR : fr' + 1 ≤ fr ∧ 8 + (maxL + 11) + lo' ≤ lo) (hdg : decode cc pc = .ok (.invokestatic index, 3))
    (kk : ∀ (H1 : Heap) (locs1 : List Loc) (cells slots : Nat), wH g s.heap.size T' H1 locs1 → W p l e (rmO g fr lo s.heap) s m args below meth c0 H1 locs1 cells slots Q (F0 m (pc + 3) ls (v.toList ++ rest))) : W p l e (rmO g fr lo s.heap) s m args below meth c0 H locs cells slots Q (F0 m pc ls st0) := by
  obtain ⟨⟨hx, hb, hml, hown, hts⟩, hK, -⟩ := hX
  refine tw_tight fun c' s' hc hs' hz hzs => ?_
  obtain ⟨w1, w2, w3, ⟨w4, w5, w6, w7, w8⟩, w10⟩ := id hw
  exact tw_xn hw (vx_runS (As := As) (rest := rest) ⟨hx, hb, hml, hown, hts⟩ (hM H.size (hsl H)) (va_cwS n hts hG hwc rfl rfl hd hR) ⟨pcO_blind _ _ _ _ _, fun U hU hW => ⟨rfl, by rw [hU], by rw [hU], by rw [hU]; exact wH_up hw, TB.moved hW hK⟩⟩ rfl hn hsz hst (lv_room hr8) hdg ⟨sub_ok hz (by omega) hc, sub_ok hzs (by omega) hs'⟩) kk
/-! the ends -/
theorem g_fin (hw : wH g s.heap.size T' H locs) (h0 : ∀ q : Nat, q < gnn g 0 → s.heap[q]? = (gH g)[q]?) {t : State} (ht : t.heap = H) : wH g s.heap.size T' t.heap [] ∧ va_F (gA g) s t := by
  refine ⟨?_, wH_F hw h0 ht⟩
  rw [ht]
  exact wH_re hw hw.2.2.2.1.1 (Nat.le_refl _) (fun q h => by cases h)
abbrev MQG (g : GG) (below : List Frame) (T' : TW) (v : Option Value) (args : Array Value) (s : State) : State → Prop := MQ below (qG g T' v s.heap.size) args s (gnn g 1 - s.heap.size) (gnn g 2 - hsl s.heap) (gA g)
abbrev MQX (g : GG) (below : List Frame) (T' : TW) (o : Nat ⊕ Option Value) (args : Array Value) (s : State) : State → Prop := vx_MQ below (qX g T' o s.heap.size) (xX g T' o s.heap.size) args s (gnn g 1 - s.heap.size) (gnn g 2 - hsl s.heap) (gA g)
theorem g_iret (hX : MX g own p s m args c0 cc nL Ts meth (some .int)) (hw : wH g s.heap.size T' H locs) (w : Int32) (hdg : decode cc pc = .ok (.ireturn, 1)) : W p l e (rmO g fr lo s.heap) s m args below meth c0 H locs cells slots (MQG g below T' (some (.int w)) args s) (F0 m pc ls [.int w]) := by
  obtain ⟨⟨hx, hb, hml, hown, hts⟩, hK, h0, hr, hlk⟩ := hX
  refine tw_tight fun c' s' hc hs' hz hzs => ?_
  obtain ⟨w1, w2, w3, ⟨w4, w5, w6, w7, w8⟩, w10⟩ := id hw
  refine W.widen (k := gnn g 1 - s.heap.size) (n := gnn g 2 - hsl s.heap) (by omega) (by omega) ?_
  exact W.iret hx hb hr (fun t ht hW => ⟨rfl, g_fin hw h0 ht⟩) w10 hdg hlk
theorem g_zret (hX : MX g own p s m args c0 cc nL Ts meth (some .boolean)) (hw : wH g s.heap.size T' H locs) (w : Int32) (hz9 : isB w) (hdg : decode cc pc = .ok (.ireturn, 1)) : W p l e (rmO g fr lo s.heap) s m args below meth c0 H locs cells slots (MQG g below T' (some (.int w)) args s) (F0 m pc ls [.int w]) := by
  obtain ⟨⟨hx, hb, hml, hown, hts⟩, hK, h0, hr, hlk⟩ := hX
  refine tw_tight fun c' s' hc hs' hz hzs => ?_
  obtain ⟨w1, w2, w3, ⟨w4, w5, w6, w7, w8⟩, w10⟩ := id hw
  refine W.widen (k := gnn g 1 - s.heap.size) (n := gnn g 2 - hsl s.heap) (by omega) (by omega) ?_
  exact W.zret hx hb hr (isB_nar hz9) (fun t ht hW => ⟨rfl, g_fin hw h0 ht⟩) w10 hdg hlk
theorem g_lret (hX : MX g own p s m args c0 cc nL Ts meth (some .long)) (hw : wH g s.heap.size T' H locs) (w : Int64) (hdg : decode cc pc = .ok (.lreturn, 1)) : W p l e (rmO g fr lo s.heap) s m args below meth c0 H locs cells slots (MQG g below T' (some (.long w)) args s) (F0 m pc ls [.long w]) := by
  obtain ⟨⟨hx, hb, hml, hown, hts⟩, hK, h0, hr, hlk⟩ := hX
  refine tw_tight fun c' s' hc hs' hz hzs => ?_
  obtain ⟨w1, w2, w3, ⟨w4, w5, w6, w7, w8⟩, w10⟩ := id hw
  refine W.widen (k := gnn g 1 - s.heap.size) (n := gnn g 2 - hsl s.heap) (by omega) (by omega) ?_
  exact W.lret hx hb hr (fun t ht hW => ⟨rfl, g_fin hw h0 ht⟩) w10 hdg hlk
theorem g_aret {rt : FieldType} (hX : MX g own p s m args c0 cc nL Ts meth (some rt)) (hw : wH g s.heap.size T' H locs) (w : Nat) (hrt : (∃ n, rt = .object n) ∨ ∃ t, rt = .array t) (hdg : decode cc pc = .ok (.areturn, 1)) : W p l e (rmO g fr lo s.heap) s m args below meth c0 H locs cells slots (MQG g below T' (some (rv w)) args s) (F0 m pc ls [rv w]) := by
  obtain ⟨⟨hx, hb, hml, hown, hts⟩, hK, h0, hr, hlk⟩ := hX
  refine tw_tight fun c' s' hc hs' hz hzs => ?_
  obtain ⟨w1, w2, w3, ⟨w4, w5, w6, w7, w8⟩, w10⟩ := id hw
  refine W.widen (k := gnn g 1 - s.heap.size) (n := gnn g 2 - hsl s.heap) (by omega) (by omega) ?_
  exact W.aret hx hb hr hrt (by unfold rv ro; split <;> simp [va_rf]) (fun t ht hW => ⟨rfl, g_fin hw h0 ht⟩) w10 hdg hlk
theorem g_vret (hX : MX g own p s m args c0 cc nL Ts meth none) (hw : wH g s.heap.size T' H locs)  (hdg : decode cc pc = .ok (.return_, 1)) : W p l e (rmO g fr lo s.heap) s m args below meth c0 H locs cells slots (MQG g below T' (none) args s) (F0 m pc ls []) := by
  obtain ⟨⟨hx, hb, hml, hown, hts⟩, hK, h0, hr, hlk⟩ := hX
  refine tw_tight fun c' s' hc hs' hz hzs => ?_
  obtain ⟨w1, w2, w3, ⟨w4, w5, w6, w7, w8⟩, w10⟩ := id hw
  refine W.widen (k := gnn g 1 - s.heap.size) (n := gnn g 2 - hsl s.heap) (by omega) (by omega) ?_
  exact W.vret hx hb hr (fun t ht hW => ⟨rfl, g_fin hw h0 ht⟩) w10 hdg hlk
theorem x_iret (hX : MX g own p s m args c0 cc nL Ts meth (some .int)) (hw : wH g s.heap.size T' H locs) (w : Int32) (hdg : decode cc pc = .ok (.ireturn, 1)) : W p l e (rmO g fr lo s.heap) s m args below meth c0 H locs cells slots (MQX g below T' (.inr (some (.int w))) args s) (F0 m pc ls [.int w]) := by
  obtain ⟨⟨hx, hb, hml, hown, hts⟩, hK, h0, hr, hlk⟩ := hX
  refine tw_tight fun c' s' hc hs' hz hzs => ?_
  obtain ⟨w1, w2, w3, ⟨w4, w5, w6, w7, w8⟩, w10⟩ := id hw
  refine W.widen (k := gnn g 1 - s.heap.size) (n := gnn g 2 - hsl s.heap) (by omega) (by omega) ?_
  refine vx_ret ?_
  exact W.iret hx hb hr (fun t ht hW => ⟨⟨_, rfl, rfl⟩, g_fin hw h0 ht⟩) w10 hdg hlk
theorem x_zret (hX : MX g own p s m args c0 cc nL Ts meth (some .boolean)) (hw : wH g s.heap.size T' H locs) (w : Int32) (hz9 : isB w) (hdg : decode cc pc = .ok (.ireturn, 1)) : W p l e (rmO g fr lo s.heap) s m args below meth c0 H locs cells slots (MQX g below T' (.inr (some (.int w))) args s) (F0 m pc ls [.int w]) := by
  obtain ⟨⟨hx, hb, hml, hown, hts⟩, hK, h0, hr, hlk⟩ := hX
  refine tw_tight fun c' s' hc hs' hz hzs => ?_
  obtain ⟨w1, w2, w3, ⟨w4, w5, w6, w7, w8⟩, w10⟩ := id hw
  refine W.widen (k := gnn g 1 - s.heap.size) (n := gnn g 2 - hsl s.heap) (by omega) (by omega) ?_
  refine vx_ret ?_
  exact W.zret hx hb hr (isB_nar hz9) (fun t ht hW => ⟨⟨_, rfl, rfl⟩, g_fin hw h0 ht⟩) w10 hdg hlk
theorem x_lret (hX : MX g own p s m args c0 cc nL Ts meth (some .long)) (hw : wH g s.heap.size T' H locs) (w : Int64) (hdg : decode cc pc = .ok (.lreturn, 1)) : W p l e (rmO g fr lo s.heap) s m args below meth c0 H locs cells slots (MQX g below T' (.inr (some (.long w))) args s) (F0 m pc ls [.long w]) := by
  obtain ⟨⟨hx, hb, hml, hown, hts⟩, hK, h0, hr, hlk⟩ := hX
  refine tw_tight fun c' s' hc hs' hz hzs => ?_
  obtain ⟨w1, w2, w3, ⟨w4, w5, w6, w7, w8⟩, w10⟩ := id hw
  refine W.widen (k := gnn g 1 - s.heap.size) (n := gnn g 2 - hsl s.heap) (by omega) (by omega) ?_
  refine vx_ret ?_
  exact W.lret hx hb hr (fun t ht hW => ⟨⟨_, rfl, rfl⟩, g_fin hw h0 ht⟩) w10 hdg hlk
theorem x_aret {rt : FieldType} (hX : MX g own p s m args c0 cc nL Ts meth (some rt)) (hw : wH g s.heap.size T' H locs) (w : Nat) (hrt : (∃ n, rt = .object n) ∨ ∃ t, rt = .array t) (hdg : decode cc pc = .ok (.areturn, 1)) : W p l e (rmO g fr lo s.heap) s m args below meth c0 H locs cells slots (MQX g below T' (.inr (some (rv w))) args s) (F0 m pc ls [rv w]) := by
  obtain ⟨⟨hx, hb, hml, hown, hts⟩, hK, h0, hr, hlk⟩ := hX
  refine tw_tight fun c' s' hc hs' hz hzs => ?_
  obtain ⟨w1, w2, w3, ⟨w4, w5, w6, w7, w8⟩, w10⟩ := id hw
  refine W.widen (k := gnn g 1 - s.heap.size) (n := gnn g 2 - hsl s.heap) (by omega) (by omega) ?_
  refine vx_ret ?_
  exact W.aret hx hb hr hrt (by unfold rv ro; split <;> simp [va_rf]) (fun t ht hW => ⟨⟨_, rfl, rfl⟩, g_fin hw h0 ht⟩) w10 hdg hlk
theorem x_vret (hX : MX g own p s m args c0 cc nL Ts meth none) (hw : wH g s.heap.size T' H locs)  (hdg : decode cc pc = .ok (.return_, 1)) : W p l e (rmO g fr lo s.heap) s m args below meth c0 H locs cells slots (MQX g below T' (.inr (none)) args s) (F0 m pc ls []) := by
  obtain ⟨⟨hx, hb, hml, hown, hts⟩, hK, h0, hr, hlk⟩ := hX
  refine tw_tight fun c' s' hc hs' hz hzs => ?_
  obtain ⟨w1, w2, w3, ⟨w4, w5, w6, w7, w8⟩, w10⟩ := id hw
  refine W.widen (k := gnn g 1 - s.heap.size) (n := gnn g 2 - hsl s.heap) (by omega) (by omega) ?_
  refine vx_ret ?_
  exact W.vret hx hb hr (fun t ht hW => ⟨⟨_, rfl, rfl⟩, g_fin hw h0 ht⟩) w10 hdg hlk
theorem x_out (hX : MX g own p s m args c0 cc nL Ts meth ret) (hw : wH g s.heap.size T' H locs) (hout : ∀ x ∈ c0.exceptionTable.toList, covers x pc = false) {q : Addr} {ce : Cell} (hce : H[q]? = some ce) (hcv : ce.vm = .none) (hcl : s.vm.findClass (exn k) = some ce.cls) : vx_W p l e (rmO g fr lo s.heap) s m args below meth c0 H locs cells slots (MQX g below T' (.inl k) args s) (F0 m pc ls rest) q := by
  obtain ⟨⟨hx, hb, hml, hown, hts⟩, hK, h0, hr, hlk⟩ := hX
  obtain ⟨w1, w2, w3, ⟨w4, w5, w6, w7, w8⟩, w10⟩ := id hw
  intro Tt hT X
  have X2 : Stand p l e (rmO g fr lo s.heap) s m args below meth c0 Tt locs (gnn g 1 - s.heap.size) (gnn g 2 - hsl s.heap) := by
    exact tw_stand X hT (by omega) (by omega)
  exact vx_out hout hlk hce hcv hcl (fun t ht hal => ⟨⟨k, rfl, rfl⟩, g_fin hw h0 ht⟩) w10 (Nat.le_refl _) (Nat.le_refl _) Tt hT X2
end CC
