/-! ===== contracts over the world, and their use ===== -/
def rmO (g : GG) (fr lo : Nat) (H : Heap) : Room := { frames := fr, cells := gnn g 1 - H.size, slots := gnn g 2 - hsl H, locals := lo }
def rmN (g : GG) (fr lo sz su : Nat) : Room := { frames := fr, cells := gnn g 1 - sz, slots := gnn g 2 - su, locals := lo }
def pcO (g : GG) (As : List Value) (T : TW) (sz su : Nat) : Array Value → State → Prop := va_Pc As (fun U => U.heap.size = sz ∧ hsl U.heap = su ∧ wH g sz T U.heap [] ∧ TB g U)
def qI (g : GG) (T' : TW) (r : Int32) (z : Nat) : Array Value → State → Outcome → State → Prop := va_Qi (fun r' (_ : Unit) => r' = r) (fun _ t => wH g z T' t.heap []) (gA g)
def qV (g : GG) (T' : TW) (z : Nat) : Array Value → State → Outcome → State → Prop := va_Qv (fun (_ : Unit) => True) (fun _ t => wH g z T' t.heap []) (gA g)
def MetI (g : GG) (l : Launch) (y : MethodName) (ws : List Cond) (fr lo : Nat) (As : List Value) (T : TW) (r : Int32) (T' : TW) : Prop := ∀ sz su : Nat, Met l y ws (rmN g fr lo sz su) (pcO g As T sz su) (qI g T' r sz) (gnn g 1 - sz) (gnn g 2 - su) (gA g)
def MetV (g : GG) (l : Launch) (y : MethodName) (ws : List Cond) (fr lo : Nat) (As : List Value) (T : TW) (T' : TW) : Prop := ∀ sz su : Nat, Met l y ws (rmN g fr lo sz su) (pcO g As T sz su) (qV g T' sz) (gnn g 1 - sz) (gnn g 2 - su) (gA g)
theorem pcO_blind (g : GG) (As : List Value) (T : TW) (sz su : Nat) : FrameBlind (pcO g As T sz su) := fun a U fr mk h => ⟨h.1, h.2.1, h.2.2.1, h.2.2.2.1, TB.moved (u := U) (U := U.calling fr mk a) (State.WarmedH.refl U) h.2.2.2.2⟩
theorem wH_re {g : GG} {z z2 : Nat} {T' : TW} {H1 : Heap} {L L1 : List Loc} (h : wH g z2 T' H1 L) (hb : gnn g 0 ≤ z) (hz : z ≤ z2) (hL : ∀ q ∈ L1, gA g q.base) : wH g z T' H1 L1 := by
  obtain ⟨h1, h2, h3, ⟨h4, h5, h6⟩, h7⟩ := h
  exact ⟨h1, h2, h3, ⟨hb, Nat.le_trans hz h5, h6⟩, hL⟩
theorem wH_up {g : GG} {z : Nat} {T : TW} {H : Heap} {L : List Loc} (h : wH g z T H L) : wH g H.size T H [] := by
  obtain ⟨h1, h2, h3, ⟨h4, h5, h6⟩, h7⟩ := h
  exact ⟨h1, h2, h3, ⟨Nat.le_trans h4 h5, Nat.le_refl _, h6⟩, fun q hq => by cases hq⟩
section CALLS
variable {p : Program} {l : Launch} {e : Env} {s : State} {m : MethodId} {args : Array Value} {below : List Frame} {meth : Method} {c0 : Code} {H : Heap} {locs : List Loc} {cells slots : Nat} {Q : State → Prop}
variable {cc : ByteArray} {pc : Nat} {ls : Array Slot} {rest st0 As : List Value} {g : GG} {T T' : TW} {Ts ws ws' : List Cond} {nL n index maxL fr lo fr' lo' b : Nat} {own C : String} {ret ret' : Option FieldType} {y : MethodName} {bytes : ByteArray} {r : Int32}
theorem sub_ok {a b c d : Nat} (h1 : a ≤ b) (h2 : b ≤ c) (hd : d = b - a) : d + (c - b) ≤ c - a := by omega
theorem tw_callI (hX : MX g own p s m args c0 cc nL Ts meth ret) (hw : wH g s.heap.size T H locs) (hM : MetI g l y ws fr' lo' (.ref b :: As) T r T') (hG : GoodIn Ts (wsV own index C y ws)) (hwc : ws = Cond.code y bytes maxL ret' :: ws')
    (hd : y.cls = C ∧ y.cls ≠ "java/lang/invoke/MethodHandle" ∧ y.cls ≠ "java/lang/invoke/VarHandle" ∧ (parseMethodDescriptor y.desc).map (fun d => d.parameters.length) = some n) (hn : As.length = n) (hrecv : ∃ cell : Cell, H[b]? = some cell ∧ cell.vm.isStatics = false ∧ s.vm.findClass C = some cell.cls) (hsz : ls.size = nL) (hst : st0 = As.reverse ++ .ref b :: rest) (hr8 : (rest.map fun v => v.category).sum ≤ 8)
    (hR : fr' + 1 ≤ fr ∧ 8 + (maxL + 11) + lo' ≤ lo) (hdg : decode cc pc = .ok (.invokevirtual index, 3))
    (kk : ∀ (H1 : Heap) (locs1 : List Loc) (cells slots : Nat), wH g s.heap.size T' H1 locs1 → W p l e (rmO g fr lo s.heap) s m args below meth c0 H1 locs1 cells slots Q (F0 m (pc + 3) ls (.int r :: rest))) : W p l e (rmO g fr lo s.heap) s m args below meth c0 H locs cells slots Q (F0 m pc ls st0) := by
  obtain ⟨⟨hx, hb, hml, hown, hts⟩, hK, -⟩ := hX
  refine tw_tight fun c' s' hc hs' hz hzs => ?_
  obtain ⟨w1, w2, w3, ⟨w4, w5, w6, w7, w8⟩, w10⟩ := id hw
  refine va_calli (A0 := gA g) (H0 := H) (va_runV (As := As) (rest := rest) ⟨hx, hb, hml, hown, hts⟩ (hM H.size (hsl H)) (cwV n hts hG hwc rfl rfl hd hR) ⟨pcO_blind _ _ _ _ _, hrecv, fun U hU hW => ⟨rfl, by rw [hU], by rw [hU], by rw [hU]; exact wH_up hw, TB.moved hW hK⟩⟩ rfl hn hsz hst (lv_room hr8) hdg ⟨sub_ok hz (by omega) hc, sub_ok hzs (by omega) hs'⟩) ⟨Nat.le_refl _, fun q _ _ => rfl, w10⟩ (fun q _ h => h) (fun q h => h) (fun r' u t H1 locs1 ht hvm hp hB hz1 hk1 hS1 => ?_)
  subst hp
  rw [ht] at hB
  exact kk H1 locs1 _ _ (wH_re hB w4 w5 hS1.2.2)
theorem tw_callV (hX : MX g own p s m args c0 cc nL Ts meth ret) (hw : wH g s.heap.size T H locs) (hM : MetV g l y ws fr' lo' (.ref b :: As) T T') (hG : GoodIn Ts (wsV own index C y ws)) (hwc : ws = Cond.code y bytes maxL ret' :: ws')
    (hd : y.cls = C ∧ y.cls ≠ "java/lang/invoke/MethodHandle" ∧ y.cls ≠ "java/lang/invoke/VarHandle" ∧ (parseMethodDescriptor y.desc).map (fun d => d.parameters.length) = some n) (hn : As.length = n) (hrecv : ∃ cell : Cell, H[b]? = some cell ∧ cell.vm.isStatics = false ∧ s.vm.findClass C = some cell.cls) (hsz : ls.size = nL) (hst : st0 = As.reverse ++ .ref b :: rest) (hr8 : (rest.map fun v => v.category).sum ≤ 8)
    (hR : fr' + 1 ≤ fr ∧ 8 + (maxL + 11) + lo' ≤ lo) (hdg : decode cc pc = .ok (.invokevirtual index, 3))
    (kk : ∀ (H1 : Heap) (locs1 : List Loc) (cells slots : Nat), wH g s.heap.size T' H1 locs1 → W p l e (rmO g fr lo s.heap) s m args below meth c0 H1 locs1 cells slots Q (F0 m (pc + 3) ls rest)) : W p l e (rmO g fr lo s.heap) s m args below meth c0 H locs cells slots Q (F0 m pc ls st0) := by
  obtain ⟨⟨hx, hb, hml, hown, hts⟩, hK, -⟩ := hX
  refine tw_tight fun c' s' hc hs' hz hzs => ?_
  obtain ⟨w1, w2, w3, ⟨w4, w5, w6, w7, w8⟩, w10⟩ := id hw
  refine va_callv (A0 := gA g) (H0 := H) (va_runV (As := As) (rest := rest) ⟨hx, hb, hml, hown, hts⟩ (hM H.size (hsl H)) (cwV n hts hG hwc rfl rfl hd hR) ⟨pcO_blind _ _ _ _ _, hrecv, fun U hU hW => ⟨rfl, by rw [hU], by rw [hU], by rw [hU]; exact wH_up hw, TB.moved hW hK⟩⟩ rfl hn hsz hst (lv_room hr8) hdg ⟨sub_ok hz (by omega) hc, sub_ok hzs (by omega) hs'⟩) ⟨Nat.le_refl _, fun q _ _ => rfl, w10⟩ (fun q _ h => h) (fun q h => h) (fun u t H1 locs1 ht hvm hp hB hz1 hk1 hS1 => ?_)
  rw [ht] at hB
  exact kk H1 locs1 _ _ (wH_re hB w4 w5 hS1.2.2)
theorem tw_callSI (hX : MX g own p s m args c0 cc nL Ts meth ret) (hw : wH g s.heap.size T H locs) (hM : MetI g l y ws fr' lo' As T r T') (hG : GoodIn Ts (va_wsS own index y ws)) (hwc : ws = Cond.code y bytes maxL ret' :: ws')
    (hd : y.cls ≠ "java/lang/invoke/MethodHandle" ∧ y.cls ≠ "java/lang/invoke/VarHandle" ∧ (parseMethodDescriptor y.desc).map (fun d => d.parameters.length) = some n) (hn : As.length = n) (hsz : ls.size = nL) (hst : st0 = As.reverse ++ rest) (hr8 : (rest.map fun v => v.category).sum ≤ 8)
    (hR : fr' + 1 ≤ fr ∧ 8 + (maxL + 11) + lo' ≤ lo) (hdg : decode cc pc = .ok (.invokestatic index, 3))
    (kk : ∀ (H1 : Heap) (locs1 : List Loc) (cells slots : Nat), wH g s.heap.size T' H1 locs1 → W p l e (rmO g fr lo s.heap) s m args below meth c0 H1 locs1 cells slots Q (F0 m (pc + 3) ls (.int r :: rest))) : W p l e (rmO g fr lo s.heap) s m args below meth c0 H locs cells slots Q (F0 m pc ls st0) := by
  obtain ⟨⟨hx, hb, hml, hown, hts⟩, hK, -⟩ := hX
  refine tw_tight fun c' s' hc hs' hz hzs => ?_
  obtain ⟨w1, w2, w3, ⟨w4, w5, w6, w7, w8⟩, w10⟩ := id hw
  refine va_calli (A0 := gA g) (H0 := H) (va_runS (As := As) (rest := rest) ⟨hx, hb, hml, hown, hts⟩ (hM H.size (hsl H)) (va_cwS n hts hG hwc rfl rfl hd hR) ⟨pcO_blind _ _ _ _ _, fun U hU hW => ⟨rfl, by rw [hU], by rw [hU], by rw [hU]; exact wH_up hw, TB.moved hW hK⟩⟩ rfl hn hsz hst (lv_room hr8) hdg ⟨sub_ok hz (by omega) hc, sub_ok hzs (by omega) hs'⟩) ⟨Nat.le_refl _, fun q _ _ => rfl, w10⟩ (fun q _ h => h) (fun q h => h) (fun r' u t H1 locs1 ht hvm hp hB hz1 hk1 hS1 => ?_)
  subst hp
  rw [ht] at hB
  exact kk H1 locs1 _ _ (wH_re hB w4 w5 hS1.2.2)
/-! the ends -/
theorem wH_F (hw : wH g s.heap.size T H locs) (h0 : ∀ q : Nat, q < gnn g 0 → s.heap[q]? = (gH g)[q]?) {t : State} (ht : t.heap = H) : va_F (gA g) s t := by
  obtain ⟨w1, w2, w3, ⟨w4, w5, w6, w7, w8⟩, w10⟩ := hw
  refine ⟨by rw [ht]; exact w5, fun q hq hA => ?_⟩
  have hq0 : q < gnn g 0 := Nat.not_le.mp hA
  rw [ht, w3 q hq0, h0 q hq0]
theorem m_iret (hX : MX g own p s m args c0 cc nL Ts meth (some .int)) (hw : wH g s.heap.size T' H locs) (v : Int32) (hv : v = r) (hdg : decode cc pc = .ok (.ireturn, 1)) : W p l e (rmO g fr lo s.heap) s m args below meth c0 H locs cells slots (MQ below (qI g T' r s.heap.size) args s (gnn g 1 - s.heap.size) (gnn g 2 - hsl s.heap) (gA g)) (F0 m pc ls [.int v]) := by
  obtain ⟨⟨hx, hb, hml, hown, hts⟩, hK, h0, hr, hlk⟩ := hX
  subst hv
  refine tw_tight fun c' s' hc hs' hz hzs => ?_
  obtain ⟨w1, w2, w3, ⟨w4, w5, w6, w7, w8⟩, w10⟩ := id hw
  refine W.widen (k := gnn g 1 - s.heap.size) (n := gnn g 2 - hsl s.heap) (by omega) (by omega) ?_
  exact W.iret hx hb hr (fun t ht hW => ⟨⟨v, (), rfl, rfl, by show wH g s.heap.size T' t.heap []; rw [ht]; exact wH_re hw w4 (Nat.le_refl _) (fun q h => by cases h)⟩, wH_F hw h0 ht⟩) w10 hdg hlk
theorem m_zret (hX : MX g own p s m args c0 cc nL Ts meth (some .boolean)) (hw : wH g s.heap.size T' H locs) (v : Int32) (hv : v = r) (hz9 : isB v) (hdg : decode cc pc = .ok (.ireturn, 1)) : W p l e (rmO g fr lo s.heap) s m args below meth c0 H locs cells slots (MQ below (qI g T' r s.heap.size) args s (gnn g 1 - s.heap.size) (gnn g 2 - hsl s.heap) (gA g)) (F0 m pc ls [.int v]) := by
  obtain ⟨⟨hx, hb, hml, hown, hts⟩, hK, h0, hr, hlk⟩ := hX
  subst hv
  refine tw_tight fun c' s' hc hs' hz hzs => ?_
  obtain ⟨w1, w2, w3, ⟨w4, w5, w6, w7, w8⟩, w10⟩ := id hw
  refine W.widen (k := gnn g 1 - s.heap.size) (n := gnn g 2 - hsl s.heap) (by omega) (by omega) ?_
  exact W.zret hx hb hr (by rcases hz9 with rfl | rfl <;> rfl) (fun t ht hW => ⟨⟨v, (), rfl, rfl, by show wH g s.heap.size T' t.heap []; rw [ht]; exact wH_re hw w4 (Nat.le_refl _) (fun q h => by cases h)⟩, wH_F hw h0 ht⟩) w10 hdg hlk
theorem m_vret (hX : MX g own p s m args c0 cc nL Ts meth none) (hw : wH g s.heap.size T' H locs) (hdg : decode cc pc = .ok (.return_, 1)) : W p l e (rmO g fr lo s.heap) s m args below meth c0 H locs cells slots (MQ below (qV g T' s.heap.size) args s (gnn g 1 - s.heap.size) (gnn g 2 - hsl s.heap) (gA g)) (F0 m pc ls []) := by
  obtain ⟨⟨hx, hb, hml, hown, hts⟩, hK, h0, hr, hlk⟩ := hX
  refine tw_tight fun c' s' hc hs' hz hzs => ?_
  obtain ⟨w1, w2, w3, ⟨w4, w5, w6, w7, w8⟩, w10⟩ := id hw
  refine W.widen (k := gnn g 1 - s.heap.size) (n := gnn g 2 - hsl s.heap) (by omega) (by omega) ?_
  exact W.vret hx hb hr (fun t ht hW => ⟨⟨(), rfl, trivial, by show wH g s.heap.size T' t.heap []; rw [ht]; exact wH_re hw w4 (Nat.le_refl _) (fun q h => by cases h)⟩, wH_F hw h0 ht⟩) w10 hdg hlk
end CALLS
section STARTS
variable {l : Launch} {cc : ByteArray} {As : List Value} {g : GG} {T T' : TW} {ws ws' : List Cond} {maxL fr lo : Nat} {y : MethodName} {r : Int32} {own : String}
theorem mI_start (hy : plainName y.cls = true) (hcl : y.cls = own) (hwc : ws = Cond.code y cc maxL (some .int) :: ws') (hlen : (lg_sl As).length ≤ maxL)
    (body : ∀ (p : Program) (e : Env) (s : State) (m : MethodId) (args : Array Value) (below : List Frame) (meth : Method) (c0 : Code) (ls : Array Slot) (Q : State → Prop), MX g own p s m args c0 cc maxL ws meth (some .int) → wH g s.heap.size T s.heap [] → lv_has ls maxL (lv_args 0 As) →
      (∀ (H : Heap) (lc : List Loc) (cn sn pc : Nat) (ls : Array Slot) (v : Int32), decode cc pc = .ok (.ireturn, 1) → wH g s.heap.size T' H lc → v = r → W p l e (rmO g fr lo s.heap) s m args below meth c0 H lc cn sn Q (F0 m pc ls [.int v])) →
      W p l e (rmO g fr lo s.heap) s m args below meth c0 s.heap [] 0 0 Q (F0 m 0 ls [])) : MetI g l y ws fr lo As T r T' := by
  intro sz su
  refine Met.ofW (cc := cc) (maxL := maxL) (ret := some .int) hy hwc ?_
  intro p e s m args below meth c s₁ B hml hv
  obtain ⟨rfl, hsz, hsu, hw, hK⟩ := hv
  subst hsz
  subst hsu
  have hl := lv_entry As (n := maxL) hlen
  rw [lg_entry_eq]
  have hts := atoms_spec (ws := ws) B.pre
  have hown : s.vm.findClass y.cls = some m.cls := findClass_of_methodNamed B.named
  rw [hcl] at hown
  have hX : MX g own p s m As.toArray c cc maxL ws meth (some .int) := ⟨⟨B.exec, B.bytes, hml, hown, hts⟩, hK, fun q hq => hw.2.2.1 q hq, B.returns, B.notSynchronized⟩
  exact body p e s m _ below meth c _ _ hX hw hl (fun H lc cn sn pc ls v hd hw' hv => m_iret hX hw' v hv hd)
theorem mZ_start (hy : plainName y.cls = true) (hcl : y.cls = own) (hwc : ws = Cond.code y cc maxL (some .boolean) :: ws') (hlen : (lg_sl As).length ≤ maxL)
    (body : ∀ (p : Program) (e : Env) (s : State) (m : MethodId) (args : Array Value) (below : List Frame) (meth : Method) (c0 : Code) (ls : Array Slot) (Q : State → Prop), MX g own p s m args c0 cc maxL ws meth (some .boolean) → wH g s.heap.size T s.heap [] → lv_has ls maxL (lv_args 0 As) →
      (∀ (H : Heap) (lc : List Loc) (cn sn pc : Nat) (ls : Array Slot) (v : Int32), decode cc pc = .ok (.ireturn, 1) → isB v → wH g s.heap.size T' H lc → v = r → W p l e (rmO g fr lo s.heap) s m args below meth c0 H lc cn sn Q (F0 m pc ls [.int v])) →
      W p l e (rmO g fr lo s.heap) s m args below meth c0 s.heap [] 0 0 Q (F0 m 0 ls [])) : MetI g l y ws fr lo As T r T' := by
  intro sz su
  refine Met.ofW (cc := cc) (maxL := maxL) (ret := some .boolean) hy hwc ?_
  intro p e s m args below meth c s₁ B hml hv
  obtain ⟨rfl, hsz, hsu, hw, hK⟩ := hv
  subst hsz
  subst hsu
  have hl := lv_entry As (n := maxL) hlen
  rw [lg_entry_eq]
  have hts := atoms_spec (ws := ws) B.pre
  have hown : s.vm.findClass y.cls = some m.cls := findClass_of_methodNamed B.named
  rw [hcl] at hown
  have hX : MX g own p s m As.toArray c cc maxL ws meth (some .boolean) := ⟨⟨B.exec, B.bytes, hml, hown, hts⟩, hK, fun q hq => hw.2.2.1 q hq, B.returns, B.notSynchronized⟩
  exact body p e s m _ below meth c _ _ hX hw hl (fun H lc cn sn pc ls v hd hb hw' hv => m_zret hX hw' v hv hb hd)
theorem mV_start (hy : plainName y.cls = true) (hcl : y.cls = own) (hwc : ws = Cond.code y cc maxL none :: ws') (hlen : (lg_sl As).length ≤ maxL)
    (body : ∀ (p : Program) (e : Env) (s : State) (m : MethodId) (args : Array Value) (below : List Frame) (meth : Method) (c0 : Code) (ls : Array Slot) (Q : State → Prop), MX g own p s m args c0 cc maxL ws meth none → wH g s.heap.size T s.heap [] → lv_has ls maxL (lv_args 0 As) →
      (∀ (H : Heap) (lc : List Loc) (cn sn pc : Nat) (ls : Array Slot), decode cc pc = .ok (.return_, 1) → wH g s.heap.size T' H lc → W p l e (rmO g fr lo s.heap) s m args below meth c0 H lc cn sn Q (F0 m pc ls [])) →
      W p l e (rmO g fr lo s.heap) s m args below meth c0 s.heap [] 0 0 Q (F0 m 0 ls [])) : MetV g l y ws fr lo As T T' := by
  intro sz su
  refine Met.ofW (cc := cc) (maxL := maxL) (ret := none) hy hwc ?_
  intro p e s m args below meth c s₁ B hml hv
  obtain ⟨rfl, hsz, hsu, hw, hK⟩ := hv
  subst hsz
  subst hsu
  have hl := lv_entry As (n := maxL) hlen
  rw [lg_entry_eq]
  have hts := atoms_spec (ws := ws) B.pre
  have hown : s.vm.findClass y.cls = some m.cls := findClass_of_methodNamed B.named
  rw [hcl] at hown
  have hX : MX g own p s m As.toArray c cc maxL ws meth none := ⟨⟨B.exec, B.bytes, hml, hown, hts⟩, hK, fun q hq => hw.2.2.1 q hq, B.returns, B.notSynchronized⟩
  exact body p e s m _ below meth c _ _ hX hw hl (fun H lc cn sn pc ls hd hw' => m_vret hX hw' hd)
end STARTS
