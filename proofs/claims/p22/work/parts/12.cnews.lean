/-! ===== new cells, contracts of the class's methods, calls, ends, throws ===== -/
theorem sbn_eq {s s' : State} {L : List Loc} {k n : Nat} (h : s.sameButNew s' L k n) : hsl s'.heap = hsl s.heap + ((s'.heap.toList.drop s.heap.size).map (fun x => x.slots.size)).sum := by
  obtain ⟨e1, e2, e3, e4, e5, e6⟩ := h
  have key : hsl s'.heap = hsl s.heap + ((s'.heap.toList.drop s.heap.size).map (fun x => x.slots.size)).sum := by
    have h1 : (s'.heap.toList.take s.heap.size).map (fun x => x.slots.size) = s.heap.toList.map (fun x => x.slots.size) := by
      apply List.ext_getElem?
      intro i
      rw [List.getElem?_map, List.getElem?_map, List.getElem?_take]
      by_cases hi : i < s.heap.size
      · rw [if_pos hi, Array.getElem?_toList, Array.getElem?_toList]
        obtain ⟨c, hc⟩ : ∃ c, s.heap[i]? = some c := ⟨_, Array.getElem?_eq_getElem hi⟩
        obtain ⟨c', hc', -, hs, -⟩ := e6 i c hc
        rw [hc, hc']
        simp [hs]
      · rw [if_neg hi, Array.getElem?_toList, Array.getElem?_eq_none (by omega)]
    unfold hsl
    rw [← h1]
    conv => lhs; rw [← List.take_append_drop s.heap.size s'.heap.toList]
    rw [List.map_append, List.sum_append]
  exact key
theorem sbn_hsl {s s' : State} {L : List Loc} {k n : Nat} (h : s.sameButNew s' L k n) : hsl s'.heap ≤ hsl s.heap + n ∧ s'.heap.size ≤ s.heap.size + k := by
  have key := sbn_eq h
  obtain ⟨e1, e2, e3, e4, e5, e6⟩ := h
  refine ⟨?_, e3⟩
  rw [key]
  omega
theorem cent_nw {g : GG} {c : CS} {kind len n y : Nat} (hy : y ≠ wz c + 1) : cent g (nw c kind len n) y = cent g c y := by
  have hI : ∀ f, wI (nw c kind len n) f y = wI c f y := fun f => by simp [wI, nw, hy]
  have hJ : ∀ f, wJ (nw c kind len n) f y = wJ c f y := fun f => by simp [wJ, nw, hy]
  have hA : (fun i => wA (nw c kind len n) y i) = fun i => wA c y i := funext fun i => by simp [wA, nw, hy]
  have hB : (fun i => ro (wB (nw c kind len n) y i)) = fun i => ro (wB c y i) := funext fun i => by simp [wB, nw, hy]
  have hL : ∀ f, wL (nw c kind len n) f y = wL c f y := fun f => by simp [wL, nw, hy]
  have hM : (fun i => wM (nw c kind len n) y i) = fun i => wM c y i := funext fun i => by simp [wM, nw, hy]
  unfold cent
  simp only [hI, hJ, hA, hB, hL, hM]
theorem cH_new {g : GG} {z : Nat} {T : TW} {H : Heap} {locs : List Loc} (hw : wH g z T H locs) {kind len n : Nat} {e1 : va_E} {H1 : Heap} (hbud : 1 ≤ wl T.1 ∧ n ≤ wk T.1) (he1 : cent g (nw T.1 kind len n) (wz T.1 + 1) = some e1) (zz : H1.size = H.size + 1) (oq : ∀ q : Nat, q < H.size → H1[q]? = H[q]?) (ha : va_at (gD g) vwCl (H.size, e1) H1) (hs : hsl H1 ≤ hsl H + n) : wH g z (nw T.1 kind len n, T.2) H1 locs := by
  obtain ⟨hc, hm, hb, ⟨r1, r2, r3, r4, r5⟩, hl⟩ := hw
  refine ⟨⟨?_, fun y ey hy => ?_⟩, fun hn => ⟨fun j ej hj => ?_, (hm hn).2⟩, fun q hq => ?_, ⟨r1, by omega, by rw [zz, r3]; rfl, ?_, ?_⟩, hl⟩
  · have h0 := hc.1
    simpa [wJ, nw] using h0
  · by_cases hyz : y = wz T.1 + 1
    · subst hyz
      have : ey = e1 := Option.some.inj (hy.symm.trans he1)
      subst this
      refine ⟨?_, fun _ => ?_⟩
      · show va_at (gD g) vwCl (wz T.1 + 1 - 1, ey) H1
        rw [Nat.add_sub_cancel, ← r3]
        exact ha
      · rw [Nat.add_sub_cancel, ← r3]
        omega
    · rw [cent_nw hyz] at hy
      obtain ⟨h2, h3⟩ := hc.2 y ey hy
      refine ⟨h2.kept (oq _ h2.lt), fun h4 => h3 fun h5 => h4 ?_⟩
      simpa [wJ, nw, hyz] using h5
  · obtain ⟨h2, h3, h4⟩ := (hm hn).1 j ej hj
    have hlt : gmd g j < H.size := h2.lt
    refine ⟨h2.kept (oq _ h2.lt), ?_, h4⟩
    have hne : ¬ gmd g j = wz T.1 := by omega
    show wJ (nw T.1 kind len n) 0 (gmd g j + 1) = 0
    simpa [wJ, nw, hne] using h3
  · rw [oq q (by omega)]
    exact hb q hq
  · show hsl H1 + (wk T.1 - n) ≤ gnn g 2
    omega
  · refine ⟨?_, by simpa [wJ, nw] using r5.2.1, by simpa [wJ, nw] using r5.2.2⟩
    show wz T.1 + 1 + (wl T.1 - 1) ≤ gnn g 1
    omega
theorem cH_bump {g : GG} {z : Nat} {T : TW} {H : Heap} {locs : List Loc} (hw : wH g z T H locs) {H1 : Heap} (hbud : 1 ≤ wl T.1 ∧ 6 ≤ wk T.1) (zz : H1.size = H.size + 1) (oq : ∀ q : Nat, q < H.size → H1[q]? = H[q]?) (hs : hsl H1 ≤ hsl H + 6) : wH g z (bump T.1, T.2) H1 locs := by
  obtain ⟨hc, hm, hb, ⟨r1, r2, r3, r4, r5⟩, hl⟩ := hw
  refine ⟨⟨hc.1, fun y ey hy => ?_⟩, fun hn => ⟨fun j ej hj => ?_, (hm hn).2⟩, fun q hq => ?_, ⟨r1, by omega, by rw [zz, r3]; rfl, ?_, ?_⟩, hl⟩
  · obtain ⟨h2, h3⟩ := hc.2 y ey hy
    exact ⟨h2.kept (oq _ h2.lt), h3⟩
  · obtain ⟨h2, h3, h4⟩ := (hm hn).1 j ej hj
    exact ⟨h2.kept (oq _ h2.lt), h3, h4⟩
  · rw [oq q (by omega)]
    exact hb q hq
  · show hsl H1 + (wk T.1 - 6) ≤ gnn g 2
    omega
  · refine ⟨?_, r5.2⟩
    show wz T.1 + 1 + (wl T.1 - 1) ≤ gnn g 1
    omega
section NEWS
variable {p : Program} {l : Launch} {e : Env} {s : State} {m : MethodId} {args : Array Value} {below : List Frame} {meth : Method} {c0 : Code} {H : Heap} {locs : List Loc} {cells slots : Nat} {Q : State → Prop}
variable {cc : ByteArray} {pc : Nat} {ls : Array Slot} {rest : List Value} {g : GG} {T : TW} {Ts : List Cond} {nL fr lo : Nat} {own : String} {ret : Option FieldType}
theorem tw_sl {R : Room} {f : JFrame} (k : hsl H ≤ hsl s.heap + slots → W p l e R s m args below meth c0 H locs cells slots Q f) : W p l e R s m args below meth c0 H locs cells slots Q f := by
  intro Tt hT X
  have h := (sbn_hsl X.same).1
  rw [show (Tt.setVm s.vm).heap = Tt.heap from rfl, hT] at h
  exact k h Tt hT X
theorem c_new (hX : MX g own p s m args c0 cc nL Ts meth ret) (hw : wH g s.heap.size T H locs) {index ci N kind : Nat} {C : String} {TT : u_T} {tyf : Nat → FieldType} {fs : List Value} (hc : vwCl[ci]? = some (C, TT, N)) (hty : ∀ k, k < N → parseFieldDescriptor (TT k).2.2.1 = some (tyf k)) (hin : ∀ w ∈ u_ws C TT N, w ∈ Ts) (hcl : Cond.classLink own index C ∈ Ts) (hins : Cond.instantiable C N ∈ Ts) (hini : Cond.initialized C ∈ Ts) (hbud : 1 ≤ wl T.1 ∧ N ≤ wk T.1) (he : cent g (nw T.1 kind 0 N) (wz T.1 + 1) = some (.inr (ci, fs))) (hfs : ∀ j, j < N → defaultValue (tyf j) = vp_V fs j) (hdg : decode cc pc = .ok (.new index, 3))
    (kk : ∀ (H1 : Heap) (cells slots : Nat), wH g s.heap.size (nw T.1 kind 0 N, T.2) H1 locs → W p l e (rmO g fr lo s.heap) s m args below meth c0 H1 locs cells slots Q (F0 m (pc + 3) ls (rv (wz T.1 + 1) :: rest))) : W p l e (rmO g fr lo s.heap) s m args below meth c0 H locs cells slots Q (F0 m pc ls rest) := by
  obtain ⟨⟨hx, hb, hml, hown, hts⟩, hK, -⟩ := hX
  have hKn := hK.1.1 ci _ hc
  refine tw_tight fun c' s' hc1 hs1 hz hzs => ?_
  obtain ⟨w1, w2, w3, ⟨w4, w5, w6, w7, w8⟩, w10⟩ := id hw
  refine W.newcK hx hb hown (hts _ hcl) (hts _ hins) (hts _ hini) rfl hdg (by show c' + 1 ≤ gnn g 1 - s.heap.size; omega) (by show s' + N ≤ gnn g 2 - hsl s.heap; omega) hKn.2.1 rfl fun H1 kC hkC e1 z1 o1 => ?_
  refine tw_sl fun hb1 => ?_
  have hre : rv (wz T.1 + 1) = .ref H.size := by rw [rv_ref (by omega), Nat.add_sub_cancel, w6]
  have := kk H1 (c' + 1) (s' + N) (cH_new hw hbud he z1 o1 ⟨_, hc, (u_born tyf hts hin hKn hkC e1 hty).to hfs⟩ (by omega))
  rw [hre] at this
  exact this
theorem arr_cy {g : GG} {t0 : Nat} {ty : FieldType} {cA : ClassId} (hK : TB g s) (ht : (gty g)[t0]? = some (gcy g t0, ty)) (hnm : s.vm.findClass ("[" ++ ty.toString) = some cA) : cA = gcy g t0 := by
  have h := (hK.1.2 t0 _ ht).2
  have h2 : s.vm.findClass ("[" ++ ty.toString) = some (gcy g t0) := by
    cases ty with
    | object C => obtain ⟨-, -, -, -, -, h4⟩ := h; exact h4
    | _ => exact h
  exact Option.some.inj (hnm.symm.trans h2)
/-- a new array of numbers -/
theorem c_newa (hX : MX g own p s m args c0 cc nL Ts meth ret) (hw : wH g s.heap.size T H locs) {kind t0 : Nat} {atype : ArrayType} {ty : FieldType} {n : Int32} {a0 : (Nat → Int32) ⊕ (Nat → Int64) ⊕ (Nat → UInt32) ⊕ (Nat → UInt64) ⊕ (Nat → Option Nat)} (hty : newarray.typeOf atype = ty) (harr : Cond.arrayClass ty ∈ Ts) (ht : (gty g)[t0]? = some (gcy g t0, ty)) (hn : ¬ n < 0) (hN : n.toNatClampNeg ≤ 1000) (hcb : componentBytes ty ≤ 8) (hbud : 1 ≤ wl T.1 ∧ n.toNatClampNeg ≤ wk T.1) (he : cent g (nw T.1 kind n.toNatClampNeg n.toNatClampNeg) (wz T.1 + 1) = some (.inl (gcy g t0, n.toNatClampNeg, a0))) (ha : vp_cell (gcy g t0) (n.toNatClampNeg, a0) = arrV (gcy g t0) n.toNatClampNeg (fun _ => defaultValue ty)) (hdg : decode cc pc = .ok (.newarray atype, 2))
    (kk : ∀ (H1 : Heap) (cells slots : Nat), wH g s.heap.size (nw T.1 kind n.toNatClampNeg n.toNatClampNeg, T.2) H1 locs → W p l e (rmO g fr lo s.heap) s m args below meth c0 H1 locs cells slots Q (F0 m (pc + 2) ls (rv (wz T.1 + 1) :: rest))) : W p l e (rmO g fr lo s.heap) s m args below meth c0 H locs cells slots Q (F0 m pc ls (.int n :: rest)) := by
  obtain ⟨⟨hx, hb, hml, hown, hts⟩, hK, -⟩ := hX
  subst hty
  refine tw_tight fun c' s' hc1 hs1 hz hzs => ?_
  obtain ⟨w1, w2, w3, ⟨w4, w5, w6, w7, w8⟩, w10⟩ := id hw
  refine va_newaK hx hb (hts _ harr) rfl hdg rfl hn rfl (Nat.le_trans (Nat.mul_le_mul hN hcb) (by decide)) (by show c' + 1 ≤ gnn g 1 - s.heap.size; omega) (by show s' + _ ≤ gnn g 2 - hsl s.heap; omega) rfl fun H1 cA e1 z1 o1 hAr hNm => ?_
  have hcA := arr_cy hK ht hNm
  subst hcA
  have hre : rv (wz T.1 + 1) = .ref H.size := by rw [rv_ref (by omega), Nat.add_sub_cancel, w6]
  have hsz := hsl_new e1 z1 o1
  rw [arrV_size] at hsz
  have := kk H1 (c' + 1) (s' + n.toNatClampNeg) (cH_new hw hbud he z1 o1 (show H1[H.size]? = some (vp_cell _ _) from by rw [ha]; exact e1) (by omega))
  rw [hre] at this
  exact this
/-- a new array of references -/
theorem c_newq (hX : MX g own p s m args c0 cc nL Ts meth ret) (hw : wH g s.heap.size T H locs) {kind t0 index : Nat} {C : String} {n : Int32} (hcl : Cond.classLink own index C ∈ Ts) (hover : va_AO C s) (ht : (gty g)[t0]? = some (gcy g t0, .object C)) (hn : ¬ n < 0) (hN : n.toNatClampNeg ≤ 1000) (hbud : 1 ≤ wl T.1 ∧ n.toNatClampNeg ≤ wk T.1) (he : cent g (nw T.1 kind n.toNatClampNeg n.toNatClampNeg) (wz T.1 + 1) = some (.inl (gcy g t0, n.toNatClampNeg, .inr (.inr (.inr (.inr (fun _ => none))))))) (hdg : decode cc pc = .ok (.anewarray index, 3))
    (kk : ∀ (H1 : Heap) (cells slots : Nat), wH g s.heap.size (nw T.1 kind n.toNatClampNeg n.toNatClampNeg, T.2) H1 locs → W p l e (rmO g fr lo s.heap) s m args below meth c0 H1 locs cells slots Q (F0 m (pc + 3) ls (rv (wz T.1 + 1) :: rest))) : W p l e (rmO g fr lo s.heap) s m args below meth c0 H locs cells slots Q (F0 m pc ls (.int n :: rest)) := by
  obtain ⟨⟨hx, hb, hml, hown, hts⟩, hK, -⟩ := hX
  refine tw_tight fun c' s' hc1 hs1 hz hzs => ?_
  obtain ⟨w1, w2, w3, ⟨w4, w5, w6, w7, w8⟩, w10⟩ := id hw
  refine W.anew hx hb hown (hts _ hcl) (va_AO.use hover) rfl hdg rfl hn (by omega) (by show c' + 1 ≤ gnn g 1 - s.heap.size; omega) (by show s' + _ ≤ gnn g 2 - hsl s.heap; omega) fun cA kA comp f1 f2 f3 f4 => ?_
  have hcA := arr_cy hK ht f1
  subst hcA
  generalize hH1 : H.push ({ cls := gcy g t0, slots := Array.replicate n.toNatClampNeg .null, vm := .none } : Cell) = H1
  have z1 : H1.size = H.size + 1 := by rw [← hH1, Array.size_push]
  have e1 : H1[H.size]? = some (arrV (gcy g t0) n.toNatClampNeg (fun _ => .null)) := by rw [← hH1, Array.getElem?_push_size, ← arrV_new]
  have o1 : ∀ q : Nat, q < H.size → H1[q]? = H[q]? := fun q hq => by rw [← hH1, Array.getElem?_push, if_neg (Nat.ne_of_lt hq)]
  have hre : rv (wz T.1 + 1) = .ref H.size := by rw [rv_ref (by omega), Nat.add_sub_cancel, w6]
  have hsz := hsl_new e1 z1 o1
  rw [arrV_size] at hsz
  have := kk H1 (c' + 1) (s' + n.toNatClampNeg) (cH_new hw hbud he z1 o1 (show H1[H.size]? = some (vp_cell _ _) from by rw [vp_cell_q]; exact e1) (by omega))
  rw [hre] at this
  exact this
theorem n_1 (hX : MX g own p s m args c0 cc nL Ts meth ret) (hw : wH g s.heap.size T H locs) {index : Nat} (hin : ∀ w ∈ wsX20, w ∈ Ts) (hcl : Cond.classLink own index RX2 ∈ Ts) (hins : Cond.instantiable RX2 4 ∈ Ts) (hini : Cond.initialized RX2 ∈ Ts) (hbud : 1 ≤ wl T.1 ∧ 4 ≤ wk T.1) (hdg : decode cc pc = .ok (.new index, 3))
    (kk : ∀ (H1 : Heap) (cells slots : Nat), wH g s.heap.size (nw T.1 1 0 4, T.2) H1 locs → W p l e (rmO g fr lo s.heap) s m args below meth c0 H1 locs cells slots Q (F0 m (pc + 3) ls (rv (wz T.1 + 1) :: rest))) : W p l e (rmO g fr lo s.heap) s m args below meth c0 H locs cells slots Q (F0 m pc ls rest) := by
  refine c_new (TT := TX2) (N := 4) (kind := 1) hX hw rfl tyX2_ok hin hcl hins hini hbud (ce_1 (by simp [wJ, nw])) ?_ hdg kk
  intro j hj
  rcases (show j = 0 ∨ j = 1 ∨ j = 2 ∨ j = 3 by omega) with rfl | rfl | rfl | rfl <;> simp [tyX2, defaultValue, vp_V, wI, wJ, wL, nw, rv, ro, va_rf]
theorem n_2 (hX : MX g own p s m args c0 cc nL Ts meth ret) (hw : wH g s.heap.size T H locs) {index : Nat} (hin : ∀ w ∈ wsX50, w ∈ Ts) (hcl : Cond.classLink own index RX5 ∈ Ts) (hins : Cond.instantiable RX5 4 ∈ Ts) (hini : Cond.initialized RX5 ∈ Ts) (hbud : 1 ≤ wl T.1 ∧ 4 ≤ wk T.1) (hdg : decode cc pc = .ok (.new index, 3))
    (kk : ∀ (H1 : Heap) (cells slots : Nat), wH g s.heap.size (nw T.1 2 0 4, T.2) H1 locs → W p l e (rmO g fr lo s.heap) s m args below meth c0 H1 locs cells slots Q (F0 m (pc + 3) ls (rv (wz T.1 + 1) :: rest))) : W p l e (rmO g fr lo s.heap) s m args below meth c0 H locs cells slots Q (F0 m pc ls rest) := by
  refine c_new (TT := TX5) (N := 4) (kind := 2) hX hw rfl tyX5_ok hin hcl hins hini hbud (ce_2 (by simp [wJ, nw])) ?_ hdg kk
  intro j hj
  rcases (show j = 0 ∨ j = 1 ∨ j = 2 ∨ j = 3 by omega) with rfl | rfl | rfl | rfl <;> simp [tyX5, defaultValue, vp_V, wI, wJ, wL, nw, rv, ro, va_rf]
theorem n_3 (hX : MX g own p s m args c0 cc nL Ts meth ret) (hw : wH g s.heap.size T H locs) {index : Nat} (hin : ∀ w ∈ wsX00, w ∈ Ts) (hcl : Cond.classLink own index RX0 ∈ Ts) (hins : Cond.instantiable RX0 8 ∈ Ts) (hini : Cond.initialized RX0 ∈ Ts) (hbud : 1 ≤ wl T.1 ∧ 8 ≤ wk T.1) (hdg : decode cc pc = .ok (.new index, 3))
    (kk : ∀ (H1 : Heap) (cells slots : Nat), wH g s.heap.size (nw T.1 3 0 8, T.2) H1 locs → W p l e (rmO g fr lo s.heap) s m args below meth c0 H1 locs cells slots Q (F0 m (pc + 3) ls (rv (wz T.1 + 1) :: rest))) : W p l e (rmO g fr lo s.heap) s m args below meth c0 H locs cells slots Q (F0 m pc ls rest) := by
  refine c_new (TT := TX0) (N := 8) (kind := 3) hX hw rfl tyX0_ok hin hcl hins hini hbud (ce_3 (by simp [wJ, nw])) ?_ hdg kk
  intro j hj
  rcases (show j = 0 ∨ j = 1 ∨ j = 2 ∨ j = 3 ∨ j = 4 ∨ j = 5 ∨ j = 6 ∨ j = 7 by omega) with rfl | rfl | rfl | rfl | rfl | rfl | rfl | rfl <;> simp [tyX0, defaultValue, vp_V, wI, wJ, wL, nw, rv, ro, va_rf]
theorem n_4 (hX : MX g own p s m args c0 cc nL Ts meth ret) (hw : wH g s.heap.size T H locs) {index : Nat} (hin : ∀ w ∈ wsX40, w ∈ Ts) (hcl : Cond.classLink own index RX4 ∈ Ts) (hins : Cond.instantiable RX4 3 ∈ Ts) (hini : Cond.initialized RX4 ∈ Ts) (hbud : 1 ≤ wl T.1 ∧ 3 ≤ wk T.1) (hdg : decode cc pc = .ok (.new index, 3))
    (kk : ∀ (H1 : Heap) (cells slots : Nat), wH g s.heap.size (nw T.1 4 0 3, T.2) H1 locs → W p l e (rmO g fr lo s.heap) s m args below meth c0 H1 locs cells slots Q (F0 m (pc + 3) ls (rv (wz T.1 + 1) :: rest))) : W p l e (rmO g fr lo s.heap) s m args below meth c0 H locs cells slots Q (F0 m pc ls rest) := by
  refine c_new (TT := TX4) (N := 3) (kind := 4) hX hw rfl tyX4_ok hin hcl hins hini hbud (ce_4 (by simp [wJ, nw])) ?_ hdg kk
  intro j hj
  rcases (show j = 0 ∨ j = 1 ∨ j = 2 by omega) with rfl | rfl | rfl <;> simp [tyX4, defaultValue, vp_V, wI, wJ, wL, nw, rv, ro, va_rf]
theorem n_5 (hX : MX g own p s m args c0 cc nL Ts meth ret) (hw : wH g s.heap.size T H locs) {index : Nat} (hin : ∀ w ∈ wsX30, w ∈ Ts) (hcl : Cond.classLink own index RX3 ∈ Ts) (hins : Cond.instantiable RX3 3 ∈ Ts) (hini : Cond.initialized RX3 ∈ Ts) (hbud : 1 ≤ wl T.1 ∧ 3 ≤ wk T.1) (hdg : decode cc pc = .ok (.new index, 3))
    (kk : ∀ (H1 : Heap) (cells slots : Nat), wH g s.heap.size (nw T.1 5 0 3, T.2) H1 locs → W p l e (rmO g fr lo s.heap) s m args below meth c0 H1 locs cells slots Q (F0 m (pc + 3) ls (rv (wz T.1 + 1) :: rest))) : W p l e (rmO g fr lo s.heap) s m args below meth c0 H locs cells slots Q (F0 m pc ls rest) := by
  refine c_new (TT := TX3) (N := 3) (kind := 5) hX hw rfl tyX3_ok hin hcl hins hini hbud (ce_5 (by simp [wJ, nw])) ?_ hdg kk
  intro j hj
  rcases (show j = 0 ∨ j = 1 ∨ j = 2 by omega) with rfl | rfl | rfl <;> simp [tyX3, defaultValue, vp_V, wI, wJ, wL, nw, rv, ro, va_rf]
theorem n_6 (hX : MX g own p s m args c0 cc nL Ts meth ret) (hw : wH g s.heap.size T H locs) {index : Nat} (hin : ∀ w ∈ wsX60, w ∈ Ts) (hcl : Cond.classLink own index RX6 ∈ Ts) (hins : Cond.instantiable RX6 8 ∈ Ts) (hini : Cond.initialized RX6 ∈ Ts) (hbud : 1 ≤ wl T.1 ∧ 8 ≤ wk T.1) (hdg : decode cc pc = .ok (.new index, 3))
    (kk : ∀ (H1 : Heap) (cells slots : Nat), wH g s.heap.size (nw T.1 6 0 8, T.2) H1 locs → W p l e (rmO g fr lo s.heap) s m args below meth c0 H1 locs cells slots Q (F0 m (pc + 3) ls (rv (wz T.1 + 1) :: rest))) : W p l e (rmO g fr lo s.heap) s m args below meth c0 H locs cells slots Q (F0 m pc ls rest) := by
  refine c_new (TT := TX6) (N := 8) (kind := 6) hX hw rfl tyX6_ok hin hcl hins hini hbud (ce_6 (by simp [wJ, nw])) ?_ hdg kk
  intro j hj
  rcases (show j = 0 ∨ j = 1 ∨ j = 2 ∨ j = 3 ∨ j = 4 ∨ j = 5 ∨ j = 6 ∨ j = 7 by omega) with rfl | rfl | rfl | rfl | rfl | rfl | rfl | rfl <;> simp [tyX6, defaultValue, vp_V, wI, wJ, wL, nw, rv, ro, va_rf]
theorem n_7 (hX : MX g own p s m args c0 cc nL Ts meth ret) (hw : wH g s.heap.size T H locs) {index : Nat} (hin : ∀ w ∈ wsJx4a65c0, w ∈ Ts) (hcl : Cond.classLink own index RJx4a65c ∈ Ts) (hins : Cond.instantiable RJx4a65c 3 ∈ Ts) (hini : Cond.initialized RJx4a65c ∈ Ts) (hbud : 1 ≤ wl T.1 ∧ 3 ≤ wk T.1) (hdg : decode cc pc = .ok (.new index, 3))
    (kk : ∀ (H1 : Heap) (cells slots : Nat), wH g s.heap.size (nw T.1 7 0 3, T.2) H1 locs → W p l e (rmO g fr lo s.heap) s m args below meth c0 H1 locs cells slots Q (F0 m (pc + 3) ls (rv (wz T.1 + 1) :: rest))) : W p l e (rmO g fr lo s.heap) s m args below meth c0 H locs cells slots Q (F0 m pc ls rest) := by
  refine c_new (TT := TJx4a65c) (N := 3) (kind := 7) hX hw rfl tyJx4a65c_ok hin hcl hins hini hbud (ce_7 (by simp [wJ, nw])) ?_ hdg kk
  intro j hj
  rcases (show j = 0 ∨ j = 1 ∨ j = 2 by omega) with rfl | rfl | rfl <;> simp [tyJx4a65c, defaultValue, vp_V, wI, wJ, wL, nw, rv, ro, va_rf]
theorem n_arrI (hX : MX g own p s m args c0 cc nL Ts meth ret) (hw : wH g s.heap.size T H locs) {n : Int32} (harr : Cond.arrayClass .int ∈ Ts) (hn : ¬ n < 0 ∧ n.toNatClampNeg ≤ 1000) (hbud : 1 ≤ wl T.1 ∧ n.toNatClampNeg ≤ wk T.1) (hdg : decode cc pc = .ok (.newarray .int, 2))
    (kk : ∀ (H1 : Heap) (cells slots : Nat), wH g s.heap.size (nw T.1 8 n.toNatClampNeg n.toNatClampNeg, T.2) H1 locs → W p l e (rmO g fr lo s.heap) s m args below meth c0 H1 locs cells slots Q (F0 m (pc + 2) ls (rv (wz T.1 + 1) :: rest))) : W p l e (rmO g fr lo s.heap) s m args below meth c0 H locs cells slots Q (F0 m pc ls (.int n :: rest)) := by
  refine c_newa (ty := .int) (t0 := 0) (kind := 8) (a0 := .inl (fun _ => 0)) hX hw rfl harr rfl hn.1 hn.2 (by decide) hbud ?_ rfl hdg kk
  rw [ae_8 (by simp [wJ, nw])]
  simp [wJ, wA, wM, nw]
theorem n_arrS (hX : MX g own p s m args c0 cc nL Ts meth ret) (hG : XG g) (hw : wH g s.heap.size T H locs) {n : Int32} {index : Nat} (hcl : Cond.classLink own index "TabStore$Store" ∈ Ts) (hn : ¬ n < 0 ∧ n.toNatClampNeg ≤ 1000) (hbud : 1 ≤ wl T.1 ∧ n.toNatClampNeg ≤ wk T.1) (hdg : decode cc pc = .ok (.anewarray index, 3))
    (kk : ∀ (H1 : Heap) (cells slots : Nat), wH g s.heap.size (nw T.1 10 n.toNatClampNeg n.toNatClampNeg, T.2) H1 locs → W p l e (rmO g fr lo s.heap) s m args below meth c0 H1 locs cells slots Q (F0 m (pc + 3) ls (rv (wz T.1 + 1) :: rest))) : W p l e (rmO g fr lo s.heap) s m args below meth c0 H locs cells slots Q (F0 m pc ls (.int n :: rest)) := by
  refine c_newq (t0 := 2) (kind := 10) hX hw hcl (hG s hX.2.1.2.1).2.2.1.2.2 rfl hn.1 hn.2 hbud ?_ hdg kk
  rw [ae_10 (by simp [wJ, nw])]
  simp [wJ, wB, nw, ro]
theorem n_arrT (hX : MX g own p s m args c0 cc nL Ts meth ret) (hG : XG g) (hw : wH g s.heap.size T H locs) {n : Int32} {index : Nat} (hcl : Cond.classLink own index "TabStore$Tab" ∈ Ts) (hn : ¬ n < 0 ∧ n.toNatClampNeg ≤ 1000) (hbud : 1 ≤ wl T.1 ∧ n.toNatClampNeg ≤ wk T.1) (hdg : decode cc pc = .ok (.anewarray index, 3))
    (kk : ∀ (H1 : Heap) (cells slots : Nat), wH g s.heap.size (nw T.1 11 n.toNatClampNeg n.toNatClampNeg, T.2) H1 locs → W p l e (rmO g fr lo s.heap) s m args below meth c0 H1 locs cells slots Q (F0 m (pc + 3) ls (rv (wz T.1 + 1) :: rest))) : W p l e (rmO g fr lo s.heap) s m args below meth c0 H locs cells slots Q (F0 m pc ls (.int n :: rest)) := by
  refine c_newq (t0 := 3) (kind := 11) hX hw hcl (hG s hX.2.1.2.1).2.2.1.2.1 rfl hn.1 hn.2 hbud ?_ hdg kk
  rw [ae_11 (by simp [wJ, nw])]
  simp [wJ, wB, nw, ro]
theorem n_arrO (hX : MX g own p s m args c0 cc nL Ts meth ret) (hG : XG g) (hw : wH g s.heap.size T H locs) {n : Int32} {index : Nat} (hcl : Cond.classLink own index "java/lang/Object" ∈ Ts) (hn : ¬ n < 0 ∧ n.toNatClampNeg ≤ 1000) (hbud : 1 ≤ wl T.1 ∧ n.toNatClampNeg ≤ wk T.1) (hdg : decode cc pc = .ok (.anewarray index, 3))
    (kk : ∀ (H1 : Heap) (cells slots : Nat), wH g s.heap.size (nw T.1 12 n.toNatClampNeg n.toNatClampNeg, T.2) H1 locs → W p l e (rmO g fr lo s.heap) s m args below meth c0 H1 locs cells slots Q (F0 m (pc + 3) ls (rv (wz T.1 + 1) :: rest))) : W p l e (rmO g fr lo s.heap) s m args below meth c0 H locs cells slots Q (F0 m pc ls (.int n :: rest)) := by
  refine c_newq (t0 := 4) (kind := 12) hX hw hcl (hG s hX.2.1.2.1).2.2.1.1 rfl hn.1 hn.2 hbud ?_ hdg kk
  rw [ae_12 (by simp [wJ, nw])]
  simp [wJ, wB, nw, ro]
end NEWS
