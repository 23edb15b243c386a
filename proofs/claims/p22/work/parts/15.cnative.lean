/-! ===== the natives, Object's constructor, the empty array ===== -/
def cpB (c : CS) (x y sp dp n : Nat) : CS := (c.1, c.2.1, c.2.2.1, (fun z i => if z = y ∧ dp ≤ i ∧ i < dp + n then c.2.2.2.1 x (sp + (i - dp)) else c.2.2.2.1 z i), c.2.2.2.2)
theorem eqx_cpB (c : CS) (x y sp dp n : Nat) : eqx (cpB c x y sp dp n) c y := ⟨fun _ => rfl, ⟨rfl, rfl, rfl⟩, fun z hz => ⟨fun _ => rfl, fun _ => rfl, fun _ => rfl, fun i => by simp [wB, cpB, hz], fun _ => rfl, fun _ => rfl⟩⟩
section NATIVES
variable {p : Program} {l : Launch} {e : Env} {s : State} {m : MethodId} {args : Array Value} {below : List Frame} {meth : Method} {c0 : Code} {H : Heap} {locs : List Loc} {cells slots : Nat} {Q : State → Prop}
variable {cc : ByteArray} {pc : Nat} {ls : Array Slot} {rest : List Value} {g : GG} {T : TW} {Ts : List Cond} {nL fr lo : Nat} {own : String} {ret : Option FieldType}
theorem c_oinit (hX : MX g own p s m args c0 cc nL Ts meth ret) {x idx : Nat} (hx0 : x ≠ 0) (hl : Cond.methodLink own idx objectInit ∈ Ts) (hi : Cond.instanceMethod objectInit ∈ Ts) (hc : Cond.code objectInit ⟨#[0xb1]⟩ 1 none ∈ Ts) (hsz : ls.size = nL) (hd : decode cc pc = .ok (.invokespecial idx, 3)) (hfr : 1 ≤ fr ∧ (rest.map fun v => v.category).sum + 12 ≤ lo)
    (kk : W p l e (rmO g fr lo s.heap) s m args below meth c0 H locs cells slots Q (F0 m (pc + 3) ls rest)) : W p l e (rmO g fr lo s.heap) s m args below meth c0 H locs cells slots Q (F0 m pc ls (rv x :: rest)) := by
  obtain ⟨⟨hx, hb, hml, hown, hts⟩, hK, -⟩ := hX
  rw [rv_ref hx0]
  exact W.objInit hx hb hown (hts _ hl) (hts _ hi) (hts _ hc) rfl (by rw [hml]; exact hsz) rfl hd hfr.1 (by show 2 * 0 + _ + 12 ≤ lo; omega) kk
theorem c_gsE (hX : MX g own p s m args c0 cc nL Ts meth ret) (hG : XG g) {z : Nat} (hw : wH g z T H locs) {index : Nat} {ref : String} (hl : Cond.fieldLink own index ref "DEFAULTCAPACITY_EMPTY_ELEMENTDATA" "[Ljava/lang/Object;" ∈ Ts) (href : ref = "java/util/ArrayList") (hdg : decode cc pc = .ok (.getstatic index, 3))
    (kk : W p l e (rmO g fr lo s.heap) s m args below meth c0 H locs cells slots Q (F0 m (pc + 3) ls (rv (wJ T.1 2 0) :: rest))) : W p l e (rmO g fr lo s.heap) s m args below meth c0 H locs cells slots Q (F0 m pc ls rest) := by
  have hZ := (hG s hX.2.1.2.1).1.2.2
  obtain ⟨⟨hx, hb, hml, hown, hts⟩, hK, h0, -⟩ := hX
  obtain ⟨w1, w2, w3, ⟨w4, w5, w6, w7, w8, w9, wA⟩, w10⟩ := hw
  rw [w9, rv_ref (by omega), Nat.add_sub_cancel] at kk
  subst href
  obtain ⟨cf, kf, fi, f, a, cell, h1, h2, h3, h4, h5, h6, h7, h8⟩ := hZ
  have ha : a < gnn g 0 := Nat.not_le.mp h8
  exact W.gets hx hb hown (hts _ hl) h1 h2 h3 h4 (by rw [w3 a ha]; exact h5) (fun e => by rw [e] at h6; cases h6) h7 rfl hdg kk
theorem c_ldcM (hX : MX g own p s m args c0 cc nL Ts meth ret) (hG : XG g) {z : Nat} (hw : wH g z T H locs) {index : Nat} (hl : Cond.classLink own index "[Ljava/lang/Object;" ∈ Ts) (hdg : decode cc pc = .ok (.ldc index, 2))
    (kk : W p l e (rmO g fr lo s.heap) s m args below meth c0 H locs cells slots Q (F0 m (pc + 2) ls (rv (wJ T.1 3 0) :: rest))) : W p l e (rmO g fr lo s.heap) s m args below meth c0 H locs cells slots Q (F0 m pc ls rest) := by
  have hM := (hG s hX.2.1.2.1).2.2.2.2.1.1
  obtain ⟨⟨hx, hb, hml, hown, hts⟩, hK, h0, -⟩ := hX
  obtain ⟨w1, w2, w3, ⟨w4, w5, w6, w7, w8, w9, wA⟩, w10⟩ := hw
  rw [wA, rv_ref (by omega), Nat.add_sub_cancel] at kk
  exact va_ldcM hx hb hown (hts _ hl) hM hdg kk
theorem c_getC (hX : MX g own p s m args c0 cc nL Ts meth ret) (hG : XG g) {z : Nat} (hw : wH g z T H locs) {x index : Nat} (hk : wJ T.1 0 x = 12 ∨ wJ T.1 0 x = 13) (hl : Cond.methodLink own index ⟨"java/lang/Object", "getClass", "()Ljava/lang/Class;"⟩ ∈ Ts) (hsel : Cond.selects "[Ljava/lang/Object;" ⟨"java/lang/Object", "getClass", "()Ljava/lang/Class;"⟩ ⟨"java/lang/Object", "getClass", "()Ljava/lang/Class;"⟩ ∈ Ts) (hinst : Cond.instanceMethod ⟨"java/lang/Object", "getClass", "()Ljava/lang/Class;"⟩ ∈ Ts) (hnat : Cond.native ⟨"java/lang/Object", "getClass", "()Ljava/lang/Class;"⟩ ∈ Ts) (hsz : ls.size = nL) (hfr : 1 ≤ fr ∧ (rest.map fun v => v.category).sum + 14 ≤ lo) (hdg : decode cc pc = .ok (.invokevirtual index, 3))
    (kk : W p l e (rmO g fr lo s.heap) s m args below meth c0 H locs cells slots Q (F0 m (pc + 3) ls (rv (wJ T.1 3 0) :: rest))) : W p l e (rmO g fr lo s.heap) s m args below meth c0 H locs cells slots Q (F0 m pc ls (rv x :: rest)) := by
  have hM := (hG s hX.2.1.2.1).2.2.2.2.1
  obtain ⟨hat, hx0⟩ := cH_cell hw (ae_1213 hk)
  obtain ⟨⟨hx, hb, hml, hown, hts⟩, hK, h0, -⟩ := hX
  obtain ⟨w1, w2, w3, ⟨w4, w5, w6, w7, w8, w9, wA⟩, w10⟩ := hw
  rw [wA, rv_ref (by omega), Nat.add_sub_cancel] at kk
  rw [rv_ref hx0]
  have hnm : s.vm.findClass "[Ljava/lang/Object;" = some (gcy g 4) := va_nmO (hK.1.2 4 _ rfl).2 (by decide)
  exact va_getC (C := "[Ljava/lang/Object;") hx hb (hml.trans hsz.symm) hown (hts _ hl) (va_Dc.use hM.2.1) (hts _ hsel) (hts _ hinst) (hts _ hnat) hM.1 ⟨_, hat, rfl, hnm⟩ hfr.1 hfr.2 hdg kk
theorem c_max (hX : MX g own p s m args c0 cc nL Ts meth ret) {z : Nat} (hw : wH g s.heap.size T H locs) {index : Nat} {a b : Int32} (hl : Cond.methodLink own index Lib.Math.max.name ∈ Ts) (hst : Cond.static Lib.Math.max.name ∈ Ts) (hini : Cond.initialized "java/lang/Math" ∈ Ts) (hcode : Cond.code Lib.Math.max.name Lib.Math.max.code 2 (some .int) ∈ Ts) (hsz : ls.size = nL) (hfr : 1 ≤ fr ∧ (rest.map fun v => v.category).sum + 13 ≤ lo) (hdg : decode cc pc = .ok (.invokestatic index, 3))
    (kk : ∀ cells slots : Nat, W p l e (rmO g fr lo s.heap) s m args below meth c0 H locs cells slots Q (F0 m (pc + 3) ls (.int (if a < b then b else a) :: rest))) : W p l e (rmO g fr lo s.heap) s m args below meth c0 H locs cells slots Q (F0 m pc ls (.int b :: .int a :: rest)) := by
  obtain ⟨⟨hx, hb, hml, hown, hts⟩, hK, h0, -⟩ := hX
  refine tw_tight fun c' s' hc1 hs1 hz hzs => ?_
  obtain ⟨w1, w2, w3, ⟨w4, w5, w6, w7, w8⟩, w10⟩ := id hw
  exact va_mmax hx hb (hml.trans hsz.symm) hown (hts _ hl) (hts _ hst) (hts _ hini) (hts _ hcode) hfr.1 hfr.2 (by show c' ≤ gnn g 1 - s.heap.size; omega) (by show s' ≤ gnn g 2 - hsl s.heap; omega) hdg (kk _ _)
theorem c_min (hX : MX g own p s m args c0 cc nL Ts meth ret) {z : Nat} (hw : wH g s.heap.size T H locs) {index : Nat} {a b : Int32} (hl : Cond.methodLink own index Lib.Math.min.name ∈ Ts) (hst : Cond.static Lib.Math.min.name ∈ Ts) (hini : Cond.initialized "java/lang/Math" ∈ Ts) (hcode : Cond.code Lib.Math.min.name Lib.Math.min.code 2 (some .int) ∈ Ts) (hsz : ls.size = nL) (hfr : 1 ≤ fr ∧ (rest.map fun v => v.category).sum + 13 ≤ lo) (hdg : decode cc pc = .ok (.invokestatic index, 3))
    (kk : ∀ cells slots : Nat, W p l e (rmO g fr lo s.heap) s m args below meth c0 H locs cells slots Q (F0 m (pc + 3) ls (.int (if b < a then b else a) :: rest))) : W p l e (rmO g fr lo s.heap) s m args below meth c0 H locs cells slots Q (F0 m pc ls (.int b :: .int a :: rest)) := by
  obtain ⟨⟨hx, hb, hml, hown, hts⟩, hK, h0, -⟩ := hX
  refine tw_tight fun c' s' hc1 hs1 hz hzs => ?_
  obtain ⟨w1, w2, w3, ⟨w4, w5, w6, w7, w8⟩, w10⟩ := id hw
  exact va_mmin hx hb (hml.trans hsz.symm) hown (hts _ hl) (hts _ hst) (hts _ hini) (hts _ hcode) hfr.1 hfr.2 (by show c' ≤ gnn g 1 - s.heap.size; omega) (by show s' ≤ gnn g 2 - hsl s.heap; omega) hdg (kk _ _)
theorem c_copy (hX : MX g own p s m args c0 cc nL Ts meth ret) (hG : XG g) {z : Nat} (hw : wH g z T H locs) {x y index : Nat} {sp dp n : Int32} (hkx : wJ T.1 0 x = 12 ∨ wJ T.1 0 x = 13) (hky : wJ T.1 0 y = 12) (h1 : ¬ sp < 0) (h2 : ¬ dp < 0) (h3 : ¬ n < 0) (h4 : sp.toNatClampNeg + n.toNatClampNeg ≤ wJ T.1 1 x) (h5 : dp.toNatClampNeg + n.toNatClampNeg ≤ wJ T.1 1 y) (hel : ∀ i, i < n.toNatClampNeg → wB T.1 x (sp.toNatClampNeg + i) = 0 ∨ oK (wJ T.1 0 (wB T.1 x (sp.toNatClampNeg + i))))
    (hl : Cond.methodLink own index arraycopyName ∈ Ts) (hnat : Cond.native arraycopyName ∈ Ts) (hst : Cond.static arraycopyName ∈ Ts) (hini : Cond.initialized "java/lang/System" ∈ Ts) (hsz : ls.size = nL) (hfr : 1 ≤ fr ∧ (rest.map fun v => v.category).sum + (nativeFrameWords "java/lang/System" "arraycopy" 5 + 11) ≤ lo) (hdg : decode cc pc = .ok (.invokestatic index, 3))
    (kk : ∀ (H1 : Heap) (locs1 : List Loc), wH g z (cpB T.1 x y sp.toNatClampNeg dp.toNatClampNeg n.toNatClampNeg, T.2) H1 locs1 → W p l e (rmO g fr lo s.heap) s m args below meth c0 H1 locs1 cells slots Q (F0 m (pc + 3) ls rest)) : W p l e (rmO g fr lo s.heap) s m args below meth c0 H locs cells slots Q (F0 m pc ls (.int n :: .int dp :: rv y :: .int sp :: rv x :: rest)) := by
  have hel2 : ∀ i, i < n.toNatClampNeg → wB T.1 x (sp.toNatClampNeg + i) = 0 ∨ va_Any "java/lang/Object" s H (wB T.1 x (sp.toNatClampNeg + i) - 1) := fun i hi => c_anyO hX hG hw (hel i hi)
  obtain ⟨hc0, hx0⟩ := cH_cell hw (ae_1213 hkx)
  obtain ⟨hc1, hy0⟩ := cH_cell hw (ae_12 hky)
  obtain ⟨⟨hx, hb, hml, hown, hts⟩, hK, h0, -⟩ := hX
  rw [rv_ref hx0, rv_ref hy0]
  have nn : ∀ z : Int32, ¬ z < 0 → z.toInt = (z.toNatClampNeg : Int) := by
    intro z hz
    have hz0 : (0 : Int) ≤ z.toInt := by
      have := Int32.not_lt.mp hz
      simpa using Int32.le_iff_toInt_le.mp this
    show z.toInt = ((z.toInt.toNat : Nat) : Int)
    omega
  intro Tt hT X
  obtain ⟨-, k0, hk0, cm0, hkk0⟩ := (hK.1.2 4 _ rfl).1 (wJ T.1 1 x) (fun j => va_rf (ro (wB T.1 x j)))
  obtain ⟨-, k1, hk1, cm1, hkk1⟩ := (hK.1.2 4 _ rfl).1 (wJ T.1 1 y) (fun j => va_rf (ro (wB T.1 y j)))
  obtain ⟨vm', X', step⟩ := X.arraycopy hx hown (hts _ hl) (hts _ hnat) (hts _ hst) (hts _ hini) (src := x - 1) (dst := y - 1) (cs := vp_cell (gcy g 4) (wJ T.1 1 x, .inr (.inr (.inr (.inr (fun i => ro (wB T.1 x i))))))) (cd := vp_cell (gcy g 4) (wJ T.1 1 y, .inr (.inr (.inr (.inr (fun i => ro (wB T.1 y i))))))) (srcPos := sp) (destPos := dp) (n := n) (by rw [hT]; exact hc0) (by rw [hT]; exact hc1)
    (fun _ h => by cases h) (fun _ h => by cases h) (fun h => by cases h) (fun h => by cases h) hk0 hk1 hkk0 hkk1 rfl h1 h2 h3
    (by rw [nn sp h1, nn n h3]; show ¬ _ > ((arrV (gcy g 4) (wJ T.1 1 x) (fun j => va_rf (ro (wB T.1 x j)))).slots.size : Int); rw [arrV_size]; omega)
    (by rw [nn dp h2, nn n h3]; show ¬ _ > ((arrV (gcy g 4) (wJ T.1 1 y) (fun j => va_rf (ro (wB T.1 y j)))).slots.size : Int); rw [arrV_size]; omega)
    (fun vm₁ hal i hi => by
      have e : (vp_cell (gcy g 4) (wJ T.1 1 x, .inr (.inr (.inr (.inr (fun i => ro (wB T.1 x i))))))).slots.getD (sp.toNatClampNeg + i) .null = va_rf (ro (wB T.1 x (sp.toNatClampNeg + i))) := by
        show (arrV (gcy g 4) (wJ T.1 1 x) (fun j => va_rf (ro (wB T.1 x j)))).slots.getD _ _ = _
        rw [Array.getD_eq_getD_getElem?, arrV_read _ _ (by omega)]
        rfl
      rw [e]
      by_cases hz : wB T.1 x (sp.toNatClampNeg + i) = 0
      · rw [hz]
        exact ⟨rfl, trivial⟩
      · rcases hel2 i hi with hz2 | ⟨cellV, g1, g2, ⟨kC, hkC⟩, hasg⟩
        · exact absurd hz2 hz
        · rw [show ro (wB T.1 x (sp.toNatClampNeg + i)) = some (wB T.1 x (sp.toNatClampNeg + i) - 1) from if_neg hz]
          obtain ⟨kA, comp, r1, r2, r3, -⟩ := (hK.1.2 4 _ rfl).2
          cases hk1.symm.trans r1
          cases hkk1.symm.trans r2
          obtain ⟨kE, hkE, -⟩ := Vm.findClass_spec r3
          obtain ⟨kC', hkC', -⟩ := hal.2.2 _ _ hkC
          obtain ⟨kE', hkE', -⟩ := hal.2.2 _ _ hkE
          refine ⟨rfl, cellV, (show Tt.heap[wB T.1 x (sp.toNatClampNeg + i) - 1]? = some cellV by rw [hT]; exact g1), (fun q h => by rw [h] at g2; cases g2), ⟨kC', hkC'⟩, ?_, ?_⟩
          · exact ⟨kE', hkE'⟩
          · show vm₁.assignable _ _ = true
            rw [hal.assignable]
            exact hasg _ r3)
    (g := F0 m pc ls (.int n :: .int dp :: .ref (y - 1) :: .int sp :: .ref (x - 1) :: rest)) rfl (hsz.trans hml.symm) (rest := rest) rfl (by rw [hb]; exact hdg) hfr.1 (by show 2 * 0 + _ + _ ≤ lo; omega)
  have e1 : copied (vp_cell (gcy g 4) (wJ T.1 1 x, .inr (.inr (.inr (.inr (fun i => ro (wB T.1 x i))))))) (vp_cell (gcy g 4) (wJ T.1 1 y, .inr (.inr (.inr (.inr (fun i => ro (wB T.1 y i))))))) sp dp n = vp_cell (gcy g 4) (wJ T.1 1 y, .inr (.inr (.inr (.inr (va_cpy (fun i => ro (wB T.1 x i)) (fun i => ro (wB T.1 y i)) sp.toNatClampNeg dp.toNatClampNeg n.toNatClampNeg))))) := by
    rw [vp_cell_q, vp_cell_q, vp_cell_q]
    exact va_copied (fun z => va_rf z) (gcy g 4) (gcy g 4) (fun i => ro (wB T.1 x i)) (fun i => ro (wB T.1 y i)) h4
  have e2 : (va_cpy (fun i => ro (wB T.1 x i)) (fun i => ro (wB T.1 y i)) sp.toNatClampNeg dp.toNatClampNeg n.toNatClampNeg) = (fun i => ro (wB (cpB T.1 x y sp.toNatClampNeg dp.toNatClampNeg n.toNatClampNeg) y i)) := by
    funext i
    unfold va_cpy
    by_cases hi : dp.toNatClampNeg ≤ i ∧ i < dp.toNatClampNeg + n.toNatClampNeg <;> simp [wB, cpB, hi]
  rw [e1, e2] at X' step
  generalize hcl : vp_cell (gcy g 4) (wJ T.1 1 y, .inr (.inr (.inr (.inr (fun i => ro (wB (cpB T.1 x y sp.toNatClampNeg dp.toNatClampNeg n.toNatClampNeg) y i)))))) = cl1 at X' step
  have hlt : y - 1 < H.size := (Array.getElem?_eq_some_iff.mp hc1).1
  have hheap : ((Tt.setVm vm').setCell (y - 1) cl1).heap = H.setIfInBounds (y - 1) cl1 := by rw [← hT]; rfl
  have oq : ∀ q : Nat, q ≠ y - 1 → (H.setIfInBounds (y - 1) cl1)[q]? = H[q]? := fun q hq => by simp [Array.getElem?_setIfInBounds, Ne.symm hq]
  have h1q : (H.setIfInBounds (y - 1) cl1)[y - 1]? = some cl1 := by simp [Array.getElem?_setIfInBounds, hlt]
  have hwn := cH_put (i := 0) (c' := cpB T.1 x y sp.toNatClampNeg dp.toNatClampNeg n.toNatClampNeg) (H1 := H.setIfInBounds (y - 1) cl1) hw (ae_12 hky) (by rw [hky]; decide) (ae_12 (c := cpB T.1 x y sp.toNatClampNeg dp.toNatClampNeg n.toNatClampNeg) hky) (eqx_cpB _ _ _ _ _ _) (show (H.setIfInBounds (y - 1) cl1)[y - 1]? = some (vp_cell _ _) by rw [h1q, ← hcl]; rfl) (by simp) oq hc1 h1q (by
    rw [← hcl, vp_cell_q, vp_cell_q, arrV_size, arrV_size])
  have hby : gA g (y - 1) := hwn.2.2.2.2 ⟨y - 1, 0⟩ (by simp)
  obtain ⟨t, a1, b1⟩ := kk _ _ (wH_re hwn hw.2.2.2.1.1 (Nat.le_refl _) (fun q hq => by
      rcases List.mem_append.mp hq with h | h
      · exact hw.2.2.2.2 q h
      · obtain ⟨z, -, hz⟩ := List.mem_map.mp h
        rw [← hz]
        exact hby)) _ hheap X'
  exact ⟨t, step t a1, b1⟩
end NATIVES
section WRAPS
variable {p : Program} {l : Launch} {e : Env} {s : State} {m : MethodId} {args : Array Value} {below : List Frame} {meth : Method} {c0 : Code} {H : Heap} {locs : List Loc} {cells slots : Nat} {Q : State → Prop}
variable {cc : ByteArray} {pc : Nat} {ls : Array Slot} {rest st0 As : List Value} {g : GG} {T T' : TW} {Ts ws ws' : List Cond} {nL n index maxL fr lo fr' lo' x : Nat} {own C : String} {ret ret' : Option FieldType} {y xn : MethodName} {bytes : ByteArray}
theorem g_callVi {r : Int32} (hX : MX g own p s m args c0 cc nL Ts meth ret) (hw : wH g s.heap.size T H locs) (hM : MetG g l y ws fr' lo' (rv x :: As) T (some (.int r)) T') (hG : GoodIn Ts (wsV own index C y ws)) (hwc : ws = Cond.code y bytes maxL ret' :: ws')
    (hd : y.cls = C ∧ y.cls ≠ "java/lang/invoke/MethodHandle" ∧ y.cls ≠ "java/lang/invoke/VarHandle" ∧ (parseMethodDescriptor y.desc).map (fun d => d.parameters.length) = some n) (hn : As.length = n) (hx0 : x ≠ 0) (hrecv : ∃ cell : Cell, H[x - 1]? = some cell ∧ cell.vm.isStatics = false ∧ s.vm.findClass C = some cell.cls) (hsz : ls.size = nL) (hst : st0 = As.reverse ++ rv x :: rest) (hr8 : (rest.map fun v => v.category).sum ≤ 8)
    (hR : fr' + 1 ≤ fr ∧ 8 + (maxL + 11) + lo' ≤ lo) (hdg : decode cc pc = .ok (.invokevirtual index, 3))
    (kk : ∀ (H1 : Heap) (locs1 : List Loc) (cells slots : Nat), wH g s.heap.size T' H1 locs1 → W p l e (rmO g fr lo s.heap) s m args below meth c0 H1 locs1 cells slots Q (F0 m (pc + 3) ls (.int r :: rest))) : W p l e (rmO g fr lo s.heap) s m args below meth c0 H locs cells slots Q (F0 m pc ls st0) := g_callV hX hw hM hG hwc hd hn hx0 hrecv hsz hst hr8 hR hdg kk
theorem g_callVl {r : Int64} (hX : MX g own p s m args c0 cc nL Ts meth ret) (hw : wH g s.heap.size T H locs) (hM : MetG g l y ws fr' lo' (rv x :: As) T (some (.long r)) T') (hG : GoodIn Ts (wsV own index C y ws)) (hwc : ws = Cond.code y bytes maxL ret' :: ws')
    (hd : y.cls = C ∧ y.cls ≠ "java/lang/invoke/MethodHandle" ∧ y.cls ≠ "java/lang/invoke/VarHandle" ∧ (parseMethodDescriptor y.desc).map (fun d => d.parameters.length) = some n) (hn : As.length = n) (hx0 : x ≠ 0) (hrecv : ∃ cell : Cell, H[x - 1]? = some cell ∧ cell.vm.isStatics = false ∧ s.vm.findClass C = some cell.cls) (hsz : ls.size = nL) (hst : st0 = As.reverse ++ rv x :: rest) (hr8 : (rest.map fun v => v.category).sum ≤ 8)
    (hR : fr' + 1 ≤ fr ∧ 8 + (maxL + 11) + lo' ≤ lo) (hdg : decode cc pc = .ok (.invokevirtual index, 3))
    (kk : ∀ (H1 : Heap) (locs1 : List Loc) (cells slots : Nat), wH g s.heap.size T' H1 locs1 → W p l e (rmO g fr lo s.heap) s m args below meth c0 H1 locs1 cells slots Q (F0 m (pc + 3) ls (.long r :: rest))) : W p l e (rmO g fr lo s.heap) s m args below meth c0 H locs cells slots Q (F0 m pc ls st0) := g_callV hX hw hM hG hwc hd hn hx0 hrecv hsz hst hr8 hR hdg kk
theorem g_callVa {r : Nat} (hX : MX g own p s m args c0 cc nL Ts meth ret) (hw : wH g s.heap.size T H locs) (hM : MetG g l y ws fr' lo' (rv x :: As) T (some (rv r)) T') (hG : GoodIn Ts (wsV own index C y ws)) (hwc : ws = Cond.code y bytes maxL ret' :: ws')
    (hd : y.cls = C ∧ y.cls ≠ "java/lang/invoke/MethodHandle" ∧ y.cls ≠ "java/lang/invoke/VarHandle" ∧ (parseMethodDescriptor y.desc).map (fun d => d.parameters.length) = some n) (hn : As.length = n) (hx0 : x ≠ 0) (hrecv : ∃ cell : Cell, H[x - 1]? = some cell ∧ cell.vm.isStatics = false ∧ s.vm.findClass C = some cell.cls) (hsz : ls.size = nL) (hst : st0 = As.reverse ++ rv x :: rest) (hr8 : (rest.map fun v => v.category).sum ≤ 8)
    (hR : fr' + 1 ≤ fr ∧ 8 + (maxL + 11) + lo' ≤ lo) (hdg : decode cc pc = .ok (.invokevirtual index, 3))
    (kk : ∀ (H1 : Heap) (locs1 : List Loc) (cells slots : Nat), wH g s.heap.size T' H1 locs1 → W p l e (rmO g fr lo s.heap) s m args below meth c0 H1 locs1 cells slots Q (F0 m (pc + 3) ls (rv r :: rest))) : W p l e (rmO g fr lo s.heap) s m args below meth c0 H locs cells slots Q (F0 m pc ls st0) := g_callV hX hw hM hG hwc hd hn hx0 hrecv hsz hst hr8 hR hdg kk
theorem g_callVv  (hX : MX g own p s m args c0 cc nL Ts meth ret) (hw : wH g s.heap.size T H locs) (hM : MetG g l y ws fr' lo' (rv x :: As) T (none) T') (hG : GoodIn Ts (wsV own index C y ws)) (hwc : ws = Cond.code y bytes maxL ret' :: ws')
    (hd : y.cls = C ∧ y.cls ≠ "java/lang/invoke/MethodHandle" ∧ y.cls ≠ "java/lang/invoke/VarHandle" ∧ (parseMethodDescriptor y.desc).map (fun d => d.parameters.length) = some n) (hn : As.length = n) (hx0 : x ≠ 0) (hrecv : ∃ cell : Cell, H[x - 1]? = some cell ∧ cell.vm.isStatics = false ∧ s.vm.findClass C = some cell.cls) (hsz : ls.size = nL) (hst : st0 = As.reverse ++ rv x :: rest) (hr8 : (rest.map fun v => v.category).sum ≤ 8)
    (hR : fr' + 1 ≤ fr ∧ 8 + (maxL + 11) + lo' ≤ lo) (hdg : decode cc pc = .ok (.invokevirtual index, 3))
    (kk : ∀ (H1 : Heap) (locs1 : List Loc) (cells slots : Nat), wH g s.heap.size T' H1 locs1 → W p l e (rmO g fr lo s.heap) s m args below meth c0 H1 locs1 cells slots Q (F0 m (pc + 3) ls (rest))) : W p l e (rmO g fr lo s.heap) s m args below meth c0 H locs cells slots Q (F0 m pc ls st0) := g_callV hX hw hM hG hwc hd hn hx0 hrecv hsz hst hr8 hR hdg kk
theorem g_callSi {r : Int32} (hX : MX g own p s m args c0 cc nL Ts meth ret) (hw : wH g s.heap.size T H locs) (hM : MetG g l y ws fr' lo' As T (some (.int r)) T') (hG : GoodIn Ts (va_wsS own index y ws)) (hwc : ws = Cond.code y bytes maxL ret' :: ws')
    (hd : y.cls ≠ "java/lang/invoke/MethodHandle" ∧ y.cls ≠ "java/lang/invoke/VarHandle" ∧ (parseMethodDescriptor y.desc).map (fun d => d.parameters.length) = some n) (hn : As.length = n) (hsz : ls.size = nL) (hst : st0 = As.reverse ++ rest) (hr8 : (rest.map fun v => v.category).sum ≤ 8)
    (hR : fr' + 1 ≤ fr ∧ 8 + (maxL + 11) + lo' ≤ lo) (hdg : decode cc pc = .ok (.invokestatic index, 3))
    (kk : ∀ (H1 : Heap) (locs1 : List Loc) (cells slots : Nat), wH g s.heap.size T' H1 locs1 → W p l e (rmO g fr lo s.heap) s m args below meth c0 H1 locs1 cells slots Q (F0 m (pc + 3) ls (.int r :: rest))) : W p l e (rmO g fr lo s.heap) s m args below meth c0 H locs cells slots Q (F0 m pc ls st0) := g_callS hX hw hM hG hwc hd hn hsz hst hr8 hR hdg kk
theorem g_callSl {r : Int64} (hX : MX g own p s m args c0 cc nL Ts meth ret) (hw : wH g s.heap.size T H locs) (hM : MetG g l y ws fr' lo' As T (some (.long r)) T') (hG : GoodIn Ts (va_wsS own index y ws)) (hwc : ws = Cond.code y bytes maxL ret' :: ws')
    (hd : y.cls ≠ "java/lang/invoke/MethodHandle" ∧ y.cls ≠ "java/lang/invoke/VarHandle" ∧ (parseMethodDescriptor y.desc).map (fun d => d.parameters.length) = some n) (hn : As.length = n) (hsz : ls.size = nL) (hst : st0 = As.reverse ++ rest) (hr8 : (rest.map fun v => v.category).sum ≤ 8)
    (hR : fr' + 1 ≤ fr ∧ 8 + (maxL + 11) + lo' ≤ lo) (hdg : decode cc pc = .ok (.invokestatic index, 3))
    (kk : ∀ (H1 : Heap) (locs1 : List Loc) (cells slots : Nat), wH g s.heap.size T' H1 locs1 → W p l e (rmO g fr lo s.heap) s m args below meth c0 H1 locs1 cells slots Q (F0 m (pc + 3) ls (.long r :: rest))) : W p l e (rmO g fr lo s.heap) s m args below meth c0 H locs cells slots Q (F0 m pc ls st0) := g_callS hX hw hM hG hwc hd hn hsz hst hr8 hR hdg kk
theorem g_callSa {r : Nat} (hX : MX g own p s m args c0 cc nL Ts meth ret) (hw : wH g s.heap.size T H locs) (hM : MetG g l y ws fr' lo' As T (some (rv r)) T') (hG : GoodIn Ts (va_wsS own index y ws)) (hwc : ws = Cond.code y bytes maxL ret' :: ws')
    (hd : y.cls ≠ "java/lang/invoke/MethodHandle" ∧ y.cls ≠ "java/lang/invoke/VarHandle" ∧ (parseMethodDescriptor y.desc).map (fun d => d.parameters.length) = some n) (hn : As.length = n) (hsz : ls.size = nL) (hst : st0 = As.reverse ++ rest) (hr8 : (rest.map fun v => v.category).sum ≤ 8)
    (hR : fr' + 1 ≤ fr ∧ 8 + (maxL + 11) + lo' ≤ lo) (hdg : decode cc pc = .ok (.invokestatic index, 3))
    (kk : ∀ (H1 : Heap) (locs1 : List Loc) (cells slots : Nat), wH g s.heap.size T' H1 locs1 → W p l e (rmO g fr lo s.heap) s m args below meth c0 H1 locs1 cells slots Q (F0 m (pc + 3) ls (rv r :: rest))) : W p l e (rmO g fr lo s.heap) s m args below meth c0 H locs cells slots Q (F0 m pc ls st0) := g_callS hX hw hM hG hwc hd hn hsz hst hr8 hR hdg kk
theorem g_callSv  (hX : MX g own p s m args c0 cc nL Ts meth ret) (hw : wH g s.heap.size T H locs) (hM : MetG g l y ws fr' lo' As T (none) T') (hG : GoodIn Ts (va_wsS own index y ws)) (hwc : ws = Cond.code y bytes maxL ret' :: ws')
    (hd : y.cls ≠ "java/lang/invoke/MethodHandle" ∧ y.cls ≠ "java/lang/invoke/VarHandle" ∧ (parseMethodDescriptor y.desc).map (fun d => d.parameters.length) = some n) (hn : As.length = n) (hsz : ls.size = nL) (hst : st0 = As.reverse ++ rest) (hr8 : (rest.map fun v => v.category).sum ≤ 8)
    (hR : fr' + 1 ≤ fr ∧ 8 + (maxL + 11) + lo' ≤ lo) (hdg : decode cc pc = .ok (.invokestatic index, 3))
    (kk : ∀ (H1 : Heap) (locs1 : List Loc) (cells slots : Nat), wH g s.heap.size T' H1 locs1 → W p l e (rmO g fr lo s.heap) s m args below meth c0 H1 locs1 cells slots Q (F0 m (pc + 3) ls (rest))) : W p l e (rmO g fr lo s.heap) s m args below meth c0 H locs cells slots Q (F0 m pc ls st0) := g_callS hX hw hM hG hwc hd hn hsz hst hr8 hR hdg kk
theorem g_callFi {r : Int32} (hX : MX g own p s m args c0 cc nL Ts meth ret) (hw : wH g s.heap.size T H locs) (hM : MetG g l y ws fr' lo' (rv x :: As) T (some (.int r)) T') (hG : GoodIn Ts (va_wsF own index C xn y ws)) (hwc : ws = Cond.code y bytes maxL ret' :: ws')
    (hd : xn.cls ≠ "java/lang/invoke/MethodHandle" ∧ xn.cls ≠ "java/lang/invoke/VarHandle" ∧ (parseMethodDescriptor xn.desc).map (fun d => d.parameters.length) = some n) (hn : As.length = n) (hx0 : x ≠ 0) (hrecv : ∃ cell : Cell, H[x - 1]? = some cell ∧ cell.vm.isStatics = false ∧ s.vm.findClass C = some cell.cls) (hF : va_Fw C xn y s) {ci : Nat} {TT : u_T} {N : Nat} (hcc : vwCl[ci]? = some (C, TT, N)) {count : Nat} (hsz : ls.size = nL) (hst : st0 = As.reverse ++ rv x :: rest) (hr8 : (rest.map fun v => v.category).sum ≤ 8)
    (hR : fr' + 1 ≤ fr ∧ 8 + (maxL + 11) + lo' ≤ lo) (hdg : decode cc pc = .ok (.invokeinterface index count, 5))
    (kk : ∀ (H1 : Heap) (locs1 : List Loc) (cells slots : Nat), wH g s.heap.size T' H1 locs1 → W p l e (rmO g fr lo s.heap) s m args below meth c0 H1 locs1 cells slots Q (F0 m (pc + 5) ls (.int r :: rest))) : W p l e (rmO g fr lo s.heap) s m args below meth c0 H locs cells slots Q (F0 m pc ls st0) := g_callF hX hw hM hG hwc hd hn hx0 hrecv hF hcc hsz hst hr8 hR hdg kk
theorem g_callFl {r : Int64} (hX : MX g own p s m args c0 cc nL Ts meth ret) (hw : wH g s.heap.size T H locs) (hM : MetG g l y ws fr' lo' (rv x :: As) T (some (.long r)) T') (hG : GoodIn Ts (va_wsF own index C xn y ws)) (hwc : ws = Cond.code y bytes maxL ret' :: ws')
    (hd : xn.cls ≠ "java/lang/invoke/MethodHandle" ∧ xn.cls ≠ "java/lang/invoke/VarHandle" ∧ (parseMethodDescriptor xn.desc).map (fun d => d.parameters.length) = some n) (hn : As.length = n) (hx0 : x ≠ 0) (hrecv : ∃ cell : Cell, H[x - 1]? = some cell ∧ cell.vm.isStatics = false ∧ s.vm.findClass C = some cell.cls) (hF : va_Fw C xn y s) {ci : Nat} {TT : u_T} {N : Nat} (hcc : vwCl[ci]? = some (C, TT, N)) {count : Nat} (hsz : ls.size = nL) (hst : st0 = As.reverse ++ rv x :: rest) (hr8 : (rest.map fun v => v.category).sum ≤ 8)
    (hR : fr' + 1 ≤ fr ∧ 8 + (maxL + 11) + lo' ≤ lo) (hdg : decode cc pc = .ok (.invokeinterface index count, 5))
    (kk : ∀ (H1 : Heap) (locs1 : List Loc) (cells slots : Nat), wH g s.heap.size T' H1 locs1 → W p l e (rmO g fr lo s.heap) s m args below meth c0 H1 locs1 cells slots Q (F0 m (pc + 5) ls (.long r :: rest))) : W p l e (rmO g fr lo s.heap) s m args below meth c0 H locs cells slots Q (F0 m pc ls st0) := g_callF hX hw hM hG hwc hd hn hx0 hrecv hF hcc hsz hst hr8 hR hdg kk
theorem g_callFa {r : Nat} (hX : MX g own p s m args c0 cc nL Ts meth ret) (hw : wH g s.heap.size T H locs) (hM : MetG g l y ws fr' lo' (rv x :: As) T (some (rv r)) T') (hG : GoodIn Ts (va_wsF own index C xn y ws)) (hwc : ws = Cond.code y bytes maxL ret' :: ws')
    (hd : xn.cls ≠ "java/lang/invoke/MethodHandle" ∧ xn.cls ≠ "java/lang/invoke/VarHandle" ∧ (parseMethodDescriptor xn.desc).map (fun d => d.parameters.length) = some n) (hn : As.length = n) (hx0 : x ≠ 0) (hrecv : ∃ cell : Cell, H[x - 1]? = some cell ∧ cell.vm.isStatics = false ∧ s.vm.findClass C = some cell.cls) (hF : va_Fw C xn y s) {ci : Nat} {TT : u_T} {N : Nat} (hcc : vwCl[ci]? = some (C, TT, N)) {count : Nat} (hsz : ls.size = nL) (hst : st0 = As.reverse ++ rv x :: rest) (hr8 : (rest.map fun v => v.category).sum ≤ 8)
    (hR : fr' + 1 ≤ fr ∧ 8 + (maxL + 11) + lo' ≤ lo) (hdg : decode cc pc = .ok (.invokeinterface index count, 5))
    (kk : ∀ (H1 : Heap) (locs1 : List Loc) (cells slots : Nat), wH g s.heap.size T' H1 locs1 → W p l e (rmO g fr lo s.heap) s m args below meth c0 H1 locs1 cells slots Q (F0 m (pc + 5) ls (rv r :: rest))) : W p l e (rmO g fr lo s.heap) s m args below meth c0 H locs cells slots Q (F0 m pc ls st0) := g_callF hX hw hM hG hwc hd hn hx0 hrecv hF hcc hsz hst hr8 hR hdg kk
theorem g_callFv  (hX : MX g own p s m args c0 cc nL Ts meth ret) (hw : wH g s.heap.size T H locs) (hM : MetG g l y ws fr' lo' (rv x :: As) T (none) T') (hG : GoodIn Ts (va_wsF own index C xn y ws)) (hwc : ws = Cond.code y bytes maxL ret' :: ws')
    (hd : xn.cls ≠ "java/lang/invoke/MethodHandle" ∧ xn.cls ≠ "java/lang/invoke/VarHandle" ∧ (parseMethodDescriptor xn.desc).map (fun d => d.parameters.length) = some n) (hn : As.length = n) (hx0 : x ≠ 0) (hrecv : ∃ cell : Cell, H[x - 1]? = some cell ∧ cell.vm.isStatics = false ∧ s.vm.findClass C = some cell.cls) (hF : va_Fw C xn y s) {ci : Nat} {TT : u_T} {N : Nat} (hcc : vwCl[ci]? = some (C, TT, N)) {count : Nat} (hsz : ls.size = nL) (hst : st0 = As.reverse ++ rv x :: rest) (hr8 : (rest.map fun v => v.category).sum ≤ 8)
    (hR : fr' + 1 ≤ fr ∧ 8 + (maxL + 11) + lo' ≤ lo) (hdg : decode cc pc = .ok (.invokeinterface index count, 5))
    (kk : ∀ (H1 : Heap) (locs1 : List Loc) (cells slots : Nat), wH g s.heap.size T' H1 locs1 → W p l e (rmO g fr lo s.heap) s m args below meth c0 H1 locs1 cells slots Q (F0 m (pc + 5) ls (rest))) : W p l e (rmO g fr lo s.heap) s m args below meth c0 H locs cells slots Q (F0 m pc ls st0) := g_callF hX hw hM hG hwc hd hn hx0 hrecv hF hcc hsz hst hr8 hR hdg kk
theorem x_callVNi {r : Int32} (hX : MX g own p s m args c0 cc nL Ts meth ret) (hw : wH g s.heap.size T H locs) (hM : MetX g l y ws fr' lo' (rv x :: As) T (.inr (some (.int r))) T') (hG : GoodIn Ts (wsV own index C y ws)) (hwc : ws = Cond.code y bytes maxL ret' :: ws')
    (hd : y.cls = C ∧ y.cls ≠ "java/lang/invoke/MethodHandle" ∧ y.cls ≠ "java/lang/invoke/VarHandle" ∧ (parseMethodDescriptor y.desc).map (fun d => d.parameters.length) = some n) (hn : As.length = n) (hx0 : x ≠ 0) (hrecv : ∃ cell : Cell, H[x - 1]? = some cell ∧ cell.vm.isStatics = false ∧ s.vm.findClass C = some cell.cls) (hsz : ls.size = nL) (hst : st0 = As.reverse ++ rv x :: rest) (hr8 : (rest.map fun v => v.category).sum ≤ 8)
    (hR : fr' + 1 ≤ fr ∧ 8 + (maxL + 11) + lo' ≤ lo) (hdg : decode cc pc = .ok (.invokevirtual index, 3))
    (kk : ∀ (H1 : Heap) (locs1 : List Loc) (cells slots : Nat), wH g s.heap.size T' H1 locs1 → W p l e (rmO g fr lo s.heap) s m args below meth c0 H1 locs1 cells slots Q (F0 m (pc + 3) ls (.int r :: rest))) : W p l e (rmO g fr lo s.heap) s m args below meth c0 H locs cells slots Q (F0 m pc ls st0) := x_callVN hX hw hM hG hwc hd hn hx0 hrecv hsz hst hr8 hR hdg kk
theorem x_callVNl {r : Int64} (hX : MX g own p s m args c0 cc nL Ts meth ret) (hw : wH g s.heap.size T H locs) (hM : MetX g l y ws fr' lo' (rv x :: As) T (.inr (some (.long r))) T') (hG : GoodIn Ts (wsV own index C y ws)) (hwc : ws = Cond.code y bytes maxL ret' :: ws')
    (hd : y.cls = C ∧ y.cls ≠ "java/lang/invoke/MethodHandle" ∧ y.cls ≠ "java/lang/invoke/VarHandle" ∧ (parseMethodDescriptor y.desc).map (fun d => d.parameters.length) = some n) (hn : As.length = n) (hx0 : x ≠ 0) (hrecv : ∃ cell : Cell, H[x - 1]? = some cell ∧ cell.vm.isStatics = false ∧ s.vm.findClass C = some cell.cls) (hsz : ls.size = nL) (hst : st0 = As.reverse ++ rv x :: rest) (hr8 : (rest.map fun v => v.category).sum ≤ 8)
    (hR : fr' + 1 ≤ fr ∧ 8 + (maxL + 11) + lo' ≤ lo) (hdg : decode cc pc = .ok (.invokevirtual index, 3))
    (kk : ∀ (H1 : Heap) (locs1 : List Loc) (cells slots : Nat), wH g s.heap.size T' H1 locs1 → W p l e (rmO g fr lo s.heap) s m args below meth c0 H1 locs1 cells slots Q (F0 m (pc + 3) ls (.long r :: rest))) : W p l e (rmO g fr lo s.heap) s m args below meth c0 H locs cells slots Q (F0 m pc ls st0) := x_callVN hX hw hM hG hwc hd hn hx0 hrecv hsz hst hr8 hR hdg kk
theorem x_callVNa {r : Nat} (hX : MX g own p s m args c0 cc nL Ts meth ret) (hw : wH g s.heap.size T H locs) (hM : MetX g l y ws fr' lo' (rv x :: As) T (.inr (some (rv r))) T') (hG : GoodIn Ts (wsV own index C y ws)) (hwc : ws = Cond.code y bytes maxL ret' :: ws')
    (hd : y.cls = C ∧ y.cls ≠ "java/lang/invoke/MethodHandle" ∧ y.cls ≠ "java/lang/invoke/VarHandle" ∧ (parseMethodDescriptor y.desc).map (fun d => d.parameters.length) = some n) (hn : As.length = n) (hx0 : x ≠ 0) (hrecv : ∃ cell : Cell, H[x - 1]? = some cell ∧ cell.vm.isStatics = false ∧ s.vm.findClass C = some cell.cls) (hsz : ls.size = nL) (hst : st0 = As.reverse ++ rv x :: rest) (hr8 : (rest.map fun v => v.category).sum ≤ 8)
    (hR : fr' + 1 ≤ fr ∧ 8 + (maxL + 11) + lo' ≤ lo) (hdg : decode cc pc = .ok (.invokevirtual index, 3))
    (kk : ∀ (H1 : Heap) (locs1 : List Loc) (cells slots : Nat), wH g s.heap.size T' H1 locs1 → W p l e (rmO g fr lo s.heap) s m args below meth c0 H1 locs1 cells slots Q (F0 m (pc + 3) ls (rv r :: rest))) : W p l e (rmO g fr lo s.heap) s m args below meth c0 H locs cells slots Q (F0 m pc ls st0) := x_callVN hX hw hM hG hwc hd hn hx0 hrecv hsz hst hr8 hR hdg kk
theorem x_callVNv  (hX : MX g own p s m args c0 cc nL Ts meth ret) (hw : wH g s.heap.size T H locs) (hM : MetX g l y ws fr' lo' (rv x :: As) T (.inr (none)) T') (hG : GoodIn Ts (wsV own index C y ws)) (hwc : ws = Cond.code y bytes maxL ret' :: ws')
    (hd : y.cls = C ∧ y.cls ≠ "java/lang/invoke/MethodHandle" ∧ y.cls ≠ "java/lang/invoke/VarHandle" ∧ (parseMethodDescriptor y.desc).map (fun d => d.parameters.length) = some n) (hn : As.length = n) (hx0 : x ≠ 0) (hrecv : ∃ cell : Cell, H[x - 1]? = some cell ∧ cell.vm.isStatics = false ∧ s.vm.findClass C = some cell.cls) (hsz : ls.size = nL) (hst : st0 = As.reverse ++ rv x :: rest) (hr8 : (rest.map fun v => v.category).sum ≤ 8)
    (hR : fr' + 1 ≤ fr ∧ 8 + (maxL + 11) + lo' ≤ lo) (hdg : decode cc pc = .ok (.invokevirtual index, 3))
    (kk : ∀ (H1 : Heap) (locs1 : List Loc) (cells slots : Nat), wH g s.heap.size T' H1 locs1 → W p l e (rmO g fr lo s.heap) s m args below meth c0 H1 locs1 cells slots Q (F0 m (pc + 3) ls (rest))) : W p l e (rmO g fr lo s.heap) s m args below meth c0 H locs cells slots Q (F0 m pc ls st0) := x_callVN hX hw hM hG hwc hd hn hx0 hrecv hsz hst hr8 hR hdg kk
theorem x_callSNi {r : Int32} (hX : MX g own p s m args c0 cc nL Ts meth ret) (hw : wH g s.heap.size T H locs) (hM : MetX g l y ws fr' lo' As T (.inr (some (.int r))) T') (hG : GoodIn Ts (va_wsS own index y ws)) (hwc : ws = Cond.code y bytes maxL ret' :: ws')
    (hd : y.cls ≠ "java/lang/invoke/MethodHandle" ∧ y.cls ≠ "java/lang/invoke/VarHandle" ∧ (parseMethodDescriptor y.desc).map (fun d => d.parameters.length) = some n) (hn : As.length = n) (hsz : ls.size = nL) (hst : st0 = As.reverse ++ rest) (hr8 : (rest.map fun v => v.category).sum ≤ 8)
    (hR : fr' + 1 ≤ fr ∧ 8 + (maxL + 11) + lo' ≤ lo) (hdg : decode cc pc = .ok (.invokestatic index, 3))
    (kk : ∀ (H1 : Heap) (locs1 : List Loc) (cells slots : Nat), wH g s.heap.size T' H1 locs1 → W p l e (rmO g fr lo s.heap) s m args below meth c0 H1 locs1 cells slots Q (F0 m (pc + 3) ls (.int r :: rest))) : W p l e (rmO g fr lo s.heap) s m args below meth c0 H locs cells slots Q (F0 m pc ls st0) := x_callSN hX hw hM hG hwc hd hn hsz hst hr8 hR hdg kk
theorem x_callSNl {r : Int64} (hX : MX g own p s m args c0 cc nL Ts meth ret) (hw : wH g s.heap.size T H locs) (hM : MetX g l y ws fr' lo' As T (.inr (some (.long r))) T') (hG : GoodIn Ts (va_wsS own index y ws)) (hwc : ws = Cond.code y bytes maxL ret' :: ws')
    (hd : y.cls ≠ "java/lang/invoke/MethodHandle" ∧ y.cls ≠ "java/lang/invoke/VarHandle" ∧ (parseMethodDescriptor y.desc).map (fun d => d.parameters.length) = some n) (hn : As.length = n) (hsz : ls.size = nL) (hst : st0 = As.reverse ++ rest) (hr8 : (rest.map fun v => v.category).sum ≤ 8)
    (hR : fr' + 1 ≤ fr ∧ 8 + (maxL + 11) + lo' ≤ lo) (hdg : decode cc pc = .ok (.invokestatic index, 3))
    (kk : ∀ (H1 : Heap) (locs1 : List Loc) (cells slots : Nat), wH g s.heap.size T' H1 locs1 → W p l e (rmO g fr lo s.heap) s m args below meth c0 H1 locs1 cells slots Q (F0 m (pc + 3) ls (.long r :: rest))) : W p l e (rmO g fr lo s.heap) s m args below meth c0 H locs cells slots Q (F0 m pc ls st0) := x_callSN hX hw hM hG hwc hd hn hsz hst hr8 hR hdg kk
theorem x_callSNa {r : Nat} (hX : MX g own p s m args c0 cc nL Ts meth ret) (hw : wH g s.heap.size T H locs) (hM : MetX g l y ws fr' lo' As T (.inr (some (rv r))) T') (hG : GoodIn Ts (va_wsS own index y ws)) (hwc : ws = Cond.code y bytes maxL ret' :: ws')
    (hd : y.cls ≠ "java/lang/invoke/MethodHandle" ∧ y.cls ≠ "java/lang/invoke/VarHandle" ∧ (parseMethodDescriptor y.desc).map (fun d => d.parameters.length) = some n) (hn : As.length = n) (hsz : ls.size = nL) (hst : st0 = As.reverse ++ rest) (hr8 : (rest.map fun v => v.category).sum ≤ 8)
    (hR : fr' + 1 ≤ fr ∧ 8 + (maxL + 11) + lo' ≤ lo) (hdg : decode cc pc = .ok (.invokestatic index, 3))
    (kk : ∀ (H1 : Heap) (locs1 : List Loc) (cells slots : Nat), wH g s.heap.size T' H1 locs1 → W p l e (rmO g fr lo s.heap) s m args below meth c0 H1 locs1 cells slots Q (F0 m (pc + 3) ls (rv r :: rest))) : W p l e (rmO g fr lo s.heap) s m args below meth c0 H locs cells slots Q (F0 m pc ls st0) := x_callSN hX hw hM hG hwc hd hn hsz hst hr8 hR hdg kk
theorem x_callSNv  (hX : MX g own p s m args c0 cc nL Ts meth ret) (hw : wH g s.heap.size T H locs) (hM : MetX g l y ws fr' lo' As T (.inr (none)) T') (hG : GoodIn Ts (va_wsS own index y ws)) (hwc : ws = Cond.code y bytes maxL ret' :: ws')
    (hd : y.cls ≠ "java/lang/invoke/MethodHandle" ∧ y.cls ≠ "java/lang/invoke/VarHandle" ∧ (parseMethodDescriptor y.desc).map (fun d => d.parameters.length) = some n) (hn : As.length = n) (hsz : ls.size = nL) (hst : st0 = As.reverse ++ rest) (hr8 : (rest.map fun v => v.category).sum ≤ 8)
    (hR : fr' + 1 ≤ fr ∧ 8 + (maxL + 11) + lo' ≤ lo) (hdg : decode cc pc = .ok (.invokestatic index, 3))
    (kk : ∀ (H1 : Heap) (locs1 : List Loc) (cells slots : Nat), wH g s.heap.size T' H1 locs1 → W p l e (rmO g fr lo s.heap) s m args below meth c0 H1 locs1 cells slots Q (F0 m (pc + 3) ls (rest))) : W p l e (rmO g fr lo s.heap) s m args below meth c0 H locs cells slots Q (F0 m pc ls st0) := x_callSN hX hw hM hG hwc hd hn hsz hst hr8 hR hdg kk
end WRAPS
