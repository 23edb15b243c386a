/-! ===== throws: one cell of six slots comes, and no more ===== -/
section THROWS
variable {p : Program} {l : Launch} {e : Env} {R : Room} {s : State} {m : MethodId} {args : Array Value} {below : List Frame} {meth : Method} {c : Code} {H : Heap} {locs : List Loc} {cells slots : Nat} {Q : State → Prop}
variable {mc ms : Nat} {free : Addr → Prop} {A0 A1 : Nat → Prop} {H0 : Heap} {a : Array Value} {ls : Array Slot} {st0 rest : List Value}
variable {Qc : Array Value → State → Outcome → State → Prop} {XC : String → State → State → Prop}
theorem tw_throwS {cc : ByteArray} {pc : Nat} (hexec : p.tables.exec = Jvm.exec) (hb : c.code = cc) (hl : l.stackTraces = false) {own cls text : String} {names : List String} {ik is ic mc ms sa : Nat} {A : Nat → Prop}
    (hown : s.vm.findClass own = some m.cls) (hcls : Bundle.fit cls = true) (hnames : ∀ n ∈ names, Bundle.fit n = true)
    (hk : (Cond.classLink own ik cls).before args s = true) (hini : (Cond.initialized cls).before args s = true) (hstr : vk_R own is text sa s) (hat : ∀ w ∈ vx_atS own ic cls names, w.before args s = true)
    (hgood : ∀ w ∈ Cond.classLink own ik cls :: Cond.initialized cls :: vx_atS own ic cls names, vx_ot w = true)
    (hU : vx_Zq Bundle.tN "UNASSIGNED_STACK" Bundle.steD A s s.heap) (hN : vx_Zq Bundle.tN "SUPPRESSED_SENTINEL" Bundle.listD A s s.heap) (hS : va_S A s.heap H locs) (hsize : ls.size = c.maxLocals)
    (d0 : decode cc pc = .ok (.new ik, 3)) (d3 : decode cc (pc + 3) = .ok (.dup, 1)) (d4 : decode cc (pc + 4) = .ok (.ldc is, 2)) (d6 : decode cc (pc + 6) = .ok (.invokespecial ic, 3)) (d9 : decode cc (pc + 9) = .ok (.athrow, 1))
    (hout : ∀ x ∈ c.exceptionTable.toList, covers x (pc + 9) = false)
    (hRframes : names.length + 3 < R.frames) (hRlocals : (rest.map fun v => v.category).sum + (13 * (names.length + 1) + 43) ≤ R.locals) (hRcells : cells + 1 ≤ R.cells) (hRslots : slots + 6 ≤ R.slots) (hlocks : meth.locks = false)
    (hx : ∀ t : State, s.vm.Alike t.vm → t.heap.size = H.size + 1 → hsl t.heap ≤ hsl H + 6 → (∀ q : Nat, q < H.size → t.heap[q]? = H[q]?) → XC cls s t)
    (hf : ∀ z ∈ locs, free z.base) (hc : cells + 1 ≤ mc) (hs : slots + 6 ≤ ms) :
    W p l e R s m args below meth c H locs cells slots (vx_MQ below Qc XC args s mc ms free) (F0 m pc ls rest) := by
  intro T hT X
  have htr : e.platform.stackTraces = false := (show e.platform.stackTraces = l.stackTraces by rw [X.admits.platform]).trans hl
  have Y := vx_rebase X (R' := { frames := R.frames, locals := R.locals, cells := 1, slots := 6 }) (Nat.le_refl _) (Nat.le_refl _) hRcells hRslots
  obtain ⟨s', hA⟩ : ∃ z, z = (T.setVm s.vm).setFrames (.invoking m args :: below) := ⟨_, rfl⟩
  rw [← hA] at Y
  have hvm : s'.vm = s.vm := by rw [hA]; rfl
  have hhp : s'.heap = H := by rw [hA]; exact hT
  have hW0 : s.WarmedH s'.vm := by rw [hvm]; exact State.WarmedH.refl s
  have hat' : ∀ w ∈ vx_atS own ic cls names, w.before args s' = true := fun w hw => vx_ot_at hW0 hvm.symm (hgood w (List.mem_cons_of_mem _ (List.mem_cons_of_mem _ hw))) (hat w hw)
  have hk' : (Cond.classLink own ik cls).before args s' = true := vx_ot_at hW0 hvm.symm (hgood _ List.mem_cons_self) hk
  have hini' : (Cond.initialized cls).before args s' = true := vx_ot_at hW0 hvm.symm (hgood _ (List.mem_cons_of_mem _ List.mem_cons_self)) hini
  have hU' : vx_Zq Bundle.tN "UNASSIGNED_STACK" Bundle.steD A s' s'.heap := by rw [hhp]; exact vx_Zq.moved hW0.alike (hU.kept hS.2.1)
  have hN' : vx_Zq Bundle.tN "SUPPRESSED_SENTINEL" Bundle.listD A s' s'.heap := by rw [hhp]; exact vx_Zq.moved hW0.alike (hN.kept hS.2.1)
  have h : ∀ w ∈ Bundle.ownAtoms own ic cls names, w.before args s' = true := vx_own hat' (vx_isRefq hU'.1) (vx_isRefq hN'.1) hU'.2.word hN'.2.word
  have hown' : s'.vm.findClass own = some m.cls := by rw [hvm]; exact hown
  have hins : (Cond.instantiable cls 6).before args s' = true := h _ (by simp [Bundle.ownAtoms])
  obtain ⟨vm₁, cX, kX, hfX, hkX, -, -, X₁, st1⟩ := Y.newCold hexec (own := own) (C := cls) (index := ik) (n := 6) hown' hk' hins hini'
    (g := F0 m pc ls rest) rfl (by rw [hb]; exact d0) (Nat.le_refl _) (Nat.le_refl _)
  generalize hT1 : (T.setVm vm₁).pushCell { cls := cX, slots := kX.instanceTypes.map defaultValue, vm := .none } = T1 at X₁ st1
  have hcat : (Value.ref T.heap.size).category = 1 := rfl
  have hcellA : T1.heap[T.heap.size]? = some (freshCell cX kX) := by rw [← hT1]; exact State.heap_pushCell_size _ _
  have d3' : decode c.code (pc + 3) = .ok (.dup, 1) := by rw [hb]; exact d3
  have d4' : decode c.code (pc + 4) = .ok (.ldc is, 2) := by rw [hb]; exact d4
  have hstr' : vk_R own is text sa s' := vk_R.warm hW0 hstr
  obtain ⟨U, hsteps, hrun, hend, hW, hsame, ce, hce, hO⟩ := X₁.ctorThrowS hexec htr (own := own) (cls := cls) (names := names) (ic := ic) hown' hcls hnames h (fun x hx => nomatch hx) hfX hkX hcellA (by rw [hhp, hT]; exact Nat.le_refl _) (msg := .ref sa) rfl
    (g := { method := m, pc := pc + 6, locals := ls, stack := .ref sa :: .ref T.heap.size :: .ref T.heap.size :: rest, locked := none }) rfl hsize rfl rfl (rest := rest) rfl
    (by rw [hb]; exact d6) (by rw [hb]; exact d9) hout hRframes (by simp only [List.map_cons, List.sum_cons, hcat]; omega) hlocks
  obtain ⟨f1, f2⟩ := vx_frame hsame
  rw [hhp] at f1 f2
  have hh9 := sbn_hsl hsame
  rw [hhp, show ({ U with vm := s'.vm } : State).heap = U.heap from rfl] at hh9
  have hz9 : U.heap.size = H.size + 1 := by
    have h8 : T.heap.size < U.heap.size := (Array.getElem?_eq_some_iff.mp hce).1
    rw [hT] at h8
    have := hh9.2
    omega
  have hWs : s.WarmedH U.vm := State.WarmedH.trans hW0 hW
  have hcl : s.vm.findClass cls = some ce.cls := by
    have h9 := hO.cls
    rw [hvm] at h9
    exact h9
  have hall : s.sameButNew ({ U with vm := s.vm } : State) locs mc ms := by
    subst hA
    obtain ⟨e1, e2⟩ := hsame
    rw [State.setFrames_setFrames] at e1
    have h2 : (T.setVm s.vm).sameButNew ({ U with vm := s.vm } : State) [] (0 + 1) (0 + 6) := ⟨e1, e2⟩
    have h3 := X.same.trans h2
    rw [List.append_nil] at h3
    exact h3.mono hc hs
  refine ⟨U, ?_, .threw T.heap.size, hrun, hend, Or.inr ⟨T.heap.size, rfl, cls, ce, locs, hx U hWs.alike hz9 (by have := hh9.1; omega) (fun q hq => f2 q hq (fun z hz => nomatch hz)), hce, hO.vm, hcl, hWs, hall, hf⟩⟩
  refine st1 _ ?_
  show Steps p.tables e below (T1.setTop { method := m, pc := pc + 3, locals := ls, stack := .ref T.heap.size :: rest, locked := none }) _
  jvm_step X₁.here [X₁.here.top, hexec, d3', Value.category]
  exact X₁.ldcString hexec (own := own) (text := text) (index := is) (a := sa) hown' hstr'.1 hstr'.2
    (g := { method := m, pc := pc + 4, locals := ls, stack := .ref T.heap.size :: .ref T.heap.size :: rest, locked := none }) rfl d4' _ hsteps
theorem tw_throwSW {cc : ByteArray} {pc : Nat} (hexec : p.tables.exec = Jvm.exec) (hb : c.code = cc) (hl : l.stackTraces = false) {own cls text : String} {names : List String} {ik is ic mc ms sa : Nat} {A : Nat → Prop}
    (hown : s.vm.findClass own = some m.cls) (hcls : Bundle.fit cls = true) (hnames : ∀ n ∈ names, Bundle.fit n = true)
    (hk : (Cond.classLink own ik cls).before args s = true) (hini : (Cond.initialized cls).before args s = true) (hstr : vk_R own is text sa s) (hat : ∀ w ∈ vx_atS own ic cls names, w.before args s = true)
    (hgood : ∀ w ∈ Cond.classLink own ik cls :: Cond.initialized cls :: vx_atS own ic cls names, vx_ot w = true)
    (hU : vx_Zq Bundle.tN "UNASSIGNED_STACK" Bundle.steD A s s.heap) (hN : vx_Zq Bundle.tN "SUPPRESSED_SENTINEL" Bundle.listD A s s.heap) (hS : va_S A s.heap H locs) (hsize : ls.size = c.maxLocals)
    (d0 : decode cc pc = .ok (.new ik, 3)) (d3 : decode cc (pc + 3) = .ok (.dup, 1)) (d4 : decode cc (pc + 4) = .ok (.ldc_w is, 3)) (d7 : decode cc (pc + 7) = .ok (.invokespecial ic, 3)) (d10 : decode cc (pc + 10) = .ok (.athrow, 1))
    (hout : ∀ x ∈ c.exceptionTable.toList, covers x (pc + 10) = false)
    (hRframes : names.length + 3 < R.frames) (hRlocals : (rest.map fun v => v.category).sum + (13 * (names.length + 1) + 43) ≤ R.locals) (hRcells : cells + 1 ≤ R.cells) (hRslots : slots + 6 ≤ R.slots) (hlocks : meth.locks = false)
    (hx : ∀ t : State, s.vm.Alike t.vm → t.heap.size = H.size + 1 → hsl t.heap ≤ hsl H + 6 → (∀ q : Nat, q < H.size → t.heap[q]? = H[q]?) → XC cls s t)
    (hf : ∀ z ∈ locs, free z.base) (hc : cells + 1 ≤ mc) (hs : slots + 6 ≤ ms) :
    W p l e R s m args below meth c H locs cells slots (vx_MQ below Qc XC args s mc ms free) (F0 m pc ls rest) := by
  intro T hT X
  have htr : e.platform.stackTraces = false := (show e.platform.stackTraces = l.stackTraces by rw [X.admits.platform]).trans hl
  have Y := vx_rebase X (R' := { frames := R.frames, locals := R.locals, cells := 1, slots := 6 }) (Nat.le_refl _) (Nat.le_refl _) hRcells hRslots
  obtain ⟨s', hA⟩ : ∃ z, z = (T.setVm s.vm).setFrames (.invoking m args :: below) := ⟨_, rfl⟩
  rw [← hA] at Y
  have hvm : s'.vm = s.vm := by rw [hA]; rfl
  have hhp : s'.heap = H := by rw [hA]; exact hT
  have hW0 : s.WarmedH s'.vm := by rw [hvm]; exact State.WarmedH.refl s
  have hat' : ∀ w ∈ vx_atS own ic cls names, w.before args s' = true := fun w hw => vx_ot_at hW0 hvm.symm (hgood w (List.mem_cons_of_mem _ (List.mem_cons_of_mem _ hw))) (hat w hw)
  have hk' : (Cond.classLink own ik cls).before args s' = true := vx_ot_at hW0 hvm.symm (hgood _ List.mem_cons_self) hk
  have hini' : (Cond.initialized cls).before args s' = true := vx_ot_at hW0 hvm.symm (hgood _ (List.mem_cons_of_mem _ List.mem_cons_self)) hini
  have hU' : vx_Zq Bundle.tN "UNASSIGNED_STACK" Bundle.steD A s' s'.heap := by rw [hhp]; exact vx_Zq.moved hW0.alike (hU.kept hS.2.1)
  have hN' : vx_Zq Bundle.tN "SUPPRESSED_SENTINEL" Bundle.listD A s' s'.heap := by rw [hhp]; exact vx_Zq.moved hW0.alike (hN.kept hS.2.1)
  have h : ∀ w ∈ Bundle.ownAtoms own ic cls names, w.before args s' = true := vx_own hat' (vx_isRefq hU'.1) (vx_isRefq hN'.1) hU'.2.word hN'.2.word
  have hown' : s'.vm.findClass own = some m.cls := by rw [hvm]; exact hown
  have hins : (Cond.instantiable cls 6).before args s' = true := h _ (by simp [Bundle.ownAtoms])
  obtain ⟨vm₁, cX, kX, hfX, hkX, -, -, X₁, st1⟩ := Y.newCold hexec (own := own) (C := cls) (index := ik) (n := 6) hown' hk' hins hini'
    (g := F0 m pc ls rest) rfl (by rw [hb]; exact d0) (Nat.le_refl _) (Nat.le_refl _)
  generalize hT1 : (T.setVm vm₁).pushCell { cls := cX, slots := kX.instanceTypes.map defaultValue, vm := .none } = T1 at X₁ st1
  have hcat : (Value.ref T.heap.size).category = 1 := rfl
  have hcellA : T1.heap[T.heap.size]? = some (freshCell cX kX) := by rw [← hT1]; exact State.heap_pushCell_size _ _
  have d3' : decode c.code (pc + 3) = .ok (.dup, 1) := by rw [hb]; exact d3
  have d4' : decode c.code (pc + 4) = .ok (.ldc_w is, 3) := by rw [hb]; exact d4
  have hstr' : vk_R own is text sa s' := vk_R.warm hW0 hstr
  obtain ⟨U, hsteps, hrun, hend, hW, hsame, ce, hce, hO⟩ := X₁.ctorThrowS hexec htr (own := own) (cls := cls) (names := names) (ic := ic) hown' hcls hnames h (fun x hx => nomatch hx) hfX hkX hcellA (by rw [hhp, hT]; exact Nat.le_refl _) (msg := .ref sa) rfl
    (g := { method := m, pc := pc + 7, locals := ls, stack := .ref sa :: .ref T.heap.size :: .ref T.heap.size :: rest, locked := none }) rfl hsize rfl rfl (rest := rest) rfl
    (by rw [hb]; exact d7) (by rw [hb]; exact d10) hout hRframes (by simp only [List.map_cons, List.sum_cons, hcat]; omega) hlocks
  obtain ⟨f1, f2⟩ := vx_frame hsame
  rw [hhp] at f1 f2
  have hh9 := sbn_hsl hsame
  rw [hhp, show ({ U with vm := s'.vm } : State).heap = U.heap from rfl] at hh9
  have hz9 : U.heap.size = H.size + 1 := by
    have h8 : T.heap.size < U.heap.size := (Array.getElem?_eq_some_iff.mp hce).1
    rw [hT] at h8
    have := hh9.2
    omega
  have hWs : s.WarmedH U.vm := State.WarmedH.trans hW0 hW
  have hcl : s.vm.findClass cls = some ce.cls := by
    have h9 := hO.cls
    rw [hvm] at h9
    exact h9
  have hall : s.sameButNew ({ U with vm := s.vm } : State) locs mc ms := by
    subst hA
    obtain ⟨e1, e2⟩ := hsame
    rw [State.setFrames_setFrames] at e1
    have h2 : (T.setVm s.vm).sameButNew ({ U with vm := s.vm } : State) [] (0 + 1) (0 + 6) := ⟨e1, e2⟩
    have h3 := X.same.trans h2
    rw [List.append_nil] at h3
    exact h3.mono hc hs
  refine ⟨U, ?_, .threw T.heap.size, hrun, hend, Or.inr ⟨T.heap.size, rfl, cls, ce, locs, hx U hWs.alike hz9 (by have := hh9.1; omega) (fun q hq => f2 q hq (fun z hz => nomatch hz)), hce, hO.vm, hcl, hWs, hall, hf⟩⟩
  refine st1 _ ?_
  show Steps p.tables e below (T1.setTop { method := m, pc := pc + 3, locals := ls, stack := .ref T.heap.size :: rest, locked := none }) _
  jvm_step X₁.here [X₁.here.top, hexec, d3', Value.category]
  exact X₁.ldcStringW hexec (own := own) (text := text) (index := is) (a := sa) hown' hstr'.1 hstr'.2
    (g := { method := m, pc := pc + 4, locals := ls, stack := .ref T.heap.size :: .ref T.heap.size :: rest, locked := none }) rfl d4' _ hsteps
end THROWS
/-! a throw of the class's, and the starts of its methods -/
section CSTARTS
variable {p : Program} {l : Launch} {e : Env} {s : State} {m : MethodId} {args : Array Value} {below : List Frame} {meth : Method} {c0 : Code} {H : Heap} {locs : List Loc} {cells slots : Nat}
variable {cc : ByteArray} {pc : Nat} {ls : Array Slot} {rest As : List Value} {g : GG} {T T' : TW} {Ts ws ws' : List Cond} {nL fr lo maxL : Nat} {ret : Option FieldType} {y : MethodName} {own : String}
theorem xq_kept {C n d : String} (hX : MX g own p s m args c0 cc nL Ts meth ret) (h : vx_Zq C n d (gA g) s (gH g)) : vx_Zq C n d (gA g) s s.heap := h.kept fun a _ hA => hX.2.2.1 a (Nat.not_le.mp hA)
theorem x_throwS (hX : MX g RX6 p s m args c0 cc nL Ts meth ret) (hG : XG g) (hst : l.stackTraces = false) (hw : wH g s.heap.size T H locs) (k : Nat) {text : String} {ik is ic : Nat} (hk : k = 1 ∨ k = 2 ∨ k = 3) (hstr : (is, text) ∈ xstrs) (hcl : Cond.classLink RX6 ik (exn k) ∈ Ts) (hini : Cond.initialized (exn k) ∈ Ts) (hat : ∀ w ∈ (vx_atS RX6 ic (exn k) ["java/lang/RuntimeException", "java/lang/Exception"]).filter goodWord, w ∈ Ts)
    (hbad : ∀ w ∈ (vx_atS RX6 ic (exn k) ["java/lang/RuntimeException", "java/lang/Exception"]).filter (fun w => !goodWord w), w ∈ xbad (exn k)) (hgood : ∀ w ∈ Cond.classLink RX6 ik (exn k) :: Cond.initialized (exn k) :: vx_atS RX6 ic (exn k) ["java/lang/RuntimeException", "java/lang/Exception"], vx_ot w = true) (hbud : 1 ≤ wl T.1 ∧ 6 ≤ wk T.1) (hsz : ls.size = nL)
    (d0 : decode cc pc = .ok (.new ik, 3)) (d3 : decode cc (pc + 3) = .ok (.dup, 1)) (d4 : decode cc (pc + 4) = .ok (.ldc is, 2)) (d6 : decode cc (pc + 6) = .ok (.invokespecial ic, 3)) (d9 : decode cc (pc + 9) = .ok (.athrow, 1)) (hout : ∀ x ∈ c0.exceptionTable.toList, False) (hfr : 5 < fr ∧ (rest.map fun v => v.category).sum + 82 ≤ lo) :
    W p l e (rmO g fr lo s.heap) s m args below meth c0 H locs cells slots (MQX g below (bump T.1, T.2) (.inl k) args s) (F0 m pc ls rest) := by
  have hF := hG s hX.2.1.2.1
  have hU := xq_kept hX hF.1.1
  have hN := xq_kept hX hF.1.2.1
  obtain ⟨sa, hsa⟩ := hF.2.2.2.2.2.2.2 _ hstr
  have hB : ∀ w ∈ xbad (exn k), w.before args s = true := by
    obtain ⟨f1, f2, f3⟩ := hF.2.2.2.2.2.1
    obtain ⟨f4, f5, f6⟩ := hF.2.2.2.2.2.2.1
    have hc : va_Nw (.castable (exn k) (exn k)) s := by rcases hk with rfl | rfl | rfl <;> assumption
    intro w hw
    simp only [xbad, List.mem_cons, List.not_mem_nil, or_false] at hw
    rcases hw with rfl | rfl | rfl | rfl
    · exact va_Nw.use rfl hc
    · exact va_any rfl f4
    · exact va_any rfl f5
    · exact va_any rfl f6
  obtain ⟨⟨hx, hb, hml, hown, hts⟩, hK, h0, hr, hlk⟩ := hX
  refine tw_tight fun c' s' hc1 hs1 hz hzs => ?_
  obtain ⟨w1, w2, w3, ⟨w4, w5, w6, w7, w8⟩, w10⟩ := id hw
  refine tw_throwS (A := gA g) (names := ["java/lang/RuntimeException", "java/lang/Exception"]) hx hb hst hown (by rcases hk with rfl | rfl | rfl <;> decide +kernel) (by decide +kernel) (hts _ hcl) (hts _ hini) hsa (vx_hat (fun w h => hts w (hat w h)) hbad hB) hgood hU hN ⟨w5, fun q h1 h2 => ?_, w10⟩ (hsz.trans hml.symm) d0 d3 d4 d6 d9 (fun x h => (hout x h).elim) hfr.1 hfr.2 (by show c' + 1 ≤ gnn g 1 - s.heap.size; omega) (by show s' + 6 ≤ gnn g 2 - hsl s.heap; omega) hlk (fun t hal hz9 hh9 hq => ?_) w10 (by omega) (by omega)
  · have hq0 : q < gnn g 0 := Nat.not_le.mp h2
    rw [w3 q hq0, h0 q hq0]
  · have hw1 := cH_bump hw hbud hz9 hq hh9
    exact ⟨⟨k, rfl, rfl⟩, wH_re hw1 w4 (Nat.le_refl _) (fun q h => by cases h), wH_F hw1 h0 rfl⟩
theorem x_throwSW (hX : MX g RX6 p s m args c0 cc nL Ts meth ret) (hG : XG g) (hst : l.stackTraces = false) (hw : wH g s.heap.size T H locs) (k : Nat) {text : String} {ik is ic : Nat} (hk : k = 1 ∨ k = 2 ∨ k = 3) (hstr : (is, text) ∈ xstrs) (hcl : Cond.classLink RX6 ik (exn k) ∈ Ts) (hini : Cond.initialized (exn k) ∈ Ts) (hat : ∀ w ∈ (vx_atS RX6 ic (exn k) ["java/lang/RuntimeException", "java/lang/Exception"]).filter goodWord, w ∈ Ts)
    (hbad : ∀ w ∈ (vx_atS RX6 ic (exn k) ["java/lang/RuntimeException", "java/lang/Exception"]).filter (fun w => !goodWord w), w ∈ xbad (exn k)) (hgood : ∀ w ∈ Cond.classLink RX6 ik (exn k) :: Cond.initialized (exn k) :: vx_atS RX6 ic (exn k) ["java/lang/RuntimeException", "java/lang/Exception"], vx_ot w = true) (hbud : 1 ≤ wl T.1 ∧ 6 ≤ wk T.1) (hsz : ls.size = nL)
    (d0 : decode cc pc = .ok (.new ik, 3)) (d3 : decode cc (pc + 3) = .ok (.dup, 1)) (d4 : decode cc (pc + 4) = .ok (.ldc_w is, 3)) (d6 : decode cc (pc + 7) = .ok (.invokespecial ic, 3)) (d9 : decode cc (pc + 10) = .ok (.athrow, 1)) (hout : ∀ x ∈ c0.exceptionTable.toList, False) (hfr : 5 < fr ∧ (rest.map fun v => v.category).sum + 82 ≤ lo) :
    W p l e (rmO g fr lo s.heap) s m args below meth c0 H locs cells slots (MQX g below (bump T.1, T.2) (.inl k) args s) (F0 m pc ls rest) := by
  have hF := hG s hX.2.1.2.1
  have hU := xq_kept hX hF.1.1
  have hN := xq_kept hX hF.1.2.1
  obtain ⟨sa, hsa⟩ := hF.2.2.2.2.2.2.2 _ hstr
  have hB : ∀ w ∈ xbad (exn k), w.before args s = true := by
    obtain ⟨f1, f2, f3⟩ := hF.2.2.2.2.2.1
    obtain ⟨f4, f5, f6⟩ := hF.2.2.2.2.2.2.1
    have hc : va_Nw (.castable (exn k) (exn k)) s := by rcases hk with rfl | rfl | rfl <;> assumption
    intro w hw
    simp only [xbad, List.mem_cons, List.not_mem_nil, or_false] at hw
    rcases hw with rfl | rfl | rfl | rfl
    · exact va_Nw.use rfl hc
    · exact va_any rfl f4
    · exact va_any rfl f5
    · exact va_any rfl f6
  obtain ⟨⟨hx, hb, hml, hown, hts⟩, hK, h0, hr, hlk⟩ := hX
  refine tw_tight fun c' s' hc1 hs1 hz hzs => ?_
  obtain ⟨w1, w2, w3, ⟨w4, w5, w6, w7, w8⟩, w10⟩ := id hw
  refine tw_throwSW (A := gA g) (names := ["java/lang/RuntimeException", "java/lang/Exception"]) hx hb hst hown (by rcases hk with rfl | rfl | rfl <;> decide +kernel) (by decide +kernel) (hts _ hcl) (hts _ hini) hsa (vx_hat (fun w h => hts w (hat w h)) hbad hB) hgood hU hN ⟨w5, fun q h1 h2 => ?_, w10⟩ (hsz.trans hml.symm) d0 d3 d4 d6 d9 (fun x h => (hout x h).elim) hfr.1 hfr.2 (by show c' + 1 ≤ gnn g 1 - s.heap.size; omega) (by show s' + 6 ≤ gnn g 2 - hsl s.heap; omega) hlk (fun t hal hz9 hh9 hq => ?_) w10 (by omega) (by omega)
  · have hq0 : q < gnn g 0 := Nat.not_le.mp h2
    rw [w3 q hq0, h0 q hq0]
  · have hw1 := cH_bump hw hbud hz9 hq hh9
    exact ⟨⟨k, rfl, rfl⟩, wH_re hw1 w4 (Nat.le_refl _) (fun q h => by cases h), wH_F hw1 h0 rfl⟩
theorem g_start_i (o : Option Value) (hy : plainName y.cls = true) (hcl : y.cls = own) (hwc : ws = Cond.code y cc maxL (some .int) :: ws') (hlen : (lg_sl As).length ≤ maxL)
    (body : ∀ (p : Program) (e : Env) (s : State) (m : MethodId) (args : Array Value) (below : List Frame) (meth : Method) (c0 : Code) (ls : Array Slot) (Q : State → Prop), MX g own p s m args c0 cc maxL ws meth (some .int) → meth.name = y.name → wH g s.heap.size T s.heap [] → lv_has ls maxL (lv_args 0 As) →
      (∀ (H : Heap) (lc : List Loc) (cn sn pc : Nat) (ls : Array Slot) (v : Int32), decode cc pc = .ok (.ireturn, 1) → wH g s.heap.size T' H lc → some (.int v) = o → W p l e (rmO g fr lo s.heap) s m args below meth c0 H lc cn sn Q (F0 m pc ls [.int v])) →
      W p l e (rmO g fr lo s.heap) s m args below meth c0 s.heap [] 0 0 Q (F0 m 0 ls [])) : MetG g l y ws fr lo As T o T' := by
  intro sz su
  refine Met.ofW (cc := cc) (maxL := maxL) (ret := (some .int)) hy hwc ?_
  intro p e s m args below meth c s₁ B hml hv
  obtain ⟨rfl, hsz, hsu, hw, hK⟩ := hv
  subst hsz
  subst hsu
  have hl := lv_entry As (n := maxL) hlen
  rw [lg_entry_eq]
  have hts := atoms_spec (ws := ws) B.pre
  have hown : s.vm.findClass y.cls = some m.cls := findClass_of_methodNamed B.named
  rw [hcl] at hown
  have hX : MX g own p s m As.toArray c cc maxL ws meth (some .int) := ⟨⟨B.exec, B.bytes, hml, hown, hts⟩, hK, fun q hq => hw.2.2.1 q hq, B.returns, B.notSynchronized⟩
  exact body p e s m _ below meth c _ _ hX (name_of_methodNamed B.named B.method).1 hw hl (fun H lc cn sn pc ls v hd hw' hv => by subst hv; exact g_iret hX hw' v hd)
theorem g_start_z (o : Option Value) (hy : plainName y.cls = true) (hcl : y.cls = own) (hwc : ws = Cond.code y cc maxL (some .boolean) :: ws') (hlen : (lg_sl As).length ≤ maxL)
    (body : ∀ (p : Program) (e : Env) (s : State) (m : MethodId) (args : Array Value) (below : List Frame) (meth : Method) (c0 : Code) (ls : Array Slot) (Q : State → Prop), MX g own p s m args c0 cc maxL ws meth (some .boolean) → meth.name = y.name → wH g s.heap.size T s.heap [] → lv_has ls maxL (lv_args 0 As) →
      (∀ (H : Heap) (lc : List Loc) (cn sn pc : Nat) (ls : Array Slot) (v : Int32), decode cc pc = .ok (.ireturn, 1) → isB v → wH g s.heap.size T' H lc → some (.int v) = o → W p l e (rmO g fr lo s.heap) s m args below meth c0 H lc cn sn Q (F0 m pc ls [.int v])) →
      W p l e (rmO g fr lo s.heap) s m args below meth c0 s.heap [] 0 0 Q (F0 m 0 ls [])) : MetG g l y ws fr lo As T o T' := by
  intro sz su
  refine Met.ofW (cc := cc) (maxL := maxL) (ret := (some .boolean)) hy hwc ?_
  intro p e s m args below meth c s₁ B hml hv
  obtain ⟨rfl, hsz, hsu, hw, hK⟩ := hv
  subst hsz
  subst hsu
  have hl := lv_entry As (n := maxL) hlen
  rw [lg_entry_eq]
  have hts := atoms_spec (ws := ws) B.pre
  have hown : s.vm.findClass y.cls = some m.cls := findClass_of_methodNamed B.named
  rw [hcl] at hown
  have hX : MX g own p s m As.toArray c cc maxL ws meth (some .boolean) := ⟨⟨B.exec, B.bytes, hml, hown, hts⟩, hK, fun q hq => hw.2.2.1 q hq, B.returns, B.notSynchronized⟩
  exact body p e s m _ below meth c _ _ hX (name_of_methodNamed B.named B.method).1 hw hl (fun H lc cn sn pc ls v hd hb hw' hv => by subst hv; exact g_zret hX hw' v hb hd)
theorem g_start_l (o : Option Value) (hy : plainName y.cls = true) (hcl : y.cls = own) (hwc : ws = Cond.code y cc maxL (some .long) :: ws') (hlen : (lg_sl As).length ≤ maxL)
    (body : ∀ (p : Program) (e : Env) (s : State) (m : MethodId) (args : Array Value) (below : List Frame) (meth : Method) (c0 : Code) (ls : Array Slot) (Q : State → Prop), MX g own p s m args c0 cc maxL ws meth (some .long) → meth.name = y.name → wH g s.heap.size T s.heap [] → lv_has ls maxL (lv_args 0 As) →
      (∀ (H : Heap) (lc : List Loc) (cn sn pc : Nat) (ls : Array Slot) (v : Int64), decode cc pc = .ok (.lreturn, 1) → wH g s.heap.size T' H lc → some (.long v) = o → W p l e (rmO g fr lo s.heap) s m args below meth c0 H lc cn sn Q (F0 m pc ls [.long v])) →
      W p l e (rmO g fr lo s.heap) s m args below meth c0 s.heap [] 0 0 Q (F0 m 0 ls [])) : MetG g l y ws fr lo As T o T' := by
  intro sz su
  refine Met.ofW (cc := cc) (maxL := maxL) (ret := (some .long)) hy hwc ?_
  intro p e s m args below meth c s₁ B hml hv
  obtain ⟨rfl, hsz, hsu, hw, hK⟩ := hv
  subst hsz
  subst hsu
  have hl := lv_entry As (n := maxL) hlen
  rw [lg_entry_eq]
  have hts := atoms_spec (ws := ws) B.pre
  have hown : s.vm.findClass y.cls = some m.cls := findClass_of_methodNamed B.named
  rw [hcl] at hown
  have hX : MX g own p s m As.toArray c cc maxL ws meth (some .long) := ⟨⟨B.exec, B.bytes, hml, hown, hts⟩, hK, fun q hq => hw.2.2.1 q hq, B.returns, B.notSynchronized⟩
  exact body p e s m _ below meth c _ _ hX (name_of_methodNamed B.named B.method).1 hw hl (fun H lc cn sn pc ls v hd hw' hv => by subst hv; exact g_lret hX hw' v hd)
theorem g_start_a {rt : FieldType} (hrt : (∃ n, rt = .object n) ∨ ∃ t, rt = .array t) (o : Option Value) (hy : plainName y.cls = true) (hcl : y.cls = own) (hwc : ws = Cond.code y cc maxL (some rt) :: ws') (hlen : (lg_sl As).length ≤ maxL)
    (body : ∀ (p : Program) (e : Env) (s : State) (m : MethodId) (args : Array Value) (below : List Frame) (meth : Method) (c0 : Code) (ls : Array Slot) (Q : State → Prop), MX g own p s m args c0 cc maxL ws meth (some rt) → meth.name = y.name → wH g s.heap.size T s.heap [] → lv_has ls maxL (lv_args 0 As) →
      (∀ (H : Heap) (lc : List Loc) (cn sn pc : Nat) (ls : Array Slot) (v : Nat), decode cc pc = .ok (.areturn, 1) → wH g s.heap.size T' H lc → some (rv v) = o → W p l e (rmO g fr lo s.heap) s m args below meth c0 H lc cn sn Q (F0 m pc ls [rv v])) →
      W p l e (rmO g fr lo s.heap) s m args below meth c0 s.heap [] 0 0 Q (F0 m 0 ls [])) : MetG g l y ws fr lo As T o T' := by
  intro sz su
  refine Met.ofW (cc := cc) (maxL := maxL) (ret := (some rt)) hy hwc ?_
  intro p e s m args below meth c s₁ B hml hv
  obtain ⟨rfl, hsz, hsu, hw, hK⟩ := hv
  subst hsz
  subst hsu
  have hl := lv_entry As (n := maxL) hlen
  rw [lg_entry_eq]
  have hts := atoms_spec (ws := ws) B.pre
  have hown : s.vm.findClass y.cls = some m.cls := findClass_of_methodNamed B.named
  rw [hcl] at hown
  have hX : MX g own p s m As.toArray c cc maxL ws meth (some rt) := ⟨⟨B.exec, B.bytes, hml, hown, hts⟩, hK, fun q hq => hw.2.2.1 q hq, B.returns, B.notSynchronized⟩
  exact body p e s m _ below meth c _ _ hX (name_of_methodNamed B.named B.method).1 hw hl (fun H lc cn sn pc ls v hd hw' hv => by subst hv; exact g_aret hX hw' v hrt hd)
theorem g_start_v (o : Option Value) (hy : plainName y.cls = true) (hcl : y.cls = own) (hwc : ws = Cond.code y cc maxL none :: ws') (hlen : (lg_sl As).length ≤ maxL)
    (body : ∀ (p : Program) (e : Env) (s : State) (m : MethodId) (args : Array Value) (below : List Frame) (meth : Method) (c0 : Code) (ls : Array Slot) (Q : State → Prop), MX g own p s m args c0 cc maxL ws meth none → meth.name = y.name → wH g s.heap.size T s.heap [] → lv_has ls maxL (lv_args 0 As) →
      (∀ (H : Heap) (lc : List Loc) (cn sn pc : Nat) (ls : Array Slot) , decode cc pc = .ok (.return_, 1) → wH g s.heap.size T' H lc → none = o → W p l e (rmO g fr lo s.heap) s m args below meth c0 H lc cn sn Q (F0 m pc ls [])) →
      W p l e (rmO g fr lo s.heap) s m args below meth c0 s.heap [] 0 0 Q (F0 m 0 ls [])) : MetG g l y ws fr lo As T o T' := by
  intro sz su
  refine Met.ofW (cc := cc) (maxL := maxL) (ret := none) hy hwc ?_
  intro p e s m args below meth c s₁ B hml hv
  obtain ⟨rfl, hsz, hsu, hw, hK⟩ := hv
  subst hsz
  subst hsu
  have hl := lv_entry As (n := maxL) hlen
  rw [lg_entry_eq]
  have hts := atoms_spec (ws := ws) B.pre
  have hown : s.vm.findClass y.cls = some m.cls := findClass_of_methodNamed B.named
  rw [hcl] at hown
  have hX : MX g own p s m As.toArray c cc maxL ws meth none := ⟨⟨B.exec, B.bytes, hml, hown, hts⟩, hK, fun q hq => hw.2.2.1 q hq, B.returns, B.notSynchronized⟩
  exact body p e s m _ below meth c _ _ hX (name_of_methodNamed B.named B.method).1 hw hl (fun H lc cn sn pc ls hd hw' hv => by subst hv; exact g_vret hX hw' hd)
theorem x_start_i (o : Nat ⊕ Option Value) (hy : plainName y.cls = true) (hcl : y.cls = own) (hwc : ws = Cond.code y cc maxL (some .int) :: ws') (hlen : (lg_sl As).length ≤ maxL)
    (body : ∀ (p : Program) (e : Env) (s : State) (m : MethodId) (args : Array Value) (below : List Frame) (meth : Method) (c0 : Code) (ls : Array Slot) (Q : State → Prop), MX g own p s m args c0 cc maxL ws meth (some .int) → (∀ x ∈ c0.exceptionTable.toList, False) → meth.name = y.name → wH g s.heap.size T s.heap [] → lv_has ls maxL (lv_args 0 As) →
      (∀ (H : Heap) (lc : List Loc) (cn sn pc : Nat) (ls : Array Slot) (v : Int32), decode cc pc = .ok (.ireturn, 1) → wH g s.heap.size T' H lc → Sum.inr (some (.int v)) = o → W p l e (rmO g fr lo s.heap) s m args below meth c0 H lc cn sn Q (F0 m pc ls [.int v])) →
      (∀ (H : Heap) (lc : List Loc) (cn sn pc k : Nat) (ls : Array Slot) (rest : List Value) (q : Addr) (ce : Cell), wH g s.heap.size T' H lc → H[q]? = some ce → ce.vm = .none → s.vm.findClass (exn k) = some ce.cls → Sum.inl k = o → vx_W p l e (rmO g fr lo s.heap) s m args below meth c0 H lc cn sn Q (F0 m pc ls rest) q) →
      (∀ (k : Nat) (f : JFrame) (H : Heap) (lc : List Loc) (cn sn : Nat), Sum.inl k = o → W p l e (rmO g fr lo s.heap) s m args below meth c0 H lc cn sn (MQX g below T' (.inl k) args s) f → W p l e (rmO g fr lo s.heap) s m args below meth c0 H lc cn sn Q f) →
      W p l e (rmO g fr lo s.heap) s m args below meth c0 s.heap [] 0 0 Q (F0 m 0 ls [])) : MetX g l y ws fr lo As T o T' := by
  intro sz su
  refine vx_ofW (cc := cc) (maxL := maxL) (ret := (some .int)) hy hwc ?_
  intro p e s m args below meth c s₁ B hml htab hv
  obtain ⟨rfl, hsz, hsu, hw, hK⟩ := hv
  subst hsz
  subst hsu
  have hl := lv_entry As (n := maxL) hlen
  rw [lg_entry_eq]
  have hts := atoms_spec (ws := ws) B.pre
  have hown : s.vm.findClass y.cls = some m.cls := findClass_of_methodNamed B.named
  rw [hcl] at hown
  have hX : MX g own p s m As.toArray c cc maxL ws meth (some .int) := ⟨⟨B.exec, B.bytes, hml, hown, hts⟩, hK, fun q hq => hw.2.2.1 q hq, B.returns, B.notSynchronized⟩
  exact body p e s m _ below meth c _ _ hX htab (name_of_methodNamed B.named B.method).1 hw hl (fun H lc cn sn pc ls v hd hw' hv => by subst hv; exact x_iret hX hw' v hd)
    (fun H lc cn sn pc k ls rest q ce hw' h1 h2 h3 hk => by subst hk; exact x_out hX hw' (fun x h => (htab x h).elim) h1 h2 h3)
    (fun k f H lc cn sn hk hW => by subst hk; exact hW)
theorem x_start_z (o : Nat ⊕ Option Value) (hy : plainName y.cls = true) (hcl : y.cls = own) (hwc : ws = Cond.code y cc maxL (some .boolean) :: ws') (hlen : (lg_sl As).length ≤ maxL)
    (body : ∀ (p : Program) (e : Env) (s : State) (m : MethodId) (args : Array Value) (below : List Frame) (meth : Method) (c0 : Code) (ls : Array Slot) (Q : State → Prop), MX g own p s m args c0 cc maxL ws meth (some .boolean) → (∀ x ∈ c0.exceptionTable.toList, False) → meth.name = y.name → wH g s.heap.size T s.heap [] → lv_has ls maxL (lv_args 0 As) →
      (∀ (H : Heap) (lc : List Loc) (cn sn pc : Nat) (ls : Array Slot) (v : Int32), decode cc pc = .ok (.ireturn, 1) → isB v → wH g s.heap.size T' H lc → Sum.inr (some (.int v)) = o → W p l e (rmO g fr lo s.heap) s m args below meth c0 H lc cn sn Q (F0 m pc ls [.int v])) →
      (∀ (H : Heap) (lc : List Loc) (cn sn pc k : Nat) (ls : Array Slot) (rest : List Value) (q : Addr) (ce : Cell), wH g s.heap.size T' H lc → H[q]? = some ce → ce.vm = .none → s.vm.findClass (exn k) = some ce.cls → Sum.inl k = o → vx_W p l e (rmO g fr lo s.heap) s m args below meth c0 H lc cn sn Q (F0 m pc ls rest) q) →
      (∀ (k : Nat) (f : JFrame) (H : Heap) (lc : List Loc) (cn sn : Nat), Sum.inl k = o → W p l e (rmO g fr lo s.heap) s m args below meth c0 H lc cn sn (MQX g below T' (.inl k) args s) f → W p l e (rmO g fr lo s.heap) s m args below meth c0 H lc cn sn Q f) →
      W p l e (rmO g fr lo s.heap) s m args below meth c0 s.heap [] 0 0 Q (F0 m 0 ls [])) : MetX g l y ws fr lo As T o T' := by
  intro sz su
  refine vx_ofW (cc := cc) (maxL := maxL) (ret := (some .boolean)) hy hwc ?_
  intro p e s m args below meth c s₁ B hml htab hv
  obtain ⟨rfl, hsz, hsu, hw, hK⟩ := hv
  subst hsz
  subst hsu
  have hl := lv_entry As (n := maxL) hlen
  rw [lg_entry_eq]
  have hts := atoms_spec (ws := ws) B.pre
  have hown : s.vm.findClass y.cls = some m.cls := findClass_of_methodNamed B.named
  rw [hcl] at hown
  have hX : MX g own p s m As.toArray c cc maxL ws meth (some .boolean) := ⟨⟨B.exec, B.bytes, hml, hown, hts⟩, hK, fun q hq => hw.2.2.1 q hq, B.returns, B.notSynchronized⟩
  exact body p e s m _ below meth c _ _ hX htab (name_of_methodNamed B.named B.method).1 hw hl (fun H lc cn sn pc ls v hd hb hw' hv => by subst hv; exact x_zret hX hw' v hb hd)
    (fun H lc cn sn pc k ls rest q ce hw' h1 h2 h3 hk => by subst hk; exact x_out hX hw' (fun x h => (htab x h).elim) h1 h2 h3)
    (fun k f H lc cn sn hk hW => by subst hk; exact hW)
theorem x_start_l (o : Nat ⊕ Option Value) (hy : plainName y.cls = true) (hcl : y.cls = own) (hwc : ws = Cond.code y cc maxL (some .long) :: ws') (hlen : (lg_sl As).length ≤ maxL)
    (body : ∀ (p : Program) (e : Env) (s : State) (m : MethodId) (args : Array Value) (below : List Frame) (meth : Method) (c0 : Code) (ls : Array Slot) (Q : State → Prop), MX g own p s m args c0 cc maxL ws meth (some .long) → (∀ x ∈ c0.exceptionTable.toList, False) → meth.name = y.name → wH g s.heap.size T s.heap [] → lv_has ls maxL (lv_args 0 As) →
      (∀ (H : Heap) (lc : List Loc) (cn sn pc : Nat) (ls : Array Slot) (v : Int64), decode cc pc = .ok (.lreturn, 1) → wH g s.heap.size T' H lc → Sum.inr (some (.long v)) = o → W p l e (rmO g fr lo s.heap) s m args below meth c0 H lc cn sn Q (F0 m pc ls [.long v])) →
      (∀ (H : Heap) (lc : List Loc) (cn sn pc k : Nat) (ls : Array Slot) (rest : List Value) (q : Addr) (ce : Cell), wH g s.heap.size T' H lc → H[q]? = some ce → ce.vm = .none → s.vm.findClass (exn k) = some ce.cls → Sum.inl k = o → vx_W p l e (rmO g fr lo s.heap) s m args below meth c0 H lc cn sn Q (F0 m pc ls rest) q) →
      (∀ (k : Nat) (f : JFrame) (H : Heap) (lc : List Loc) (cn sn : Nat), Sum.inl k = o → W p l e (rmO g fr lo s.heap) s m args below meth c0 H lc cn sn (MQX g below T' (.inl k) args s) f → W p l e (rmO g fr lo s.heap) s m args below meth c0 H lc cn sn Q f) →
      W p l e (rmO g fr lo s.heap) s m args below meth c0 s.heap [] 0 0 Q (F0 m 0 ls [])) : MetX g l y ws fr lo As T o T' := by
  intro sz su
  refine vx_ofW (cc := cc) (maxL := maxL) (ret := (some .long)) hy hwc ?_
  intro p e s m args below meth c s₁ B hml htab hv
  obtain ⟨rfl, hsz, hsu, hw, hK⟩ := hv
  subst hsz
  subst hsu
  have hl := lv_entry As (n := maxL) hlen
  rw [lg_entry_eq]
  have hts := atoms_spec (ws := ws) B.pre
  have hown : s.vm.findClass y.cls = some m.cls := findClass_of_methodNamed B.named
  rw [hcl] at hown
  have hX : MX g own p s m As.toArray c cc maxL ws meth (some .long) := ⟨⟨B.exec, B.bytes, hml, hown, hts⟩, hK, fun q hq => hw.2.2.1 q hq, B.returns, B.notSynchronized⟩
  exact body p e s m _ below meth c _ _ hX htab (name_of_methodNamed B.named B.method).1 hw hl (fun H lc cn sn pc ls v hd hw' hv => by subst hv; exact x_lret hX hw' v hd)
    (fun H lc cn sn pc k ls rest q ce hw' h1 h2 h3 hk => by subst hk; exact x_out hX hw' (fun x h => (htab x h).elim) h1 h2 h3)
    (fun k f H lc cn sn hk hW => by subst hk; exact hW)
theorem x_start_a {rt : FieldType} (hrt : (∃ n, rt = .object n) ∨ ∃ t, rt = .array t) (o : Nat ⊕ Option Value) (hy : plainName y.cls = true) (hcl : y.cls = own) (hwc : ws = Cond.code y cc maxL (some rt) :: ws') (hlen : (lg_sl As).length ≤ maxL)
    (body : ∀ (p : Program) (e : Env) (s : State) (m : MethodId) (args : Array Value) (below : List Frame) (meth : Method) (c0 : Code) (ls : Array Slot) (Q : State → Prop), MX g own p s m args c0 cc maxL ws meth (some rt) → (∀ x ∈ c0.exceptionTable.toList, False) → meth.name = y.name → wH g s.heap.size T s.heap [] → lv_has ls maxL (lv_args 0 As) →
      (∀ (H : Heap) (lc : List Loc) (cn sn pc : Nat) (ls : Array Slot) (v : Nat), decode cc pc = .ok (.areturn, 1) → wH g s.heap.size T' H lc → Sum.inr (some (rv v)) = o → W p l e (rmO g fr lo s.heap) s m args below meth c0 H lc cn sn Q (F0 m pc ls [rv v])) →
      (∀ (H : Heap) (lc : List Loc) (cn sn pc k : Nat) (ls : Array Slot) (rest : List Value) (q : Addr) (ce : Cell), wH g s.heap.size T' H lc → H[q]? = some ce → ce.vm = .none → s.vm.findClass (exn k) = some ce.cls → Sum.inl k = o → vx_W p l e (rmO g fr lo s.heap) s m args below meth c0 H lc cn sn Q (F0 m pc ls rest) q) →
      (∀ (k : Nat) (f : JFrame) (H : Heap) (lc : List Loc) (cn sn : Nat), Sum.inl k = o → W p l e (rmO g fr lo s.heap) s m args below meth c0 H lc cn sn (MQX g below T' (.inl k) args s) f → W p l e (rmO g fr lo s.heap) s m args below meth c0 H lc cn sn Q f) →
      W p l e (rmO g fr lo s.heap) s m args below meth c0 s.heap [] 0 0 Q (F0 m 0 ls [])) : MetX g l y ws fr lo As T o T' := by
  intro sz su
  refine vx_ofW (cc := cc) (maxL := maxL) (ret := (some rt)) hy hwc ?_
  intro p e s m args below meth c s₁ B hml htab hv
  obtain ⟨rfl, hsz, hsu, hw, hK⟩ := hv
  subst hsz
  subst hsu
  have hl := lv_entry As (n := maxL) hlen
  rw [lg_entry_eq]
  have hts := atoms_spec (ws := ws) B.pre
  have hown : s.vm.findClass y.cls = some m.cls := findClass_of_methodNamed B.named
  rw [hcl] at hown
  have hX : MX g own p s m As.toArray c cc maxL ws meth (some rt) := ⟨⟨B.exec, B.bytes, hml, hown, hts⟩, hK, fun q hq => hw.2.2.1 q hq, B.returns, B.notSynchronized⟩
  exact body p e s m _ below meth c _ _ hX htab (name_of_methodNamed B.named B.method).1 hw hl (fun H lc cn sn pc ls v hd hw' hv => by subst hv; exact x_aret hX hw' v hrt hd)
    (fun H lc cn sn pc k ls rest q ce hw' h1 h2 h3 hk => by subst hk; exact x_out hX hw' (fun x h => (htab x h).elim) h1 h2 h3)
    (fun k f H lc cn sn hk hW => by subst hk; exact hW)
theorem x_start_v (o : Nat ⊕ Option Value) (hy : plainName y.cls = true) (hcl : y.cls = own) (hwc : ws = Cond.code y cc maxL none :: ws') (hlen : (lg_sl As).length ≤ maxL)
    (body : ∀ (p : Program) (e : Env) (s : State) (m : MethodId) (args : Array Value) (below : List Frame) (meth : Method) (c0 : Code) (ls : Array Slot) (Q : State → Prop), MX g own p s m args c0 cc maxL ws meth none → (∀ x ∈ c0.exceptionTable.toList, False) → meth.name = y.name → wH g s.heap.size T s.heap [] → lv_has ls maxL (lv_args 0 As) →
      (∀ (H : Heap) (lc : List Loc) (cn sn pc : Nat) (ls : Array Slot) , decode cc pc = .ok (.return_, 1) → wH g s.heap.size T' H lc → Sum.inr (none) = o → W p l e (rmO g fr lo s.heap) s m args below meth c0 H lc cn sn Q (F0 m pc ls [])) →
      (∀ (H : Heap) (lc : List Loc) (cn sn pc k : Nat) (ls : Array Slot) (rest : List Value) (q : Addr) (ce : Cell), wH g s.heap.size T' H lc → H[q]? = some ce → ce.vm = .none → s.vm.findClass (exn k) = some ce.cls → Sum.inl k = o → vx_W p l e (rmO g fr lo s.heap) s m args below meth c0 H lc cn sn Q (F0 m pc ls rest) q) →
      (∀ (k : Nat) (f : JFrame) (H : Heap) (lc : List Loc) (cn sn : Nat), Sum.inl k = o → W p l e (rmO g fr lo s.heap) s m args below meth c0 H lc cn sn (MQX g below T' (.inl k) args s) f → W p l e (rmO g fr lo s.heap) s m args below meth c0 H lc cn sn Q f) →
      W p l e (rmO g fr lo s.heap) s m args below meth c0 s.heap [] 0 0 Q (F0 m 0 ls [])) : MetX g l y ws fr lo As T o T' := by
  intro sz su
  refine vx_ofW (cc := cc) (maxL := maxL) (ret := none) hy hwc ?_
  intro p e s m args below meth c s₁ B hml htab hv
  obtain ⟨rfl, hsz, hsu, hw, hK⟩ := hv
  subst hsz
  subst hsu
  have hl := lv_entry As (n := maxL) hlen
  rw [lg_entry_eq]
  have hts := atoms_spec (ws := ws) B.pre
  have hown : s.vm.findClass y.cls = some m.cls := findClass_of_methodNamed B.named
  rw [hcl] at hown
  have hX : MX g own p s m As.toArray c cc maxL ws meth none := ⟨⟨B.exec, B.bytes, hml, hown, hts⟩, hK, fun q hq => hw.2.2.1 q hq, B.returns, B.notSynchronized⟩
  exact body p e s m _ below meth c _ _ hX htab (name_of_methodNamed B.named B.method).1 hw hl (fun H lc cn sn pc ls hd hw' hv => by subst hv; exact x_vret hX hw' hd)
    (fun H lc cn sn pc k ls rest q ce hw' h1 h2 h3 hk => by subst hk; exact x_out hX hw' (fun x h => (htab x h).elim) h1 h2 h3)
    (fun k f H lc cn sn hk hW => by subst hk; exact hW)
end CSTARTS
