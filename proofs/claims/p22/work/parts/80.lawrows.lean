/-! ===== rows of the law: its wrappers' tables, a tableswitch, the script ===== -/
section LAWROWS
variable {p : Program} {l : Launch} {e : Env} {R : Room} {s : State} {m : MethodId} {args : Array Value} {below : List Frame} {meth : Method} {c0 : Code} {H : Heap} {locs : List Loc} {cells slots : Nat} {Q : State → Prop}
variable {cc : ByteArray} {pc : Nat} {ls : Array Slot} {rest st0 As : List Value} {g : GG} {T T' : TW} {Ts ws ws' : List Cond} {nL n index maxL fr lo fr' lo' x k : Nat} {own C : String} {ret ret' : Option FieldType} {y xn : MethodName} {bytes : ByteArray} {v : Option Value} {hh : List (Nat × Nat × Nat × Nat)}
/-- a method with a table of handlers -/
theorem tw_ofWH {rm : Room} {Pc : Array Value → State → Prop} {Qc : Array Value → State → Outcome → State → Prop} {mc ms : Nat} {free : Addr → Prop} (hy : plainName y.cls = true) (hw : ws = Cond.codeWith y cc maxL ret hh :: ws')
    (body : ∀ p e s m args below meth c s₁, BodyLoose p l y (headSpec ws rm) cc maxL ret e s m args below meth c s₁ → c.maxLocals = maxL → Pc args s →
      W p l e (headSpec ws rm).room s m args below meth c s.heap [] 0 0 (MQ below Qc args s mc ms free) (entryFrame m args maxL)) : Met l y ws rm Pc Qc mc ms free := by
  refine MetFree.of_bodyS (code := cc) (maxLocals := maxL) (ret := ret) hy ?_ ?_
  · intro args s m h hn
    obtain ⟨m9, meth, c, hn9, h1, h2, h3, h4, -, h5, h6, -⟩ := Cond.codeWith_spec (atoms_spec (ws := ws) h _ (by rw [hw]; exact List.mem_cons_self))
    cases hn.symm.trans hn9
    exact ⟨meth, c, h1, h2, h3, h4, h5, h6⟩
  · intro p e s m args below meth c s₁ B hml hP _
    have hh0 : s₁.heap = s.heap := by rw [B.state]; rfl
    obtain ⟨t, a1, o, b1, b2, b3⟩ := body p e s m args below meth c s₁ B hml hP s₁ hh0 (Stand.of_body B)
    exact ⟨t, o, a1, b1, b2, b3⟩
theorem g_startW_i (o : Option Value) (hy : plainName y.cls = true) (hcl : y.cls = own) (hwc : ws = Cond.codeWith y cc maxL (some .int) hh :: ws') (hlen : (lg_sl As).length ≤ maxL)
    (body : ∀ (p : Program) (e : Env) (s : State) (m : MethodId) (args : Array Value) (below : List Frame) (meth : Method) (c0 : Code) (ls : Array Slot) (Q : State → Prop), MX g own p s m args c0 cc maxL ws meth (some .int) → c0.exceptionTable.toList = tableOf hh → wH g s.heap.size T s.heap [] → lv_has ls maxL (lv_args 0 As) →
      (∀ (H : Heap) (lc : List Loc) (cn sn pc : Nat) (ls : Array Slot) (v : Int32), decode cc pc = .ok (.ireturn, 1) → wH g s.heap.size T' H lc → some (.int v) = o → W p l e (rmO g fr lo s.heap) s m args below meth c0 H lc cn sn Q (F0 m pc ls [.int v])) →
      W p l e (rmO g fr lo s.heap) s m args below meth c0 s.heap [] 0 0 Q (F0 m 0 ls [])) : MetG g l y ws fr lo As T o T' := by
  intro sz su
  refine tw_ofWH (cc := cc) (maxL := maxL) (ret := (some .int)) (hh := hh) hy hwc ?_
  intro p e s m args below meth c s₁ B hml hv
  obtain ⟨rfl, hsz, hsu, hw, hK⟩ := hv
  subst hsz
  subst hsu
  have hl := lv_entry As (n := maxL) hlen
  rw [lg_entry_eq]
  have hts := atoms_spec (ws := ws) B.pre
  have hown : s.vm.findClass y.cls = some m.cls := findClass_of_methodNamed B.named
  rw [hcl] at hown
  have htab : c.exceptionTable.toList = tableOf hh := vx_table (x := y) B (hts _ (by rw [hwc]; exact List.mem_cons_self))
  have hX : MX g own p s m As.toArray c cc maxL ws meth (some .int) := ⟨⟨B.exec, B.bytes, hml, hown, hts⟩, hK, fun q hq => hw.2.2.1 q hq, B.returns, B.notSynchronized⟩
  exact body p e s m _ below meth c _ _ hX htab hw hl (fun H lc cn sn pc ls v hd hw' hv => by subst hv; exact g_iret hX hw' v hd)
/-- what is thrown is caught by the row i of the table -/
theorem tw_catch {name E : String} {ce : Cell} {q : Addr} (hX : MX g own p s m args c0 cc nL Ts meth ret) (htab : c0.exceptionTable.toList = tableOf hh) (pre suf : List (Nat × Nat × Nat × Nat)) (r : Nat × Nat × Nat × Nat) (hh0 : hh = pre ++ r :: suf) (hcov : r.1 ≤ pc ∧ pc < r.2.1) (hct : r.2.2.2 ≠ 0)
    (hlink : va_Nw (.classLink own r.2.2.2 name) s) (hcast : va_Nw (.castable E name) s) (hpass : ∀ z ∈ pre, z.2.2.2 ≠ 0 ∧ ∃ nm : String, va_Nw (.classLink own z.2.2.2 nm) s ∧ va_Nc E nm s) (hcell : H[q]? = some ce) (hv : ce.vm = .none) (hcl : s.vm.findClass E = some ce.cls)
    (kk : W p l e R s m args below meth c0 H locs cells slots Q (F0 m r.2.2.1 ls [.ref q])) : vx_W p l e R s m args below meth c0 H locs cells slots Q (F0 m pc ls rest) q := by
  obtain ⟨⟨hx, hb, hml, hown, hts⟩, hK, -⟩ := hX
  refine vx_catch hown (tableOf pre) ⟨r.1, r.2.1, r.2.2.1, r.2.2.2⟩ (tableOf suf) (by rw [htab, hh0]; simp [tableOf]) ?_ (by simpa [covers] using hcov) hct (va_Nw.use rfl hlink) (va_Nw.use rfl hcast) hcell hv hcl kk
  intro z hz
  obtain ⟨z0, hz0, rfl⟩ := List.mem_map.mp hz
  obtain ⟨h1, nm, h2, h3⟩ := hpass z0 hz0
  exact Or.inr ⟨h1, nm, va_Nw.use rfl h2, h3⟩
/-- a static call of one with a table -/
theorem g_callSWi {r : Int32} (hX : MX g own p s m args c0 cc nL Ts meth ret) (hw : wH g s.heap.size T H locs) (hM : MetG g l y ws fr' lo' As T (some (.int r)) T') (hG : GoodIn Ts (va_wsS own index y ws)) (hwc : ws = Cond.codeWith y bytes maxL ret' hh :: ws')
    (hd : y.cls ≠ "java/lang/invoke/MethodHandle" ∧ y.cls ≠ "java/lang/invoke/VarHandle" ∧ (parseMethodDescriptor y.desc).map (fun d => d.parameters.length) = some n) (hn : As.length = n) (hsz : ls.size = nL) (hst : st0 = As.reverse ++ rest) (hr8 : (rest.map fun v => v.category).sum ≤ 8)
    (hR : fr' + 1 ≤ fr ∧ 8 + (maxL + 11) + lo' ≤ lo) (hdg : decode cc pc = .ok (.invokestatic index, 3))
    (kk : ∀ (H1 : Heap) (locs1 : List Loc) (cells slots : Nat), wH g s.heap.size T' H1 locs1 → W p l e (rmO g fr lo s.heap) s m args below meth c0 H1 locs1 cells slots Q (F0 m (pc + 3) ls (.int r :: rest))) : W p l e (rmO g fr lo s.heap) s m args below meth c0 H locs cells slots Q (F0 m pc ls st0) := by
  obtain ⟨⟨hx, hb, hml, hown, hts⟩, hK, -⟩ := hX
  refine tw_tight fun c' s' hc hs' hz hzs => ?_
  obtain ⟨w1, w2, w3, ⟨w4, w5, w6, w7, w8⟩, w10⟩ := id hw
  exact tw_go (b := 0) hw (vx_runSW (As := As) (rest := rest) ⟨hx, hb, hml, hown, hts⟩ (hM H.size (hsl H)) (vx_cwSW n hts hG hwc rfl rfl hd hR) ⟨pcO_blind _ _ _ _ _, fun U hU hW => ⟨rfl, by rw [hU], by rw [hU], by rw [hU]; exact wH_up hw, TB.moved hW hK⟩⟩ rfl hn hsz hst (lv_room hr8) hdg ⟨sub_ok hz (by omega) hc, sub_ok hzs (by omega) hs'⟩) kk
/-- the script: in every state that the tables' facts hold of, in the heap of the law's start -/
def SCG (g : GG) (b L : Nat) (xs : Nat → Int32) : Prop := b < gnn g 0 ∧ ∀ s : State, gP g s → va_X b L xs s (gH g)
theorem sg_X {b L : Nat} {xs : Nat → Int32} (hX : MX g own p s m args c0 cc nL Ts meth ret) (hw : wH g s.heap.size T H locs) (hS : SCG g b L xs) : va_X b L xs s s.heap ∧ b < s.heap.size ∧ va_S (gA g) s.heap H locs ∧ ¬ gA g b := by
  obtain ⟨-, hK, h0, -⟩ := hX
  obtain ⟨h1, h2⟩ := hS
  obtain ⟨w1, w2, w3, ⟨w4, w5, -⟩, w10⟩ := hw
  refine ⟨(h2 s hK.2.1).kept (h0 b h1), Nat.lt_of_lt_of_le h1 w4, ⟨w5, fun q hq hA => ?_, w10⟩, fun h => absurd h (Nat.not_le.mpr h1)⟩
  have hq0 : q < gnn g 0 := Nat.not_le.mp hA
  rw [w3 q hq0, h0 q hq0]
theorem c_slenG {b L : Nat} {xs : Nat → Int32} (hX : MX g own p s m args c0 cc nL Ts meth ret) (hw : wH g s.heap.size T H locs) (hS : SCG g b L xs) (hdg : decode cc pc = .ok (.arraylength, 1))
    (kk : W p l e R s m args below meth c0 H locs cells slots Q (F0 m (pc + 1) ls (.int (nI L) :: rest))) : W p l e R s m args below meth c0 H locs cells slots Q (F0 m pc ls (.ref b :: rest)) := by
  obtain ⟨h1, h2, h3, h4⟩ := sg_X hX hw hS
  obtain ⟨⟨hx, hb, hml, hown, hts⟩, hK, -⟩ := hX
  exact va_slen hx hb h1 h2 h4 h3 hdg kk
theorem c_sldG {b L : Nat} {xs : Nat → Int32} {i : Int32} (hX : MX g own p s m args c0 cc nL Ts meth ret) (hw : wH g s.heap.size T H locs) (hS : SCG g b L xs) (hin : vR i L) (hdg : decode cc pc = .ok (.iaload, 1))
    (kk : W p l e R s m args below meth c0 H locs cells slots Q (F0 m (pc + 1) ls (.int (xs i.toNatClampNeg) :: rest))) : W p l e R s m args below meth c0 H locs cells slots Q (F0 m pc ls (.int i :: .ref b :: rest)) := by
  obtain ⟨h1, h2, h3, h4⟩ := sg_X hX hw hS
  obtain ⟨⟨hx, hb, hml, hown, hts⟩, hK, -⟩ := hX
  exact va_sld hx hb h1 h2 h4 h3 hin hdg kk
end LAWROWS
theorem ct_r (a : Nat) : (Value.ref a).category = 1 := rfl
theorem hm_eq {g : GG} {z : Nat} {w : CS} {mm m1 : MS} {H : Heap} {L : List Loc} (e : m1 = mm) (h : wH g z (w, mm) H L) : wH g z (w, m1) H L := e ▸ h
theorem oc3 {α β γ ρ : Type} {x : Option (α × β × γ)} {f : α → β → γ → Option ρ} {y : ρ} (h : b3 x f = some y) : ∃ a b c, x = some (a, b, c) ∧ f a b c = some y := by
  cases x with
  | none => cases h
  | some a => exact ⟨a.1, a.2.1, a.2.2, rfl, h⟩
def NC (g : GG) : Prop := ∀ s : State, gP g s → va_Nc "java/lang/IllegalStateException" "java/lang/IndexOutOfBoundsException" s ∧ va_Nc "java/lang/IllegalStateException" "java/lang/IllegalArgumentException" s ∧ va_Nc "java/lang/IllegalArgumentException" "java/lang/IndexOutOfBoundsException" s ∧ va_Nw (.classLink RL 69 "java/lang/IndexOutOfBoundsException") s ∧ va_Nw (.classLink RL 71 "java/lang/IllegalArgumentException") s ∧ va_Nw (.classLink RL 73 "java/lang/IllegalStateException") s
def bh1 {ρ : Type} (x : Option ((Nat × CS) ⊕ CS)) (he : Nat → CS → Option ρ) (f : CS → Option ρ) : Option ρ := match x with
  | some (.inl e) => he e.1 e.2
  | some (.inr a) => f a
  | none => none
theorem obh1 {ρ : Type} {x : Option ((Nat × CS) ⊕ CS)} {he : Nat → CS → Option ρ} {f : CS → Option ρ} {y : ρ} (h : bh1 x he f = some y) : (∃ k w, x = some (.inl (k, w)) ∧ he k w = some y) ∨ ∃ w, x = some (.inr w) ∧ f w = some y := by
  cases x with
  | none => cases h
  | some a => cases a with
    | inl e => exact Or.inl ⟨e.1, e.2, rfl, h⟩
    | inr a => exact Or.inr ⟨a, rfl, h⟩
def bh3 {α ρ : Type} (x : Option ((Nat × CS) ⊕ α)) (he : Nat → CS → Option ρ) (f : α → Option ρ) : Option ρ := match x with
  | some (.inl e) => he e.1 e.2
  | some (.inr a) => f a
  | none => none
theorem obh3 {α ρ : Type} {x : Option ((Nat × CS) ⊕ α)} {he : Nat → CS → Option ρ} {f : α → Option ρ} {y : ρ} (h : bh3 x he f = some y) : (∃ k w, x = some (.inl (k, w)) ∧ he k w = some y) ∨ ∃ a, x = some (.inr a) ∧ f a = some y := by
  cases x with
  | none => cases h
  | some a => cases a with
    | inl e => exact Or.inl ⟨e.1, e.2, rfl, h⟩
    | inr a => exact Or.inr ⟨a, rfl, h⟩
def bh2 {α ρ : Type} (x : Option ((Nat × CS) ⊕ (α × CS))) (he : Nat → CS → Option ρ) (f : α → CS → Option ρ) : Option ρ := match x with
  | some (.inl e) => he e.1 e.2
  | some (.inr (a, w)) => f a w
  | none => none
theorem obh2 {α ρ : Type} {x : Option ((Nat × CS) ⊕ (α × CS))} {he : Nat → CS → Option ρ} {f : α → CS → Option ρ} {y : ρ} (h : bh2 x he f = some y) : (∃ k w, x = some (.inl (k, w)) ∧ he k w = some y) ∨ ∃ a w, x = some (.inr (a, w)) ∧ f a w = some y := by
  cases x with
  | none => cases h
  | some a => cases a with
    | inl e => exact Or.inl ⟨e.1, e.2, rfl, h⟩
    | inr a => exact Or.inr ⟨a.1, a.2, rfl, h⟩
def bn1 {ρ : Type} (x : Option ((Nat × CS) ⊕ CS)) (f : CS → Option ρ) : Option ρ := match x with
  | some (.inl _) => none
  | some (.inr a) => f a
  | none => none
theorem obn1 {ρ : Type} {x : Option ((Nat × CS) ⊕ CS)} {f : CS → Option ρ} {y : ρ} (h : bn1 x f = some y) : ∃ a, x = some (.inr a) ∧ f a = some y := by
  cases x with
  | none => cases h
  | some a => cases a with
    | inl e => cases h
    | inr a => exact ⟨a, rfl, h⟩
def bn2 {α ρ : Type} (x : Option ((Nat × CS) ⊕ (α × CS))) (f : α → CS → Option ρ) : Option ρ := match x with
  | some (.inl _) => none
  | some (.inr (a, w)) => f a w
  | none => none
theorem obn2 {α ρ : Type} {x : Option ((Nat × CS) ⊕ (α × CS))} {f : α → CS → Option ρ} {y : ρ} (h : bn2 x f = some y) : ∃ a w, x = some (.inr (a, w)) ∧ f a w = some y := by
  cases x with
  | none => cases h
  | some a => cases a with
    | inl e => cases h
    | inr a => exact ⟨a.1, a.2, rfl, h⟩
def bn3 {α ρ : Type} (x : Option ((Nat × CS) ⊕ α)) (f : α → Option ρ) : Option ρ := match x with
  | some (.inl _) => none
  | some (.inr a) => f a
  | none => none
theorem obn3 {α ρ : Type} {x : Option ((Nat × CS) ⊕ α)} {f : α → Option ρ} {y : ρ} (h : bn3 x f = some y) : ∃ a, x = some (.inr a) ∧ f a = some y := by
  cases x with
  | none => cases h
  | some a => cases a with
    | inl e => cases h
    | inr a => exact ⟨a, rfl, h⟩
