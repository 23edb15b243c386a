/-! ===== rows over the class's memory ===== -/
def sI (c : CS) (f x : Nat) (v : Int32) : CS := (u2 c.1 f x v, c.2)
def sA (c : CS) (x i : Nat) (v : Int32) : CS := (c.1, u2 c.2.1 x i v, c.2.2)
def sJ (c : CS) (f x v : Nat) : CS := (c.1, c.2.1, u2 c.2.2.1 f x v, c.2.2.2)
def sB (c : CS) (x i v : Nat) : CS := (c.1, c.2.1, c.2.2.1, u2 c.2.2.2.1 x i v, c.2.2.2.2)
def sL (c : CS) (f x : Nat) (v : Int64) : CS := (c.1, c.2.1, c.2.2.1, c.2.2.2.1, u2 c.2.2.2.2.1 f x v, c.2.2.2.2.2)
def sM (c : CS) (x i : Nat) (v : Int64) : CS := (c.1, c.2.1, c.2.2.1, c.2.2.2.1, c.2.2.2.2.1, u2 c.2.2.2.2.2.1 x i v, c.2.2.2.2.2.2)
/-- a new cell: kind, length of an array, slots -/
def nw (c : CS) (kind len n : Nat) : CS := (fun f y => if y = wz c + 1 then 0 else c.1 f y, fun y i => if y = wz c + 1 then 0 else c.2.1 y i, fun f y => if y = wz c + 1 then (if f = 0 then kind else if f = 1 then len else 0) else c.2.2.1 f y, fun y i => if y = wz c + 1 then 0 else c.2.2.2.1 y i, fun f y => if y = wz c + 1 then 0 else c.2.2.2.2.1 f y, fun y i => if y = wz c + 1 then 0 else c.2.2.2.2.2.1 y i, wz c + 1, wl c - 1, wk c - n)
/-- a cell that nobody asks for (an exception): six slots -/
def bump (c : CS) : CS := (c.1, c.2.1, c.2.2.1, c.2.2.2.1, c.2.2.2.2.1, c.2.2.2.2.2.1, wz c + 1, wl c - 1, wk c - 6)
def eqx (c' c : CS) (x : Nat) : Prop := (∀ y, wJ c' 0 y = wJ c 0 y) ∧ (wz c' = wz c ∧ wl c' = wl c ∧ wk c' = wk c) ∧ ∀ y, y ≠ x → (∀ f, wI c' f y = wI c f y) ∧ (∀ i, wA c' y i = wA c y i) ∧ (∀ f, wJ c' f y = wJ c f y) ∧ (∀ i, wB c' y i = wB c y i) ∧ (∀ f, wL c' f y = wL c f y) ∧ (∀ i, wM c' y i = wM c y i)
theorem eqx_sI (c : CS) (f x : Nat) (v : Int32) : eqx (sI c f x v) c x := ⟨fun _ => rfl, ⟨rfl, rfl, rfl⟩, fun y hy => ⟨fun f' => by simp [wI, sI, u2, hy], fun _ => rfl, fun _ => rfl, fun _ => rfl, fun _ => rfl, fun _ => rfl⟩⟩
theorem eqx_sA (c : CS) (x i : Nat) (v : Int32) : eqx (sA c x i v) c x := ⟨fun _ => rfl, ⟨rfl, rfl, rfl⟩, fun y hy => ⟨fun _ => rfl, fun i' => by simp [wA, sA, u2, hy], fun _ => rfl, fun _ => rfl, fun _ => rfl, fun _ => rfl⟩⟩
theorem eqx_sJ (c : CS) (f x : Nat) (v : Nat) (hf : f ≠ 0) : eqx (sJ c f x v) c x := ⟨fun y => by simp [wJ, sJ, u2, Ne.symm hf], ⟨rfl, rfl, rfl⟩, fun y hy => ⟨fun _ => rfl, fun _ => rfl, fun f' => by simp [wJ, sJ, u2, hy], fun _ => rfl, fun _ => rfl, fun _ => rfl⟩⟩
theorem eqx_sB (c : CS) (x i : Nat) (v : Nat) : eqx (sB c x i v) c x := ⟨fun _ => rfl, ⟨rfl, rfl, rfl⟩, fun y hy => ⟨fun _ => rfl, fun _ => rfl, fun _ => rfl, fun i' => by simp [wB, sB, u2, hy], fun _ => rfl, fun _ => rfl⟩⟩
theorem eqx_sL (c : CS) (f x : Nat) (v : Int64) : eqx (sL c f x v) c x := ⟨fun _ => rfl, ⟨rfl, rfl, rfl⟩, fun y hy => ⟨fun _ => rfl, fun _ => rfl, fun _ => rfl, fun _ => rfl, fun f' => by simp [wL, sL, u2, hy], fun _ => rfl⟩⟩
theorem eqx_sM (c : CS) (x i : Nat) (v : Int64) : eqx (sM c x i v) c x := ⟨fun _ => rfl, ⟨rfl, rfl, rfl⟩, fun y hy => ⟨fun _ => rfl, fun _ => rfl, fun _ => rfl, fun _ => rfl, fun _ => rfl, fun i' => by simp [wM, sM, u2, hy]⟩⟩
theorem cent_eqx {g : GG} {c' c : CS} {x y : Nat} (h : eqx c' c x) (hy : y ≠ x) : cent g c' y = cent g c y := by
  obtain ⟨h0, -, h1⟩ := h
  obtain ⟨a1, a2, a3, a4, a5, a6⟩ := h1 y hy
  have b2 : (fun i => wA c' y i) = fun i => wA c y i := funext a2
  have b4 : (fun i => ro (wB c' y i)) = fun i => ro (wB c y i) := funext fun i => by rw [a4]
  have b6 : (fun i => wM c' y i) = fun i => wM c y i := funext a6
  unfold cent
  simp only [a1, b2, a3, b4, a5, b6]
theorem cent_kind {g : GG} {c : CS} {x : Nat} {e0 : va_E} (h : cent g c x = some e0) : wJ c 0 x ≠ 0 := by
  intro h0
  unfold cent at h
  rw [h0] at h
  cases h
section CROWS
variable {p : Program} {l : Launch} {e : Env} {R : Room} {s : State} {m : MethodId} {args : Array Value} {below : List Frame} {meth : Method} {c0 : Code} {H : Heap} {locs : List Loc} {cells slots : Nat} {Q : State → Prop}
variable {cc : ByteArray} {pc : Nat} {ls : Array Slot} {rest : List Value} {g : GG} {z : Nat} {T : TW} {Ts : List Cond} {nL : Nat} {own : String} {ret : Option FieldType}
theorem rv_ref {x : Nat} (h : x ≠ 0) : rv x = .ref (x - 1) := by
  unfold rv ro
  rw [if_neg h]
  rfl
theorem rv_null : rv 0 = .null := rfl
theorem ro_inj {x y : Nat} : ro x = ro y ↔ x = y := by
  unfold ro
  by_cases hx : x = 0 <;> by_cases hy : y = 0 <;> simp [hx, hy]
  · exact fun h => hy h.symm
  · omega
theorem cH_cell (hw : wH g z T H locs) {x : Nat} {e0 : va_E} (hx : cent g T.1 x = some e0) : va_at (gD g) vwCl (x - 1, e0) H ∧ x ≠ 0 := by
  refine ⟨(hw.1.2 x e0 hx).1, fun h => ?_⟩
  subst h
  exact cent_kind hx hw.1.1
theorem cH_put (hw : wH g z T H locs) {x i : Nat} {e0 e1 : va_E} {c' : CS} {H1 : Heap} {d0 d1 : Cell} (hx : cent g T.1 x = some e0) (hk : wJ T.1 0 x ≠ 13) (hx1 : cent g c' x = some e1) (hq : eqx c' T.1 x) (ha : va_at (gD g) vwCl (x - 1, e1) H1) (zz : H1.size = H.size) (oq : ∀ q : Nat, q ≠ x - 1 → H1[q]? = H[q]?) (h0 : H[x - 1]? = some d0) (h1 : H1[x - 1]? = some d1) (hs : d1.slots.size = d0.slots.size) : wH g z (c', T.2) H1 (locs ++ [⟨x - 1, i⟩]) := by
  have hx0 := (cH_cell hw hx).2
  obtain ⟨hc, hm, hb, ⟨r1, r2, r3, r4, r5⟩, hl⟩ := hw
  have hsl1 := hsl_put zz h0 h1 hs oq
  obtain ⟨q1, ⟨q2, q3, q4⟩, q5⟩ := id hq
  have hbx : gnn g 0 ≤ x - 1 := (hc.2 x e0 hx).2 hk
  refine ⟨⟨(q1 0).trans hc.1, fun y ey hy => ?_⟩, fun hn => ⟨fun j ej hj => ?_, (hm hn).2⟩, fun q hq => ?_, ⟨r1, by rw [zz]; exact r2, by rw [zz]; exact r3.trans q2.symm, by rw [hsl1, show wk c' = wk T.1 from q4]; exact r4, by show wz c' + wl c' ≤ _; rw [q2, q3]; exact r5.1, ((q5 0 (Ne.symm hx0)).2.2.1 2).trans r5.2.1, ((q5 0 (Ne.symm hx0)).2.2.1 3).trans r5.2.2⟩, fun q hq => ?_⟩
  · by_cases hyx : y = x
    · subst hyx
      have : ey = e1 := Option.some.inj (hy.symm.trans hx1)
      subst this
      exact ⟨ha, fun _ => hbx⟩
    · rw [cent_eqx hq hyx] at hy
      obtain ⟨h2, h3⟩ := hc.2 y ey hy
      have hy0 : y ≠ 0 := fun h => cent_kind hy (by rw [h]; exact hc.1)
      refine ⟨h2.kept (oq _ fun hh => hyx ?_), fun h4 => h3 (by rw [← q1 y]; exact h4)⟩
      have : y - 1 = x - 1 := hh
      omega
  · obtain ⟨h2, h3, h4⟩ := (hm hn).1 j ej hj
    refine ⟨h2.kept (oq _ fun hh => ?_), (q1 _).trans h3, h4⟩
    have : gmd g j = x - 1 := hh
    have h5 : gmd g j + 1 = x := by omega
    rw [h5] at h3
    exact cent_kind hx h3
  · rw [oq q (by omega)]
    exact hb q hq
  · rcases List.mem_append.mp hq with h | h
    · exact hl q h
    · rw [List.mem_singleton.mp h]
      exact hbx
/-- a field of an object is read -/
theorem c_gf (hX : MX g own p s m args c0 cc nL Ts meth ret) (hw : wH g z T H locs) {x ci N index : Nat} {C ref : String} {TT : u_T} {fs : List Value} {v : Value} (he : cent g T.1 x = some (.inr (ci, fs))) (hc : vwCl[ci]? = some (C, TT, N)) (k : Nat) (hin : ∀ w ∈ u_ws C TT N, w ∈ Ts) (hk : k < N) (hl : Cond.fieldLink own index ref (TT k).2.1 (TT k).2.2.1 ∈ Ts) (hsame : ∀ x, s.fieldFound? (TT k).1 (TT k).2.1 (TT k).2.2.1 = some x → s.fieldFound? ref (TT k).2.1 (TT k).2.2.1 = some x) (hv : fs[k]? = some v) (hdg : decode cc pc = .ok (.getfield index, 3))
    (kk : W p l e R s m args below meth c0 H locs cells slots Q (F0 m (pc + 3) ls (v :: rest))) : W p l e R s m args below meth c0 H locs cells slots Q (F0 m pc ls (rv x :: rest)) := by
  obtain ⟨⟨hx, hb, hml, hown, hts⟩, hK, -⟩ := hX
  obtain ⟨hat, hx0⟩ := cH_cell hw he
  rw [rv_ref hx0]
  exact va_get (D := gD g) (cl := vwCl) (ws := [(x - 1, .inr (ci, fs))]) (C := C) (T := TT) (N := N) hx hb hts hin hown hK.1 (fun i q hq => by
    have hz : i < 1 := (List.getElem?_eq_some_iff.mp hq).1
    rw [show i = 0 by omega] at hq
    cases hq
    exact hat) 0 rfl hc k hk (hts _ hl) hsame hv hdg kk
/-- a field of an object is written -/
theorem c_pf (hX : MX g own p s m args c0 cc nL Ts meth ret) (hw : wH g z T H locs) {x ci N index : Nat} {C ref : String} {TT : u_T} {tyf : Nat → FieldType} {fs : List Value} {v : Value} {c' : CS} {ty : FieldType} (he : cent g T.1 x = some (.inr (ci, fs))) (hk13 : wJ T.1 0 x ≠ 13) (hc : vwCl[ci]? = some (C, TT, N)) (hty : ∀ k, k < N → parseFieldDescriptor (TT k).2.2.1 = some (tyf k)) (hnm : ∀ a, a < N → ∀ b, b < N → a ≠ b → (TT a).2.1 ≠ (TT b).2.1) (k : Nat) (hin : ∀ w ∈ u_ws C TT N, w ∈ Ts) (hk : k < N) (hl : Cond.fieldLink own index ref (TT k).2.1 (TT k).2.2.1 ∈ Ts) (hsame : ∀ x, s.fieldFound? (TT k).1 (TT k).2.1 (TT k).2.2.1 = some x → s.fieldFound? ref (TT k).2.1 (TT k).2.2.1 = some x) (hfin : (TT k).2.2.2 = false) (hd : parseFieldDescriptor (TT k).2.2.1 = some ty) (hn : narrow ty v = v) (hfit : fits ty v = true) (hlen : k < fs.length)
    (he1 : cent g c' x = some (.inr (ci, fs.set k v))) (hq : eqx c' T.1 x) (hdg : decode cc pc = .ok (.putfield index, 3))
    (kk : ∀ (H1 : Heap) (locs1 : List Loc), wH g z (c', T.2) H1 locs1 → W p l e R s m args below meth c0 H1 locs1 cells slots Q (F0 m (pc + 3) ls rest)) : W p l e R s m args below meth c0 H locs cells slots Q (F0 m pc ls (v :: rv x :: rest)) := by
  obtain ⟨⟨hx, hb, hml, hown, hts⟩, hK, -⟩ := hX
  obtain ⟨hat, hx0⟩ := cH_cell hw he
  rw [rv_ref hx0]
  have hap := va_apart (D := gD g) (own := own) hts hin tyf hty hnm hK.1 (cl := vwCl) hc
  obtain ⟨r, h1, cell, q1, q2, q3, q4⟩ := hat
  have hr : r = (C, TT, N) := Option.some.inj (h1.symm.trans hc)
  subst hr
  obtain ⟨hS, hfc, kC, hkC, hkind⟩ := hK.1.1 ci _ hc
  obtain ⟨cf, kf, fi, f, hi, hsl⟩ := hS k hk
  have hlay := hts _ (hin _ (u_in_lay hk))
  unfold u_lay at hlay
  rw [if_neg (by rw [hfin]; decide)] at hlay
  have hst := (u_facts hfc hkC (u_lays hts hin hk) hi).1
  have h6 := u_store hfc hkC hkind hlay hi hd hn hfit
  refine W.putK hx hb (f := f) ⟨hown, hts _ hl, ⟨_, _, _, hsame _ hi⟩, hst⟩ (by rw [q2]; exact h6) q1 q3 (by rw [hsl]; exact k2_hasslot (q4 k hk)) rfl rfl hdg fun H' e1 e2 e3 => ?_
  refine kk H' _ (cH_put hw he hk13 he1 hq ?_ e2 e3 q1 e1 (by simp [Cell.setSlot]))
  rw [hsl] at e1
  exact ⟨_, hc, t_OB.to (V := updV (vp_V fs) k v) ⟨_, e1, q2, q3, t_set q4 hap hk v⟩ (fun j _ => vp_updV_set hlen v j)⟩
/-- a final field, in a constructor -/
theorem c_pfF (hX : MX g own p s m args c0 cc nL Ts meth ret) (hw : wH g z T H locs) {x ci N index : Nat} {C ref : String} {TT : u_T} {tyf : Nat → FieldType} {fs : List Value} {v : Value} {c' : CS} {ty : FieldType} (he : cent g T.1 x = some (.inr (ci, fs))) (hk13 : wJ T.1 0 x ≠ 13) (hc : vwCl[ci]? = some (C, TT, N)) (hty : ∀ k, k < N → parseFieldDescriptor (TT k).2.2.1 = some (tyf k)) (hnm : ∀ a, a < N → ∀ b, b < N → a ≠ b → (TT a).2.1 ≠ (TT b).2.1) (k : Nat) (hin : ∀ w ∈ u_ws C TT N, w ∈ Ts) (hk : k < N) (hl : Cond.fieldLink own index ref (TT k).2.1 (TT k).2.2.1 ∈ Ts) (hsame : ∀ x, s.fieldFound? (TT k).1 (TT k).2.1 (TT k).2.2.1 = some x → s.fieldFound? ref (TT k).2.1 (TT k).2.2.1 = some x) (hfin : (TT k).2.2.2 = true) (hin2 : meth.name = "<init>") (hdecl : (TT k).1 = own) (hd : parseFieldDescriptor (TT k).2.2.1 = some ty) (hn : narrow ty v = v) (hfit : fits ty v = true) (hlen : k < fs.length)
    (he1 : cent g c' x = some (.inr (ci, fs.set k v))) (hq : eqx c' T.1 x) (hdg : decode cc pc = .ok (.putfield index, 3))
    (kk : ∀ (H1 : Heap) (locs1 : List Loc), wH g z (c', T.2) H1 locs1 → W p l e R s m args below meth c0 H1 locs1 cells slots Q (F0 m (pc + 3) ls rest)) : W p l e R s m args below meth c0 H locs cells slots Q (F0 m pc ls (v :: rv x :: rest)) := by
  obtain ⟨⟨hx, hb, hml, hown, hts⟩, hK, -⟩ := hX
  obtain ⟨hat, hx0⟩ := cH_cell hw he
  rw [rv_ref hx0]
  have hap := va_apart (D := gD g) (own := own) hts hin tyf hty hnm hK.1 (cl := vwCl) hc
  obtain ⟨r, h1, cell, q1, q2, q3, q4⟩ := hat
  have hr : r = (C, TT, N) := Option.some.inj (h1.symm.trans hc)
  subst hr
  obtain ⟨hS, hfc, kC, hkC, hkind⟩ := hK.1.1 ci _ hc
  obtain ⟨cf, kf, fi, f, hi, hsl⟩ := hS k hk
  have hlay := hts _ (hin _ (u_in_lay hk))
  unfold u_lay at hlay
  rw [if_pos hfin] at hlay
  have hst := (u_facts hfc hkC (u_lays hts hin hk) hi).1
  have hcf : m.cls = cf := by
    obtain ⟨_, _, c', _, _, _, -, -, hf', -, -, -, hown2, -⟩ := Cond.laysFinal_spec hlay
    have e1 : c' = cf := by have := hi.symm.trans hf'; simp at this; exact this.1.symm
    rw [hdecl] at hown2
    rw [← e1]; exact Option.some.inj (hown.symm.trans hown2)
  have h6 := u_fits hfc hkC hkind (Or.inr hlay) hi hd hn hfit
  refine W.putFinK hx hb hown (hts _ hl) (hsame _ hi) hst hcf hin2 (by rw [q2]; exact h6) q1 q3 (by rw [hsl]; exact k2_hasslot (q4 k hk)) rfl rfl hdg fun H' e1 e2 e3 => ?_
  refine kk H' _ (cH_put hw he hk13 he1 hq ?_ e2 e3 q1 e1 (by simp [Cell.setSlot]))
  rw [hsl] at e1
  exact ⟨_, hc, t_OB.to (V := updV (vp_V fs) k v) ⟨_, e1, q2, q3, t_set q4 hap hk v⟩ (fun j _ => vp_updV_set hlen v j)⟩
theorem ce_1 {g : GG} {c : CS} {x : Nat} (h : wJ c 0 x = 1) : cent g c x = some (.inr (2, [.int (wI c 40 x), .int (wI c 41 x), .int (wI c 42 x), .int (wI c 43 x)])) := by
  unfold cent
  rw [h]
  rfl
theorem ce_2 {g : GG} {c : CS} {x : Nat} (h : wJ c 0 x = 2) : cent g c x = some (.inr (5, [rv (wJ c 80 x), .int (wI c 81 x), .int (wI c 82 x), .int (wI c 83 x)])) := by
  unfold cent
  rw [h]
  rfl
theorem ce_3 {g : GG} {c : CS} {x : Nat} (h : wJ c 0 x = 3) : cent g c x = some (.inr (1, [rv (wJ c 120 x), rv (wJ c 121 x), .int (wI c 122 x), .int (wI c 123 x), .int (wI c 124 x), .int (wI c 125 x), .int (wI c 126 x), .long (wL c 127 x)])) := by
  unfold cent
  rw [h]
  rfl
theorem ce_4 {g : GG} {c : CS} {x : Nat} (h : wJ c 0 x = 4) : cent g c x = some (.inr (4, [.int (wI c 160 x), .int (wI c 161 x), .int (wI c 162 x)])) := by
  unfold cent
  rw [h]
  rfl
theorem ce_5 {g : GG} {c : CS} {x : Nat} (h : wJ c 0 x = 5) : cent g c x = some (.inr (3, [.int (wI c 200 x), rv (wJ c 201 x), rv (wJ c 202 x)])) := by
  unfold cent
  rw [h]
  rfl
theorem ce_6 {g : GG} {c : CS} {x : Nat} (h : wJ c 0 x = 6) : cent g c x = some (.inr (6, [rv (wJ c 240 x), rv (wJ c 241 x), rv (wJ c 242 x), rv (wJ c 243 x), rv (wJ c 244 x), .int (wI c 245 x), .int (wI c 246 x), .int (wI c 247 x)])) := by
  unfold cent
  rw [h]
  rfl
theorem ce_7 {g : GG} {c : CS} {x : Nat} (h : wJ c 0 x = 7) : cent g c x = some (.inr (0, [.int (wI c 280 x), rv (wJ c 281 x), .int (wI c 282 x)])) := by
  unfold cent
  rw [h]
  rfl
theorem rv_nar_o (C : String) (x : Nat) : narrow (.object C) (rv x) = rv x := by
  unfold rv ro
  split <;> rfl
theorem rv_nar_a (t : FieldType) (x : Nat) : narrow (.array t) (rv x) = rv x := by
  unfold rv ro
  split <;> rfl
theorem rv_fit_o (C : String) (x : Nat) : fits (.object C) (rv x) = true := by
  unfold rv ro
  split <;> rfl
theorem rv_fit_a (t : FieldType) (x : Nat) : fits (.array t) (rv x) = true := by
  unfold rv ro
  split <;> rfl
theorem isB_nar {v : Int32} (h : isB v) : narrow .boolean (.int v) = .int v := by rcases h with rfl | rfl <;> rfl
theorem isB_fit {v : Int32} (h : isB v) : fits .boolean (.int v) = true := by rcases h with rfl | rfl <;> rfl
theorem p_1_0 (hX : MX g own p s m args c0 cc nL Ts meth ret) (hw : wH g z T H locs) {x index : Nat} {v : Int32} (hk : wJ T.1 0 x = 1) (hin2 : meth.name = "<init>") (hown : own = RX2) (hin : ∀ w ∈ wsX20, w ∈ Ts) (hl : Cond.fieldLink own index "TabStore$Row" "key" "I" ∈ Ts) (hdg : decode cc pc = .ok (.putfield index, 3))
    (kk : ∀ (H1 : Heap) (locs1 : List Loc), wH g z (sI T.1 40 x v, T.2) H1 locs1 → W p l e R s m args below meth c0 H1 locs1 cells slots Q (F0 m (pc + 3) ls rest)) : W p l e R s m args below meth c0 H locs cells slots Q (F0 m pc ls (.int v :: rv x :: rest)) := by
  refine c_pfF (C := RX2) (TT := TX2) (N := 4) (ty := .int) hX hw (ce_1 hk) (by rw [hk]; decide) rfl tyX2_ok nmX2 0 hin (by decide) hl (fun _ h9 => h9) rfl hin2 hown.symm (by decide +kernel) rfl rfl (Nat.le_of_ble_eq_true rfl) ?_ (eqx_sI _ _ _ _) hdg kk
  rw [ce_1 (show wJ (sI T.1 40 x v) 0 x = 1 from by simpa [wJ, sI, u2] using hk)]
  simp [wI, wJ, wL, sI, u2]
theorem p_1_1 (hX : MX g own p s m args c0 cc nL Ts meth ret) (hw : wH g z T H locs) {x index : Nat} {v : Int32} (hk : wJ T.1 0 x = 1) (hin2 : meth.name = "<init>") (hown : own = RX2) (hin : ∀ w ∈ wsX20, w ∈ Ts) (hl : Cond.fieldLink own index "TabStore$Row" "content" "I" ∈ Ts) (hdg : decode cc pc = .ok (.putfield index, 3))
    (kk : ∀ (H1 : Heap) (locs1 : List Loc), wH g z (sI T.1 41 x v, T.2) H1 locs1 → W p l e R s m args below meth c0 H1 locs1 cells slots Q (F0 m (pc + 3) ls rest)) : W p l e R s m args below meth c0 H locs cells slots Q (F0 m pc ls (.int v :: rv x :: rest)) := by
  refine c_pfF (C := RX2) (TT := TX2) (N := 4) (ty := .int) hX hw (ce_1 hk) (by rw [hk]; decide) rfl tyX2_ok nmX2 1 hin (by decide) hl (fun _ h9 => h9) rfl hin2 hown.symm (by decide +kernel) rfl rfl (Nat.le_of_ble_eq_true rfl) ?_ (eqx_sI _ _ _ _) hdg kk
  rw [ce_1 (show wJ (sI T.1 41 x v) 0 x = 1 from by simpa [wJ, sI, u2] using hk)]
  simp [wI, wJ, wL, sI, u2]
theorem p_1_2 (hX : MX g own p s m args c0 cc nL Ts meth ret) (hw : wH g z T H locs) {x index : Nat} {v : Int32} (hk : wJ T.1 0 x = 1) (hin2 : meth.name = "<init>") (hown : own = RX2) (hin : ∀ w ∈ wsX20, w ∈ Ts) (hl : Cond.fieldLink own index "TabStore$Row" "first" "I" ∈ Ts) (hdg : decode cc pc = .ok (.putfield index, 3))
    (kk : ∀ (H1 : Heap) (locs1 : List Loc), wH g z (sI T.1 42 x v, T.2) H1 locs1 → W p l e R s m args below meth c0 H1 locs1 cells slots Q (F0 m (pc + 3) ls rest)) : W p l e R s m args below meth c0 H locs cells slots Q (F0 m pc ls (.int v :: rv x :: rest)) := by
  refine c_pfF (C := RX2) (TT := TX2) (N := 4) (ty := .int) hX hw (ce_1 hk) (by rw [hk]; decide) rfl tyX2_ok nmX2 2 hin (by decide) hl (fun _ h9 => h9) rfl hin2 hown.symm (by decide +kernel) rfl rfl (Nat.le_of_ble_eq_true rfl) ?_ (eqx_sI _ _ _ _) hdg kk
  rw [ce_1 (show wJ (sI T.1 42 x v) 0 x = 1 from by simpa [wJ, sI, u2] using hk)]
  simp [wI, wJ, wL, sI, u2]
theorem p_1_3 (hX : MX g own p s m args c0 cc nL Ts meth ret) (hw : wH g z T H locs) {x index : Nat} {v : Int32} (hk : wJ T.1 0 x = 1) (hin2 : meth.name = "<init>") (hown : own = RX2) (hin : ∀ w ∈ wsX20, w ∈ Ts) (hl : Cond.fieldLink own index "TabStore$Row" "second" "I" ∈ Ts) (hdg : decode cc pc = .ok (.putfield index, 3))
    (kk : ∀ (H1 : Heap) (locs1 : List Loc), wH g z (sI T.1 43 x v, T.2) H1 locs1 → W p l e R s m args below meth c0 H1 locs1 cells slots Q (F0 m (pc + 3) ls rest)) : W p l e R s m args below meth c0 H locs cells slots Q (F0 m pc ls (.int v :: rv x :: rest)) := by
  refine c_pfF (C := RX2) (TT := TX2) (N := 4) (ty := .int) hX hw (ce_1 hk) (by rw [hk]; decide) rfl tyX2_ok nmX2 3 hin (by decide) hl (fun _ h9 => h9) rfl hin2 hown.symm (by decide +kernel) rfl rfl (Nat.le_of_ble_eq_true rfl) ?_ (eqx_sI _ _ _ _) hdg kk
  rw [ce_1 (show wJ (sI T.1 43 x v) 0 x = 1 from by simpa [wJ, sI, u2] using hk)]
  simp [wI, wJ, wL, sI, u2]
theorem p_2_0 (hX : MX g own p s m args c0 cc nL Ts meth ret) (hw : wH g z T H locs) {x index : Nat} {v : Nat} (hk : wJ T.1 0 x = 2) (hin2 : meth.name = "<init>") (hown : own = RX5) (hin : ∀ w ∈ wsX50, w ∈ Ts) (hl : Cond.fieldLink own index "TabStore$Transaction" "tab" "LTabStore$Tab;" ∈ Ts) (hdg : decode cc pc = .ok (.putfield index, 3))
    (kk : ∀ (H1 : Heap) (locs1 : List Loc), wH g z (sJ T.1 80 x v, T.2) H1 locs1 → W p l e R s m args below meth c0 H1 locs1 cells slots Q (F0 m (pc + 3) ls rest)) : W p l e R s m args below meth c0 H locs cells slots Q (F0 m pc ls (rv v :: rv x :: rest)) := by
  refine c_pfF (C := RX5) (TT := TX5) (N := 4) (ty := (.object "TabStore$Tab")) hX hw (ce_2 hk) (by rw [hk]; decide) rfl tyX5_ok nmX5 0 hin (by decide) hl (fun _ h9 => h9) rfl hin2 hown.symm (by decide +kernel) (rv_nar_o _ _) (rv_fit_o _ _) (Nat.le_of_ble_eq_true rfl) ?_ (eqx_sJ _ _ _ _ (by decide)) hdg kk
  rw [ce_2 (show wJ (sJ T.1 80 x v) 0 x = 2 from by simpa [wJ, sJ, u2] using hk)]
  simp [wI, wJ, wL, sJ, u2]
theorem p_2_1 (hX : MX g own p s m args c0 cc nL Ts meth ret) (hw : wH g z T H locs) {x index : Nat} {v : Int32} (hk : wJ T.1 0 x = 2) (hz : isB v) (hin2 : meth.name = "<init>") (hown : own = RX5) (hin : ∀ w ∈ wsX50, w ∈ Ts) (hl : Cond.fieldLink own index "TabStore$Transaction" "writes" "Z" ∈ Ts) (hdg : decode cc pc = .ok (.putfield index, 3))
    (kk : ∀ (H1 : Heap) (locs1 : List Loc), wH g z (sI T.1 81 x v, T.2) H1 locs1 → W p l e R s m args below meth c0 H1 locs1 cells slots Q (F0 m (pc + 3) ls rest)) : W p l e R s m args below meth c0 H locs cells slots Q (F0 m pc ls (.int v :: rv x :: rest)) := by
  refine c_pfF (C := RX5) (TT := TX5) (N := 4) (ty := .boolean) hX hw (ce_2 hk) (by rw [hk]; decide) rfl tyX5_ok nmX5 1 hin (by decide) hl (fun _ h9 => h9) rfl hin2 hown.symm (by decide +kernel) (isB_nar hz) (isB_fit hz) (Nat.le_of_ble_eq_true rfl) ?_ (eqx_sI _ _ _ _) hdg kk
  rw [ce_2 (show wJ (sI T.1 81 x v) 0 x = 2 from by simpa [wJ, sI, u2] using hk)]
  simp [wI, wJ, wL, sI, u2]
theorem p_2_2 (hX : MX g own p s m args c0 cc nL Ts meth ret) (hw : wH g z T H locs) {x index : Nat} {v : Int32} (hk : wJ T.1 0 x = 2) (hin2 : meth.name = "<init>") (hown : own = RX5) (hin : ∀ w ∈ wsX50, w ∈ Ts) (hl : Cond.fieldLink own index "TabStore$Transaction" "scope" "I" ∈ Ts) (hdg : decode cc pc = .ok (.putfield index, 3))
    (kk : ∀ (H1 : Heap) (locs1 : List Loc), wH g z (sI T.1 82 x v, T.2) H1 locs1 → W p l e R s m args below meth c0 H1 locs1 cells slots Q (F0 m (pc + 3) ls rest)) : W p l e R s m args below meth c0 H locs cells slots Q (F0 m pc ls (.int v :: rv x :: rest)) := by
  refine c_pfF (C := RX5) (TT := TX5) (N := 4) (ty := .int) hX hw (ce_2 hk) (by rw [hk]; decide) rfl tyX5_ok nmX5 2 hin (by decide) hl (fun _ h9 => h9) rfl hin2 hown.symm (by decide +kernel) rfl rfl (Nat.le_of_ble_eq_true rfl) ?_ (eqx_sI _ _ _ _) hdg kk
  rw [ce_2 (show wJ (sI T.1 82 x v) 0 x = 2 from by simpa [wJ, sI, u2] using hk)]
  simp [wI, wJ, wL, sI, u2]
theorem p_2_3 (hX : MX g own p s m args c0 cc nL Ts meth ret) (hw : wH g z T H locs) {x index : Nat} {v : Int32} (hk : wJ T.1 0 x = 2) (hin : ∀ w ∈ wsX50, w ∈ Ts) (hl : Cond.fieldLink own index "TabStore$Transaction" "phase" "I" ∈ Ts) (hdg : decode cc pc = .ok (.putfield index, 3))
    (kk : ∀ (H1 : Heap) (locs1 : List Loc), wH g z (sI T.1 83 x v, T.2) H1 locs1 → W p l e R s m args below meth c0 H1 locs1 cells slots Q (F0 m (pc + 3) ls rest)) : W p l e R s m args below meth c0 H locs cells slots Q (F0 m pc ls (.int v :: rv x :: rest)) := by
  refine c_pf (C := RX5) (TT := TX5) (N := 4) (ty := .int) hX hw (ce_2 hk) (by rw [hk]; decide) rfl tyX5_ok nmX5 3 hin (by decide) hl (fun _ h9 => h9) rfl (by decide +kernel) rfl rfl (Nat.le_of_ble_eq_true rfl) ?_ (eqx_sI _ _ _ _) hdg kk
  rw [ce_2 (show wJ (sI T.1 83 x v) 0 x = 2 from by simpa [wJ, sI, u2] using hk)]
  simp [wI, wJ, wL, sI, u2]
theorem p_3_0 (hX : MX g own p s m args c0 cc nL Ts meth ret) (hw : wH g z T H locs) {x index : Nat} {v : Nat} (hk : wJ T.1 0 x = 3) (hin2 : meth.name = "<init>") (hown : own = RX0) (hin : ∀ w ∈ wsX00, w ∈ Ts) (hl : Cond.fieldLink own index "TabStore$Cursor" "transaction" "LTabStore$Transaction;" ∈ Ts) (hdg : decode cc pc = .ok (.putfield index, 3))
    (kk : ∀ (H1 : Heap) (locs1 : List Loc), wH g z (sJ T.1 120 x v, T.2) H1 locs1 → W p l e R s m args below meth c0 H1 locs1 cells slots Q (F0 m (pc + 3) ls rest)) : W p l e R s m args below meth c0 H locs cells slots Q (F0 m pc ls (rv v :: rv x :: rest)) := by
  refine c_pfF (C := RX0) (TT := TX0) (N := 8) (ty := (.object "TabStore$Transaction")) hX hw (ce_3 hk) (by rw [hk]; decide) rfl tyX0_ok nmX0 0 hin (by decide) hl (fun _ h9 => h9) rfl hin2 hown.symm (by decide +kernel) (rv_nar_o _ _) (rv_fit_o _ _) (Nat.le_of_ble_eq_true rfl) ?_ (eqx_sJ _ _ _ _ (by decide)) hdg kk
  rw [ce_3 (show wJ (sJ T.1 120 x v) 0 x = 3 from by simpa [wJ, sJ, u2] using hk)]
  simp [wI, wJ, wL, sJ, u2]
theorem p_3_1 (hX : MX g own p s m args c0 cc nL Ts meth ret) (hw : wH g z T H locs) {x index : Nat} {v : Nat} (hk : wJ T.1 0 x = 3) (hin2 : meth.name = "<init>") (hown : own = RX0) (hin : ∀ w ∈ wsX00, w ∈ Ts) (hl : Cond.fieldLink own index "TabStore$Cursor" "store" "LTabStore$Store;" ∈ Ts) (hdg : decode cc pc = .ok (.putfield index, 3))
    (kk : ∀ (H1 : Heap) (locs1 : List Loc), wH g z (sJ T.1 121 x v, T.2) H1 locs1 → W p l e R s m args below meth c0 H1 locs1 cells slots Q (F0 m (pc + 3) ls rest)) : W p l e R s m args below meth c0 H locs cells slots Q (F0 m pc ls (rv v :: rv x :: rest)) := by
  refine c_pfF (C := RX0) (TT := TX0) (N := 8) (ty := (.object "TabStore$Store")) hX hw (ce_3 hk) (by rw [hk]; decide) rfl tyX0_ok nmX0 1 hin (by decide) hl (fun _ h9 => h9) rfl hin2 hown.symm (by decide +kernel) (rv_nar_o _ _) (rv_fit_o _ _) (Nat.le_of_ble_eq_true rfl) ?_ (eqx_sJ _ _ _ _ (by decide)) hdg kk
  rw [ce_3 (show wJ (sJ T.1 121 x v) 0 x = 3 from by simpa [wJ, sJ, u2] using hk)]
  simp [wI, wJ, wL, sJ, u2]
theorem p_3_2 (hX : MX g own p s m args c0 cc nL Ts meth ret) (hw : wH g z T H locs) {x index : Nat} {v : Int32} (hk : wJ T.1 0 x = 3) (hin2 : meth.name = "<init>") (hown : own = RX0) (hin : ∀ w ∈ wsX00, w ∈ Ts) (hl : Cond.fieldLink own index "TabStore$Cursor" "field" "I" ∈ Ts) (hdg : decode cc pc = .ok (.putfield index, 3))
    (kk : ∀ (H1 : Heap) (locs1 : List Loc), wH g z (sI T.1 122 x v, T.2) H1 locs1 → W p l e R s m args below meth c0 H1 locs1 cells slots Q (F0 m (pc + 3) ls rest)) : W p l e R s m args below meth c0 H locs cells slots Q (F0 m pc ls (.int v :: rv x :: rest)) := by
  refine c_pfF (C := RX0) (TT := TX0) (N := 8) (ty := .int) hX hw (ce_3 hk) (by rw [hk]; decide) rfl tyX0_ok nmX0 2 hin (by decide) hl (fun _ h9 => h9) rfl hin2 hown.symm (by decide +kernel) rfl rfl (Nat.le_of_ble_eq_true rfl) ?_ (eqx_sI _ _ _ _) hdg kk
  rw [ce_3 (show wJ (sI T.1 122 x v) 0 x = 3 from by simpa [wJ, sI, u2] using hk)]
  simp [wI, wJ, wL, sI, u2]
theorem p_3_3 (hX : MX g own p s m args c0 cc nL Ts meth ret) (hw : wH g z T H locs) {x index : Nat} {v : Int32} (hk : wJ T.1 0 x = 3) (hz : isB v) (hin2 : meth.name = "<init>") (hown : own = RX0) (hin : ∀ w ∈ wsX00, w ∈ Ts) (hl : Cond.fieldLink own index "TabStore$Cursor" "isBackward" "Z" ∈ Ts) (hdg : decode cc pc = .ok (.putfield index, 3))
    (kk : ∀ (H1 : Heap) (locs1 : List Loc), wH g z (sI T.1 123 x v, T.2) H1 locs1 → W p l e R s m args below meth c0 H1 locs1 cells slots Q (F0 m (pc + 3) ls rest)) : W p l e R s m args below meth c0 H locs cells slots Q (F0 m pc ls (.int v :: rv x :: rest)) := by
  refine c_pfF (C := RX0) (TT := TX0) (N := 8) (ty := .boolean) hX hw (ce_3 hk) (by rw [hk]; decide) rfl tyX0_ok nmX0 3 hin (by decide) hl (fun _ h9 => h9) rfl hin2 hown.symm (by decide +kernel) (isB_nar hz) (isB_fit hz) (Nat.le_of_ble_eq_true rfl) ?_ (eqx_sI _ _ _ _) hdg kk
  rw [ce_3 (show wJ (sI T.1 123 x v) 0 x = 3 from by simpa [wJ, sI, u2] using hk)]
  simp [wI, wJ, wL, sI, u2]
theorem p_3_4 (hX : MX g own p s m args c0 cc nL Ts meth ret) (hw : wH g z T H locs) {x index : Nat} {v : Int32} (hk : wJ T.1 0 x = 3) (hz : isB v) (hin2 : meth.name = "<init>") (hown : own = RX0) (hin : ∀ w ∈ wsX00, w ∈ Ts) (hl : Cond.fieldLink own index "TabStore$Cursor" "skipsDoubles" "Z" ∈ Ts) (hdg : decode cc pc = .ok (.putfield index, 3))
    (kk : ∀ (H1 : Heap) (locs1 : List Loc), wH g z (sI T.1 124 x v, T.2) H1 locs1 → W p l e R s m args below meth c0 H1 locs1 cells slots Q (F0 m (pc + 3) ls rest)) : W p l e R s m args below meth c0 H locs cells slots Q (F0 m pc ls (.int v :: rv x :: rest)) := by
  refine c_pfF (C := RX0) (TT := TX0) (N := 8) (ty := .boolean) hX hw (ce_3 hk) (by rw [hk]; decide) rfl tyX0_ok nmX0 4 hin (by decide) hl (fun _ h9 => h9) rfl hin2 hown.symm (by decide +kernel) (isB_nar hz) (isB_fit hz) (Nat.le_of_ble_eq_true rfl) ?_ (eqx_sI _ _ _ _) hdg kk
  rw [ce_3 (show wJ (sI T.1 124 x v) 0 x = 3 from by simpa [wJ, sI, u2] using hk)]
  simp [wI, wJ, wL, sI, u2]
theorem p_3_5 (hX : MX g own p s m args c0 cc nL Ts meth ret) (hw : wH g z T H locs) {x index : Nat} {v : Int32} (hk : wJ T.1 0 x = 3) (hin : ∀ w ∈ wsX00, w ∈ Ts) (hl : Cond.fieldLink own index "TabStore$Cursor" "phase" "I" ∈ Ts) (hdg : decode cc pc = .ok (.putfield index, 3))
    (kk : ∀ (H1 : Heap) (locs1 : List Loc), wH g z (sI T.1 125 x v, T.2) H1 locs1 → W p l e R s m args below meth c0 H1 locs1 cells slots Q (F0 m (pc + 3) ls rest)) : W p l e R s m args below meth c0 H locs cells slots Q (F0 m pc ls (.int v :: rv x :: rest)) := by
  refine c_pf (C := RX0) (TT := TX0) (N := 8) (ty := .int) hX hw (ce_3 hk) (by rw [hk]; decide) rfl tyX0_ok nmX0 5 hin (by decide) hl (fun _ h9 => h9) rfl (by decide +kernel) rfl rfl (Nat.le_of_ble_eq_true rfl) ?_ (eqx_sI _ _ _ _) hdg kk
  rw [ce_3 (show wJ (sI T.1 125 x v) 0 x = 3 from by simpa [wJ, sI, u2] using hk)]
  simp [wI, wJ, wL, sI, u2]
theorem p_3_6 (hX : MX g own p s m args c0 cc nL Ts meth ret) (hw : wH g z T H locs) {x index : Nat} {v : Int32} (hk : wJ T.1 0 x = 3) (hin : ∀ w ∈ wsX00, w ∈ Ts) (hl : Cond.fieldLink own index "TabStore$Cursor" "key" "I" ∈ Ts) (hdg : decode cc pc = .ok (.putfield index, 3))
    (kk : ∀ (H1 : Heap) (locs1 : List Loc), wH g z (sI T.1 126 x v, T.2) H1 locs1 → W p l e R s m args below meth c0 H1 locs1 cells slots Q (F0 m (pc + 3) ls rest)) : W p l e R s m args below meth c0 H locs cells slots Q (F0 m pc ls (.int v :: rv x :: rest)) := by
  refine c_pf (C := RX0) (TT := TX0) (N := 8) (ty := .int) hX hw (ce_3 hk) (by rw [hk]; decide) rfl tyX0_ok nmX0 6 hin (by decide) hl (fun _ h9 => h9) rfl (by decide +kernel) rfl rfl (Nat.le_of_ble_eq_true rfl) ?_ (eqx_sI _ _ _ _) hdg kk
  rw [ce_3 (show wJ (sI T.1 126 x v) 0 x = 3 from by simpa [wJ, sI, u2] using hk)]
  simp [wI, wJ, wL, sI, u2]
theorem p_3_7 (hX : MX g own p s m args c0 cc nL Ts meth ret) (hw : wH g z T H locs) {x index : Nat} {v : Int64} (hk : wJ T.1 0 x = 3) (hin : ∀ w ∈ wsX00, w ∈ Ts) (hl : Cond.fieldLink own index "TabStore$Cursor" "place" "J" ∈ Ts) (hdg : decode cc pc = .ok (.putfield index, 3))
    (kk : ∀ (H1 : Heap) (locs1 : List Loc), wH g z (sL T.1 127 x v, T.2) H1 locs1 → W p l e R s m args below meth c0 H1 locs1 cells slots Q (F0 m (pc + 3) ls rest)) : W p l e R s m args below meth c0 H locs cells slots Q (F0 m pc ls (.long v :: rv x :: rest)) := by
  refine c_pf (C := RX0) (TT := TX0) (N := 8) (ty := .long) hX hw (ce_3 hk) (by rw [hk]; decide) rfl tyX0_ok nmX0 7 hin (by decide) hl (fun _ h9 => h9) rfl (by decide +kernel) rfl rfl (Nat.le_of_ble_eq_true rfl) ?_ (eqx_sL _ _ _ _) hdg kk
  rw [ce_3 (show wJ (sL T.1 127 x v) 0 x = 3 from by simpa [wJ, sL, u2] using hk)]
  simp [wI, wJ, wL, sL, u2]
theorem p_4_0 (hX : MX g own p s m args c0 cc nL Ts meth ret) (hw : wH g z T H locs) {x index : Nat} {v : Int32} (hk : wJ T.1 0 x = 4) (hin : ∀ w ∈ wsX40, w ∈ Ts) (hl : Cond.fieldLink own index "TabStore$Tab" "condition" "I" ∈ Ts) (hdg : decode cc pc = .ok (.putfield index, 3))
    (kk : ∀ (H1 : Heap) (locs1 : List Loc), wH g z (sI T.1 160 x v, T.2) H1 locs1 → W p l e R s m args below meth c0 H1 locs1 cells slots Q (F0 m (pc + 3) ls rest)) : W p l e R s m args below meth c0 H locs cells slots Q (F0 m pc ls (.int v :: rv x :: rest)) := by
  refine c_pf (C := RX4) (TT := TX4) (N := 3) (ty := .int) hX hw (ce_4 hk) (by rw [hk]; decide) rfl tyX4_ok nmX4 0 hin (by decide) hl (fun _ h9 => h9) rfl (by decide +kernel) rfl rfl (Nat.le_of_ble_eq_true rfl) ?_ (eqx_sI _ _ _ _) hdg kk
  rw [ce_4 (show wJ (sI T.1 160 x v) 0 x = 4 from by simpa [wJ, sI, u2] using hk)]
  simp [wI, wJ, wL, sI, u2]
theorem p_4_1 (hX : MX g own p s m args c0 cc nL Ts meth ret) (hw : wH g z T H locs) {x index : Nat} {v : Int32} (hk : wJ T.1 0 x = 4) (hin : ∀ w ∈ wsX40, w ∈ Ts) (hl : Cond.fieldLink own index "TabStore$Tab" "wanted" "I" ∈ Ts) (hdg : decode cc pc = .ok (.putfield index, 3))
    (kk : ∀ (H1 : Heap) (locs1 : List Loc), wH g z (sI T.1 161 x v, T.2) H1 locs1 → W p l e R s m args below meth c0 H1 locs1 cells slots Q (F0 m (pc + 3) ls rest)) : W p l e R s m args below meth c0 H locs cells slots Q (F0 m pc ls (.int v :: rv x :: rest)) := by
  refine c_pf (C := RX4) (TT := TX4) (N := 3) (ty := .int) hX hw (ce_4 hk) (by rw [hk]; decide) rfl tyX4_ok nmX4 1 hin (by decide) hl (fun _ h9 => h9) rfl (by decide +kernel) rfl rfl (Nat.le_of_ble_eq_true rfl) ?_ (eqx_sI _ _ _ _) hdg kk
  rw [ce_4 (show wJ (sI T.1 161 x v) 0 x = 4 from by simpa [wJ, sI, u2] using hk)]
  simp [wI, wJ, wL, sI, u2]
theorem p_4_2 (hX : MX g own p s m args c0 cc nL Ts meth ret) (hw : wH g z T H locs) {x index : Nat} {v : Int32} (hk : wJ T.1 0 x = 4) (hin : ∀ w ∈ wsX40, w ∈ Ts) (hl : Cond.fieldLink own index "TabStore$Tab" "turn" "I" ∈ Ts) (hdg : decode cc pc = .ok (.putfield index, 3))
    (kk : ∀ (H1 : Heap) (locs1 : List Loc), wH g z (sI T.1 162 x v, T.2) H1 locs1 → W p l e R s m args below meth c0 H1 locs1 cells slots Q (F0 m (pc + 3) ls rest)) : W p l e R s m args below meth c0 H locs cells slots Q (F0 m pc ls (.int v :: rv x :: rest)) := by
  refine c_pf (C := RX4) (TT := TX4) (N := 3) (ty := .int) hX hw (ce_4 hk) (by rw [hk]; decide) rfl tyX4_ok nmX4 2 hin (by decide) hl (fun _ h9 => h9) rfl (by decide +kernel) rfl rfl (Nat.le_of_ble_eq_true rfl) ?_ (eqx_sI _ _ _ _) hdg kk
  rw [ce_4 (show wJ (sI T.1 162 x v) 0 x = 4 from by simpa [wJ, sI, u2] using hk)]
  simp [wI, wJ, wL, sI, u2]
theorem p_5_0 (hX : MX g own p s m args c0 cc nL Ts meth ret) (hw : wH g z T H locs) {x index : Nat} {v : Int32} (hk : wJ T.1 0 x = 5) (hz : isB v) (hin : ∀ w ∈ wsX30, w ∈ Ts) (hl : Cond.fieldLink own index "TabStore$Store" "isThere" "Z" ∈ Ts) (hdg : decode cc pc = .ok (.putfield index, 3))
    (kk : ∀ (H1 : Heap) (locs1 : List Loc), wH g z (sI T.1 200 x v, T.2) H1 locs1 → W p l e R s m args below meth c0 H1 locs1 cells slots Q (F0 m (pc + 3) ls rest)) : W p l e R s m args below meth c0 H locs cells slots Q (F0 m pc ls (.int v :: rv x :: rest)) := by
  refine c_pf (C := RX3) (TT := TX3) (N := 3) (ty := .boolean) hX hw (ce_5 hk) (by rw [hk]; decide) rfl tyX3_ok nmX3 0 hin (by decide) hl (fun _ h9 => h9) rfl (by decide +kernel) (isB_nar hz) (isB_fit hz) (Nat.le_of_ble_eq_true rfl) ?_ (eqx_sI _ _ _ _) hdg kk
  rw [ce_5 (show wJ (sI T.1 200 x v) 0 x = 5 from by simpa [wJ, sI, u2] using hk)]
  simp [wI, wJ, wL, sI, u2]
theorem p_5_1 (hX : MX g own p s m args c0 cc nL Ts meth ret) (hw : wH g z T H locs) {x index : Nat} {v : Nat} (hk : wJ T.1 0 x = 5) (hin2 : meth.name = "<init>") (hown : own = RX3) (hin : ∀ w ∈ wsX30, w ∈ Ts) (hl : Cond.fieldLink own index "TabStore$Store" "indexes" "[I" ∈ Ts) (hdg : decode cc pc = .ok (.putfield index, 3))
    (kk : ∀ (H1 : Heap) (locs1 : List Loc), wH g z (sJ T.1 201 x v, T.2) H1 locs1 → W p l e R s m args below meth c0 H1 locs1 cells slots Q (F0 m (pc + 3) ls rest)) : W p l e R s m args below meth c0 H locs cells slots Q (F0 m pc ls (rv v :: rv x :: rest)) := by
  refine c_pfF (C := RX3) (TT := TX3) (N := 3) (ty := (.array .int)) hX hw (ce_5 hk) (by rw [hk]; decide) rfl tyX3_ok nmX3 1 hin (by decide) hl (fun _ h9 => h9) rfl hin2 hown.symm (by decide +kernel) (rv_nar_a _ _) (rv_fit_a _ _) (Nat.le_of_ble_eq_true rfl) ?_ (eqx_sJ _ _ _ _ (by decide)) hdg kk
  rw [ce_5 (show wJ (sJ T.1 201 x v) 0 x = 5 from by simpa [wJ, sJ, u2] using hk)]
  simp [wI, wJ, wL, sJ, u2]
theorem p_5_2 (hX : MX g own p s m args c0 cc nL Ts meth ret) (hw : wH g z T H locs) {x index : Nat} {v : Nat} (hk : wJ T.1 0 x = 5) (hin2 : meth.name = "<init>") (hown : own = RX3) (hin : ∀ w ∈ wsX30, w ∈ Ts) (hl : Cond.fieldLink own index "TabStore$Store" "rows" "Ljava/util/List;" ∈ Ts) (hdg : decode cc pc = .ok (.putfield index, 3))
    (kk : ∀ (H1 : Heap) (locs1 : List Loc), wH g z (sJ T.1 202 x v, T.2) H1 locs1 → W p l e R s m args below meth c0 H1 locs1 cells slots Q (F0 m (pc + 3) ls rest)) : W p l e R s m args below meth c0 H locs cells slots Q (F0 m pc ls (rv v :: rv x :: rest)) := by
  refine c_pfF (C := RX3) (TT := TX3) (N := 3) (ty := (.object "java/util/List")) hX hw (ce_5 hk) (by rw [hk]; decide) rfl tyX3_ok nmX3 2 hin (by decide) hl (fun _ h9 => h9) rfl hin2 hown.symm (by decide +kernel) (rv_nar_o _ _) (rv_fit_o _ _) (Nat.le_of_ble_eq_true rfl) ?_ (eqx_sJ _ _ _ _ (by decide)) hdg kk
  rw [ce_5 (show wJ (sJ T.1 202 x v) 0 x = 5 from by simpa [wJ, sJ, u2] using hk)]
  simp [wI, wJ, wL, sJ, u2]
theorem p_6_0 (hX : MX g own p s m args c0 cc nL Ts meth ret) (hw : wH g z T H locs) {x index : Nat} {v : Nat} (hk : wJ T.1 0 x = 6) (hin2 : meth.name = "<init>") (hown : own = RX6) (hin : ∀ w ∈ wsX60, w ∈ Ts) (hl : Cond.fieldLink own index "TabStore" "tabs" "[LTabStore$Tab;" ∈ Ts) (hdg : decode cc pc = .ok (.putfield index, 3))
    (kk : ∀ (H1 : Heap) (locs1 : List Loc), wH g z (sJ T.1 240 x v, T.2) H1 locs1 → W p l e R s m args below meth c0 H1 locs1 cells slots Q (F0 m (pc + 3) ls rest)) : W p l e R s m args below meth c0 H locs cells slots Q (F0 m pc ls (rv v :: rv x :: rest)) := by
  refine c_pfF (C := RX6) (TT := TX6) (N := 8) (ty := (.array (.object "TabStore$Tab"))) hX hw (ce_6 hk) (by rw [hk]; decide) rfl tyX6_ok nmX6 0 hin (by decide) hl (fun _ h9 => h9) rfl hin2 hown.symm (by decide +kernel) (rv_nar_a _ _) (rv_fit_a _ _) (Nat.le_of_ble_eq_true rfl) ?_ (eqx_sJ _ _ _ _ (by decide)) hdg kk
  rw [ce_6 (show wJ (sJ T.1 240 x v) 0 x = 6 from by simpa [wJ, sJ, u2] using hk)]
  simp [wI, wJ, wL, sJ, u2]
theorem p_6_1 (hX : MX g own p s m args c0 cc nL Ts meth ret) (hw : wH g z T H locs) {x index : Nat} {v : Nat} (hk : wJ T.1 0 x = 6) (hin2 : meth.name = "<init>") (hown : own = RX6) (hin : ∀ w ∈ wsX60, w ∈ Ts) (hl : Cond.fieldLink own index "TabStore" "stores" "[LTabStore$Store;" ∈ Ts) (hdg : decode cc pc = .ok (.putfield index, 3))
    (kk : ∀ (H1 : Heap) (locs1 : List Loc), wH g z (sJ T.1 241 x v, T.2) H1 locs1 → W p l e R s m args below meth c0 H1 locs1 cells slots Q (F0 m (pc + 3) ls rest)) : W p l e R s m args below meth c0 H locs cells slots Q (F0 m pc ls (rv v :: rv x :: rest)) := by
  refine c_pfF (C := RX6) (TT := TX6) (N := 8) (ty := (.array (.object "TabStore$Store"))) hX hw (ce_6 hk) (by rw [hk]; decide) rfl tyX6_ok nmX6 1 hin (by decide) hl (fun _ h9 => h9) rfl hin2 hown.symm (by decide +kernel) (rv_nar_a _ _) (rv_fit_a _ _) (Nat.le_of_ble_eq_true rfl) ?_ (eqx_sJ _ _ _ _ (by decide)) hdg kk
  rw [ce_6 (show wJ (sJ T.1 241 x v) 0 x = 6 from by simpa [wJ, sJ, u2] using hk)]
  simp [wI, wJ, wL, sJ, u2]
theorem p_6_2 (hX : MX g own p s m args c0 cc nL Ts meth ret) (hw : wH g z T H locs) {x index : Nat} {v : Nat} (hk : wJ T.1 0 x = 6) (hin2 : meth.name = "<init>") (hown : own = RX6) (hin : ∀ w ∈ wsX60, w ∈ Ts) (hl : Cond.fieldLink own index "TabStore" "copies" "[LTabStore$Store;" ∈ Ts) (hdg : decode cc pc = .ok (.putfield index, 3))
    (kk : ∀ (H1 : Heap) (locs1 : List Loc), wH g z (sJ T.1 242 x v, T.2) H1 locs1 → W p l e R s m args below meth c0 H1 locs1 cells slots Q (F0 m (pc + 3) ls rest)) : W p l e R s m args below meth c0 H locs cells slots Q (F0 m pc ls (rv v :: rv x :: rest)) := by
  refine c_pfF (C := RX6) (TT := TX6) (N := 8) (ty := (.array (.object "TabStore$Store"))) hX hw (ce_6 hk) (by rw [hk]; decide) rfl tyX6_ok nmX6 2 hin (by decide) hl (fun _ h9 => h9) rfl hin2 hown.symm (by decide +kernel) (rv_nar_a _ _) (rv_fit_a _ _) (Nat.le_of_ble_eq_true rfl) ?_ (eqx_sJ _ _ _ _ (by decide)) hdg kk
  rw [ce_6 (show wJ (sJ T.1 242 x v) 0 x = 6 from by simpa [wJ, sJ, u2] using hk)]
  simp [wI, wJ, wL, sJ, u2]
theorem p_6_3 (hX : MX g own p s m args c0 cc nL Ts meth ret) (hw : wH g z T H locs) {x index : Nat} {v : Nat} (hk : wJ T.1 0 x = 6) (hin2 : meth.name = "<init>") (hown : own = RX6) (hin : ∀ w ∈ wsX60, w ∈ Ts) (hl : Cond.fieldLink own index "TabStore" "transactions" "Ljava/util/List;" ∈ Ts) (hdg : decode cc pc = .ok (.putfield index, 3))
    (kk : ∀ (H1 : Heap) (locs1 : List Loc), wH g z (sJ T.1 243 x v, T.2) H1 locs1 → W p l e R s m args below meth c0 H1 locs1 cells slots Q (F0 m (pc + 3) ls rest)) : W p l e R s m args below meth c0 H locs cells slots Q (F0 m pc ls (rv v :: rv x :: rest)) := by
  refine c_pfF (C := RX6) (TT := TX6) (N := 8) (ty := (.object "java/util/List")) hX hw (ce_6 hk) (by rw [hk]; decide) rfl tyX6_ok nmX6 3 hin (by decide) hl (fun _ h9 => h9) rfl hin2 hown.symm (by decide +kernel) (rv_nar_o _ _) (rv_fit_o _ _) (Nat.le_of_ble_eq_true rfl) ?_ (eqx_sJ _ _ _ _ (by decide)) hdg kk
  rw [ce_6 (show wJ (sJ T.1 243 x v) 0 x = 6 from by simpa [wJ, sJ, u2] using hk)]
  simp [wI, wJ, wL, sJ, u2]
theorem p_6_4 (hX : MX g own p s m args c0 cc nL Ts meth ret) (hw : wH g z T H locs) {x index : Nat} {v : Nat} (hk : wJ T.1 0 x = 6) (hin2 : meth.name = "<init>") (hown : own = RX6) (hin : ∀ w ∈ wsX60, w ∈ Ts) (hl : Cond.fieldLink own index "TabStore" "cursors" "Ljava/util/List;" ∈ Ts) (hdg : decode cc pc = .ok (.putfield index, 3))
    (kk : ∀ (H1 : Heap) (locs1 : List Loc), wH g z (sJ T.1 244 x v, T.2) H1 locs1 → W p l e R s m args below meth c0 H1 locs1 cells slots Q (F0 m (pc + 3) ls rest)) : W p l e R s m args below meth c0 H locs cells slots Q (F0 m pc ls (rv v :: rv x :: rest)) := by
  refine c_pfF (C := RX6) (TT := TX6) (N := 8) (ty := (.object "java/util/List")) hX hw (ce_6 hk) (by rw [hk]; decide) rfl tyX6_ok nmX6 4 hin (by decide) hl (fun _ h9 => h9) rfl hin2 hown.symm (by decide +kernel) (rv_nar_o _ _) (rv_fit_o _ _) (Nat.le_of_ble_eq_true rfl) ?_ (eqx_sJ _ _ _ _ (by decide)) hdg kk
  rw [ce_6 (show wJ (sJ T.1 244 x v) 0 x = 6 from by simpa [wJ, sJ, u2] using hk)]
  simp [wI, wJ, wL, sJ, u2]
theorem p_6_5 (hX : MX g own p s m args c0 cc nL Ts meth ret) (hw : wH g z T H locs) {x index : Nat} {v : Int32} (hk : wJ T.1 0 x = 6) (hin : ∀ w ∈ wsX60, w ∈ Ts) (hl : Cond.fieldLink own index "TabStore" "databaseVersion" "I" ∈ Ts) (hdg : decode cc pc = .ok (.putfield index, 3))
    (kk : ∀ (H1 : Heap) (locs1 : List Loc), wH g z (sI T.1 245 x v, T.2) H1 locs1 → W p l e R s m args below meth c0 H1 locs1 cells slots Q (F0 m (pc + 3) ls rest)) : W p l e R s m args below meth c0 H locs cells slots Q (F0 m pc ls (.int v :: rv x :: rest)) := by
  refine c_pf (C := RX6) (TT := TX6) (N := 8) (ty := .int) hX hw (ce_6 hk) (by rw [hk]; decide) rfl tyX6_ok nmX6 5 hin (by decide) hl (fun _ h9 => h9) rfl (by decide +kernel) rfl rfl (Nat.le_of_ble_eq_true rfl) ?_ (eqx_sI _ _ _ _) hdg kk
  rw [ce_6 (show wJ (sI T.1 245 x v) 0 x = 6 from by simpa [wJ, sI, u2] using hk)]
  simp [wI, wJ, wL, sI, u2]
theorem p_6_6 (hX : MX g own p s m args c0 cc nL Ts meth ret) (hw : wH g z T H locs) {x index : Nat} {v : Int32} (hk : wJ T.1 0 x = 6) (hin : ∀ w ∈ wsX60, w ∈ Ts) (hl : Cond.fieldLink own index "TabStore" "runningUpgrade" "I" ∈ Ts) (hdg : decode cc pc = .ok (.putfield index, 3))
    (kk : ∀ (H1 : Heap) (locs1 : List Loc), wH g z (sI T.1 246 x v, T.2) H1 locs1 → W p l e R s m args below meth c0 H1 locs1 cells slots Q (F0 m (pc + 3) ls rest)) : W p l e R s m args below meth c0 H locs cells slots Q (F0 m pc ls (.int v :: rv x :: rest)) := by
  refine c_pf (C := RX6) (TT := TX6) (N := 8) (ty := .int) hX hw (ce_6 hk) (by rw [hk]; decide) rfl tyX6_ok nmX6 6 hin (by decide) hl (fun _ h9 => h9) rfl (by decide +kernel) rfl rfl (Nat.le_of_ble_eq_true rfl) ?_ (eqx_sI _ _ _ _) hdg kk
  rw [ce_6 (show wJ (sI T.1 246 x v) 0 x = 6 from by simpa [wJ, sI, u2] using hk)]
  simp [wI, wJ, wL, sI, u2]
theorem p_6_7 (hX : MX g own p s m args c0 cc nL Ts meth ret) (hw : wH g z T H locs) {x index : Nat} {v : Int32} (hk : wJ T.1 0 x = 6) (hin : ∀ w ∈ wsX60, w ∈ Ts) (hl : Cond.fieldLink own index "TabStore" "turns" "I" ∈ Ts) (hdg : decode cc pc = .ok (.putfield index, 3))
    (kk : ∀ (H1 : Heap) (locs1 : List Loc), wH g z (sI T.1 247 x v, T.2) H1 locs1 → W p l e R s m args below meth c0 H1 locs1 cells slots Q (F0 m (pc + 3) ls rest)) : W p l e R s m args below meth c0 H locs cells slots Q (F0 m pc ls (.int v :: rv x :: rest)) := by
  refine c_pf (C := RX6) (TT := TX6) (N := 8) (ty := .int) hX hw (ce_6 hk) (by rw [hk]; decide) rfl tyX6_ok nmX6 7 hin (by decide) hl (fun _ h9 => h9) rfl (by decide +kernel) rfl rfl (Nat.le_of_ble_eq_true rfl) ?_ (eqx_sI _ _ _ _) hdg kk
  rw [ce_6 (show wJ (sI T.1 247 x v) 0 x = 6 from by simpa [wJ, sI, u2] using hk)]
  simp [wI, wJ, wL, sI, u2]
theorem p_7_0 (hX : MX g own p s m args c0 cc nL Ts meth ret) (hw : wH g z T H locs) {x index : Nat} {v : Int32} (hk : wJ T.1 0 x = 7) (hsm : ∀ x, s.fieldFound? "java/util/AbstractList" "modCount" "I" = some x → s.fieldFound? "java/util/ArrayList" "modCount" "I" = some x) (hin : ∀ w ∈ wsJx4a65c0, w ∈ Ts) (hl : Cond.fieldLink own index "java/util/ArrayList" "modCount" "I" ∈ Ts) (hdg : decode cc pc = .ok (.putfield index, 3))
    (kk : ∀ (H1 : Heap) (locs1 : List Loc), wH g z (sI T.1 280 x v, T.2) H1 locs1 → W p l e R s m args below meth c0 H1 locs1 cells slots Q (F0 m (pc + 3) ls rest)) : W p l e R s m args below meth c0 H locs cells slots Q (F0 m pc ls (.int v :: rv x :: rest)) := by
  refine c_pf (C := RJx4a65c) (TT := TJx4a65c) (N := 3) (ty := .int) hX hw (ce_7 hk) (by rw [hk]; decide) rfl tyJx4a65c_ok nmJx4a65c 0 hin (by decide) hl hsm rfl (by decide +kernel) rfl rfl (Nat.le_of_ble_eq_true rfl) ?_ (eqx_sI _ _ _ _) hdg kk
  rw [ce_7 (show wJ (sI T.1 280 x v) 0 x = 7 from by simpa [wJ, sI, u2] using hk)]
  simp [wI, wJ, wL, sI, u2]
theorem p_7_1 (hX : MX g own p s m args c0 cc nL Ts meth ret) (hw : wH g z T H locs) {x index : Nat} {v : Nat} (hk : wJ T.1 0 x = 7) (hin : ∀ w ∈ wsJx4a65c0, w ∈ Ts) (hl : Cond.fieldLink own index "java/util/ArrayList" "elementData" "[Ljava/lang/Object;" ∈ Ts) (hdg : decode cc pc = .ok (.putfield index, 3))
    (kk : ∀ (H1 : Heap) (locs1 : List Loc), wH g z (sJ T.1 281 x v, T.2) H1 locs1 → W p l e R s m args below meth c0 H1 locs1 cells slots Q (F0 m (pc + 3) ls rest)) : W p l e R s m args below meth c0 H locs cells slots Q (F0 m pc ls (rv v :: rv x :: rest)) := by
  refine c_pf (C := RJx4a65c) (TT := TJx4a65c) (N := 3) (ty := (.array (.object "java/lang/Object"))) hX hw (ce_7 hk) (by rw [hk]; decide) rfl tyJx4a65c_ok nmJx4a65c 1 hin (by decide) hl (fun _ h9 => h9) rfl (by decide +kernel) (rv_nar_a _ _) (rv_fit_a _ _) (Nat.le_of_ble_eq_true rfl) ?_ (eqx_sJ _ _ _ _ (by decide)) hdg kk
  rw [ce_7 (show wJ (sJ T.1 281 x v) 0 x = 7 from by simpa [wJ, sJ, u2] using hk)]
  simp [wI, wJ, wL, sJ, u2]
theorem p_7_2 (hX : MX g own p s m args c0 cc nL Ts meth ret) (hw : wH g z T H locs) {x index : Nat} {v : Int32} (hk : wJ T.1 0 x = 7) (hin : ∀ w ∈ wsJx4a65c0, w ∈ Ts) (hl : Cond.fieldLink own index "java/util/ArrayList" "size" "I" ∈ Ts) (hdg : decode cc pc = .ok (.putfield index, 3))
    (kk : ∀ (H1 : Heap) (locs1 : List Loc), wH g z (sI T.1 282 x v, T.2) H1 locs1 → W p l e R s m args below meth c0 H1 locs1 cells slots Q (F0 m (pc + 3) ls rest)) : W p l e R s m args below meth c0 H locs cells slots Q (F0 m pc ls (.int v :: rv x :: rest)) := by
  refine c_pf (C := RJx4a65c) (TT := TJx4a65c) (N := 3) (ty := .int) hX hw (ce_7 hk) (by rw [hk]; decide) rfl tyJx4a65c_ok nmJx4a65c 2 hin (by decide) hl (fun _ h9 => h9) rfl (by decide +kernel) rfl rfl (Nat.le_of_ble_eq_true rfl) ?_ (eqx_sI _ _ _ _) hdg kk
  rw [ce_7 (show wJ (sI T.1 282 x v) 0 x = 7 from by simpa [wJ, sI, u2] using hk)]
  simp [wI, wJ, wL, sI, u2]
theorem p_7_0b (hX : MX g own p s m args c0 cc nL Ts meth ret) (hw : wH g z T H locs) {x index : Nat} {v : Int32} (hk : wJ T.1 0 x = 7) (hin : ∀ w ∈ wsJx4a65c0, w ∈ Ts) (hl : Cond.fieldLink own index "java/util/AbstractList" "modCount" "I" ∈ Ts) (hdg : decode cc pc = .ok (.putfield index, 3))
    (kk : ∀ (H1 : Heap) (locs1 : List Loc), wH g z (sI T.1 280 x v, T.2) H1 locs1 → W p l e R s m args below meth c0 H1 locs1 cells slots Q (F0 m (pc + 3) ls rest)) : W p l e R s m args below meth c0 H locs cells slots Q (F0 m pc ls (.int v :: rv x :: rest)) := by
  refine c_pf (C := RJx4a65c) (TT := TJx4a65c) (N := 3) (ty := .int) hX hw (ce_7 hk) (by rw [hk]; decide) rfl tyJx4a65c_ok nmJx4a65c 0 hin (by decide) hl (fun _ h9 => h9) rfl (by decide +kernel) rfl rfl (Nat.le_of_ble_eq_true rfl) ?_ (eqx_sI _ _ _ _) hdg kk
  rw [ce_7 (show wJ (sI T.1 280 x v) 0 x = 7 from by simpa [wJ, sI, u2] using hk)]
  simp [wI, wJ, wL, sI, u2]
end CROWS
