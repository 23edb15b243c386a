/-! ===== rows over the world: the reference's fields and arrays; contracts; calls ===== -/
section MROWS
variable {p : Program} {l : Launch} {e : Env} {R : Room} {s : State} {m : MethodId} {args : Array Value} {below : List Frame} {meth : Method} {c0 : Code} {H : Heap} {locs : List Loc} {cells slots : Nat} {Q : State → Prop}
variable {cc : ByteArray} {pc : Nat} {ls : Array Slot} {rest : List Value} {g : GG} {z : Nat} {T : TW} {Ts : List Cond} {nL : Nat} {own : String} {ret : Option FieldType}
/-- what a body of the reference's stands on -/
def MX (g : GG) (own : String) (p : Program) (s : State) (m : MethodId) (args : Array Value) (c0 : Code) (cc : ByteArray) (nL : Nat) (Ts : List Cond) (meth : Method) (ret : Option FieldType) : Prop := CallFix p m c0 cc nL s args Ts own ∧ TB g s ∧ (∀ q : Nat, q < gnn g 0 → s.heap[q]? = (gH g)[q]?) ∧ meth.sig.returnType = ret ∧ meth.locks = false
theorem mH_cell (hw : wH g z T H locs) (hn : gnn g 4 = 1) {k : Nat} {e0 : va_E} (hk : ment g T.2 k = some e0) : va_at (gD g) vwCl (gmd g k, e0) H ∧ wJ T.1 0 (gmd g k + 1) = 0 ∧ gnn g 0 ≤ gmd g k := (hw.2.1 hn).1 k e0 hk
theorem mH_put (hw : wH g z T H locs) (hn : gnn g 4 = 1) {k i : Nat} {e0 e1 : va_E} {m' : MS} {H1 : Heap} {d0 d1 : Cell} (hk : ment g T.2 k = some e0) (hk1 : ment g m' k = some e1) (ho : ∀ j, j ≠ k → ment g m' j = ment g T.2 j) (ha : va_at (gD g) vwCl (gmd g k, e1) H1) (zz : H1.size = H.size) (oq : ∀ q : Nat, q ≠ gmd g k → H1[q]? = H[q]?) (h0 : H[gmd g k]? = some d0) (h1 : H1[gmd g k]? = some d1) (hs : d1.slots.size = d0.slots.size) : wH g z (T.1, m') H1 (locs ++ [⟨gmd g k, i⟩]) := by
  obtain ⟨hc, hm, hb, ⟨r1, r2, r3, r4, r5⟩, hl⟩ := hw
  obtain ⟨ha0, hk0, hbk⟩ := (hm hn).1 k e0 hk
  have hsl1 := hsl_put zz h0 h1 hs oq
  refine ⟨⟨hc.1, fun x ex hx => ?_⟩, fun _ => ⟨fun j ej hj => ?_, fun i j ei ej hi hj hij => ?_⟩, fun q hq => ?_, ⟨r1, by rw [zz]; exact r2, by rw [zz]; exact r3, by rw [hsl1]; exact r4, r5⟩, fun q hq => ?_⟩
  · obtain ⟨h2, h3⟩ := hc.2 x ex hx
    refine ⟨h2.kept (oq _ fun hq => ?_), h3⟩
    have h4 : x - 1 = gmd g k := hq
    by_cases hx0 : x = 0
    · subst hx0
      have h5 := hc.1
      unfold cent at hx
      rw [h5] at hx
      cases hx
    · have h5 : x = gmd g k + 1 := by omega
      rw [← h5] at hk0
      unfold cent at hx
      rw [hk0] at hx
      cases hx
  · by_cases hjk : j = k
    · subst hjk
      have : ej = e1 := Option.some.inj (hj.symm.trans hk1)
      subst this
      exact ⟨ha, hk0, hbk⟩
    · rw [ho j hjk] at hj
      obtain ⟨h2, h3, h4⟩ := (hm hn).1 j ej hj
      exact ⟨h2.kept (oq _ fun hq => hjk ((hm hn).2 j k ej e0 hj hk hq)), h3, h4⟩
  · have fi : ∃ e2, ment g T.2 i = some e2 := by
      by_cases hik : i = k
      · subst hik; exact ⟨_, hk⟩
      · rw [ho i hik] at hi; exact ⟨_, hi⟩
    have fj : ∃ e2, ment g T.2 j = some e2 := by
      by_cases hjk : j = k
      · subst hjk; exact ⟨_, hk⟩
      · rw [ho j hjk] at hj; exact ⟨_, hj⟩
    obtain ⟨a1, b1⟩ := fi
    obtain ⟨a2, b2⟩ := fj
    exact (hm hn).2 i j a1 a2 b1 b2 hij
  · rw [oq q (by omega)]
    exact hb q hq
  · rcases List.mem_append.mp hq with h | h
    · exact hl q h
    · rw [List.mem_singleton.mp h]
      exact hbk
theorem ment_obj (g : GG) (m0 : MS) : ment g m0 32 = some (.inr (7, mfs g m0)) := rfl
theorem ment_arr {g : GG} {m0 : MS} {k : Nat} (hk : k ≠ 32) (hl : mlen k ≠ 0) : ment g m0 k = some (.inl (gcy g (mcy k), mlen k, .inl (fun i => ga m0 k i))) := by
  unfold ment
  rw [if_neg hk, if_neg hl]
/-- a field of the reference's object is read -/
theorem m_gf (hX : MX g RX7 p s m args c0 cc nL Ts meth ret) (hn : gnn g 4 = 1) (hw : wH g z T H locs) (k : Nat) {index : Nat} {v : Value} (hin : ∀ w ∈ wsX70, w ∈ Ts) (hk : k < 32) (hl : Cond.fieldLink RX7 index (TX7 k).1 (TX7 k).2.1 (TX7 k).2.2.1 ∈ Ts) (hv : (mfs g T.2)[k]? = some v) (hdg : decode cc pc = .ok (.getfield index, 3))
    (kk : W p l e R s m args below meth c0 H locs cells slots Q (F0 m (pc + 3) ls (v :: rest))) : W p l e R s m args below meth c0 H locs cells slots Q (F0 m pc ls (.ref (gmd g 32) :: rest)) := by
  obtain ⟨⟨hx, hb, hml, hown, hts⟩, hK, -⟩ := hX
  have hat := (mH_cell hw hn (ment_obj g T.2)).1
  exact va_get (D := gD g) (cl := vwCl) (ws := [(gmd g 32, .inr (7, mfs g T.2))]) (C := RX7) (T := TX7) (N := 32) hx hb hts hin hown hK.1 (fun i q hq => by
    have hz : i < 1 := (List.getElem?_eq_some_iff.mp hq).1
    rw [show i = 0 by omega] at hq
    cases hq
    exact hat) 0 rfl rfl k hk (hts _ hl) (fun _ h9 => h9) hv hdg kk
theorem ga_sa (m0 : MS) (k i : Nat) (v : Int32) : (fun j => ga (sa m0 k i v) k j) = upd (fun j => ga m0 k j) i v := by
  funext j
  by_cases hj : j = i <;> simp [ga, sa, u2, upd, hj]
theorem ment_sa {g : GG} {m0 : MS} {k i : Nat} {v : Int32} {j : Nat} (hj : j ≠ k) : ment g (sa m0 k i v) j = ment g m0 j := by
  have h : (fun x => ga (sa m0 k i v) j x) = (fun x => ga m0 j x) := by
    funext x
    simp [ga, sa, u2, hj]
  unfold ment
  rw [h]
  rfl
/-- an int array of the reference's is read -/
theorem m_ld (hX : MX g RX7 p s m args c0 cc nL Ts meth ret) (hn : gnn g 4 = 1) (hw : wH g z T H locs) (k : Nat) (hk : k ≠ 32) (hl : mlen k ≠ 0) (ht : mcy k = 0) {ix : Int32} (hr : vR ix (mlen k)) (hdg : decode cc pc = .ok (.iaload, 1))
    (kk : W p l e R s m args below meth c0 H locs cells slots Q (F0 m (pc + 1) ls (.int (ga T.2 k ix.toNatClampNeg) :: rest))) : W p l e R s m args below meth c0 H locs cells slots Q (F0 m pc ls (.int ix :: .ref (gmd g k) :: rest)) := by
  obtain ⟨⟨hx, hb, hml, hown, hts⟩, hK, -⟩ := hX
  have hat := (mH_cell hw hn (ment_arr (m0 := T.2) hk hl)).1
  rw [ht] at hat
  exact va_iald (D := gD g) (cl := vwCl) (ws := [(gmd g k, .inl (gcy g 0, mlen k, .inl (fun i => ga T.2 k i)))]) hx hb hK.1 (fun i q hq => by
    have hz : i < 1 := (List.getElem?_eq_some_iff.mp hq).1
    rw [show i = 0 by omega] at hq
    cases hq
    exact hat) 0 0 rfl rfl hr hdg kk
theorem m_ldz (hX : MX g RX7 p s m args c0 cc nL Ts meth ret) (hn : gnn g 4 = 1) (hw : wH g z T H locs) (k : Nat) (hk : k ≠ 32) (hl : mlen k ≠ 0) (ht : mcy k = 1) {ix : Int32} (hr : vR ix (mlen k)) (hdg : decode cc pc = .ok (.baload, 1))
    (kk : W p l e R s m args below meth c0 H locs cells slots Q (F0 m (pc + 1) ls (.int (ga T.2 k ix.toNatClampNeg) :: rest))) : W p l e R s m args below meth c0 H locs cells slots Q (F0 m pc ls (.int ix :: .ref (gmd g k) :: rest)) := by
  obtain ⟨⟨hx, hb, hml, hown, hts⟩, hK, -⟩ := hX
  have hat := (mH_cell hw hn (ment_arr (m0 := T.2) hk hl)).1
  rw [ht] at hat
  exact va_zald (D := gD g) (cl := vwCl) (ws := [(gmd g k, .inl (gcy g 1, mlen k, .inl (fun i => ga T.2 k i)))]) hx hb hK.1 (fun i q hq => by
    have hz : i < 1 := (List.getElem?_eq_some_iff.mp hq).1
    rw [show i = 0 by omega] at hq
    cases hq
    exact hat) 0 1 rfl rfl hr hdg kk
theorem m_st (hX : MX g RX7 p s m args c0 cc nL Ts meth ret) (hn : gnn g 4 = 1) (hw : wH g z T H locs) (k : Nat) (hk : k ≠ 32) (hl : mlen k ≠ 0) (ht : mcy k = 0) {ix v : Int32} (hr : vR ix (mlen k)) (hdg : decode cc pc = .ok (.iastore, 1))
    (kk : ∀ (H1 : Heap) (locs1 : List Loc), wH g z (T.1, sa T.2 k ix.toNatClampNeg v) H1 locs1 → W p l e R s m args below meth c0 H1 locs1 cells slots Q (F0 m (pc + 1) ls rest)) : W p l e R s m args below meth c0 H locs cells slots Q (F0 m pc ls (.int v :: .int ix :: .ref (gmd g k) :: rest)) := by
  obtain ⟨⟨hx, hb, hml, hown, hts⟩, hK, -⟩ := hX
  have hat := (mH_cell hw hn (ment_arr (m0 := T.2) hk hl)).1
  rw [ht] at hat
  refine W.iast hx hb hat ((hK.1.2 0 _ rfl).1 (mlen k) (fun j => .int (ga T.2 k j))) (fun q => by cases q) (by show ¬ (ix < 0 ∨ (arrV _ _ _).slots.size ≤ _); rw [arrV_size]; exact hr) rfl rfl hdg fun H1 e z oq => ?_
  refine kk H1 _ (mH_put hw hn (ment_arr hk hl) (ment_arr hk hl) (fun j hj => ment_sa hj) ?_ z oq hat e ?_)
  · show H1[gmd g k]? = some (vp_cell _ _)
    rw [e, ht, vp_cell_i, vp_cell_i, arrV_store]
    congr 2
    funext q
    by_cases hq : q = ix.toNatClampNeg
    · subst hq
      simp [updV, ga, sa, u2]
    · simp [updV, ga, sa, u2, hq]
  · rw [vp_cell_i, arrV_store, arrV_size, arrV_size]
theorem m_stz (hX : MX g RX7 p s m args c0 cc nL Ts meth ret) (hn : gnn g 4 = 1) (hw : wH g z T H locs) (k : Nat) (hk : k ≠ 32) (hl : mlen k ≠ 0) (ht : mcy k = 1) {ix v : Int32} (hr : vR ix (mlen k)) (hv : isB v) (hdg : decode cc pc = .ok (.bastore, 1))
    (kk : ∀ (H1 : Heap) (locs1 : List Loc), wH g z (T.1, sa T.2 k ix.toNatClampNeg v) H1 locs1 → W p l e R s m args below meth c0 H1 locs1 cells slots Q (F0 m (pc + 1) ls rest)) : W p l e R s m args below meth c0 H locs cells slots Q (F0 m pc ls (.int v :: .int ix :: .ref (gmd g k) :: rest)) := by
  obtain ⟨⟨hx, hb, hml, hown, hts⟩, hK, -⟩ := hX
  have hat := (mH_cell hw hn (ment_arr (m0 := T.2) hk hl)).1
  rw [ht] at hat
  have hnar : narrow .boolean (.int v) = .int v := by rcases hv with rfl | rfl <;> rfl
  refine W.zast hx hb hat ((hK.1.2 1 _ rfl).1 (mlen k) (fun j => .int (ga T.2 k j))) (fun q => by cases q) (by show ¬ (ix < 0 ∨ (arrV _ _ _).slots.size ≤ _); rw [arrV_size]; exact hr) rfl rfl hdg fun H1 e z oq => ?_
  rw [hnar] at e
  refine kk H1 _ (mH_put hw hn (ment_arr hk hl) (ment_arr hk hl) (fun j hj => ment_sa hj) ?_ z oq hat e ?_)
  · show H1[gmd g k]? = some (vp_cell _ _)
    rw [e, ht, vp_cell_i, vp_cell_i, arrV_store]
    congr 2
    funext q
    by_cases hq : q = ix.toNatClampNeg
    · subst hq
      simp [updV, ga, sa, u2]
    · simp [updV, ga, sa, u2, hq]
  · rw [vp_cell_i, arrV_store, arrV_size, arrV_size]
theorem ment_ss {g : GG} {m0 : MS} {k : Nat} {v : Int32} {j : Nat} (hj : j ≠ 32) : ment g (ss m0 k v) j = ment g m0 j := by
  have h : (fun x => ga (ss m0 k v) j x) = (fun x => ga m0 j x) := rfl
  unfold ment
  rw [if_neg hj, if_neg hj, h]
/-- a scalar of the reference's object is written -/
theorem m_pf (hX : MX g RX7 p s m args c0 cc nL Ts meth ret) (hn : gnn g 4 = 1) (hw : wH g z T H locs) (k : Nat) {index : Nat} {v : Int32} (hin : ∀ w ∈ wsX70, w ∈ Ts) (hk : k < 32) (hl : Cond.fieldLink RX7 index (TX7 k).1 (TX7 k).2.1 (TX7 k).2.2.1 ∈ Ts) (hfin : (TX7 k).2.2.2 = false) (hd : parseFieldDescriptor (TX7 k).2.2.1 = some .int) (hset : mfs g (ss T.2 k v) = (mfs g T.2).set k (.int v)) (hdg : decode cc pc = .ok (.putfield index, 3))
    (kk : ∀ (H1 : Heap) (locs1 : List Loc), wH g z (T.1, ss T.2 k v) H1 locs1 → W p l e R s m args below meth c0 H1 locs1 cells slots Q (F0 m (pc + 3) ls rest)) : W p l e R s m args below meth c0 H locs cells slots Q (F0 m pc ls (.int v :: .ref (gmd g 32) :: rest)) := by
  obtain ⟨⟨hx, hb, hml, hown, hts⟩, hK, -⟩ := hX
  have hat := (mH_cell hw hn (ment_obj g T.2)).1
  have hap := va_apart (D := gD g) (own := RX7) hts hin tyX7 tyX7_ok nmX7 hK.1 (cl := vwCl) (ci := 7) rfl
  obtain ⟨r, h1, cell, q1, q2, q3, q4⟩ := hat
  have hr : r = (RX7, TX7, 32) := Option.some.inj (h1.symm.trans rfl)
  subst hr
  obtain ⟨hS, hfc, kC, hkC, hkind⟩ := hK.1.1 7 _ rfl
  obtain ⟨cf, kf, fi, f, hi, hsl⟩ := hS k hk
  have hlay := hts _ (hin _ (u_in_lay hk))
  unfold u_lay at hlay
  rw [if_neg (by rw [hfin]; decide)] at hlay
  have hst := (u_facts hfc hkC (u_lays hts hin hk) hi).1
  have h6 := u_store hfc hkC hkind hlay hi hd (v := .int v) rfl rfl
  refine W.putK hx hb (f := f) ⟨hown, hts _ hl, ⟨_, _, _, hi⟩, hst⟩ (by rw [q2]; exact h6) q1 q3 (by rw [hsl]; exact k2_hasslot (q4 k hk)) rfl rfl hdg fun H' e1 e2 e3 => ?_
  have hlen : (mfs g T.2).length = 32 := rfl
  refine kk H' _ (mH_put (e0 := .inr (7, mfs g T.2)) hw hn (ment_obj g T.2) (ment_obj g _) (fun j hj => ment_ss hj) ?_ e2 e3 q1 e1 (by simp [Cell.setSlot]))
  rw [hsl] at e1
  refine ⟨_, h1, t_OB.to (V := updV (vp_V (mfs g T.2)) k (.int v)) ⟨_, e1, q2, q3, t_set q4 hap hk (.int v)⟩ (fun j _ => ?_)⟩
  rw [hset]
  exact vp_updV_set (by rw [hlen]; exact hk) (.int v) j
end MROWS
