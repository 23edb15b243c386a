/-! ===== rows over the world: the reference's fields and arrays; contracts; calls ===== -/
section MROWS
variable {p : Program} {l : Launch} {e : Env} {R : Room} {s : State} {m : MethodId} {args : Array Value} {below : List Frame} {meth : Method} {c0 : Code} {H : Heap} {locs : List Loc} {cells slots : Nat} {Q : State → Prop}
variable {cc : ByteArray} {pc : Nat} {ls : Array Slot} {rest : List Value} {g : GG} {z : Nat} {T : TW} {Ts : List Cond} {nL : Nat} {own : String} {ret : Option FieldType}
/-- what a body of the reference's stands on -/
def MX (g : GG) (own : String) (p : Program) (s : State) (m : MethodId) (args : Array Value) (c0 : Code) (cc : ByteArray) (nL : Nat) (Ts : List Cond) (meth : Method) (ret : Option FieldType) : Prop := CallFix p m c0 cc nL s args Ts own ∧ TB g s ∧ (∀ q : Nat, q < gnn g 0 → s.heap[q]? = (gH g)[q]?) ∧ meth.sig.returnType = ret ∧ meth.locks = false
theorem mH_cell (hw : wH g z T H locs) (hn : gnn g 4 = 1) {k : Nat} {e0 : va_E} (hk : ment g T.2 k = some e0) : va_at (gD g) vwCl (gmd g k, e0) H ∧ wJ T.1 0 (gmd g k + 1) = 0 ∧ gnn g 0 ≤ gmd g k := (hw.2.1 hn).1 k e0 hk
theorem mH_put (hw : wH g z T H locs) (hn : gnn g 4 = 1) {k i : Nat} {e0 e1 : va_E} {m' : MS} {H1 : Heap} {d0 d1 : Cell} (hk : ment g T.2 k = some e0) (hk1 : ment g m' k = some e1) (ho : ∀ j, j ≠ k → ment g m' j = ment g T.2 j) (ha : va_at (gD g) vwCl (gmd g k, e1) H1) (zz : H1.size = H.size) (oq : ∀ q : Nat, q ≠ gmd g k → H1[q]? = H[q]?) (h0 : H[gmd g k]? = some d0) (h1 : H1[gmd g k]? = some d1) (hs : d1.slots.size = d0.slots.size) : wH g z (T.1, m') H1 (locs ++ [⟨gmd g k, i⟩]) := by
  obtain ⟨hc, hm, hb, ⟨r1, r2, r3, r4, r5⟩, hl⟩ := hw
  obtain ⟨ha0, hk0, hbk⟩ := (hm hn).1 k e0 hk
  have hsl1 := hsl_put zz h0 h1 hs oq
  refine ⟨⟨hc.1, fun x ex hx => ?_⟩, fun _ => ⟨fun j ej hj => ?_, fun i j ei ej hi hj hij => ?_⟩, fun q hq => ?_, ⟨r1, by rw [zz]; exact r2, by rw [zz]; exact r3, by rw [hsl1]; exact r4, r5⟩, fun q hq => ?_⟩
  · obtain ⟨h2, h3⟩ := hc.2 x ex hx
    refine ⟨h2.kept (oq _ fun hq => ?_), h3⟩
    have h4 : x - 1 = gmd g k := hq
    by_cases hx0 : x = 0
    · subst hx0
      have h5 := hc.1
      unfold cent at hx
      rw [h5] at hx
      cases hx
    · have h5 : x = gmd g k + 1 := by omega
      rw [← h5] at hk0
      unfold cent at hx
      rw [hk0] at hx
      cases hx
  · by_cases hjk : j = k
    · subst hjk
      have : ej = e1 := Option.some.inj (hj.symm.trans hk1)
      subst this
      exact ⟨ha, hk0, hbk⟩
    · rw [ho j hjk] at hj
      obtain ⟨h2, h3, h4⟩ := (hm hn).1 j ej hj
      exact ⟨h2.kept (oq _ fun hq => hjk ((hm hn).2 j k ej e0 hj hk hq)), h3, h4⟩
  · have fi : ∃ e2, ment g T.2 i = some e2 := by
      by_cases hik : i = k
      · subst hik; exact ⟨_, hk⟩
      · rw [ho i hik] at hi; exact ⟨_, hi⟩
    have fj : ∃ e2, ment g T.2 j = some e2 := by
      by_cases hjk : j = k
      · subst hjk; exact ⟨_, hk⟩
      · rw [ho j hjk] at hj; exact ⟨_, hj⟩
    obtain ⟨a1, b1⟩ := fi
    obtain ⟨a2, b2⟩ := fj
    exact (hm hn).2 i j a1 a2 b1 b2 hij
  · rw [oq q (by omega)]
    exact hb q hq
  · rcases List.mem_append.mp hq with h | h
    · exact hl q h
    · rw [List.mem_singleton.mp h]
      exact hbk
theorem ment_arr {g : GG} {m0 : MS} {k : Nat} (hl : mlen k ≠ 0) : ment g m0 k = some (.inl (gcy g (mcy k), mlen k, .inl (fun i => ga m0 k i))) := by
  unfold ment
  rw [if_neg hl]
theorem ga_sa (m0 : MS) (k i : Nat) (v : Int32) : (fun j => ga (sa m0 k i v) k j) = upd (fun j => ga m0 k j) i v := by
  funext j
  by_cases hj : j = i <;> simp [ga, sa, u2, upd, hj]
theorem ment_sa {g : GG} {m0 : MS} {k i : Nat} {v : Int32} {j : Nat} (hj : j ≠ k) : ment g (sa m0 k i v) j = ment g m0 j := by
  have h : (fun x => ga (sa m0 k i v) j x) = (fun x => ga m0 j x) := by
    funext x
    simp [ga, sa, u2, hj]
  unfold ment
  rw [h]
/-- an int array of the reference's is read -/
theorem m_ld (hX : MX g own p s m args c0 cc nL Ts meth ret) (hn : gnn g 4 = 1) (hw : wH g z T H locs) (k : Nat) (hl : mlen k ≠ 0) (ht : mcy k = 0) {ix : Int32} (hr : vR ix (mlen k)) (hdg : decode cc pc = .ok (.iaload, 1))
    (kk : W p l e R s m args below meth c0 H locs cells slots Q (F0 m (pc + 1) ls (.int (ga T.2 k ix.toNatClampNeg) :: rest))) : W p l e R s m args below meth c0 H locs cells slots Q (F0 m pc ls (.int ix :: .ref (gmd g k) :: rest)) := by
  obtain ⟨⟨hx, hb, hml, hown, hts⟩, hK, -⟩ := hX
  have hat := (mH_cell hw hn (ment_arr (m0 := T.2) hl)).1
  rw [ht] at hat
  exact va_iald (D := gD g) (cl := vwCl) (ws := [(gmd g k, .inl (gcy g 0, mlen k, .inl (fun i => ga T.2 k i)))]) hx hb hK.1 (fun i q hq => by
    have hz : i < 1 := (List.getElem?_eq_some_iff.mp hq).1
    rw [show i = 0 by omega] at hq
    cases hq
    exact hat) 0 0 rfl rfl hr hdg kk
theorem m_st (hX : MX g own p s m args c0 cc nL Ts meth ret) (hn : gnn g 4 = 1) (hw : wH g z T H locs) (k : Nat) (hl : mlen k ≠ 0) (ht : mcy k = 0) {ix v : Int32} (hr : vR ix (mlen k)) (hdg : decode cc pc = .ok (.iastore, 1))
    (kk : ∀ (H1 : Heap) (locs1 : List Loc), wH g z (T.1, sa T.2 k ix.toNatClampNeg v) H1 locs1 → W p l e R s m args below meth c0 H1 locs1 cells slots Q (F0 m (pc + 1) ls rest)) : W p l e R s m args below meth c0 H locs cells slots Q (F0 m pc ls (.int v :: .int ix :: .ref (gmd g k) :: rest)) := by
  obtain ⟨⟨hx, hb, hml, hown, hts⟩, hK, -⟩ := hX
  have hat := (mH_cell hw hn (ment_arr (m0 := T.2) hl)).1
  rw [ht] at hat
  refine W.iast hx hb hat ((hK.1.2 0 _ rfl).1 (mlen k) (fun j => .int (ga T.2 k j))) (fun q => by cases q) (by show ¬ (ix < 0 ∨ (arrV _ _ _).slots.size ≤ _); rw [arrV_size]; exact hr) rfl rfl hdg fun H1 e z oq => ?_
  refine kk H1 _ (mH_put hw hn (ment_arr hl) (ment_arr hl) (fun j hj => ment_sa hj) ?_ z oq hat e ?_)
  · show H1[gmd g k]? = some (vp_cell _ _)
    rw [e, ht, vp_cell_i, vp_cell_i, arrV_store]
    congr 2
    funext q
    by_cases hq : q = ix.toNatClampNeg
    · subst hq
      simp [updV, ga, sa, u2]
    · simp [updV, ga, sa, u2, hq]
  · rw [vp_cell_i, arrV_store, arrV_size, arrV_size]
end MROWS
