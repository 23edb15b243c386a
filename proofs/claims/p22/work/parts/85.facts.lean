/-! ===== what holds at the law's entry ===== -/
def NGw (U : State) : Prop := va_Nw (.methodLinkNest RX6 44 yX4_init RX6) U ∧ va_Nw (.methodLinkNest RX6 45 yX3_init RX6) U
def NCw (U : State) : Prop := va_Nc "java/lang/IllegalStateException" "java/lang/IndexOutOfBoundsException" U ∧ va_Nc "java/lang/IllegalStateException" "java/lang/IllegalArgumentException" U ∧ va_Nc "java/lang/IllegalArgumentException" "java/lang/IndexOutOfBoundsException" U ∧ va_Nw (.classLink RL 69 "java/lang/IndexOutOfBoundsException") U ∧ va_Nw (.classLink RL 71 "java/lang/IllegalArgumentException") U ∧ va_Nw (.classLink RL 73 "java/lang/IllegalStateException") U
def mkn (H : Heap) (e0 mi n4 : Nat) : Nat → Nat := fun i => match i with
  | 0 => H.size
  | 1 => H.size + 600074
  | 2 => hsl H + 7301550
  | 3 => e0
  | 4 => n4
  | 5 => mi
  | _ => 0
def mkg (D : va_G) (cy : Nat → ClassId) (H : Heap) (e0 mi n4 : Nat) (md : Nat → Nat) (P : State → Prop) : GG := (D, cy, mkn H e0 mi n4, H, md, P)
def FCT (D : va_G) (cy : Nat → ClassId) (H : Heap) (e0 mi b L : Nat) (xs : Nat → Int32) (U : State) : Prop := XF (mkg D cy H e0 mi 0 (fun _ => 0) (fun _ => True)) U ∧ NGw U ∧ NCw U ∧ va_X b L xs U H
theorem va_Nw.warmCast {a b : String} {s U : State} (hW : s.WarmedH U.vm) (hZ : va_Nw (.castable a b) s) : va_Nw (.castable a b) U := va_tabs rfl (rfl : (s.setVm U.vm).vm = U.vm) (by rw [Cond.castable_setVm hW.alike]; exact hZ)
theorem va_Nw.warmCL {a b : String} {i : Nat} {s U : State} (hW : s.WarmedH U.vm) (hZ : va_Nw (.classLink a i b) s) : va_Nw (.classLink a i b) U := word_at hW (good_of_word (w := .classLink a i b) rfl) hZ
theorem FCT.moved {D : va_G} {cy : Nat → ClassId} {H : Heap} {e0 mi b L : Nat} {xs : Nat → Int32} {u U : State} (hW : u.WarmedH U.vm) (h : FCT D cy H e0 mi b L xs u) : FCT D cy H e0 mi b L xs U := by
  obtain ⟨⟨⟨a1, a2, a3⟩, ⟨b1, b2, b3, b4, b5, b6⟩, ⟨c1, c2, c3⟩, ⟨d1, d2, d3⟩, ⟨e1, e2, cell, e3, ⟨e4, k, e5, comp, e6⟩, e7, e8⟩, ⟨f1, f2, f3⟩, ⟨g1, g2, g3⟩, h1⟩, ⟨n1, n2⟩, ⟨q1, q2, q3, q4, q5, q6⟩, hSX⟩ := h
  have hvm := hW.alike
  obtain ⟨k', hk', he⟩ := hvm.2.2 _ _ e5
  refine ⟨⟨⟨a1.moved hvm, a2.moved hvm, a3.moved hvm⟩, ⟨b1.moved (by decide) hvm, b2.moved (by decide) hvm, b3.moved (by decide) hvm, b4.moved (by decide) hvm, b5.moved (by decide) hvm, b6.moved (by decide) hvm⟩, ⟨c1.moved hvm, c2.moved hvm, c3.moved hvm⟩, ⟨d1.warmCast hW, d2.warmCast hW, d3.warmCast hW⟩, ⟨e1.moved hvm, e2.moved hvm, cell, e3, ⟨e4, k', hk', comp, by rw [he]; exact e6⟩, e7, e8⟩, ⟨f1.warmCast hW, f2.warmCast hW, f3.warmCast hW⟩, ⟨g1.warmD hW, g2.warmD hW, g3.warmD hW⟩, fun q hq => ?_⟩, ⟨n1.warmM hW, n2.warmM hW⟩, ⟨q1.moved hvm, q2.moved hvm, q3.moved hvm, q4.warmCL hW, q5.warmCL hW, q6.warmCL hW⟩, hSX.moved hvm⟩
  obtain ⟨a, ha⟩ := h1 q hq
  exact ⟨a, vk_R.warm hW ha⟩
theorem mk_XG {D : va_G} {cy : Nat → ClassId} {H : Heap} {e0 mi n4 b L : Nat} {xs : Nat → Int32} {md : Nat → Nat} : XG (mkg D cy H e0 mi n4 md (FCT D cy H e0 mi b L xs)) := fun _ h => h.1
theorem mk_NG {D : va_G} {cy : Nat → ClassId} {H : Heap} {e0 mi n4 b L : Nat} {xs : Nat → Int32} {md : Nat → Nat} : NG (mkg D cy H e0 mi n4 md (FCT D cy H e0 mi b L xs)) := fun _ h => h.2.1
theorem mk_NC {D : va_G} {cy : Nat → ClassId} {H : Heap} {e0 mi n4 b L : Nat} {xs : Nat → Int32} {md : Nat → Nat} : NC (mkg D cy H e0 mi n4 md (FCT D cy H e0 mi b L xs)) := fun _ h => h.2.2.1
theorem mk_SCG {D : va_G} {cy : Nat → ClassId} {H : Heap} {e0 mi n4 b L : Nat} {xs : Nat → Int32} {md : Nat → Nat} (hb : b < H.size) : SCG (mkg D cy H e0 mi n4 md (FCT D cy H e0 mi b L xs)) b L xs := ⟨hb, fun _ h => h.2.2.2⟩
theorem len0 {args : Array Value} {s : State} {t : Term} {a : Nat} {cell : Cell} {ty : FieldType} (ht : Term.eval args s none [] s t = some (.ref a)) (hc : s.heap[a]? = some cell) (hA : s.isArrayOf cell ty) (hu : cell.vm ≠ .unknown) (hs : cell.vm.isStatics = false) (h : (Jvm.Cond.eq (Jvm.Term.length t) (Jvm.Term.int (0 : Int32))).before args s = true) : cell.slots.size.toInt32 = 0 := by
  obtain ⟨-, k, hk, comp, hkind⟩ := hA
  simp only [Cond.before, Cond.holds, Cond.value] at h
  simp only [Term.eval, ht] at h
  simp [State.arrayAt?, hc, hk, hu, hs, hkind] at h
  by_cases hz : cell.slots.size < 2147483648
  · simpa [hz] using h
  · simp [hz] at h
theorem start_facts {s : State} {b L : Nat} {xs : Nat → Int32} (hSX : va_X b L xs s s.heap) (hts : ∀ w ∈ lw_tbl, w.before #[Value.ref b] s = true) (hgv : (Jvm.Cond.and given_1 narrow_1).before #[Value.ref b] s = true) :
    ∃ (D : va_G) (cy : Nat → ClassId) (e0 mi : Nat), va_K D vwCl [(cy 0, .int), (cy 1, .int), (cy 2, .object "TabStore$Store"), (cy 3, .object "TabStore$Tab"), (cy 4, .object "java/lang/Object")] s ∧ FCT D cy s.heap e0 mi b L xs s := by
  have hfl := flat_of_before _ hgv
  have K0 := u_known (C := RJx4a65c) (T := TJx4a65c) (N := 3) (n := 3) hts (by decide +kernel) (hts _ (by decide +kernel))
  have K1 := u_known (C := RX0) (T := TX0) (N := 8) (n := 8) hts (by decide +kernel) (hts _ (by decide +kernel))
  have K2 := u_known (C := RX2) (T := TX2) (N := 4) (n := 4) hts (by decide +kernel) (hts _ (by decide +kernel))
  have K3 := u_known (C := RX3) (T := TX3) (N := 3) (n := 3) hts (by decide +kernel) (hts _ (by decide +kernel))
  have K4 := u_known (C := RX4) (T := TX4) (N := 3) (n := 3) hts (by decide +kernel) (hts _ (by decide +kernel))
  have K5 := u_known (C := RX5) (T := TX5) (N := 4) (n := 4) hts (by decide +kernel) (hts _ (by decide +kernel))
  have K6 := u_known (C := RX6) (T := TX6) (N := 8) (n := 8) hts (by decide +kernel) (hts _ (by decide +kernel))
  obtain ⟨k0, i0, K0⟩ := K0
  obtain ⟨k1, i1, K1⟩ := K1
  obtain ⟨k2, i2, K2⟩ := K2
  obtain ⟨k3, i3, K3⟩ := K3
  obtain ⟨k4, i4, K4⟩ := K4
  obtain ⟨k5, i5, K5⟩ := K5
  obtain ⟨k6, i6, K6⟩ := K6
  have prim : ∀ ty : FieldType, (Cond.arrayClass ty).before #[Value.ref b] s = true → (∀ C, ty ≠ .object C) → ∃ c : ClassId, ArrOfT s c ty ∧ va_RA s c ty := by
    intro ty h hn
    obtain ⟨c, k, comp, q1, q2, q3⟩ := Cond.arrayClass_spec h
    refine ⟨c, fun N z => ⟨(fun k h => by cases h), k, q2, comp, q3⟩, ?_⟩
    cases ty with
    | object C => exact absurd rfl (hn C)
    | _ => exact q1
  have objs : ∀ C : String, (Cond.arrayOver (.object C)).before #[Value.ref b] s = true → ∃ c : ClassId, ArrOfT s c (.object C) ∧ va_RA s c (.object C) := by
    intro C h
    obtain ⟨comp, c, k, q1, q2, q3, q4, q5⟩ := Cond.arrayOver_spec h
    exact ⟨c, fun N z => ⟨(fun k h => by cases h), k, q3, comp, q4⟩, k, comp, q3, q4, q1, q5⟩
  obtain ⟨c0, C0⟩ := prim .int (hts _ (by decide +kernel)) (fun _ h => by cases h)
  obtain ⟨c1, C1⟩ := prim .int (hts _ (by decide +kernel)) (fun _ h => by cases h)
  obtain ⟨c2, C2⟩ := objs "TabStore$Store" (hts _ (by decide +kernel))
  obtain ⟨c3, C3⟩ := objs "TabStore$Tab" (hts _ (by decide +kernel))
  obtain ⟨c4, C4⟩ := objs "java/lang/Object" (hts _ (by decide +kernel))
  obtain ⟨mi, hmi⟩ := va_Mi.of (hfl (.isRef (.mirror "[Ljava/lang/Object;")) (by decide +kernel))
  obtain ⟨a, c, cell, k, q1, q2, q3, q4, q5, q6, -⟩ := Cond.exactly_spec (hfl (.exactly (.static "java/util/ArrayList" "DEFAULTCAPACITY_EMPTY_ELEMENTDATA" "[Ljava/lang/Object;") "[Ljava/lang/Object;") (by decide +kernel))
  obtain ⟨hAr, hun⟩ := Cond.arrayOf_spec (hfl (.arrayOf (.static "java/util/ArrayList" "DEFAULTCAPACITY_EMPTY_ELEMENTDATA" "[Ljava/lang/Object;") (.object "java/lang/Object")) (by decide +kernel)) q1 q3
  have hl0 := len0 q1 q3 hAr hun q5 (hfl (.eq (.length (.static "java/util/ArrayList" "DEFAULTCAPACITY_EMPTY_ELEMENTDATA" "[Ljava/lang/Object;")) (.int 0)) (by decide +kernel))
  have hA : ∀ a : Nat, a < s.heap.size → ¬ gA (mkg (fun i => match i with | 0 => k0 | 1 => k1 | 2 => k2 | 3 => k3 | 4 => k4 | 5 => k5 | _ => k6, fun i => match i with | 0 => i0 | 1 => i1 | 2 => i2 | 3 => i3 | 4 => i4 | 5 => i5 | _ => i6) (fun i => match i with | 0 => c0 | 1 => c1 | 2 => c2 | 3 => c3 | _ => c4) s.heap a mi 0 (fun _ => 0) (fun _ => True)) a := fun a ha h => absurd (show s.heap.size ≤ a from h) (by omega)
  refine ⟨(fun i => match i with | 0 => k0 | 1 => k1 | 2 => k2 | 3 => k3 | 4 => k4 | 5 => k5 | _ => k6, fun i => match i with | 0 => i0 | 1 => i1 | 2 => i2 | 3 => i3 | 4 => i4 | 5 => i5 | _ => i6), fun i => match i with | 0 => c0 | 1 => c1 | 2 => c2 | 3 => c3 | _ => c4, a, mi, ⟨?_, ?_⟩, ⟨⟨?_, ?_, ?_⟩, ⟨?_, ?_, ?_, ?_, ?_, ?_⟩, ⟨va_AO.of (hts _ (by decide +kernel)), va_AO.of (hts _ (by decide +kernel)), va_AO.of (hts _ (by decide +kernel))⟩, ⟨va_Nw.of rfl (hts _ (by decide +kernel)), va_Nw.of rfl (hts _ (by decide +kernel)), va_Nw.of rfl (hts _ (by decide +kernel))⟩, ⟨hmi, va_Dc.of (hts _ (by decide +kernel)), cell, q3, hAr, hl0, (Array.getElem?_eq_some_iff.mp q3).1⟩, ⟨va_Nw.of rfl (hts _ (by decide +kernel)), va_Nw.of rfl (hts _ (by decide +kernel)), va_Nw.of rfl (hts _ (by decide +kernel))⟩, ⟨va_Nw.of rfl (hts _ (by decide +kernel)), va_Nw.of rfl (hts _ (by decide +kernel)), va_Nw.of rfl (hts _ (by decide +kernel))⟩, fun q hq => ?_⟩, ⟨va_Nw.of rfl (hts _ (by decide +kernel)), va_Nw.of rfl (hts _ (by decide +kernel))⟩, ⟨va_Nc.of (hfl _ (by decide +kernel)), va_Nc.of (hfl _ (by decide +kernel)), va_Nc.of (hfl _ (by decide +kernel)), va_Nw.of rfl (hts _ (by decide +kernel)), va_Nw.of rfl (hts _ (by decide +kernel)), va_Nw.of rfl (hts _ (by decide +kernel))⟩, hSX⟩
  · intro ci q hq
    match ci, hq with
    | 0, hq => cases hq; exact K0
    | 1, hq => cases hq; exact K1
    | 2, hq => cases hq; exact K2
    | 3, hq => cases hq; exact K3
    | 4, hq => cases hq; exact K4
    | 5, hq => cases hq; exact K5
    | 6, hq => cases hq; exact K6
    | n + 7, hq => simp [vwCl] at hq
  · intro ci q hq
    match ci, hq with
    | 0, hq => cases hq; exact C0
    | 1, hq => cases hq; exact C1
    | 2, hq => cases hq; exact C2
    | 3, hq => cases hq; exact C3
    | 4, hq => cases hq; exact C4
    | n + 5, hq => simp at hq
  · exact vx_Zqof (hts _ (by decide +kernel)) (hts _ (by decide +kernel)) (hfl _ (by decide +kernel)) hA
  · exact vx_Zqof (hts _ (by decide +kernel)) (hts _ (by decide +kernel)) (hfl _ (by decide +kernel)) hA
  · exact va_Zref (hts _ (by decide +kernel)) (hts _ (by decide +kernel)) q1 hA
  · exact va_Fw.of (hts _ (by decide +kernel)) (hts _ (by decide +kernel)) (hts _ (by decide +kernel)) (hts _ (by decide +kernel)) (hts _ (by decide +kernel))
  · exact va_Fw.of (hts _ (by decide +kernel)) (hts _ (by decide +kernel)) (hts _ (by decide +kernel)) (hts _ (by decide +kernel)) (hts _ (by decide +kernel))
  · exact va_Fw.of (hts _ (by decide +kernel)) (hts _ (by decide +kernel)) (hts _ (by decide +kernel)) (hts _ (by decide +kernel)) (hts _ (by decide +kernel))
  · exact va_Fw.of (hts _ (by decide +kernel)) (hts _ (by decide +kernel)) (hts _ (by decide +kernel)) (hts _ (by decide +kernel)) (hts _ (by decide +kernel))
  · exact va_Fw.of (hts _ (by decide +kernel)) (hts _ (by decide +kernel)) (hts _ (by decide +kernel)) (hts _ (by decide +kernel)) (hts _ (by decide +kernel))
  · exact va_Fw.of (hts _ (by decide +kernel)) (hts _ (by decide +kernel)) (hts _ (by decide +kernel)) (hts _ (by decide +kernel)) (hts _ (by decide +kernel))
  · obtain ⟨a9, c9, cA, kA, p1, -⟩ := Cond.exactly_spec (hfl (.exactly (.string RX6 q.1) "java/lang/String") ((show ∀ q ∈ xstrs, Cond.exactly (.string RX6 q.1) "java/lang/String" ∈ flatC (Jvm.Cond.and given_1 narrow_1) by decide +kernel) q hq))
    exact ⟨a9, vk_R.of (hts _ ((show ∀ q ∈ xstrs, Cond.stringRef RX6 q.1 q.2 ∈ lw_tbl by decide +kernel) q hq)) p1⟩
