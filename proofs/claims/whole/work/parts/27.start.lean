/-! ===== the law from its entry: the two objects, the change of view ===== -/
def mks : List Nat := [1, 2, 3, 6, 7, 8, 9, 10, 11, 12, 13, 14, 15, 16, 17, 19, 20, 21, 22, 24, 25, 26, 27, 28, 29, 30]
theorem mks_of {k : Nat} (h : ¬ mlen k = 0) : k ∈ mks := by
  rcases Nat.lt_or_ge k 32 with q | q
  · exact (show ∀ k, k < 32 → ¬ mlen k = 0 → k ∈ mks by decide +kernel) k q h
  · refine absurd ?_ h
    unfold mlen
    split <;> first | omega | rfl
theorem mks_ne {k : Nat} (h : k ∈ mks) : ¬ mlen k = 0 ∧ ¬ k = 32 ∧ mcy k ≤ 1 := (show ∀ k ∈ mks, ¬ mlen k = 0 ∧ ¬ k = 32 ∧ mcy k ≤ 1 by decide +kernel) k h
/-- the class's memory without the reference's cells, and the reference's own memory -/
def cv (w : CS) (x : Nat) : CS := (w.1, w.2.1, (fun f y => if f = 0 ∧ y ∈ x :: mks.map (fun k => wJ w (560 + k) x) then 0 else w.2.2.1 f y), w.2.2.2)
def mv (w : CS) (x : Nat) : MS := (fun k => wI w (560 + k) x, fun k i => wA w (wJ w (560 + k) x) i)
def mdv (w : CS) (x : Nat) : Nat → Nat := fun k => if k = 32 then x - 1 else wJ w (560 + k) x - 1
def MOK (w : CS) (x : Nat) : Prop := wJ w 0 x = 14 ∧ (∀ k ∈ mks, wJ w 0 (wJ w (560 + k) x) = 8 + mcy k ∧ wJ w 1 (wJ w (560 + k) x) = mlen k) ∧ ∀ j ∈ mks, ∀ k ∈ mks, wJ w (560 + j) x = wJ w (560 + k) x → j = k
theorem cv_wJ {w : CS} {x f y : Nat} (h : ¬ (f = 0 ∧ y ∈ x :: mks.map (fun k => wJ w (560 + k) x))) : wJ (cv w x) f y = wJ w f y := if_neg h
theorem cv_in {w : CS} {x y : Nat} (h : y ∈ x :: mks.map (fun k => wJ w (560 + k) x)) : wJ (cv w x) 0 y = 0 := if_pos ⟨rfl, h⟩
theorem conv {D : va_G} {cy : Nat → ClassId} {H0 : Heap} {e0 mi : Nat} {md : Nat → Nat} {P : State → Prop} {z : Nat} {w : CS} {mm : MS} {H : Heap} {L : List Loc} {x : Nat} (hw : wH (mkg D cy H0 e0 mi 0 md P) z (w, mm) H L) (hM : MOK w x) : wH (mkg D cy H0 e0 mi 1 (mdv w x) P) z (cv w x, mv w x) H L := by
  obtain ⟨w1, w2, w3, ⟨w4, w5, w6, w7, w8, w9, wA⟩, w10⟩ := hw
  obtain ⟨m1, m2, m3⟩ := hM
  have w1a : wJ w 0 0 = 0 := w1.1
  have nz : ∀ k ∈ mks, ¬ wJ w (560 + k) x = 0 := fun k hk h => by
    have := (m2 k hk).1
    rw [h, w1a] at this
    omega
  have hx0 : ¬ x = 0 := fun h => by rw [h, w1a] at m1; omega
  refine ⟨⟨?_, fun y e hy => ?_⟩, fun _ => ⟨fun k e hk => ?_, fun j k e e' hj hk hjk => ?_⟩, w3, ⟨w4, w5, w6, w7, w8, ?_, ?_⟩, w10⟩
  · show wJ (cv w x) 0 0 = 0
    by_cases h0 : (0 : Nat) ∈ x :: mks.map (fun k => wJ w (560 + k) x)
    · exact cv_in h0
    · rw [cv_wJ (fun q => h0 q.2)]; exact w1a
  · by_cases hin : y ∈ x :: mks.map (fun k => wJ w (560 + k) x)
    · have h9 := cv_in hin
      simp [cent, h9] at hy
    · have hJ : ∀ f, wJ (cv w x) f y = wJ w f y := fun f => cv_wJ (fun q => hin q.2)
      have hI : ∀ f, wI (cv w x) f y = wI w f y := fun f => rfl
      have he : cent (mkg D cy H0 e0 mi 1 (mdv w x) P) (cv w x) y = cent (mkg D cy H0 e0 mi 0 md P) w y := by
        unfold cent
        simp only [hJ]
        rfl
      have h2 : cent (mkg D cy H0 e0 mi 0 md P) w y = some e := he.symm.trans hy
      have h3 := w1.2 y e h2
      exact ⟨h3.1, fun h => h3.2 (by rw [← hJ]; exact h)⟩
  · by_cases h32 : k = 32
    · subst h32
      have h1 : cent (mkg D cy H0 e0 mi 0 md P) w x = some (.inr (7, mfs (mkg D cy H0 e0 mi 1 (mdv w x) P) (mv w x))) := by
        have ev : ∀ k ∈ mks, rv (wJ w (560 + k) x) = .ref (mdv w x k) := fun k hk => by
          rw [rv_ref (nz k hk)]
          unfold mdv
          rw [if_neg (mks_ne hk).2.1]
        unfold cent
        rw [show wJ w 0 x = 14 from m1]
        unfold mfs
        rw [show rv (wJ w 561 x) = .ref (mdv w x 1) from ev 1 (by decide)]
        rw [show rv (wJ w 562 x) = .ref (mdv w x 2) from ev 2 (by decide)]
        rw [show rv (wJ w 563 x) = .ref (mdv w x 3) from ev 3 (by decide)]
        rw [show rv (wJ w 566 x) = .ref (mdv w x 6) from ev 6 (by decide)]
        rw [show rv (wJ w 567 x) = .ref (mdv w x 7) from ev 7 (by decide)]
        rw [show rv (wJ w 568 x) = .ref (mdv w x 8) from ev 8 (by decide)]
        rw [show rv (wJ w 569 x) = .ref (mdv w x 9) from ev 9 (by decide)]
        rw [show rv (wJ w 570 x) = .ref (mdv w x 10) from ev 10 (by decide)]
        rw [show rv (wJ w 571 x) = .ref (mdv w x 11) from ev 11 (by decide)]
        rw [show rv (wJ w 572 x) = .ref (mdv w x 12) from ev 12 (by decide)]
        rw [show rv (wJ w 573 x) = .ref (mdv w x 13) from ev 13 (by decide)]
        rw [show rv (wJ w 574 x) = .ref (mdv w x 14) from ev 14 (by decide)]
        rw [show rv (wJ w 575 x) = .ref (mdv w x 15) from ev 15 (by decide)]
        rw [show rv (wJ w 576 x) = .ref (mdv w x 16) from ev 16 (by decide)]
        rw [show rv (wJ w 577 x) = .ref (mdv w x 17) from ev 17 (by decide)]
        rw [show rv (wJ w 579 x) = .ref (mdv w x 19) from ev 19 (by decide)]
        rw [show rv (wJ w 580 x) = .ref (mdv w x 20) from ev 20 (by decide)]
        rw [show rv (wJ w 581 x) = .ref (mdv w x 21) from ev 21 (by decide)]
        rw [show rv (wJ w 582 x) = .ref (mdv w x 22) from ev 22 (by decide)]
        rw [show rv (wJ w 584 x) = .ref (mdv w x 24) from ev 24 (by decide)]
        rw [show rv (wJ w 585 x) = .ref (mdv w x 25) from ev 25 (by decide)]
        rw [show rv (wJ w 586 x) = .ref (mdv w x 26) from ev 26 (by decide)]
        rw [show rv (wJ w 587 x) = .ref (mdv w x 27) from ev 27 (by decide)]
        rw [show rv (wJ w 588 x) = .ref (mdv w x 28) from ev 28 (by decide)]
        rw [show rv (wJ w 589 x) = .ref (mdv w x 29) from ev 29 (by decide)]
        rw [show rv (wJ w 590 x) = .ref (mdv w x 30) from ev 30 (by decide)]
        rfl
      have h2 := w1.2 x _ h1
      have h3 : e = .inr (7, mfs (mkg D cy H0 e0 mi 1 (mdv w x) P) (mv w x)) := by
        unfold ment at hk
        rw [if_pos rfl] at hk
        exact (Option.some.inj hk).symm
      have h4 : gmd (mkg D cy H0 e0 mi 1 (mdv w x) P) 32 = x - 1 := rfl
      rw [h4, h3]
      refine ⟨h2.1, ?_, h2.2 (by show ¬ wJ w 0 x = 13; rw [m1]; omega)⟩
      show wJ (cv w x) 0 (x - 1 + 1) = 0
      rw [show x - 1 + 1 = x by omega]
      exact cv_in List.mem_cons_self
    · unfold ment at hk
      rw [if_neg h32] at hk
      by_cases hl : mlen k = 0
      · rw [if_pos hl] at hk; cases hk
      · rw [if_neg hl] at hk
        have hk' := mks_of hl
        have h0 := nz k hk'
        obtain ⟨a1, a2⟩ := m2 k hk'
        have h4 : gmd (mkg D cy H0 e0 mi 1 (mdv w x) P) k = wJ w (560 + k) x - 1 := if_neg h32
        have h1 : cent (mkg D cy H0 e0 mi 0 md P) w (wJ w (560 + k) x) = some e := by
          rw [← hk]
          unfold cent
          rcases (show mcy k = 0 ∨ mcy k = 1 by have := (mks_ne hk').2.2; omega) with q | q
          · rw [a1, a2, q]; rfl
          · rw [a1, a2, q]; rfl
        have h2 := w1.2 _ _ h1
        rw [h4]
        refine ⟨h2.1, ?_, h2.2 (by show ¬ wJ w 0 (wJ w (560 + k) x) = 13; rw [a1]; have := (mks_ne hk').2.2; omega)⟩
        show wJ (cv w x) 0 (wJ w (560 + k) x - 1 + 1) = 0
        rw [show wJ w (560 + k) x - 1 + 1 = wJ w (560 + k) x by omega]
        exact cv_in (List.mem_cons_of_mem _ (List.mem_map.mpr ⟨k, hk', rfl⟩))
  · have cls : ∀ k e, ment (mkg D cy H0 e0 mi 1 (mdv w x) P) (mv w x) k = some e → k = 32 ∨ k ∈ mks := by
      intro k e hk
      by_cases h32 : k = 32
      · exact Or.inl h32
      · unfold ment at hk
        rw [if_neg h32] at hk
        by_cases hl : mlen k = 0
        · rw [if_pos hl] at hk; cases hk
        · exact Or.inr (mks_of hl)
    have gx : gmd (mkg D cy H0 e0 mi 1 (mdv w x) P) 32 = x - 1 := rfl
    have gk : ∀ k ∈ mks, gmd (mkg D cy H0 e0 mi 1 (mdv w x) P) k = wJ w (560 + k) x - 1 := fun k hk => if_neg (mks_ne hk).2.1
    have apart : ∀ k ∈ mks, ¬ x - 1 = wJ w (560 + k) x - 1 := fun k hk h => by
      have h0 := nz k hk
      have h5 : x = wJ w (560 + k) x := by omega
      have h6 := (m2 k hk).1
      rw [← h5, m1] at h6
      have := (mks_ne hk).2.2
      omega
    rcases cls j e hj with q | q <;> rcases cls k e' hk with r | r
    · rw [q, r]
    · subst q; rw [gx, gk k r] at hjk; exact absurd hjk (apart k r)
    · subst r; rw [gx, gk j q] at hjk; exact absurd hjk.symm (apart j q)
    · rw [gk j q, gk k r] at hjk
      exact m3 j q k r (by have := nz j q; have := nz k r; omega)
  · show wJ (cv w x) 2 0 = _
    rw [cv_wJ (fun q => absurd q.1 (by omega))]; exact w9
  · show wJ (cv w x) 3 0 = _
    rw [cv_wJ (fun q => absurd q.1 (by omega))]; exact wA
/-- the memory at the start -/
def W0 (z e0 mi : Nat) : CS := (fun _ _ => 0, fun _ _ => 0, fun f y => if y = 0 then (if f = 2 then e0 + 1 else if f = 3 then mi + 1 else 0) else 0, fun _ _ => 0, fun _ _ => 0, fun _ _ => 0, z, 601024, 7293034)
theorem ct_r (a : Nat) : (Value.ref a).category = 1 := rfl
def x_law_S (w : CS) : Option (Nat × Nat × Nat × CS) :=
  if 1 ≤ wl w ∧ 8 ≤ wk w then
  bs (nw w 6 0 8) (fun (w2 : CS) =>
  if wJ w2 0 (wz w + 1) = 6 then
  bd (x_X6_init (wz w + 1) w2) (fun (w5 : CS) =>
  if 1 ≤ wl w5 ∧ 32 ≤ wk w5 then
  bs (nw w5 14 0 32) (fun (w7 : CS) =>
  if wJ w7 0 (wz w5 + 1) = 14 then
  bd (x_X7_init (wz w5 + 1) w7) (fun (w10 : CS) =>
  if ¬ (1 : Int32) < 0 ∧ (1 : Int32).toNatClampNeg ≤ 1000 then
  if 1 ≤ wl w10 ∧ (1 : Int32).toNatClampNeg ≤ wk w10 then
  bs (nw w10 15 (1 : Int32).toNatClampNeg (1 : Int32).toNatClampNeg) (fun (w13 : CS) =>
  some ((wz w + 1), (wz w5 + 1), (wz w10 + 1), w13))
  else none
  else none)
  else none)
  else none)
  else none)
  else none
set_option maxHeartbeats 8000000 in
set_option maxRecDepth 100000 in
theorem c_law_S (g : GG) (l : Launch) (hG : XG g) (hN : NG g) (hC : NC g) (hst : l.stackTraces = false) {p : Program} {e : Env} {s : State} {mi : MethodId} {args : Array Value} {below : List Frame} {meth : Method} {cd : Code} {Q : State → Prop} {b : Nat} (hX : MX g RL p s mi args cd cL_law 7 wsL_law meth (some .boolean)) (w : CS) (mm : MS) (r : Nat × Nat × Nat × CS) (h : x_law_S w = some r) (hw : wH g s.heap.size (w, mm) s.heap []) (ls : Array Slot) (hl : lv_has ls 7 [(0, .ref b)])
    (hend : ∀ (H : Heap) (lc : List Loc) (cn sn : Nat) (ls : Array Slot) {r2 : Nat × Nat × Nat × CS}, r = r2 → wH g s.heap.size (r2.2.2.2, mm) H lc → lv_has ls 7 [(0, .ref b), (1, rv r2.1), (2, rv r2.2.1), (3, rv r2.2.2.1), (4, .int 0)] → W p l e (rmO g 20 784 s.heap) s mi args below meth cd H lc cn sn Q (F0 mi 23 ls [])) :
    W p l e (rmO g 20 784 s.heap) s mi args below meth cd s.heap [] 0 0 Q (F0 mi 0 ls []) := by
  obtain ⟨⟨hx, hb, -, hown, hts⟩, -⟩ := id hX
  unfold x_law_S at h
  obtain ⟨c1, h⟩ := og h
  obtain ⟨w2, ew2, h⟩ := ol h
  refine n_6 hX hw (by decide +kernel) (by decide +kernel) (by decide +kernel) (by decide +kernel) c1 dL_law_0 (fun H cn sn hw => ?_)
  have hw := hw_eq ew2 hw
  refine lv_dup hx hb dL_law_3 (rv_cat _) ?_
  obtain ⟨c3, h⟩ := og h
  obtain ⟨w5, e4, h⟩ := ob h
  refine g_callI (n := 0) (As := []) (rest := [rv (wz w + 1)]) hX hw (c_X6_init g l hG hN hst mm (wz w + 1) w2 w5 e4) gL_law_X6_init rfl (by decide +kernel) rfl (x_nz hw c3) (by decide +kernel) (by decide +kernel) (by decide +kernel) rfl hl.1 rfl (by simp [rv_cat, ct_i, ct_l, ct_r]) ⟨by decide, by decide⟩ dL_law_4 (fun H lc cn sn hw => ?_)
  refine t_astore_n (lv' := [(1, rv (wz w + 1)), (0, .ref b)]) hx hb dL_law_7 rfl hl (by decide) rfl (fun ls hl => ?_)
  obtain ⟨c6, h⟩ := og h
  obtain ⟨w7, ew7, h⟩ := ol h
  refine n_14 hX hw (by decide +kernel) (by decide +kernel) (by decide +kernel) (by decide +kernel) c6 dL_law_8 (fun H cn sn hw => ?_)
  have hw := hw_eq ew7 hw
  refine lv_dup hx hb dL_law_11 (rv_cat _) ?_
  obtain ⟨c8, h⟩ := og h
  obtain ⟨w10, e9, h⟩ := ob h
  refine g_callI (n := 0) (As := []) (rest := [rv (wz w5 + 1)]) hX hw (c_X7_init g l hG hst mm (wz w5 + 1) w7 w10 e9) gL_law_X7_init rfl (by decide +kernel) rfl (x_nz hw c8) (by decide +kernel) (by decide +kernel) (by decide +kernel) rfl hl.1 rfl (by simp [rv_cat, ct_i, ct_l, ct_r]) ⟨by decide, by decide⟩ dL_law_12 (fun H lc cn sn hw => ?_)
  refine t_astore_n (lv' := [(2, rv (wz w5 + 1)), (1, rv (wz w + 1)), (0, .ref b)]) hx hb dL_law_15 rfl hl (by decide) (by simp [rv_cat, ct_i, ct_l, ct_r] <;> decide) (fun ls hl => ?_)
  refine lv_iconst (v := 1) hx hb dL_law_16 (by decide) ?_
  obtain ⟨c11, h⟩ := og h
  obtain ⟨c12, h⟩ := og h
  obtain ⟨w13, ew13, h⟩ := ol h
  refine n_arrL hX hw (by decide +kernel) c11 c12 dL_law_17 (fun H cn sn hw => ?_)
  have hw := hw_eq ew13 hw
  refine t_astore_n (lv' := [(3, rv (wz w10 + 1)), (2, rv (wz w5 + 1)), (1, rv (wz w + 1)), (0, .ref b)]) hx hb dL_law_19 rfl hl (by decide) (by simp [rv_cat, ct_i, ct_l, ct_r] <;> decide) (fun ls hl => ?_)
  refine lv_iconst (v := 0) hx hb dL_law_20 (by decide) ?_
  refine lv_istore (lv' := [(4, .int 0), (3, rv (wz w10 + 1)), (2, rv (wz w5 + 1)), (1, rv (wz w + 1)), (0, .ref b)]) hx hb dL_law_21 hl (by decide) (by simp [rv_cat, ct_i, ct_l, ct_r] <;> decide) (fun ls hl => ?_)
  exact hend _ _ _ _ _ (Option.some.inj h).symm hw (lv_sub hl [4, 3, 2, 1, 0] rfl)
/-- WHAT IS LEFT TO SHOW, of the extracted functions alone: from the start's memory both objects come to be, and the law's loop ends with 1 -/
def PURE : Prop := ∀ (z e0 mi L : Nat) (xs : Nat → Int32), L ≤ 3584 → e0 < z → ∃ r : Nat × Nat × Nat × CS, x_law_S (W0 z e0 mi) = some r ∧ MOK r.2.2.2 r.2.1 ∧ x_law_L r.1 r.2.2.1 L xs 1000 0 (cv r.2.2.2 r.2.1) (mv r.2.2.2 r.2.1) = some 1
set_option maxHeartbeats 4000000 in
set_option maxRecDepth 100000 in
theorem whole_start0 (hPure : PURE) {p : Program} {e : Env} {s : State} {m : MethodId} {below : List Frame} {meth : Method} {c : Code} (l : Launch) (hflags : l.flags = flags0) {b L : Nat} {xs : Nat → Int32} (hL : L ≤ 3584) (C0 : lw_At p s m meth c b L xs) : W p l e room_1 s m #[Value.ref b] below meth c s.heap [] 0 0 (lw_Z below #[Value.ref b] s) (entryFrame m ([Value.ref b] : List Value).toArray 7) := by
  obtain ⟨hx, hb, hr, hml, hown, hts, hX, hbl, hlocks, hgv⟩ := id C0
  have hst : l.stackTraces = false := by
    unfold Launch.stackTraces
    rw [hflags]
    decide
  obtain ⟨D, cy, e0, mi, hK, hF⟩ := start_facts hts hgv
  have he0 : e0 < s.heap.size := hF.1.2.2.2.2.1.2.2.choose_spec.2.2.2
  obtain ⟨r, h1, h2, h3⟩ := hPure s.heap.size e0 mi L xs hL he0
  have TBk : ∀ (n4 : Nat) (md : Nat → Nat), TB (mkg D cy s.heap e0 mi n4 md (FCT D cy s.heap e0 mi)) s := fun n4 md => ⟨hK, hF, fun u U hW h => FCT.moved hW h⟩
  have MXk : ∀ (n4 : Nat) (md : Nat → Nat), MX (mkg D cy s.heap e0 mi n4 md (FCT D cy s.heap e0 mi)) RL p s m #[Value.ref b] c cL_law 7 wsL_law meth (some .boolean) := fun n4 md => ⟨⟨hx, hb, hml, hown, fun w hw => hts w (wsL_law_in w hw)⟩, TBk n4 md, fun q _ => rfl, hr, hlocks⟩
  have hw0 : wH (mkg D cy s.heap e0 mi 0 (fun _ => 0) (FCT D cy s.heap e0 mi)) s.heap.size (W0 s.heap.size e0 mi, ((fun _ => 0, fun _ _ => 0) : MS)) s.heap [] := by
    refine ⟨⟨rfl, fun x e hxe => ?_⟩, fun h => absurd (show (0 : Nat) = 1 from h) (by decide), fun q _ => rfl, ⟨Nat.le_refl _, Nat.le_refl _, rfl, Nat.le_refl _, Nat.le_refl _, rfl, rfl⟩, fun q hq => absurd hq List.not_mem_nil⟩
    have hk : wJ (W0 s.heap.size e0 mi) 0 x = 0 := by
      show (if x = 0 then (if (0 : Nat) = 2 then e0 + 1 else if (0 : Nat) = 3 then mi + 1 else 0) else 0) = 0
      split <;> rfl
    simp [cent, hk] at hxe
  have hroom : ∀ (n4 : Nat) (md : Nat → Nat), room_1 = rmO (mkg D cy s.heap e0 mi n4 md (FCT D cy s.heap e0 mi)) 20 784 s.heap := fun n4 md => by
    show ({ frames := 20, cells := 601024, slots := 7293034, locals := 784 } : Room) = { frames := 20, cells := s.heap.size + 601024 - s.heap.size, slots := hsl s.heap + 7293034 - hsl s.heap, locals := 784 }
    rw [Nat.add_sub_cancel_left, Nat.add_sub_cancel_left]
  rw [hroom 0 (fun _ => 0)]
  have hl := lv_entry ([.ref b]) (n := 7) (Nat.le_of_ble_eq_true rfl)
  rw [lg_entry_eq]
  refine c_law_S _ l mk_XG mk_NG mk_NC hst (MXk 0 _) _ _ r h1 hw0 _ hl ?_
  intro H lc cn sn ls r2 hr2 hw hl2
  subst hr2
  have hw' := conv hw h2
  rw [← hroom 0 (fun _ => 0), hroom 1 (mdv r.2.2.2 r.2.1)]
  have hmx : rv r.2.1 = .ref (mdv r.2.2.2 r.2.1 32) := by
    have h9 : ¬ r.2.1 = 0 := x_nz hw h2.1
    rw [rv_ref h9]; rfl
  rw [hmx] at hl2
  refine c_law_L _ l mk_XG mk_NC hst rfl (MXk 1 _) (b := b) (L := L) (xs := xs) ⟨rfl, rfl, hbl, hX⟩ r.1 r.2.2.1 1 ?_ 1000 0 _ _ H lc cn sn ls h3 hw' hl2
  intro T H lc cn sn pc ls v hd hw9 hv
  subst hv
  rw [← hroom 1 (mdv r.2.2.2 r.2.1)]
  refine va_forget (fun q hq => hw9.2.2.2.2 q hq) ?_
  refine tw_tight fun c' s' hc hs' hz hzs => ?_
  obtain ⟨-, -, -, ⟨a1, a2, a3, a4, a5, -⟩, -⟩ := hw9
  have a4' : hsl H + wk T.1 ≤ hsl s.heap + 7293034 := a4
  have a5' : wz T.1 + wl T.1 ≤ s.heap.size + 601024 := a5
  exact W.widen (k := 601024) (n := 7293034) (by omega) (by omega) (lw_ret hx hb hr hlocks hd)
