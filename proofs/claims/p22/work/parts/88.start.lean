/-! ===== the law from its entry: the object, the four arrays, the change of view ===== -/
def kA (a1 a2 a3 a4 : Nat) : Nat → Nat := fun k => match k with
  | 1 => a1
  | 2 => a2
  | 3 => a3
  | _ => a4
theorem mlen_of {k : Nat} (h : ¬ mlen k = 0) : k = 1 ∨ k = 2 ∨ k = 3 ∨ k = 4 := by
  unfold mlen at h
  split at h <;> first | omega | exact absurd rfl h
/-- the class's memory without the law's arrays, and the law's own memory -/
def inA (A : Nat → Nat) (y : Nat) : Prop := y = A 1 ∨ y = A 2 ∨ y = A 3 ∨ y = A 4
theorem inA_k {A : Nat → Nat} {k : Nat} (h : k = 1 ∨ k = 2 ∨ k = 3 ∨ k = 4) : inA A (A k) := by
  rcases h with q | q | q | q <;> subst q
  · exact Or.inl rfl
  · exact Or.inr (Or.inl rfl)
  · exact Or.inr (Or.inr (Or.inl rfl))
  · exact Or.inr (Or.inr (Or.inr rfl))
def cv (w : CS) (A : Nat → Nat) : CS := (w.1, w.2.1, (fun f y => if f = 0 ∧ (y = A 1 ∨ y = A 2 ∨ y = A 3 ∨ y = A 4) then 0 else w.2.2.1 f y), w.2.2.2)
def mv (w : CS) (A : Nat → Nat) : MS := (fun _ => 0, fun k i => wA w (A k) i)
def mdv (A : Nat → Nat) : Nat → Nat := fun k => A k - 1
def MOK (w : CS) (A : Nat → Nat) : Prop := (∀ k, (k = 1 ∨ k = 2 ∨ k = 3 ∨ k = 4) → wJ w 0 (A k) = 8 ∧ wJ w 1 (A k) = mlen k) ∧ ∀ j k, (j = 1 ∨ j = 2 ∨ j = 3 ∨ j = 4) → (k = 1 ∨ k = 2 ∨ k = 3 ∨ k = 4) → A j = A k → j = k
theorem cv_wJ {w : CS} {A : Nat → Nat} {f y : Nat} (h : ¬ (f = 0 ∧ inA A y)) : wJ (cv w A) f y = wJ w f y := if_neg h
theorem cv_in {w : CS} {A : Nat → Nat} {y : Nat} (h : inA A y) : wJ (cv w A) 0 y = 0 := if_pos ⟨rfl, h⟩
theorem conv {D : va_G} {cy : Nat → ClassId} {H0 : Heap} {e0 mi : Nat} {md : Nat → Nat} {P : State → Prop} {z : Nat} {w : CS} {mm : MS} {H : Heap} {L : List Loc} {A : Nat → Nat} (hw : wH (mkg D cy H0 e0 mi 0 md P) z (w, mm) H L) (hM : MOK w A) : wH (mkg D cy H0 e0 mi 1 (mdv A) P) z (cv w A, mv w A) H L := by
  obtain ⟨w1, w2, w3, ⟨w4, w5, w6, w7, w8, w9, wA⟩, w10⟩ := hw
  obtain ⟨m2, m3⟩ := hM
  have w1a : wJ w 0 0 = 0 := w1.1
  have nz : ∀ k, (k = 1 ∨ k = 2 ∨ k = 3 ∨ k = 4) → ¬ A k = 0 := fun k hk h => by
    have := (m2 k hk).1
    rw [h, w1a] at this
    omega
  have cls : ∀ k e, ment (mkg D cy H0 e0 mi 1 (mdv A) P) (mv w A) k = some e → k = 1 ∨ k = 2 ∨ k = 3 ∨ k = 4 := by
    intro k e hk
    unfold ment at hk
    by_cases hl : mlen k = 0
    · rw [if_pos hl] at hk; cases hk
    · exact mlen_of hl
  refine ⟨⟨?_, fun y e hy => ?_⟩, fun _ => ⟨fun k e hk => ?_, fun j k e e' hj hk hjk => ?_⟩, w3, ⟨w4, w5, w6, w7, w8, ?_, ?_⟩, w10⟩
  · show wJ (cv w A) 0 0 = 0
    by_cases h0 : inA A 0
    · exact cv_in h0
    · rw [cv_wJ (fun q => h0 q.2)]; exact w1a
  · by_cases hin : inA A y
    · have h9 := cv_in (w := w) hin
      simp [cent, h9] at hy
    · have hJ : ∀ f, wJ (cv w A) f y = wJ w f y := fun f => cv_wJ (fun q => hin q.2)
      have hI : ∀ f, wI (cv w A) f y = wI w f y := fun f => rfl
      have he : cent (mkg D cy H0 e0 mi 1 (mdv A) P) (cv w A) y = cent (mkg D cy H0 e0 mi 0 md P) w y := by
        unfold cent
        simp only [hJ]
        rfl
      have h2 : cent (mkg D cy H0 e0 mi 0 md P) w y = some e := he.symm.trans hy
      have h3 := w1.2 y e h2
      exact ⟨h3.1, fun h => h3.2 (by rw [← hJ]; exact h)⟩
  · have hk' := cls k e hk
    have h0 := nz k hk'
    obtain ⟨a1, a2⟩ := m2 k hk'
    have h4 : gmd (mkg D cy H0 e0 mi 1 (mdv A) P) k = A k - 1 := rfl
    have hl : ¬ mlen k = 0 := by rcases hk' with q | q | q | q <;> subst q <;> decide
    unfold ment at hk
    rw [if_neg hl] at hk
    have h1 : cent (mkg D cy H0 e0 mi 0 md P) w (A k) = some e := by
      rw [← hk]
      unfold cent
      rw [a1, a2]
      rfl
    have h2 := w1.2 _ _ h1
    rw [h4]
    refine ⟨h2.1, ?_, h2.2 (by show ¬ wJ w 0 (A k) = 13; rw [a1]; omega)⟩
    show wJ (cv w A) 0 (A k - 1 + 1) = 0
    rw [show A k - 1 + 1 = A k by omega]
    exact cv_in (inA_k hk')
  · have hj' := cls j e hj
    have hk' := cls k e' hk
    have gk : ∀ i, gmd (mkg D cy H0 e0 mi 1 (mdv A) P) i = A i - 1 := fun i => rfl
    rw [gk, gk] at hjk
    exact m3 j k hj' hk' (by have := nz j hj'; have := nz k hk'; omega)
  · show wJ (cv w A) 2 0 = _
    rw [cv_wJ (fun q => absurd q.1 (by omega))]; exact w9
  · show wJ (cv w A) 3 0 = _
    rw [cv_wJ (fun q => absurd q.1 (by omega))]; exact wA
/-- the memory at the start -/
def W0 (z e0 mi : Nat) : CS := (fun _ _ => 0, fun _ _ => 0, fun f y => if y = 0 then (if f = 2 then e0 + 1 else if f = 3 then mi + 1 else 0) else 0, fun _ _ => 0, fun _ _ => 0, fun _ _ => 0, z, 600074, 7301550)
/-- WHAT IS LEFT TO SHOW, of the extracted functions alone: from the start's memory the object and the arrays come to be, and the law's body ends with 1 -/
def PURE : Prop := ∀ (z e0 mi L : Nat) (xs : Nat → Int32), L ≤ 260 → e0 < z → ∃ r : Nat × Nat × Nat × Nat × Nat × CS, x_law_S (W0 z e0 mi) = some r ∧ MOK r.2.2.2.2.2 (kA r.2.1 r.2.2.1 r.2.2.2.1 r.2.2.2.2.1) ∧ ∃ (w' : CS) (m' : MS), x_L_law L xs r.1 (cv r.2.2.2.2.2 (kA r.2.1 r.2.2.1 r.2.2.2.1 r.2.2.2.2.1)) (mv r.2.2.2.2.2 (kA r.2.1 r.2.2.1 r.2.2.2.1 r.2.2.2.2.1)) = some (1, w', m')
set_option maxHeartbeats 4000000 in
set_option maxRecDepth 100000 in
theorem whole_start0 (hPure : PURE) {p : Program} {e : Env} {s : State} {m : MethodId} {below : List Frame} {meth : Method} {c : Code} (l : Launch) (hflags : l.flags = flags0) {b L : Nat} {xs : Nat → Int32} (hL : L ≤ 260) (C0 : lw_At p s m meth c b L xs) : W p l e room_1 s m #[Value.ref b] below meth c s.heap [] 0 0 (lw_Z below #[Value.ref b] s) (entryFrame m ([Value.ref b] : List Value).toArray 8) := by
  obtain ⟨hx, hb, hr, hml, hown, hts, hX, hbl, hlocks, hgv⟩ := id C0
  have hst : l.stackTraces = false := by
    unfold Launch.stackTraces
    rw [hflags]
    decide
  obtain ⟨D, cy, e0, mi, hK, hF⟩ := start_facts hX hts hgv
  have he0 : e0 < s.heap.size := hF.1.2.2.2.2.1.2.2.choose_spec.2.2.2
  obtain ⟨r, h1, h2, w', m', h3⟩ := hPure s.heap.size e0 mi L xs hL he0
  have TBk : ∀ (n4 : Nat) (md : Nat → Nat), TB (mkg D cy s.heap e0 mi n4 md (FCT D cy s.heap e0 mi b L xs)) s := fun n4 md => ⟨hK, hF, fun u U hW h => FCT.moved hW h⟩
  have MXk : ∀ (n4 : Nat) (md : Nat → Nat), MX (mkg D cy s.heap e0 mi n4 md (FCT D cy s.heap e0 mi b L xs)) RL p s m #[Value.ref b] c cL_law 8 wsL_law meth (some .boolean) := fun n4 md => ⟨⟨hx, hb, hml, hown, fun w hw => hts w (wsL_law_in w hw)⟩, TBk n4 md, fun q _ => rfl, hr, hlocks⟩
  have hw0 : wH (mkg D cy s.heap e0 mi 0 (fun _ => 0) (FCT D cy s.heap e0 mi b L xs)) s.heap.size (W0 s.heap.size e0 mi, ((fun _ => 0, fun _ _ => 0) : MS)) s.heap [] := by
    refine ⟨⟨rfl, fun x e hxe => ?_⟩, fun h => absurd (show (0 : Nat) = 1 from h) (by decide), fun q _ => rfl, ⟨Nat.le_refl _, Nat.le_refl _, rfl, Nat.le_refl _, Nat.le_refl _, rfl, rfl⟩, fun q hq => absurd hq List.not_mem_nil⟩
    have hk : wJ (W0 s.heap.size e0 mi) 0 x = 0 := by
      show (if x = 0 then (if (0 : Nat) = 2 then e0 + 1 else if (0 : Nat) = 3 then mi + 1 else 0) else 0) = 0
      split <;> rfl
    simp [cent, hk] at hxe
  have hroom : ∀ (n4 : Nat) (md : Nat → Nat), room_1 = rmO (mkg D cy s.heap e0 mi n4 md (FCT D cy s.heap e0 mi b L xs)) 22 928 s.heap := fun n4 md => by
    show ({ frames := 22, cells := 600074, slots := 7301550, locals := 928 } : Room) = { frames := 22, cells := s.heap.size + 600074 - s.heap.size, slots := hsl s.heap + 7301550 - hsl s.heap, locals := 928 }
    rw [Nat.add_sub_cancel_left, Nat.add_sub_cancel_left]
  rw [hroom 0 (fun _ => 0)]
  have hl := lv_entry ([.ref b]) (n := 8) (Nat.le_of_ble_eq_true rfl)
  rw [lg_entry_eq]
  refine c_law_S _ l mk_XG mk_NG mk_NC hst (MXk 0 _) _ _ r h1 hw0 _ hl ?_
  intro H lc cn sn ls r2 hr2 hw hl2
  subst hr2
  have hw' := conv hw h2
  rw [← hroom 0 (fun _ => 0), hroom 1 (mdv (kA r.2.1 r.2.2.1 r.2.2.2.1 r.2.2.2.2.1))]
  have hz : ∀ k, (k = 1 ∨ k = 2 ∨ k = 3 ∨ k = 4) → rv (kA r.2.1 r.2.2.1 r.2.2.2.1 r.2.2.2.2.1 k) = .ref (mdv (kA r.2.1 r.2.2.1 r.2.2.2.1 r.2.2.2.2.1) k) := fun k hk => by
    have h9 : ¬ kA r.2.1 r.2.2.1 r.2.2.2.1 r.2.2.2.2.1 k = 0 := x_nz hw (h2.1 k hk).1
    rw [rv_ref h9]; rfl
  have z1 : rv r.2.1 = .ref (mdv (kA r.2.1 r.2.2.1 r.2.2.2.1 r.2.2.2.2.1) 1) := hz 1 (Or.inl rfl)
  have z2 : rv r.2.2.1 = .ref (mdv (kA r.2.1 r.2.2.1 r.2.2.2.1 r.2.2.2.2.1) 2) := hz 2 (Or.inr (Or.inl rfl))
  have z3 : rv r.2.2.2.1 = .ref (mdv (kA r.2.1 r.2.2.1 r.2.2.2.1 r.2.2.2.2.1) 3) := hz 3 (Or.inr (Or.inr (Or.inl rfl)))
  have z4 : rv r.2.2.2.2.1 = .ref (mdv (kA r.2.1 r.2.2.1 r.2.2.2.1 r.2.2.2.2.1) 4) := hz 4 (Or.inr (Or.inr (Or.inr rfl)))
  rw [z1, z2, z3, z4] at hl2
  refine c_L_law _ l mk_XG mk_NC hst rfl (MXk 1 _) (mk_SCG hbl) r.1 _ _ 1 w' m' h3 ?_ H lc cn sn ls hw' hl2
  intro H lc cn sn pc ls v hd hv9 hw9 hv
  cases hv
  rw [← hroom 1 (mdv (kA r.2.1 r.2.2.1 r.2.2.2.1 r.2.2.2.2.1))]
  refine va_forget (fun q hq => hw9.2.2.2.2 q hq) ?_
  refine tw_tight fun c' s' hc hs' hz hzs => ?_
  obtain ⟨-, -, -, ⟨a1, a2, a3, a4, a5, -⟩, -⟩ := hw9
  have a3' : H.size = wz w' := a3
  have a4' : hsl H + wk w' ≤ hsl s.heap + 7301550 := a4
  have a5' : wz w' + wl w' ≤ s.heap.size + 600074 := a5
  exact W.widen (k := 600074) (n := 7301550) (by omega) (by omega) (lw_ret hx hb hr hlocks hd)
