/-! ===== PURE: the start: the class's own object (printed by gen75.py) ===== -/
/-- an equation that omega doesn't look at -/
def EQn (a b : Nat) : Prop := a = b
theorem a_mk {o m f k l n : Nat} {w : CS} (hw : WF w) (hz : wz w = m) (ho : o ≤ m) (hf : f ≠ 0 ∧ f ≠ 1) (hr : 1 ≤ wl w ∧ n ≤ wk w) : ∃ w1, sJ (nw w k l n) f o (m + 1) = w1 ∧ WF w1 ∧ wz w1 = m + 1 ∧ wl w1 + 1 = wl w ∧ wk w1 + n = wk w ∧ FR (fun y => y = o ∨ m < y) w w1 ∧ EQn (wJ w1 0 (m + 1)) k ∧ EQn (wJ w1 1 (m + 1)) l ∧ EQn (wJ w1 f o) (m + 1) ∧ (∀ g, g ≠ f → wJ w1 g o = wJ w g o) ∧ (∀ g, wI w1 g o = wI w g o) ∧ (∀ i, wA w1 (m + 1) i = 0) := by
  refine ⟨_, rfl, hw.k_nw.k_sJ hf.1, by rw [wz_sJ, wz_nw, hz], by rw [wl_sJ, wl_nw]; omega, by rw [wk_sJ, wk_nw]; omega, FR.k_nw.k_sJ (Or.inl rfl) hf, ?_, ?_, ?_, fun g hg => ?_, fun g => ?_, fun i => ?_⟩
  · show wJ _ _ _ = _
    rw [wJ_sJ, if_neg (by omega), wJ_nw, if_pos (by omega), if_pos rfl]
  · show wJ _ _ _ = _
    rw [wJ_sJ, if_neg (by omega), wJ_nw, if_pos (by omega), if_neg (by omega), if_pos rfl]
  · show wJ _ _ _ = _
    rw [wJ_sJ, if_pos ⟨rfl, rfl⟩]
  · rw [wJ_sJ, if_neg (fun e : g = f ∧ o = o => hg e.1), wJ_nw, if_neg (by omega)]
  · rw [wI_sJ, wI_nw, if_neg (by omega)]
  · rw [wA_sJ, wA_nw, if_pos (by omega)]
def ELF (w : CS) (l : Nat) : Prop := wJ w 0 l = 7 ∧ wJ w 281 l = wJ w 2 0 ∧ wI w 282 l = 0
theorem ELF.fr {A : Nat → Prop} {w w' : CS} {s : Nat} (h : ELF w s) (F : FR A w w') (hy : s ≤ wz w) (hA : ¬ A s ∧ ¬ A 0) : ELF w' s := by
  obtain ⟨a1, -, a3, -⟩ := F.2.2 s (by omega) hA.1
  obtain ⟨-, -, d3, -⟩ := F.2.2 0 (by omega) hA.2
  unfold ELF
  rw [a3, a3, a1, d3]; exact h
theorem l_mk {o m f : Nat} {w : CS} (hw : WF w) (hz : wz w = m) (ho : 0 < o ∧ o ≤ m) (hf : f ≠ 0 ∧ f ≠ 1 ∧ f ≠ 2) (hr : 1 ≤ wl w ∧ 3 ≤ wk w) : wJ (nw w 7 0 3) 0 (m + 1) = 7 ∧ wJ (sJ (sI (nw w 7 0 3) 280 (m + 1) 0) 281 (m + 1) (wJ (nw w 7 0 3) 2 0)) 0 o = wJ w 0 o ∧ ∃ w1, sJ (sJ (sI (nw w 7 0 3) 280 (m + 1) 0) 281 (m + 1) (wJ (nw w 7 0 3) 2 0)) f o (m + 1) = w1 ∧ WF w1 ∧ wz w1 = m + 1 ∧ wl w1 + 1 = wl w ∧ wk w1 + 3 = wk w ∧ FR (fun y => y = o ∨ m < y) w w1 ∧ ELF w1 (m + 1) ∧ EQn (wJ w1 f o) (m + 1) ∧ (∀ g, g ≠ f → wJ w1 g o = wJ w g o) ∧ (∀ g, wI w1 g o = wI w g o) := by
  have h7 : wJ (nw w 7 0 3) 0 (m + 1) = 7 := by rw [wJ_nw, if_pos (by omega), if_pos rfl]
  have hS : ∀ g, wJ (sJ (sI (nw w 7 0 3) 280 (m + 1) 0) 281 (m + 1) (wJ (nw w 7 0 3) 2 0)) g o = wJ w g o := fun g => by
    rw [wJ_sJ, if_neg (by omega), wJ_sI, wJ_nw, if_neg (by omega)]
  refine ⟨h7, hS 0, _, rfl, ((WF.k_sI hw.k_nw).k_sJ (by omega)).k_sJ hf.1, by show wz w + 1 = _; omega, by show wl w - 1 + 1 = _; omega, by show wk w - 3 + 3 = _; omega, ((FR.k_nw.k_sI (Or.inr (by omega))).k_sJ (Or.inr (by omega)) (by omega)).k_sJ (Or.inl rfl) ⟨hf.1, hf.2.1⟩, ⟨?_, ?_, ?_⟩, ?_, fun g hg => ?_, fun g => ?_⟩
  · rw [wJ_sJ, if_neg (by omega), wJ_sJ, if_neg (by omega)]; exact h7
  · rw [wJ_sJ, if_neg (by omega), wJ_sJ, if_pos ⟨rfl, rfl⟩, wJ_sJ, if_neg (by omega), wJ_sJ, if_neg (by omega)]; rfl
  · show wI (sI (nw w 7 0 3) 280 (m + 1) 0) 282 (m + 1) = 0
    rw [wI_off (Or.inl (by omega)), wI_nw, if_pos (by omega)]
  · show wJ _ _ _ = _
    rw [wJ_sJ, if_pos ⟨rfl, rfl⟩]
  · rw [wJ_sJ, if_neg (fun e : g = f ∧ o = o => hg e.1)]; exact hS g
  · show wI (sI (nw w 7 0 3) 280 (m + 1) 0) g o = _
    rw [wI_off (Or.inr (by omega)), wI_nw, if_neg (by omega)]
def C0 (o : Nat) (w : CS) : Prop :=
  (wJ w 0 o = 6 ∧ wJ w 240 o = o + 1 ∧ wJ w 241 o = o + 2 ∧ wJ w 242 o = o + 3 ∧ wJ w 243 o = o + 4 ∧ wJ w 244 o = o + 5) ∧ (wI w 245 o = 0 ∧ wI w 246 o = -1 ∧ wI w 247 o = 0) ∧ (wJ w 0 (o + 1) = 11 ∧ wJ w 1 (o + 1) = 4 ∧ ∀ i, i < 4 → wB w (o + 1) i = o + 6 + i) ∧ (wJ w 0 (o + 2) = 10 ∧ wJ w 1 (o + 2) = 3 ∧ ∀ i, i < 3 → wB w (o + 2) i = o + 10 + 3 * i) ∧ (wJ w 0 (o + 3) = 10 ∧ wJ w 1 (o + 3) = 3 ∧ ∀ i, i < 3 → wB w (o + 3) i = o + 19 + 3 * i) ∧ (∀ j, j < 4 → TBF w (o + 6 + j)) ∧ (∀ k, k < 6 → STF w (o + 10 + 3 * k)) ∧ ELF w (o + 4) ∧ ELF w (o + 5)
theorem C0.cg {o : Nat} {w w' : CS} (h : C0 o w) (e : SMV (o + 27) w w') : C0 o w' := by
  obtain ⟨h1, h2, h3, h4, h5, h6, h7, h8, h9⟩ := h
  have eI : ∀ {f y}, y ≤ o + 27 → wI w' f y = wI w f y := fun hy => (e _ hy).1 _
  have eA : ∀ {y i}, y ≤ o + 27 → wA w' y i = wA w y i := fun hy => (e _ hy).2.1 _
  have eJ : ∀ {f y}, y ≤ o + 27 → wJ w' f y = wJ w f y := fun hy => (e _ hy).2.2.1 _
  have eB : ∀ {y i}, y ≤ o + 27 → wB w' y i = wB w y i := fun hy => (e _ hy).2.2.2 _
  have eF : ∀ {l}, l ≤ o + 27 → ELF w l → ELF w' l := fun hl h => by
    unfold ELF
    rw [eJ hl, eJ hl, eI hl, eJ (Nat.zero_le _)]; exact h
  refine ⟨?_, ?_, ⟨(eJ (by omega)).trans h3.1, (eJ (by omega)).trans h3.2.1, fun i hi => (eB (by omega)).trans (h3.2.2 i hi)⟩, ⟨(eJ (by omega)).trans h4.1, (eJ (by omega)).trans h4.2.1, fun i hi => (eB (by omega)).trans (h4.2.2 i hi)⟩, ⟨(eJ (by omega)).trans h5.1, (eJ (by omega)).trans h5.2.1, fun i hi => (eB (by omega)).trans (h5.2.2 i hi)⟩, fun j hj => ?_, fun k hk => ?_, eF (by omega) h8, eF (by omega) h9⟩
  · have ho : o ≤ o + 27 := by omega
    rw [eJ ho, eJ ho, eJ ho, eJ ho, eJ ho, eJ ho]; exact h1
  · have ho : o ≤ o + 27 := by omega
    rw [eI ho, eI ho, eI ho]; exact h2
  · have hy : o + 6 + j ≤ o + 27 := by omega
    unfold TBF
    rw [eJ hy, eI hy, eI hy, eI hy]; exact h6 j hj
  · have y0 : o + 10 + 3 * k ≤ o + 27 := by omega
    have y1 : o + 10 + 3 * k + 1 ≤ o + 27 := by omega
    have y2 : o + 10 + 3 * k + 2 ≤ o + 27 := by omega
    unfold STF
    rw [eJ y0, eJ y0, eJ y0, eI y0, eJ y1, eJ y1, eJ y2, eJ y2, eI y2, eJ (Nat.zero_le _)]
    obtain ⟨g1, g2, g3, g4, g5, g6, g7, g8⟩ := h7 k hk
    exact ⟨g1, g2, g3, g4, g5, g6, fun i => (eA y1).trans (g7 i), g8⟩
set_option maxHeartbeats 2000000 in
theorem x6_ok {o : Nat} {w : CS} (hw : WF w) (hk : wJ w 0 o = 6) (hz : wz w = o) (hr : 100 ≤ wl w ∧ 1000 ≤ wk w) : ∃ w', x_X6_init o w = some w' ∧ FR (fun y => o ≤ y) w w' ∧ WF w' ∧ wz w' = o + 27 ∧ wl w' + 27 = wl w ∧ wk w' + 76 = wk w ∧ C0 o w' := by
  have h0 : 0 < o := (hw.le hk).1
  unfold x_X6_init
  rw [if_pos hk, if_pos (by decide), show (4 : Int32).toNatClampNeg = 4 by decide, show (3 : Int32).toNatClampNeg = 3 by decide, if_pos (show 1 ≤ wl w ∧ 4 ≤ wk w by omega), bs_eq, if_pos (show wJ (nw w 11 4 4) 0 o = 6 by rw [wJ_nw, if_neg (by omega)]; exact hk), bs_eq, hz]
  obtain ⟨w1, e1, W1, z1, l1, s1, F1, k1, n1, f1, g1, i1, -⟩ := a_mk (k := 11) (l := 4) (n := 4) (f := 240) hw hz (Nat.le_refl _) (by omega) (by omega)
  rw [e1, if_pos (by decide), if_pos (show 1 ≤ wl w1 ∧ 3 ≤ wk w1 by omega), bs_eq, if_pos (show wJ (nw w1 10 3 3) 0 o = 6 by rw [wJ_nw, if_neg (by omega), g1 0 (by omega)]; exact hk), bs_eq, z1]
  obtain ⟨w2, e2, W2, z2, l2, s2, F2, k2, n2, f2, g2, i2, -⟩ := a_mk (o := o) (k := 10) (l := 3) (n := 3) (f := 241) W1 z1 (by omega) (by omega) (by omega)
  rw [e2, if_pos (by decide), if_pos (show 1 ≤ wl w2 ∧ 3 ≤ wk w2 by omega), bs_eq, if_pos (show wJ (nw w2 10 3 3) 0 o = 6 by rw [wJ_nw, if_neg (by omega), g2 0 (by omega), g1 0 (by omega)]; exact hk), bs_eq, z2]
  obtain ⟨w3, e3, W3, z3, l3, s3, F3, k3, n3, f3, g3, i3, -⟩ := a_mk (o := o) (k := 10) (l := 3) (n := 3) (f := 242) W2 z2 (by omega) (by omega) (by omega)
  have hk3 : EQn (wJ w3 0 o) 6 := by show wJ _ _ _ = _; rw [g3 0 (by omega), g2 0 (by omega), g1 0 (by omega)]; exact hk
  obtain ⟨q7, qo, w4, e4, W4, z4, l4, s4, F4, E4, f4, g4, i4⟩ := l_mk (o := o) (f := 243) W3 z3 (by omega) (by omega) (by omega)
  rw [e3, if_pos (show 1 ≤ wl w3 ∧ 3 ≤ wk w3 by omega), bs_eq, z3, if_pos q7, p_linit q7, bd_some, if_pos (qo.trans hk3), bs_eq, e4]
  clear q7 qo
  have hk4 : EQn (wJ w4 0 o) 6 := by show wJ _ _ _ = _; rw [g4 0 (by omega)]; exact hk3
  obtain ⟨p7, po, w5, e5, W5, z5, l5, s5, F5, E5, f5, g5, i5⟩ := l_mk (o := o) (f := 244) W4 z4 (by omega) (by omega) (by omega)
  rw [if_pos (show 1 ≤ wl w4 ∧ 3 ≤ wk w4 by omega), bs_eq, z4, if_pos p7, p_linit p7, bd_some, if_pos (po.trans hk4), bs_eq, e5]
  clear p7 po
  have hk5 : EQn (wJ w5 0 o) 6 := by show wJ _ _ _ = _; rw [g5 0 (by omega)]; exact hk4
  rw [if_pos (show wJ w5 0 o = 6 from hk5), bs_eq, if_pos (show wJ (sI w5 245 o 0) 0 o = 6 from hk5), bs_eq, if_pos (show wJ (sI (sI w5 245 o 0) 246 o (-1)) 0 o = 6 from hk5), bs_eq]
  have J1 : EQn (wJ w5 240 o) (o + 1) := by show wJ _ _ _ = _; rw [g5 240 (by omega), g4 240 (by omega), g3 240 (by omega), g2 240 (by omega)]; exact f1
  have J2 : EQn (wJ w5 241 o) (o + 2) := by show wJ _ _ _ = _; rw [g5 241 (by omega), g4 241 (by omega), g3 241 (by omega)]; exact f2
  have J3 : EQn (wJ w5 242 o) (o + 3) := by show wJ _ _ _ = _; rw [g5 242 (by omega), g4 242 (by omega)]; exact f3
  have J4 : EQn (wJ w5 243 o) (o + 4) := by show wJ _ _ _ = _; rw [g5 243 (by omega)]; exact f4
  have A1 : EQn (wJ w5 0 (o + 1)) 11 ∧ EQn (wJ w5 1 (o + 1)) 4 := by
    show wJ _ _ _ = _ ∧ wJ _ _ _ = _
    rw [(F5.2.1 (o + 1) (by omega)).1, (F5.2.1 (o + 1) (by omega)).2, (F4.2.1 (o + 1) (by omega)).1, (F4.2.1 (o + 1) (by omega)).2, (F3.2.1 (o + 1) (by omega)).1, (F3.2.1 (o + 1) (by omega)).2, (F2.2.1 (o + 1) (by omega)).1, (F2.2.1 (o + 1) (by omega)).2]
    exact ⟨k1, n1⟩
  have A2 : EQn (wJ w5 0 (o + 2)) 10 ∧ EQn (wJ w5 1 (o + 2)) 3 := by
    show wJ _ _ _ = _ ∧ wJ _ _ _ = _
    rw [(F5.2.1 (o + 2) (by omega)).1, (F5.2.1 (o + 2) (by omega)).2, (F4.2.1 (o + 2) (by omega)).1, (F4.2.1 (o + 2) (by omega)).2, (F3.2.1 (o + 2) (by omega)).1, (F3.2.1 (o + 2) (by omega)).2]
    exact ⟨k2, n2⟩
  have A3 : EQn (wJ w5 0 (o + 3)) 10 ∧ EQn (wJ w5 1 (o + 3)) 3 := by
    show wJ _ _ _ = _ ∧ wJ _ _ _ = _
    rw [(F5.2.1 (o + 3) (by omega)).1, (F5.2.1 (o + 3) (by omega)).2, (F4.2.1 (o + 3) (by omega)).1, (F4.2.1 (o + 3) (by omega)).2]
    exact ⟨k3, n3⟩
  have m4 : o + 4 = o + 1 + 1 + 1 + 1 := by omega
  rw [← m4] at E4
  have hA4 : ¬ (o + 4 = o ∨ o + 1 + 1 + 1 + 1 < o + 4) ∧ ¬ (0 = o ∨ o + 1 + 1 + 1 + 1 < 0) := by omega
  have hz4 : o + 4 ≤ wz w4 := by omega
  have E4' : ELF w5 (o + 4) := E4.fr F5 hz4 hA4
  have F05 : FR (fun y => o ≤ y) w w5 := (F1.mono (fun y _ h => by omega)).tr ((F2.mono (fun y _ h => by omega)).tr ((F3.mono (fun y _ h => by omega)).tr ((F4.mono (fun y _ h => by omega)).tr (F5.mono (fun y _ h => by omega)))))
  have G6 : FR (fun y => y = o) w5 (sI (sI (sI w5 245 o 0) 246 o (-1)) 247 o 0) := FR.k_sI (A := fun y => y = o) (FR.k_sI (A := fun y => y = o) (FR.k_sI (A := fun y => y = o) FR.rf rfl) rfl) rfl
  have I1 : wI (sI (sI (sI w5 245 o 0) 246 o (-1)) 247 o 0) 245 o = 0 := by rw [wI_off (Or.inl (by omega)), wI_off (Or.inl (by omega)), wI_on]
  have I2 : wI (sI (sI (sI w5 245 o 0) 246 o (-1)) 247 o 0) 246 o = -1 := by rw [wI_off (Or.inl (by omega)), wI_on]
  have I3 : wI (sI (sI (sI w5 245 o 0) 246 o (-1)) 247 o 0) 247 o = 0 := wI_on
  have eJ : ∀ f y, wJ (sI (sI (sI w5 245 o 0) 246 o (-1)) 247 o 0) f y = wJ w5 f y := fun _ _ => rfl
  have z6 : wz (sI (sI (sI w5 245 o 0) 246 o (-1)) 247 o 0) = o + 5 := z5
  have l6 : wl (sI (sI (sI w5 245 o 0) 246 o (-1)) 247 o 0) = wl w5 := rfl
  have s6 : wk (sI (sI (sI w5 245 o 0) 246 o (-1)) 247 o 0) = wk w5 := rfl
  have W6 : WF (sI (sI (sI w5 245 o 0) 246 o (-1)) 247 o 0) := W5
  generalize sI (sI (sI w5 245 o 0) 246 o (-1)) 247 o 0 = w6 at G6 I1 I2 I3 eJ z6 l6 s6 W6 ⊢
  have b1 : ∀ f, wJ w6 f o = wJ w5 f o := fun f => eJ f o
  obtain ⟨w7, e7, F7, W7, z7, t7, -, l7, s7⟩ := l1_ok (o := o) FU 0 w6 (by omega) (by show 4 < 1000 + 0; omega) W6 ⟨(eJ _ _).trans hk5, (eJ _ _).trans J1, (eJ _ _).trans A1.1, (eJ _ _).trans A1.2⟩ (by omega) (by omega)
  rw [show (0 : Int32) = nI 0 from nI_0.symm, e7, bd_some]
  have o7 := F7.2.2 o (by omega) (by omega)
  have a7 : EQn (wJ w7 0 (o + 2)) 10 ∧ EQn (wJ w7 1 (o + 2)) 3 := by
    show wJ _ _ _ = _ ∧ wJ _ _ _ = _
    rw [(F7.2.1 (o + 2) (by omega)).1, (F7.2.1 (o + 2) (by omega)).2, eJ, eJ]; exact A2
  have b7 : EQn (wJ w7 0 (o + 3)) 10 ∧ EQn (wJ w7 1 (o + 3)) 3 := by
    show wJ _ _ _ = _ ∧ wJ _ _ _ = _
    rw [(F7.2.1 (o + 3) (by omega)).1, (F7.2.1 (o + 3) (by omega)).2, eJ, eJ]; exact A3
  obtain ⟨w8, e8, F8, W8, z8, t8, -, l8, s8⟩ := l2_ok (o := o) FU 0 w7 (by omega) (by show 3 < 1000 + 0; omega) W7 ⟨(o7.2.2.1 0).trans ((eJ _ _).trans hk5), (o7.2.2.1 241).trans ((eJ _ _).trans J2), a7.1, a7.2⟩ (by omega) (by omega)
  rw [e8, bd_some]
  have o8 := F8.2.2 o (by omega) (by omega)
  have b8 : EQn (wJ w8 0 (o + 3)) 10 ∧ EQn (wJ w8 1 (o + 3)) 3 := by
    show wJ _ _ _ = _ ∧ wJ _ _ _ = _
    rw [(F8.2.1 (o + 3) (by omega)).1, (F8.2.1 (o + 3) (by omega)).2]; exact b7
  obtain ⟨w9, e9, F9, W9, z9, t9, -, l9, s9⟩ := l3_ok (o := o) FU 0 w8 (by omega) (by show 3 < 1000 + 0; omega) W8 ⟨(o8.2.2.1 0).trans ((o7.2.2.1 0).trans ((eJ _ _).trans hk5)), (o8.2.2.1 242).trans ((o7.2.2.1 242).trans ((eJ _ _).trans J3)), b8.1, b8.2⟩ (by omega) (by omega)
  rw [e9, bd_some]
  have o9 := F9.2.2 o (by omega) (by omega)
  have oJ : ∀ f, wJ w9 f o = wJ w5 f o := fun f => (o9.2.2.1 f).trans ((o8.2.2.1 f).trans ((o7.2.2.1 f).trans (eJ f o)))
  have oI : ∀ f, wI w9 f o = wI w6 f o := fun f => (o9.1 f).trans ((o8.1 f).trans (o7.1 f))
  refine ⟨w9, rfl, F05.tr ((G6.mono (fun y _ h => by omega)).tr ((F7.mono (fun y _ h => by omega)).tr ((F8.mono (fun y _ h => by omega)).tr (F9.mono (fun y _ h => by omega))))), W9, by omega, by omega, by omega, ?_⟩
  refine ⟨⟨(oJ 0).trans hk5, (oJ 240).trans J1, (oJ 241).trans J2, (oJ 242).trans J3, (oJ 243).trans J4, (oJ 244).trans f5⟩, ⟨(oI 245).trans I1, (oI 246).trans I2, (oI 247).trans I3⟩, ⟨?_, ?_, fun i hi => ?_⟩, ⟨?_, ?_, fun i hi => ?_⟩, ⟨?_, ?_, fun i hi => ?_⟩, fun j hj => ?_, fun k hk => ?_, ?_, ?_⟩
  · rw [(F9.2.1 _ (by omega)).1, (F8.2.1 _ (by omega)).1, (F7.2.1 _ (by omega)).1, eJ]; exact A1.1
  · rw [(F9.2.1 _ (by omega)).2, (F8.2.1 _ (by omega)).2, (F7.2.1 _ (by omega)).2, eJ]; exact A1.2
  · rw [(F9.2.2 (o + 1) (by omega) (by omega)).2.2.2.1, (F8.2.2 (o + 1) (by omega) (by omega)).2.2.2.1]; exact (t7 i (by omega) hi).2
  · rw [(F9.2.1 _ (by omega)).1, (F8.2.1 _ (by omega)).1]; exact a7.1
  · rw [(F9.2.1 _ (by omega)).2, (F8.2.1 _ (by omega)).2]; exact a7.2
  · rw [(F9.2.2 (o + 2) (by omega) (by omega)).2.2.2.1]; exact (t8 i (by omega) hi).2
  · rw [(F9.2.1 _ (by omega)).1]; exact b8.1
  · rw [(F9.2.1 _ (by omega)).2]; exact b8.2
  · exact (t9 i (by omega) hi).2
  · exact ((t7 j (by omega) hj).1.fr F8 (by omega) (by omega)).fr F9 (by omega) (by omega)
  · rcases Nat.lt_or_ge k 3 with q | q
    · exact (t8 k (by omega) q).1.fr F9 (by omega) (by omega)
    · have := (t9 (k - 3) (by omega) (by omega)).1
      rw [show o + 10 + 3 * k = o + 19 + 3 * (k - 3) by omega]; exact this
  · exact (((E4'.fr G6 (by omega) (by omega)).fr F7 (by omega) (by omega)).fr F8 (by omega) (by omega)).fr F9 (by omega) (by omega)
  · exact (((E5.fr G6 (by omega) (by omega)).fr F7 (by omega) (by omega)).fr F8 (by omega) (by omega)).fr F9 (by omega) (by omega)