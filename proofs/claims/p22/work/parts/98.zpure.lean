/-! ===== the law from its entry: PURE ===== -/
def a00 : AS := ((0, -1, 0), (fun _ => (0, 0, 0)), ([], fun _ => (0, 0, 0, [])), [])
theorem iw00 : IW 0 a00 := by
  have n3 : ¬ (0 : Int32) = 3 := by decide
  have n2 : ¬ (0 : Int32) = 2 := by decide
  refine ⟨⟨⟨fun j _ => Or.inl rfl, fun ⟨j, _, h⟩ => absurd h n3, fun j _ h => absurd h n3⟩, Or.inl ⟨rfl, fun j _ h => absurd h n2⟩, ⟨⟨Nat.zero_le _, fun t ht => absurd ht List.not_mem_nil⟩, fun k _ => sok0⟩, Nat.zero_le _, fun c hc => absurd hc List.not_mem_nil⟩, 0, Nat.le_refl _, nI_0.symm⟩
theorem sv_C0 {o e : Nat} {w : CS} (hw : WF w) (h : C0 o w) (he : wJ w 2 0 = e ∧ 0 < e ∧ e ≤ wz w ∧ wJ w 0 e = 0 ∧ wJ w 1 e = 0) : SV o w (fun _ => []) := by
  obtain ⟨h1, h2, h3, h4, h5, h6, h7, h8, h9⟩ := h
  obtain ⟨e1, e2, e3, e4, e5⟩ := he
  have el : ∀ l, ELF w l → LOK w l [] := fun l hl => by
    obtain ⟨l1, l2, l3⟩ := hl
    have l4 : wJ w 281 l = e := l2.trans e1
    refine ⟨l1, Or.inr ⟨l2, by rw [l4]; exact e5, by rw [l4]; exact e4, by rw [l4]; exact e2, by rw [l4]; exact e3⟩, l3, Nat.zero_le _, by rw [l4, e5]; exact Nat.zero_le _, fun i hi => absurd hi (Nat.not_lt_zero _), fun i hi => absurd hi (Nat.not_lt_zero _)⟩
  have ls : ∀ j, j < 8 → ELF w (LL o j) := fun j hj => by
    rcases Nat.lt_or_ge j 6 with q | q
    · obtain ⟨-, -, -, -, -, -, -, s8, s9, s10⟩ := h7 j q
      rw [LLr q, show o + 12 + 3 * j = o + 10 + 3 * j + 2 by omega]
      exact ⟨s8, s9, s10⟩
    · rcases (show j = 6 ∨ j = 7 by omega) with r | r <;> subst r
      · rw [LL6]; exact h8
      · rw [LL7]; exact h9
  refine ⟨hw, h1.1, h1.2, h3, h4, h5, fun i hi => (h6 i hi).1, fun k hk => ?_, fun j hj => el _ (ls j hj), fun i j hi hj hij h12 => ?_, fun j hj => ⟨Nat.zero_le _, fun x hx => absurd hx List.not_mem_nil⟩, fun x hx => absurd hx List.not_mem_nil, ⟨List.nodup_nil, Nat.zero_le _⟩, fun x hx => absurd hx List.not_mem_nil, ⟨List.nodup_nil, Nat.zero_le _⟩⟩
  · obtain ⟨s1, s2, s3, s4, s5, s6, s7, s8, s9, s10⟩ := h7 k hk
    rw [show o + 11 + 3 * k = o + 10 + 3 * k + 1 by omega, show o + 12 + 3 * k = o + 10 + 3 * k + 2 by omega]
    exact ⟨s1, s2, s3, s5, s6⟩
  · rw [(ls i hi).2.1, e1, e4] at h12
    exact absurd h12 (by decide)
theorem vc_C0 {o q e : Nat} {w : CS} (hw : WF w) (h : C0 o w) (he : wJ w 2 0 = e ∧ 0 < e ∧ e ≤ wz w ∧ wJ w 0 e = 0 ∧ wJ w 1 e = 0) (hq : OQ q w) : VC o q w (fun _ => []) a00 := by
  refine ⟨sv_C0 hw h he, h.2.1, fun j hj => (h.2.2.2.2.2.1 j hj).2, fun k hk => ?_, rfl, ⟨rfl, fun i hi => absurd hi (Nat.not_lt_zero _)⟩, hq⟩
  obtain ⟨s1, s2, s3, s4, s5, s6, s7, s8, s9, s10⟩ := h.2.2.2.2.2.2.1 k hk
  rw [show o + 11 + 3 * k = o + 10 + 3 * k + 1 by omega]
  exact ⟨s4, s7 0, s7 1, rfl⟩
theorem pot_le (o : Nat) (w : CS) : pot o w ≤ 800 := by
  unfold pot
  omega
theorem jp00 : JP (pa a00) := ⟨⟨fun k hk => absurd hk (Nat.not_lt_zero _), fun i j _ hj => absurd hj (Nat.not_lt_zero _), fun i hi => absurd hi (Nat.not_lt_zero _), fun i hi => absurd hi (Nat.not_lt_zero _), fun k _ r hr => absurd hr List.not_mem_nil, Nat.zero_le _⟩, fun i hi => absurd hi (Nat.not_lt_zero _), fun q => absurd rfl q, fun q => absurd rfl q⟩
theorem mp00 {m : MS} (h : ∀ k i, (k = 1 ∨ k = 2 ∨ k = 3 ∨ k = 4) → ga m k i = 0) : MP (sa m 3 13 (-1)) (pa a00) := by
  refine ⟨⟨?_, gsa_s⟩, fun j hj => ⟨?_, fun q => ?_, fun q => ?_⟩, ⟨?_, fun k hk => absurd hk (Nat.not_lt_zero _)⟩, ⟨fun k hk => ?_, fun q => absurd rfl q⟩⟩
  · rw [gsa_n (Or.inr (by omega))]; exact h 3 12 (Or.inr (Or.inr (Or.inl rfl)))
  · rw [gsa_n (Or.inr (by omega))]; exact h 3 _ (Or.inr (Or.inr (Or.inl rfl)))
  · exact absurd q (by show ¬ ((0 : Int32) = 2 ∨ (0 : Int32) = 3); decide)
  · exact absurd q (by show ¬ (0 : Int32) = 3; decide)
  · rw [gsa_n (Or.inr (by omega)), h 3 14 (Or.inr (Or.inr (Or.inl rfl)))]; exact nI_0.symm
  · rw [gsa_n (Or.inl (by omega))]; exact h 4 k (Or.inr (Or.inr (Or.inr rfl)))
theorem l_law {o L : Nat} {xs : Nat → Int32} {w : CS} {m : MS} {a : AS} (H : LR o 0 2000 8000 w (sa m 3 13 (-1)) a) (h0 : lenT a ≤ 60) : ∃ w' m', x_L_law L xs o w m = some (1, w', m') := by
  obtain ⟨w1, e1, S1⟩ := l_isSo (c := 1990) (s := 7950) H.1 H.2.1 h0
  obtain ⟨w2, m2, a2, e2, H2⟩ := l_lawL (o := o) (L := L) (xs := xs) 30 150 FU 0 w1 (sa m 3 13 (-1)) a (by omega) (by show 58 < 1000 + 0; omega) (ST.up (N := 0) ⟨S1, H.2⟩ (by omega) (by omega) (by omega))
  rw [nI_0] at e2
  obtain ⟨S2, V2, J2, C2, -⟩ := H2
  have hl : lenT a2 ≤ 60 := J2.1.2.2.2.2.2
  have xm : ∀ a : AS, oX a (-1) := fun a => oT_m _
  have x60 : oX a2 60 := Or.inr (by
    have := nI_le (a := lenT a2) (b := 60) hl (by omega)
    exact this)
  obtain ⟨w3, q3, S3⟩ := d_mkS (c := 28) (s := 140) S2 (-1) 0 0 0
  have r3 : mkSA (-1) 0 a2 = (1, 0, a2) := by unfold mkSA; rw [if_pos (xm a2)]
  rw [r3, dz1 rfl] at q3
  rw [r3] at S3
  obtain ⟨w4, q4, S4⟩ := d_mkI (c := 26) (s := 130) S3 60 0 0
  have r4 : mkIA 60 0 0 0 a2 = (1, 0, a2) := by unfold mkIA; rw [if_pos x60]
  rw [r4, dz1 rfl] at q4
  rw [r4] at S4
  obtain ⟨w5, q5, S5⟩ := d_open (c := 24) (s := 120) S4 (by omega) (-1) 0 0 0
  have r5 : openA (-1) 0 a2 = (1, 0, a2) := by unfold openA; rw [if_pos (oT_m 4)]
  rw [r5, dz1 rfl] at q5
  rw [r5] at S5
  obtain ⟨w6, q6, S6⟩ := d_close (c := 22) (s := 110) S5 4 0 0 0
  have r6 : closA 4 a2 = (1, 0, a2) := by unfold closA; rw [if_pos (show oT 4 4 from oT_n (n := 4))]
  rw [r6, dz1 rfl] at q6
  rw [r6] at S6
  obtain ⟨w7, q7, S7⟩ := d_deleteStore (c := 20) (s := 100) S6 (-1) 0 0 0
  have r7 : delA (-1) 0 a2 = (1, 0, a2) := by unfold delA; rw [if_pos (xm a2)]
  rw [r7, dz1 rfl] at q7
  rw [r7] at S7
  obtain ⟨w8, q8, S8⟩ := d_begin (c := 18) (s := 90) S7 4 0 0 0 isB0
  have r8 : begA 4 0 0 a2 = (1, 0, a2) := by unfold begA; rw [if_pos (show oT 4 4 from oT_n (n := 4))]
  rw [r8, dz1 rfl] at q8
  rw [r8] at S8
  obtain ⟨w9, q9, S9⟩ := d_put (c := 16) (s := 80) S8 60 0 0 0
  have r9 : putA 60 0 0 0 (0 - 0 / 1000 * 1000) (-1) a2 = (1, 0, a2) := by unfold putA; rw [if_pos x60]
  rw [r9, dz1 rfl] at q9
  rw [r9] at S9
  obtain ⟨w10, q10, S10⟩ := d_cursor (c := 14) (s := 70) S9 (-1) 0 0 4
  have r10 : curA (-1) 0 0 4 a2 = (1, 0, a2) := by unfold curA; rw [if_pos (xm a2)]
  rw [r10, dz1 rfl] at q10
  rw [r10] at S10
  have c0 : a2.2.2.2.length = 0 := by rw [C2]; rfl
  obtain ⟨w11, q11, S11⟩ := d_step (c := 12) (s := 60) S10 0 0 0 0
  have r11 : steA 0 a2 = (1, 0, a2) := by unfold steA; rw [if_pos (show oT 0 a2.2.2.2.length by rw [c0]; exact oT_n (n := 0))]
  rw [r11, dz1 rfl] at q11
  rw [r11] at S11
  obtain ⟨w12, q12, S12⟩ := d_update (c := 10) (s := 50) S11 40 10000 0 0
  have r12 : updA 40 10000 a2 = (1, 0, a2) := by unfold updA; rw [if_pos (show oT 40 a2.2.2.2.length by rw [c0]; exact Or.inr (by decide))]
  rw [r12, dz1 rfl] at q12
  unfold x_L_law
  rw [if_pos v13, t13c, bs_eq, e1, b2_some, e2, w3_some, if_neg e10, q3, b2_some, if_pos rfl, q4, b2_some, if_pos rfl, q5, b2_some, if_pos rfl, q6, b2_some, if_pos rfl, q7, b2_some, if_pos rfl, q8, b2_some, if_pos rfl, q9, b2_some, if_pos rfl, q10, b2_some, if_pos rfl, q11, b2_some, if_pos rfl, q12, b2_some, if_pos rfl, l1_inr, b2_some, if_pos isB1]
  exact ⟨w12, m2, rfl⟩
set_option maxHeartbeats 4000000 in
theorem pure_ok : PURE := by
  intro z e0 mi L xs hL he
  have J0 : ∀ y, wJ (W0 z e0 mi) 0 y = 0 := fun y => by
    show (if y = 0 then (if (0 : Nat) = 2 then e0 + 1 else if (0 : Nat) = 3 then mi + 1 else 0) else 0) = 0
    split <;> rfl
  have J1 : ∀ y, wJ (W0 z e0 mi) 1 y = 0 := fun y => by
    show (if y = 0 then (if (1 : Nat) = 2 then e0 + 1 else if (1 : Nat) = 3 then mi + 1 else 0) else 0) = 0
    split <;> rfl
  have J2 : wJ (W0 z e0 mi) 2 0 = e0 + 1 := rfl
  have z0 : wz (W0 z e0 mi) = z := rfl
  have l0 : wl (W0 z e0 mi) = 600074 := rfl
  have s0 : wk (W0 z e0 mi) = 7301550 := rfl
  have hW0 : WF (W0 z e0 mi) := ⟨J0 0, fun y _ => J0 y⟩
  unfold x_law_S
  generalize W0 z e0 mi = w0 at *
  rw [if_pos (show 1 ≤ wl w0 ∧ 8 ≤ wk w0 by omega), bs_eq, z0]
  have k2 : wJ (nw w0 6 0 8) 0 (z + 1) = 6 := by rw [wJ_nw, if_pos (by omega), if_pos rfl]
  have d2 : wJ (nw w0 6 0 8) 2 0 = e0 + 1 ∧ wJ (nw w0 6 0 8) 0 (e0 + 1) = 0 ∧ wJ (nw w0 6 0 8) 1 (e0 + 1) = 0 := by
    refine ⟨?_, ?_, ?_⟩
    · rw [wJ_nw, if_neg (by omega)]; exact J2
    · rw [wJ_nw, if_neg (by omega)]; exact J0 _
    · rw [wJ_nw, if_neg (by omega)]; exact J1 _
  have W2 : WF (nw w0 6 0 8) := hW0.k_nw
  have z2 : wz (nw w0 6 0 8) = z + 1 := by rw [wz_nw, z0]
  have l2 : wl (nw w0 6 0 8) + 1 = 600074 := by rw [wl_nw]; omega
  have s2 : wk (nw w0 6 0 8) + 8 = 7301550 := by rw [wk_nw]; omega
  generalize nw w0 6 0 8 = w2 at k2 d2 W2 z2 l2 s2 ⊢
  clear J0 J1 J2 z0 l0 s0 hW0
  rw [if_pos k2]
  obtain ⟨w5, e5, F5, W5, z5, l5, s5, C5⟩ := x6_ok W2 k2 z2 (by omega)
  have d5 : wJ w5 2 0 = e0 + 1 ∧ wJ w5 0 (e0 + 1) = 0 ∧ wJ w5 1 (e0 + 1) = 0 := by
    have a := (F5.2.2 0 (by omega) (by omega)).2.2.1
    have b := (F5.2.2 (e0 + 1) (by omega) (by omega)).2.2.1
    rw [a, b, b]; exact d2
  have t60 : (60 : Int32).toNatClampNeg = 60 := by decide
  have t16 : (16 : Int32).toNatClampNeg = 16 := by decide
  have t6 : (6 : Int32).toNatClampNeg = 6 := by decide
  rw [e5, bd_some, t60, t16, t6, if_pos (by decide)]
  clear F5 d2 k2 W2 e5
  have z8 : wz (nw w5 8 60 60) = wz w5 + 1 := rfl
  have l8 : wl (nw w5 8 60 60) + 1 = wl w5 := by rw [wl_nw]; omega
  have s8 : wk (nw w5 8 60 60) + 60 = wk w5 := by rw [wk_nw]; omega
  have W8 : WF (nw w5 8 60 60) := W5.k_nw
  have F8 := FR.k_nw (A := fun _ => False) (w := w5) (k := 8) (l := 60) (n := 60)
  have k8 : wJ (nw w5 8 60 60) 0 (wz w5 + 1) = 8 ∧ wJ (nw w5 8 60 60) 1 (wz w5 + 1) = 60 ∧ ∀ i, wA (nw w5 8 60 60) (wz w5 + 1) i = 0 := ⟨by rw [wJ_nw, if_pos rfl, if_pos rfl], by rw [wJ_nw, if_pos rfl, if_neg (by omega), if_pos rfl], fun i => by rw [wA_nw, if_pos rfl]⟩
  rw [if_pos (show 1 ≤ wl w5 ∧ 60 ≤ wk w5 by omega), bs_eq]
  generalize nw w5 8 60 60 = w8 at z8 l8 s8 W8 F8 k8 ⊢
  rw [if_pos (by decide), if_pos (show 1 ≤ wl w8 ∧ 60 ≤ wk w8 by omega), bs_eq]
  have z11 : wz (nw w8 8 60 60) = wz w8 + 1 := rfl
  have l11 : wl (nw w8 8 60 60) + 1 = wl w8 := by rw [wl_nw]; omega
  have s11 : wk (nw w8 8 60 60) + 60 = wk w8 := by rw [wk_nw]; omega
  have W11 : WF (nw w8 8 60 60) := W8.k_nw
  have F11 := F8.tr (FR.k_nw (A := fun _ => False) (w := w8) (k := 8) (l := 60) (n := 60))
  have G11 := (FR.k_nw (A := fun _ => False) (w := w8) (k := 8) (l := 60) (n := 60))
  have k11 : wJ (nw w8 8 60 60) 0 (wz w8 + 1) = 8 ∧ wJ (nw w8 8 60 60) 1 (wz w8 + 1) = 60 ∧ ∀ i, wA (nw w8 8 60 60) (wz w8 + 1) i = 0 := ⟨by rw [wJ_nw, if_pos rfl, if_pos rfl], by rw [wJ_nw, if_pos rfl, if_neg (by omega), if_pos rfl], fun i => by rw [wA_nw, if_pos rfl]⟩
  generalize nw w8 8 60 60 = w11 at z11 l11 s11 W11 F11 G11 k11 ⊢
  rw [if_pos (by decide), if_pos (show 1 ≤ wl w11 ∧ 16 ≤ wk w11 by omega), bs_eq]
  have z14 : wz (nw w11 8 16 16) = wz w11 + 1 := rfl
  have l14 : wl (nw w11 8 16 16) + 1 = wl w11 := by rw [wl_nw]; omega
  have s14 : wk (nw w11 8 16 16) + 16 = wk w11 := by rw [wk_nw]; omega
  have W14 : WF (nw w11 8 16 16) := W11.k_nw
  have F14 := F11.tr (FR.k_nw (A := fun _ => False) (w := w11) (k := 8) (l := 16) (n := 16))
  have G14 := (FR.k_nw (A := fun _ => False) (w := w11) (k := 8) (l := 16) (n := 16))
  have k14 : wJ (nw w11 8 16 16) 0 (wz w11 + 1) = 8 ∧ wJ (nw w11 8 16 16) 1 (wz w11 + 1) = 16 ∧ ∀ i, wA (nw w11 8 16 16) (wz w11 + 1) i = 0 := ⟨by rw [wJ_nw, if_pos rfl, if_pos rfl], by rw [wJ_nw, if_pos rfl, if_neg (by omega), if_pos rfl], fun i => by rw [wA_nw, if_pos rfl]⟩
  generalize nw w11 8 16 16 = w14 at z14 l14 s14 W14 F14 G14 k14 ⊢
  rw [if_pos (by decide), if_pos (show 1 ≤ wl w14 ∧ 6 ≤ wk w14 by omega), bs_eq]
  have z17 : wz (nw w14 8 6 6) = wz w14 + 1 := rfl
  have l17 : wl (nw w14 8 6 6) + 1 = wl w14 := by rw [wl_nw]; omega
  have s17 : wk (nw w14 8 6 6) + 6 = wk w14 := by rw [wk_nw]; omega
  have W17 : WF (nw w14 8 6 6) := W14.k_nw
  have F17 := F14.tr (FR.k_nw (A := fun _ => False) (w := w14) (k := 8) (l := 6) (n := 6))
  have G17 := (FR.k_nw (A := fun _ => False) (w := w14) (k := 8) (l := 6) (n := 6))
  have k17 : wJ (nw w14 8 6 6) 0 (wz w14 + 1) = 8 ∧ wJ (nw w14 8 6 6) 1 (wz w14 + 1) = 6 ∧ ∀ i, wA (nw w14 8 6 6) (wz w14 + 1) i = 0 := ⟨by rw [wJ_nw, if_pos rfl, if_pos rfl], by rw [wJ_nw, if_pos rfl, if_neg (by omega), if_pos rfl], fun i => by rw [wA_nw, if_pos rfl]⟩
  generalize nw w14 8 6 6 = w17 at z17 l17 s17 W17 F17 G17 k17 ⊢
  -- the arrays at the end
  have a14 : ∀ y, y ≤ wz w14 → (∀ f, wJ w17 f y = wJ w14 f y) ∧ ∀ i, wA w17 y i = wA w14 y i := fun y hy => ⟨(G17.2.2 y hy id).2.2.1, (G17.2.2 y hy id).2.1⟩
  have a11 : ∀ y, y ≤ wz w11 → (∀ f, wJ w17 f y = wJ w11 f y) ∧ ∀ i, wA w17 y i = wA w11 y i := fun y hy => ⟨fun f => ((a14 y (by omega)).1 f).trans ((G14.2.2 y hy id).2.2.1 f), fun i => ((a14 y (by omega)).2 i).trans ((G14.2.2 y hy id).2.1 i)⟩
  have a8 : ∀ y, y ≤ wz w8 → (∀ f, wJ w17 f y = wJ w8 f y) ∧ ∀ i, wA w17 y i = wA w8 y i := fun y hy => ⟨fun f => ((a11 y (by omega)).1 f).trans ((G11.2.2 y hy id).2.2.1 f), fun i => ((a11 y (by omega)).2 i).trans ((G11.2.2 y hy id).2.1 i)⟩
  obtain ⟨A, hA⟩ : ∃ A, A = kA (wz w5 + 1) (wz w8 + 1) (wz w11 + 1) (wz w14 + 1) := ⟨_, rfl⟩
  have A1 : A 1 = wz w5 + 1 := by rw [hA]; rfl
  have A2 : A 2 = wz w8 + 1 := by rw [hA]; rfl
  have A3 : A 3 = wz w11 + 1 := by rw [hA]; rfl
  have A4 : A 4 = wz w14 + 1 := by rw [hA]; rfl
  have hM : MOK w17 A := by
    refine ⟨fun k hk => ?_, fun j k hj hk h => ?_⟩
    · rcases hk with q | q | q | q <;> subst q
      · rw [A1, (a8 _ (by omega)).1, (a8 _ (by omega)).1]; exact ⟨k8.1, k8.2.1⟩
      · rw [A2, (a11 _ (by omega)).1, (a11 _ (by omega)).1]; exact ⟨k11.1, k11.2.1⟩
      · rw [A3, (a14 _ (by omega)).1, (a14 _ (by omega)).1]; exact ⟨k14.1, k14.2.1⟩
      · rw [A4]; exact ⟨k17.1, k17.2.1⟩
    · rcases hj with q | q | q | q <;> subst q <;> rcases hk with r | r | r | r <;> subst r <;> first | rfl | (rw [A1, A2] at h; omega) | (rw [A1, A3] at h; omega) | (rw [A1, A4] at h; omega) | (rw [A2, A1] at h; omega) | (rw [A2, A3] at h; omega) | (rw [A2, A4] at h; omega) | (rw [A3, A1] at h; omega) | (rw [A3, A2] at h; omega) | (rw [A3, A4] at h; omega) | (rw [A4, A1] at h; omega) | (rw [A4, A2] at h; omega) | (rw [A4, A3] at h; omega)
  refine ⟨_, rfl, ?_⟩
  show MOK w17 (kA (wz w5 + 1) (wz w8 + 1) (wz w11 + 1) (wz w14 + 1)) ∧ ∃ (w' : CS) (m' : MS), x_L_law L xs (z + 1) (cv w17 (kA (wz w5 + 1) (wz w8 + 1) (wz w11 + 1) (wz w14 + 1))) (mv w17 (kA (wz w5 + 1) (wz w8 + 1) (wz w11 + 1) (wz w14 + 1))) = some (1, w', m')
  rw [← hA]
  refine ⟨hM, ?_⟩
  have inL : ∀ y, (y ≤ z + 1 + 27 ∨ wz w17 < y) → ¬ inA A y := fun y hy h => by
    rcases h with q | q | q | q
    · rw [A1] at q; omega
    · rw [A2] at q; omega
    · rw [A3] at q; omega
    · rw [A4] at q; omega
  have cJ : ∀ y, (y ≤ z + 1 + 27 ∨ wz w17 < y) → ∀ f, wJ (cv w17 A) f y = wJ w17 f y := fun y hy f => cv_wJ (fun h => inL y hy h.2)
  have Mc : SMV (z + 1 + 27) w5 (cv w17 A) := fun y hy => by
    have a := F17.2.2 y (by omega) id
    exact ⟨a.1, a.2.1, fun f => (cJ y (Or.inl hy) f).trans (a.2.2.1 f), a.2.2.2.1⟩
  have Wc : WF (cv w17 A) := by
    refine ⟨(cJ 0 (Or.inl (Nat.zero_le _)) 0).trans W17.1, fun y hy => ?_⟩
    have hy' : wz w17 < y := hy
    exact (cJ y (Or.inr hy') 0).trans (W17.2 y hy')
  have Vc := vc_C0 (q := 0) (e := e0 + 1) Wc (C5.cg Mc) (by
    have a := (Mc 0 (Nat.zero_le _)).2.2.1
    have b := (Mc (e0 + 1) (by omega)).2.2.1
    rw [a, b, b]
    exact ⟨d5.1, Nat.succ_pos _, by show _ ≤ wz w17; omega, d5.2.1, d5.2.2⟩) trivial
  have hg : ∀ k i, (k = 1 ∨ k = 2 ∨ k = 3 ∨ k = 4) → ga (mv w17 A) k i = 0 := fun k i hk => by
    show wA w17 (A k) i = 0
    rcases hk with q | q | q | q <;> subst q
    · rw [A1, (a8 _ (by omega)).2]; exact k8.2.2 i
    · rw [A2, (a11 _ (by omega)).2]; exact k11.2.2 i
    · rw [A3, (a14 _ (by omega)).2]; exact k14.2.2 i
    · rw [A4]; exact k17.2.2 i
  have hp := pot_le (z + 1) (cv w17 A)
  have hB : Bd (z + 1) (cv w17 A) 2000 8000 := by
    constructor
    · show _ ≤ wl w17; omega
    · show _ ≤ wk w17; omega
  exact l_law (a := a00) ⟨⟨⟨_, Vc⟩, iw00, hB⟩, mp00 hg, jp00, rfl, 0, Nat.le_refl _, by rw [gsa_n (Or.inr (by omega)), hg 3 15 (Or.inr (Or.inr (Or.inl rfl)))]; exact nI_0.symm⟩ (Nat.zero_le _)
