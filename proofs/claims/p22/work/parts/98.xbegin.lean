/-! ===== PURE: the start: the class's object comes to be (printed by gen74.py) ===== -/
theorem FR.k_nw {A : Nat → Prop} {w : CS} {k l n : Nat} : FR A w (nw w k l n) := by
  refine ⟨Nat.le_succ _, fun y hy => ?_, fun y hy _ => ⟨fun f => ?_, fun f => ?_, fun f => ?_, fun f => ?_, fun f => ?_, fun f => ?_⟩⟩
  · rw [wJ_nw, wJ_nw, if_neg (by omega), if_neg (by omega)]; exact ⟨rfl, rfl⟩
  · rw [wI_nw, if_neg (by omega)]
  · rw [wA_nw, if_neg (by omega)]
  · rw [wJ_nw, if_neg (by omega)]
  · rw [wB_nw, if_neg (by omega)]
  · rw [wL_nw, if_neg (by omega)]
  · rw [wM_nw, if_neg (by omega)]
theorem FR.k_sI {A : Nat → Prop} {w w' : CS} (h : FR A w w') {f x : Nat} {v : Int32} (hx : A x) : FR A w (sI w' f x v) := by
  refine ⟨h.1, h.2.1, fun y hy hA => ?_⟩
  obtain ⟨a1, a2, a3, a4, a5, a6⟩ := h.2.2 y hy hA
  have hne : ¬ y = x := fun e => hA (by rw [e]; exact hx)
  exact ⟨fun g => by rw [wI_off (Or.inr hne)]; exact a1 g, a2, a3, a4, a5, a6⟩
theorem FR.k_sJ {A : Nat → Prop} {w w' : CS} (h : FR A w w') {f x : Nat} {v : Nat} (hx : A x) (hf : f ≠ 0 ∧ f ≠ 1) : FR A w (sJ w' f x v) := by
  refine ⟨h.1, fun y hy => ?_, fun y hy hA => ?_⟩
  · rw [wJ_sJ, wJ_sJ, if_neg (fun e => hf.1 e.1.symm), if_neg (fun e => hf.2 e.1.symm)]; exact h.2.1 y hy
  · obtain ⟨a1, a2, a3, a4, a5, a6⟩ := h.2.2 y hy hA
    have hne : ¬ y = x := fun e => hA (by rw [e]; exact hx)
    exact ⟨a1, a2, fun g => by rw [wJ_sJ, if_neg (fun e : g = f ∧ y = x => hne e.2)]; exact a3 g, a4, a5, a6⟩
theorem FR.k_sB {A : Nat → Prop} {w w' : CS} (h : FR A w w') {i x : Nat} {v : Nat} (hx : A x) : FR A w (sB w' x i v) := by
  refine ⟨h.1, h.2.1, fun y hy hA => ?_⟩
  obtain ⟨a1, a2, a3, a4, a5, a6⟩ := h.2.2 y hy hA
  have hne : ¬ y = x := fun e => hA (by rw [e]; exact hx)
  exact ⟨a1, a2, a3, fun g => by rw [wB_sB, if_neg (fun e : y = x ∧ g = i => hne e.1)]; exact a4 g, a5, a6⟩
theorem FR.k_nx {A : Nat → Prop} {w w' : CS} (h : FR A w w') {k l n : Nat} : FR A w (nw w' k l n) := h.tr FR.k_nw
theorem WF.k_nw {w : CS} (h : WF w) {k l n : Nat} : WF (nw w k l n) := by
  refine ⟨?_, fun y hy => ?_⟩
  · rw [wJ_nw, if_neg (by omega)]; exact h.1
  · rw [wz_nw] at hy; rw [wJ_nw, if_neg (by omega)]; exact h.2 y (by omega)
theorem WF.k_sJ {w : CS} (h : WF w) {f x v : Nat} (hf : f ≠ 0) : WF (sJ w f x v) := ⟨by rw [wJ_sJ, if_neg (fun e => hf e.1.symm)]; exact h.1, fun y hy => by rw [wJ_sJ, if_neg (fun e => hf e.1.symm)]; exact h.2 y hy⟩
theorem WF.k_sI {w : CS} (h : WF w) {f x : Nat} {v : Int32} : WF (sI w f x v) := h
theorem WF.k_sB {w : CS} (h : WF w) {i x v : Nat} : WF (sB w x i v) := h
theorem p_linit {w : CS} {l : Nat} (h : wJ w 0 l = 7) : x_Jx4a65c_init_da8c8 l w = some (sJ (sI w 280 l 0) 281 l (wJ w 2 0)) := by
  unfold x_Jx4a65c_init_da8c8 x_Jxc12de_init_da8c8 x_Jxa1e45_init_da8c8
  rw [if_pos h, if_pos h, if_pos h, bd_some, bs_eq, bd_some, if_pos (show wJ (sI w 280 l 0) 0 l = 7 from h), bs_eq]
  rfl
abbrev SMV (n : Nat) (w w' : CS) : Prop := ∀ y, y ≤ n → (∀ f, wI w' f y = wI w f y) ∧ (∀ i, wA w' y i = wA w y i) ∧ (∀ f, wJ w' f y = wJ w f y) ∧ (∀ i, wB w' y i = wB w y i)
def TBF (w : CS) (y : Nat) : Prop := wJ w 0 y = 4 ∧ wI w 160 y = 0 ∧ wI w 161 y = 0 ∧ wI w 162 y = 0
theorem TBF.fr {A : Nat → Prop} {w w' : CS} {y : Nat} (h : TBF w y) (F : FR A w w') (hy : y ≤ wz w) (hA : ¬ A y) : TBF w' y := by
  obtain ⟨a1, -, a3, -⟩ := F.2.2 y hy hA
  unfold TBF
  rw [a3, a1, a1, a1]; exact h
def STF (w : CS) (s : Nat) : Prop := wJ w 0 s = 5 ∧ wJ w 201 s = s + 1 ∧ wJ w 202 s = s + 2 ∧ wI w 200 s = 0 ∧ wJ w 0 (s + 1) = 8 ∧ wJ w 1 (s + 1) = 2 ∧ (∀ i, wA w (s + 1) i = 0) ∧ wJ w 0 (s + 2) = 7 ∧ wJ w 281 (s + 2) = wJ w 2 0 ∧ wI w 282 (s + 2) = 0
theorem STF.fr {A : Nat → Prop} {w w' : CS} {s : Nat} (h : STF w s) (F : FR A w w') (hy : s + 2 ≤ wz w) (hA : ¬ A s ∧ ¬ A (s + 1) ∧ ¬ A (s + 2) ∧ ¬ A 0) : STF w' s := by
  obtain ⟨a1, -, a3, -⟩ := F.2.2 s (by omega) hA.1
  obtain ⟨-, b2, b3, -⟩ := F.2.2 (s + 1) (by omega) hA.2.1
  obtain ⟨c1, -, c3, -⟩ := F.2.2 (s + 2) (by omega) hA.2.2.1
  obtain ⟨-, -, d3, -⟩ := F.2.2 0 (by omega) hA.2.2.2
  unfold STF
  rw [a3, a3, a3, a1, b3, b3, c3, c3, c1, d3]
  obtain ⟨h1, h2, h3, h4, h5, h6, h7, h8⟩ := h
  exact ⟨h1, h2, h3, h4, h5, h6, fun i => (b2 i).trans (h7 i), h8⟩
theorem l1_ok {o : Nat} : ∀ (n i : Nat) (w : CS), i ≤ 4 → 4 < n + i → WF w → (wJ w 0 o = 6 ∧ wJ w 240 o = o + 1 ∧ wJ w 0 (o + 1) = 11 ∧ wJ w 1 (o + 1) = 4) → wz w = o + 5 + i → (4 ≤ wl w + i ∧ 12 ≤ wk w + 3 * i) → ∃ w', x_X6_init_L1 o n (nI i) w = some w' ∧ FR (fun y => y = o + 1) w w' ∧ WF w' ∧ wz w' = o + 9 ∧ (∀ j, i ≤ j → j < 4 → TBF w' (o + 6 + j) ∧ wB w' (o + 1) j = o + 6 + j) ∧ (∀ j, j < i → wB w' (o + 1) j = wB w (o + 1) j) ∧ wl w' + 4 = wl w + i ∧ wk w' + 12 = wk w + 3 * i := by
  intro n
  induction n with
  | zero => intro i w h1 h2; omega
  | succ n ih =>
    intro i w h1 h2 hw hk hz hr
    obtain ⟨k1, k2, k3, k4⟩ := hk
    rw [x_X6_init_L1, if_pos k1, k2, if_pos k3, k4]
    by_cases hi : i < 4
    · have hk1 : wJ (nw w 4 0 3) 0 (wz w + 1) = 4 := by rw [wJ_nw, if_pos rfl, if_pos rfl]
      have e2 : x_X4_init (wz w + 1) (nw w 4 0 3) = some (sI (sI (sI (nw w 4 0 3) 160 (wz w + 1) 0) 161 (wz w + 1) 0) 162 (wz w + 1) 0) := by
        unfold x_X4_init
        rw [if_pos hk1, bs_eq, if_pos (show wJ (sI (nw w 4 0 3) 160 (wz w + 1) 0) 0 (wz w + 1) = 4 from hk1), bs_eq, if_pos (show wJ (sI (sI (nw w 4 0 3) 160 (wz w + 1) 0) 161 (wz w + 1) 0) 0 (wz w + 1) = 4 from hk1), bs_eq]
      rw [if_neg (nI_ge hi (by omega)), if_pos ⟨by omega, by omega⟩, bs_eq, if_pos hk1, e2, bd_some]
      have T1 : TBF (sI (sI (sI (nw w 4 0 3) 160 (wz w + 1) 0) 161 (wz w + 1) 0) 162 (wz w + 1) 0) (wz w + 1) := ⟨hk1, by rw [wI_off (Or.inl (by omega)), wI_off (Or.inl (by omega)), wI_on], by rw [wI_off (Or.inl (by omega)), wI_on], wI_on⟩
      have F1 : FR (fun y => wz w < y) w (sI (sI (sI (nw w 4 0 3) 160 (wz w + 1) 0) 161 (wz w + 1) 0) 162 (wz w + 1) 0) := ((FR.k_nw.k_sI (Nat.lt_succ_self _)).k_sI (Nat.lt_succ_self _)).k_sI (Nat.lt_succ_self _)
      have W1 : WF (sI (sI (sI (nw w 4 0 3) 160 (wz w + 1) 0) 161 (wz w + 1) 0) 162 (wz w + 1) 0) := WF.k_nw hw
      have z1 : wz (sI (sI (sI (nw w 4 0 3) 160 (wz w + 1) 0) 161 (wz w + 1) 0) 162 (wz w + 1) 0) = wz w + 1 := rfl
      have r1 : wl (sI (sI (sI (nw w 4 0 3) 160 (wz w + 1) 0) 161 (wz w + 1) 0) 162 (wz w + 1) 0) = wl w - 1 := rfl
      have r2 : wk (sI (sI (sI (nw w 4 0 3) 160 (wz w + 1) 0) 161 (wz w + 1) 0) 162 (wz w + 1) 0) = wk w - 3 := rfl
      generalize sI (sI (sI (nw w 4 0 3) 160 (wz w + 1) 0) 161 (wz w + 1) 0) 162 (wz w + 1) 0 = w2 at T1 F1 W1 z1 r1 r2 ⊢
      have q1 := F1.2.1 (o + 1) (by omega)
      rw [if_pos (q1.1.trans k3), if_pos (show vR (nI i) (wJ w2 1 (o + 1)) by rw [q1.2, k4]; exact nI_in hi (by omega)), if_pos T1.1, bs_eq, nI_clamp (by omega), nI_1]
      have F2 : FR (fun y => y = o + 1 ∨ wz w < y) w (sB w2 (o + 1) i (wz w + 1)) := (F1.mono (fun y _ h => Or.inr h)).k_sB (Or.inl rfl)
      have hoA : wJ (sB w2 (o + 1) i (wz w + 1)) 240 o = wJ w 240 o := (F2.2.2 o (by omega) (by omega)).2.2.1 240
      obtain ⟨w', e, F', W', z', t', b', l', s'⟩ := ih (i + 1) (sB w2 (o + 1) i (wz w + 1)) (by omega) (by omega) W1 ⟨(F2.2.1 o (by omega)).1.trans k1, hoA.trans k2, q1.1.trans k3, q1.2.trans k4⟩ (by show wz w2 = _; omega) (by constructor <;> show _ ≤ _ <;> simp only [wl_sB, wk_sB] <;> omega)
      simp only [wl_sB, wk_sB] at l' s'
      refine ⟨w', e, (F2.mono (fun y hy h => by omega)).tr F', W', z', fun j hj hj4 => ?_, fun j hj => ?_, by omega, by omega⟩
      · rcases Nat.lt_or_ge i j with q | q
        · exact t' j q hj4
        · have : j = i := by omega
          subst this
          refine ⟨?_, ?_⟩
          · have T2 : TBF (sB w2 (o + 1) j (wz w + 1)) (o + 6 + j) := by rw [show o + 6 + j = wz w + 1 by omega]; exact T1
            exact T2.fr F' (by show _ ≤ wz w2; omega) (by omega)
          · rw [b' j (by omega), wB_sB, if_pos ⟨rfl, rfl⟩]; omega
      · rw [b' j (by omega), wB_sB, if_neg (by omega)]
        exact (F1.2.2 (o + 1) (by omega) (by omega)).2.2.2.1 j
    · have : i = 4 := by omega
      subst this
      rw [if_pos (nI_le (by omega) (by omega))]
      exact ⟨w, rfl, FR.rf, hw, by omega, fun j h1 h2 => by omega, fun j _ => rfl, rfl, rfl⟩

theorem s_mk {w : CS} (hw : WF w) (hr : 3 ≤ wl w ∧ 8 ≤ wk w) : ∃ w', x_X3_init (wz w + 1) (nw w 5 0 3) = some w' ∧ FR (fun y => wz w < y) w w' ∧ WF w' ∧ wz w' = wz w + 3 ∧ STF w' (wz w + 1) ∧ wl w' + 3 = wl w ∧ wk w' + 8 = wk w := by
  obtain ⟨r1, r2⟩ := hr
  generalize hs : wz w + 1 = s
  have hn : ∀ {y : Nat}, s ≤ y → wz w < y := fun h => by omega
  have a0 : wJ (nw w 5 0 3) 0 s = 5 := by rw [wJ_nw, if_pos hs.symm, if_pos rfl]
  have z1 : wz (nw w 5 0 3) = s := hs
  have W1 : WF (nw w 5 0 3) := hw.k_nw
  have F1 : FR (fun y => wz w < y) w (sI (nw w 5 0 3) 200 s 0) := FR.k_nw.k_sI (hn (Nat.le_refl _))
  have a1 : wI (sI (nw w 5 0 3) 200 s 0) 200 s = 0 := wI_on
  have a2 : wJ (sI (nw w 5 0 3) 200 s 0) 0 s = 5 := a0
  have l1 : wl (sI (nw w 5 0 3) 200 s 0) = wl w - 1 := rfl
  have s1 : wk (sI (nw w 5 0 3) 200 s 0) = wk w - 3 := rfl
  have W1 : WF (sI (nw w 5 0 3) 200 s 0) := W1
  have z1 : wz (sI (nw w 5 0 3) 200 s 0) = s := z1
  unfold x_X3_init
  rw [if_pos a0, if_pos isB0, bs_eq, if_pos (by decide)]
  generalize sI (nw w 5 0 3) 200 s 0 = w1 at *
  rw [show (2 : Int32).toNatClampNeg = 2 by decide, if_pos ⟨by omega, by omega⟩, bs_eq]
  have b0 : wJ (nw w1 8 2 2) 0 (s + 1) = 8 := by rw [wJ_nw, if_pos (by omega), if_pos rfl]
  have b1 : wJ (nw w1 8 2 2) 1 (s + 1) = 2 := by rw [wJ_nw, if_pos (by omega), if_neg (by omega), if_pos rfl]
  have b2 : ∀ i, wA (nw w1 8 2 2) (s + 1) i = 0 := fun i => by rw [wA_nw, if_pos (by omega)]
  have b3 : wJ (nw w1 8 2 2) 0 s = 5 := by rw [wJ_nw, if_neg (by omega)]; exact a2
  have b4 : wI (nw w1 8 2 2) 200 s = 0 := by rw [wI_nw, if_neg (by omega)]; exact a1
  rw [if_pos b3, bs_eq, z1]
  have F2 : FR (fun y => wz w < y) w (sJ (nw w1 8 2 2) 201 s (s + 1)) := F1.k_nx.k_sJ (hn (Nat.le_refl _)) (by omega)
  have W2 : WF (sJ (nw w1 8 2 2) 201 s (s + 1)) := W1.k_nw.k_sJ (by omega)
  have c0 : wJ (sJ (nw w1 8 2 2) 201 s (s + 1)) 0 (s + 1) = 8 := by rw [wJ_sJ, if_neg (by omega)]; exact b0
  have c1 : wJ (sJ (nw w1 8 2 2) 201 s (s + 1)) 1 (s + 1) = 2 := by rw [wJ_sJ, if_neg (by omega)]; exact b1
  have c2 : ∀ i, wA (sJ (nw w1 8 2 2) 201 s (s + 1)) (s + 1) i = 0 := b2
  have c3 : wJ (sJ (nw w1 8 2 2) 201 s (s + 1)) 0 s = 5 := by rw [wJ_sJ, if_neg (by omega)]; exact b3
  have c4 : wI (sJ (nw w1 8 2 2) 201 s (s + 1)) 200 s = 0 := b4
  have c5 : wJ (sJ (nw w1 8 2 2) 201 s (s + 1)) 201 s = s + 1 := by rw [wJ_sJ, if_pos ⟨rfl, rfl⟩]
  have z2 : wz (sJ (nw w1 8 2 2) 201 s (s + 1)) = s + 1 := by show wz w1 + 1 = _; omega
  have l2 : wl (sJ (nw w1 8 2 2) 201 s (s + 1)) = wl w1 - 1 := rfl
  have s2 : wk (sJ (nw w1 8 2 2) 201 s (s + 1)) = wk w1 - 2 := rfl
  generalize sJ (nw w1 8 2 2) 201 s (s + 1) = w2 at *
  clear b0 b1 b2 b3 b4 a1 a2
  rw [if_pos ⟨by omega, by omega⟩, bs_eq, z2]
  have d0 : wJ (nw w2 7 0 3) 0 (s + 1 + 1) = 7 := by rw [wJ_nw, if_pos (by omega), if_pos rfl]
  rw [if_pos d0, p_linit d0, bd_some]
  have d1 : ∀ f, wJ (nw w2 7 0 3) f s = wJ w2 f s := fun f => by rw [wJ_nw, if_neg (by omega)]
  have d2 : ∀ f, wJ (nw w2 7 0 3) f (s + 1) = wJ w2 f (s + 1) := fun f => by rw [wJ_nw, if_neg (by omega)]
  have d3 : wI (nw w2 7 0 3) 200 s = 0 := by rw [wI_nw, if_neg (by omega)]; exact c4
  have d4 : ∀ i, wA (nw w2 7 0 3) (s + 1) i = 0 := fun i => by rw [wA_nw, if_neg (by omega)]; exact c2 i
  have d5 : wI (nw w2 7 0 3) 282 (s + 2) = 0 := by rw [wI_nw, if_pos (by omega)]
  have F3 : FR (fun y => wz w < y) w (nw w2 7 0 3) := F2.k_nx
  have z3 : wz (nw w2 7 0 3) = s + 2 := by show wz w2 + 1 = _; omega
  have W3 : WF (nw w2 7 0 3) := W2.k_nw
  have l3 : wl (nw w2 7 0 3) = wl w2 - 1 := rfl
  have s3 : wk (nw w2 7 0 3) = wk w2 - 3 := rfl
  generalize nw w2 7 0 3 = w3 at *
  have g0 : wJ (sJ (sI w3 280 (s + 1 + 1) 0) 281 (s + 1 + 1) (wJ w3 2 0)) 0 s = 5 := by rw [wJ_sJ, if_neg (by omega)]; exact (d1 0).trans c3
  rw [if_pos g0, bs_eq]
  refine ⟨_, rfl, ((F3.k_sI (hn (by omega))).k_sJ (hn (by omega)) (by omega)).k_sJ (hn (by omega)) (by omega), ((WF.k_sI W3).k_sJ (by omega)).k_sJ (by omega), by show wz w3 = _; omega, ?_, by show wl w3 + 3 = _; omega, by show wk w3 + 8 = _; omega⟩
  refine ⟨?_, ?_, ?_, ?_, ?_, ?_, fun i => d4 i, ?_, ?_, ?_⟩
  · rw [wJ_sJ, if_neg (by omega)]; exact g0
  · rw [wJ_sJ, if_neg (by omega), wJ_sJ, if_neg (by omega)]; exact (d1 201).trans c5
  · rw [wJ_sJ, if_pos ⟨rfl, rfl⟩]
  · show wI (sI w3 280 (s + 1 + 1) 0) 200 s = 0
    rw [wI_off (Or.inl (by omega))]; exact d3
  · rw [wJ_sJ, if_neg (by omega), wJ_sJ, if_neg (by omega)]; exact (d2 0).trans c0
  · rw [wJ_sJ, if_neg (by omega), wJ_sJ, if_neg (by omega)]; exact (d2 1).trans c1
  · rw [wJ_sJ, if_neg (by omega), wJ_sJ, if_neg (by omega)]; exact d0
  · rw [wJ_sJ, if_neg (by omega), wJ_sJ, if_pos ⟨rfl, rfl⟩, wJ_sJ, if_neg (by omega), wJ_sJ, if_neg (by omega)]; rfl
  · show wI (sI w3 280 (s + 1 + 1) 0) 282 (s + 2) = 0
    rw [wI_off (Or.inl (by omega))]; exact d5

theorem l2_ok {o : Nat} : ∀ (n i : Nat) (w : CS), i ≤ 3 → 3 < n + i → WF w → (wJ w 0 o = 6 ∧ wJ w 241 o = o + 2 ∧ wJ w 0 (o + 2) = 10 ∧ wJ w 1 (o + 2) = 3) → wz w = o + 9 + 3 * i → (9 ≤ wl w + 3 * i ∧ 24 ≤ wk w + 8 * i) → ∃ w', x_X6_init_L2 o n (nI i) w = some w' ∧ FR (fun y => y = o + 2) w w' ∧ WF w' ∧ wz w' = o + 18 ∧ (∀ j, i ≤ j → j < 3 → STF w' (o + 10 + 3 * j) ∧ wB w' (o + 2) j = o + 10 + 3 * j) ∧ (∀ j, j < i → wB w' (o + 2) j = wB w (o + 2) j) ∧ wl w' + 9 = wl w + 3 * i ∧ wk w' + 24 = wk w + 8 * i := by
  intro n
  induction n with
  | zero => intro i w h1 h2; omega
  | succ n ih =>
    intro i w h1 h2 hw hk hz hr
    obtain ⟨k1, k2, k3, k4⟩ := hk
    rw [x_X6_init_L2, if_pos k1, k2, if_pos k3, k4]
    by_cases hi : i < 3
    · have hk1 : wJ (nw w 5 0 3) 0 (wz w + 1) = 5 := by rw [wJ_nw, if_pos rfl, if_pos rfl]
      obtain ⟨w2, e2, F1, W1, z1, T1, r1, r2⟩ := s_mk hw (by omega)
      rw [if_neg (nI_ge hi (by omega)), if_pos ⟨by omega, by omega⟩, bs_eq, if_pos hk1, e2, bd_some]
      have q1 := F1.2.1 (o + 2) (by omega)
      rw [if_pos (q1.1.trans k3), if_pos (show vR (nI i) (wJ w2 1 (o + 2)) by rw [q1.2, k4]; exact nI_in hi (by omega)), if_pos T1.1, bs_eq, nI_clamp (by omega), nI_1]
      have F2 : FR (fun y => y = o + 2 ∨ wz w < y) w (sB w2 (o + 2) i (wz w + 1)) := (F1.mono (fun y _ h => Or.inr h)).k_sB (Or.inl rfl)
      have hoA : wJ (sB w2 (o + 2) i (wz w + 1)) 241 o = wJ w 241 o := (F2.2.2 o (by omega) (by omega)).2.2.1 241
      obtain ⟨w', e, F', W', z', t', b', l', s'⟩ := ih (i + 1) (sB w2 (o + 2) i (wz w + 1)) (by omega) (by omega) W1 ⟨(F2.2.1 o (by omega)).1.trans k1, hoA.trans k2, q1.1.trans k3, q1.2.trans k4⟩ (by show wz w2 = _; omega) (by constructor <;> show _ ≤ _ <;> simp only [wl_sB, wk_sB] <;> omega)
      simp only [wl_sB, wk_sB] at l' s'
      refine ⟨w', e, (F2.mono (fun y hy h => by omega)).tr F', W', z', fun j hj hj4 => ?_, fun j hj => ?_, by omega, by omega⟩
      · rcases Nat.lt_or_ge i j with q | q
        · exact t' j q hj4
        · have : j = i := by omega
          subst this
          refine ⟨?_, ?_⟩
          · have T2 : STF (sB w2 (o + 2) j (wz w + 1)) (o + 10 + 3 * j) := by rw [show o + 10 + 3 * j = wz w + 1 by omega]; exact T1
            exact T2.fr F' (by show _ ≤ wz w2; omega) (by omega)
          · rw [b' j (by omega), wB_sB, if_pos ⟨rfl, rfl⟩]; omega
      · rw [b' j (by omega), wB_sB, if_neg (by omega)]
        exact (F1.2.2 (o + 2) (by omega) (by omega)).2.2.2.1 j
    · have : i = 3 := by omega
      subst this
      rw [if_pos (nI_le (by omega) (by omega))]
      exact ⟨w, rfl, FR.rf, hw, by omega, fun j h1 h2 => by omega, fun j _ => rfl, rfl, rfl⟩
theorem l3_ok {o : Nat} : ∀ (n i : Nat) (w : CS), i ≤ 3 → 3 < n + i → WF w → (wJ w 0 o = 6 ∧ wJ w 242 o = o + 3 ∧ wJ w 0 (o + 3) = 10 ∧ wJ w 1 (o + 3) = 3) → wz w = o + 18 + 3 * i → (9 ≤ wl w + 3 * i ∧ 24 ≤ wk w + 8 * i) → ∃ w', x_X6_init_L3 o n (nI i) w = some w' ∧ FR (fun y => y = o + 3) w w' ∧ WF w' ∧ wz w' = o + 27 ∧ (∀ j, i ≤ j → j < 3 → STF w' (o + 19 + 3 * j) ∧ wB w' (o + 3) j = o + 19 + 3 * j) ∧ (∀ j, j < i → wB w' (o + 3) j = wB w (o + 3) j) ∧ wl w' + 9 = wl w + 3 * i ∧ wk w' + 24 = wk w + 8 * i := by
  intro n
  induction n with
  | zero => intro i w h1 h2; omega
  | succ n ih =>
    intro i w h1 h2 hw hk hz hr
    obtain ⟨k1, k2, k3, k4⟩ := hk
    rw [x_X6_init_L3, if_pos k1, k2, if_pos k3, k4]
    by_cases hi : i < 3
    · have hk1 : wJ (nw w 5 0 3) 0 (wz w + 1) = 5 := by rw [wJ_nw, if_pos rfl, if_pos rfl]
      obtain ⟨w2, e2, F1, W1, z1, T1, r1, r2⟩ := s_mk hw (by omega)
      rw [if_neg (nI_ge hi (by omega)), if_pos ⟨by omega, by omega⟩, bs_eq, if_pos hk1, e2, bd_some]
      have q1 := F1.2.1 (o + 3) (by omega)
      rw [if_pos (q1.1.trans k3), if_pos (show vR (nI i) (wJ w2 1 (o + 3)) by rw [q1.2, k4]; exact nI_in hi (by omega)), if_pos T1.1, bs_eq, nI_clamp (by omega), nI_1]
      have F2 : FR (fun y => y = o + 3 ∨ wz w < y) w (sB w2 (o + 3) i (wz w + 1)) := (F1.mono (fun y _ h => Or.inr h)).k_sB (Or.inl rfl)
      have hoA : wJ (sB w2 (o + 3) i (wz w + 1)) 242 o = wJ w 242 o := (F2.2.2 o (by omega) (by omega)).2.2.1 242
      obtain ⟨w', e, F', W', z', t', b', l', s'⟩ := ih (i + 1) (sB w2 (o + 3) i (wz w + 1)) (by omega) (by omega) W1 ⟨(F2.2.1 o (by omega)).1.trans k1, hoA.trans k2, q1.1.trans k3, q1.2.trans k4⟩ (by show wz w2 = _; omega) (by constructor <;> show _ ≤ _ <;> simp only [wl_sB, wk_sB] <;> omega)
      simp only [wl_sB, wk_sB] at l' s'
      refine ⟨w', e, (F2.mono (fun y hy h => by omega)).tr F', W', z', fun j hj hj4 => ?_, fun j hj => ?_, by omega, by omega⟩
      · rcases Nat.lt_or_ge i j with q | q
        · exact t' j q hj4
        · have : j = i := by omega
          subst this
          refine ⟨?_, ?_⟩
          · have T2 : STF (sB w2 (o + 3) j (wz w + 1)) (o + 19 + 3 * j) := by rw [show o + 19 + 3 * j = wz w + 1 by omega]; exact T1
            exact T2.fr F' (by show _ ≤ wz w2; omega) (by omega)
          · rw [b' j (by omega), wB_sB, if_pos ⟨rfl, rfl⟩]; omega
      · rw [b' j (by omega), wB_sB, if_neg (by omega)]
        exact (F1.2.2 (o + 3) (by omega) (by omega)).2.2.2.1 j
    · have : i = 3 := by omega
      subst this
      rw [if_pos (nI_le (by omega) (by omega))]
      exact ⟨w, rfl, FR.rf, hw, by omega, fun j h1 h2 => by omega, fun j _ => rfl, rfl, rfl⟩