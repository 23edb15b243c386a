/-! ===== PURE: the start: both sides show the empty store; PURE ===== -/
def a00 : AS := ((0, -1, 0), (fun _ => (0, 0, 0)), ([], fun _ => (0, 0, 0, [])), [])
theorem iw00 : IW 0 a00 := by
  have n3 : ¬ (0 : Int32) = 3 := by decide
  have n2 : ¬ (0 : Int32) = 2 := by decide
  refine ⟨⟨⟨fun j _ => Or.inl rfl, fun ⟨j, _, h⟩ => absurd h n3, fun j _ h => absurd h n3⟩, Or.inl ⟨rfl, fun j _ h => absurd h n2⟩, ⟨⟨Nat.zero_le _, fun t ht => absurd ht List.not_mem_nil⟩, fun k _ => sok0⟩, Nat.zero_le _, fun c hc => absurd hc List.not_mem_nil⟩, 0, Nat.le_refl _, nI_0.symm⟩
theorem sv_C0 {o e : Nat} {w : CS} (hw : WF w) (h : C0 o w) (he : wJ w 2 0 = e ∧ 0 < e ∧ e ≤ wz w ∧ wJ w 0 e = 0 ∧ wJ w 1 e = 0) : SV o w (fun _ => []) := by
  obtain ⟨h1, h2, h3, h4, h5, h6, h7, h8, h9⟩ := h
  obtain ⟨e1, e2, e3, e4, e5⟩ := he
  have el : ∀ l, ELF w l → LOK w l [] := fun l hl => by
    obtain ⟨l1, l2, l3⟩ := hl
    have l4 : wJ w 281 l = e := l2.trans e1
    refine ⟨l1, Or.inr ⟨l2, by rw [l4]; exact e5, by rw [l4]; exact e4, by rw [l4]; exact e2, by rw [l4]; exact e3⟩, l3, Nat.zero_le _, by rw [l4, e5]; exact Nat.zero_le _, fun i hi => absurd hi (Nat.not_lt_zero _), fun i hi => absurd hi (Nat.not_lt_zero _)⟩
  have ls : ∀ j, j < 8 → ELF w (LL o j) := fun j hj => by
    rcases Nat.lt_or_ge j 6 with q | q
    · obtain ⟨-, -, -, -, -, -, -, s8, s9, s10⟩ := h7 j q
      rw [LLr q, show o + 12 + 3 * j = o + 10 + 3 * j + 2 by omega]
      exact ⟨s8, s9, s10⟩
    · rcases (show j = 6 ∨ j = 7 by omega) with r | r <;> subst r
      · rw [LL6]; exact h8
      · rw [LL7]; exact h9
  refine ⟨hw, h1.1, h1.2, h3, h4, h5, fun i hi => (h6 i hi).1, fun k hk => ?_, fun j hj => el _ (ls j hj), fun i j hi hj hij h12 => ?_, fun j hj => ⟨Nat.zero_le _, fun x hx => absurd hx List.not_mem_nil⟩, fun x hx => absurd hx List.not_mem_nil, ⟨List.nodup_nil, Nat.zero_le _⟩, fun x hx => absurd hx List.not_mem_nil, ⟨List.nodup_nil, Nat.zero_le _⟩⟩
  · obtain ⟨s1, s2, s3, s4, s5, s6, s7, s8, s9, s10⟩ := h7 k hk
    rw [show o + 11 + 3 * k = o + 10 + 3 * k + 1 by omega, show o + 12 + 3 * k = o + 10 + 3 * k + 2 by omega]
    exact ⟨s1, s2, s3, s5, s6⟩
  · rw [(ls i hi).2.1, e1, e4] at h12
    exact absurd h12 (by decide)
theorem vc_C0 {o q e : Nat} {w : CS} (hw : WF w) (h : C0 o w) (he : wJ w 2 0 = e ∧ 0 < e ∧ e ≤ wz w ∧ wJ w 0 e = 0 ∧ wJ w 1 e = 0) (hq : OQ q w) : VC o q w (fun _ => []) a00 := by
  refine ⟨sv_C0 hw h he, h.2.1, fun j hj => (h.2.2.2.2.2.1 j hj).2, fun k hk => ?_, rfl, ⟨rfl, fun i hi => absurd hi (Nat.not_lt_zero _)⟩, hq⟩
  obtain ⟨s1, s2, s3, s4, s5, s6, s7, s8, s9, s10⟩ := h.2.2.2.2.2.2.1 k hk
  rw [show o + 11 + 3 * k = o + 10 + 3 * k + 1 by omega]
  exact ⟨s4, s7 0, s7 1, rfl⟩
theorem mv_C0 {x : Nat} {w : CS} (hI : ∀ f, wI w f x = if f = 565 then -1 else 0) (hA : ∀ k ∈ mks, ∀ i, wA w (wJ w (560 + k) x) i = 0) : MV (mv w x) 0 a00 := by
  have hS : ∀ k, k ≠ 5 → gs (mv w x) k = 0 := fun k hk => by
    show wI w (560 + k) x = 0
    rw [hI, if_neg (by omega)]
  have hG : ∀ k i, k ∈ mks → ga (mv w x) k i = 0 := fun k i hk => hA k hk i
  have hs : ∀ b k, b ∈ mks → b + 2 ∈ mks → MVs (mv w x) b k (0, 0, 0, []) := fun b k h1 h2 => ⟨hG _ _ h1, (hG _ _ h2).trans nI_0.symm, fun h => absurd rfl h, fun i hi => absurd hi (Nat.not_lt_zero _)⟩
  refine ⟨⟨hS 0 (by decide), ?_⟩, ⟨(hS 4 (by decide)).trans nI_0.symm, fun j hj => ⟨hG _ _ (by decide), fun h => ?_, fun h => ?_⟩⟩, ⟨⟨(hS 18 (by decide)).trans nI_0.symm, fun i hi => absurd hi (Nat.not_lt_zero _)⟩, fun k _ => hs 6 k (by decide) (by decide), fun k _ => hs 12 k (by decide) (by decide)⟩, (hS 23 (by decide)).trans nI_0.symm, fun i hi => absurd hi (Nat.not_lt_zero _), fun i _ => ⟨hG _ _ (by decide), hG _ _ (by decide)⟩⟩
  · show wI w 565 x = -1
    rw [hI, if_pos rfl]
  · exact absurd h (by show ¬ ((0 : Int32) = 2 ∨ (0 : Int32) = 3); decide)
  · exact absurd h (by show ¬ (0 : Int32) = 3; decide)
theorem pot_le (o : Nat) (w : CS) : pot o w ≤ 800 := by
  unfold pot
  omega
theorem rks_mks : ∀ k ∈ mks, k ∈ rks := by decide
set_option maxHeartbeats 4000000 in
theorem pure_ok : PURE := by
  intro z e0 mi L xs hL he
  have J0 : ∀ y, wJ (W0 z e0 mi) 0 y = 0 := fun y => by
    show (if y = 0 then (if (0 : Nat) = 2 then e0 + 1 else if (0 : Nat) = 3 then mi + 1 else 0) else 0) = 0
    split <;> rfl
  have J1 : ∀ y, wJ (W0 z e0 mi) 1 y = 0 := fun y => by
    show (if y = 0 then (if (1 : Nat) = 2 then e0 + 1 else if (1 : Nat) = 3 then mi + 1 else 0) else 0) = 0
    split <;> rfl
  have J2 : wJ (W0 z e0 mi) 2 0 = e0 + 1 := rfl
  have z0 : wz (W0 z e0 mi) = z := rfl
  have l0 : wl (W0 z e0 mi) = 601024 := rfl
  have s0 : wk (W0 z e0 mi) = 7293034 := rfl
  have hW0 : WF (W0 z e0 mi) := ⟨J0 0, fun y _ => J0 y⟩
  unfold x_law_S
  generalize W0 z e0 mi = w0 at *
  rw [if_pos (show 1 ≤ wl w0 ∧ 8 ≤ wk w0 by omega), bs_eq, z0]
  have k2 : wJ (nw w0 6 0 8) 0 (z + 1) = 6 := by rw [wJ_nw, if_pos (by omega), if_pos rfl]
  have d2 : wJ (nw w0 6 0 8) 2 0 = e0 + 1 ∧ wJ (nw w0 6 0 8) 0 (e0 + 1) = 0 ∧ wJ (nw w0 6 0 8) 1 (e0 + 1) = 0 := by
    refine ⟨?_, ?_, ?_⟩
    · rw [wJ_nw, if_neg (by omega)]; exact J2
    · rw [wJ_nw, if_neg (by omega)]; exact J0 _
    · rw [wJ_nw, if_neg (by omega)]; exact J1 _
  have W2 : WF (nw w0 6 0 8) := hW0.k_nw
  have z2 : wz (nw w0 6 0 8) = z + 1 := by rw [wz_nw, z0]
  have l2 : wl (nw w0 6 0 8) + 1 = 601024 := by rw [wl_nw]; omega
  have s2 : wk (nw w0 6 0 8) + 8 = 7293034 := by rw [wk_nw]; omega
  generalize nw w0 6 0 8 = w2 at k2 d2 W2 z2 l2 s2 ⊢
  clear J0 J1 J2 z0 l0 s0 hW0
  rw [if_pos k2]
  obtain ⟨w5, e5, F5, W5, z5, l5, s5, C5⟩ := x6_ok W2 k2 z2 (by omega)
  rw [e5, bd_some, if_pos (show 1 ≤ wl w5 ∧ 32 ≤ wk w5 by omega), bs_eq]
  have d5 : wJ w5 2 0 = e0 + 1 ∧ wJ w5 0 (e0 + 1) = 0 ∧ wJ w5 1 (e0 + 1) = 0 := by
    have a := (F5.2.2 0 (by omega) (by omega)).2.2.1
    have b := (F5.2.2 (e0 + 1) (by omega) (by omega)).2.2.1
    rw [a, b, b]; exact d2
  clear F5 d2 k2 W2 e5
  generalize hx : wz w5 + 1 = x
  have k7 : wJ (nw w5 14 0 32) 0 x = 14 := by rw [wJ_nw, if_pos hx.symm, if_pos rfl]
  rw [if_pos k7]
  have X0 : XI x (fun _ => 0) (nw w5 14 0 32) [] 29 116 (nw w5 14 0 32) := by
    refine ⟨⟨k7, by rw [wz_nw]; omega, W5.k_nw, FR.rf, fun f => by rw [wI_nw, if_pos hx.symm]⟩, fun k hk => absurd hk List.not_mem_nil, fun k hk => absurd hk List.not_mem_nil, ?_, ?_⟩
    · rw [wl_nw]; omega
    · rw [wk_nw]; omega
  obtain ⟨w10, e10, X⟩ := x7_ok X0 (by omega)
  rw [e10, bd_some]
  obtain ⟨⟨x1, x2, x3, x4, x5⟩, x6, x7, x8, x9⟩ := X
  have M7 : SMV (z + 1 + 27) w5 (nw w5 14 0 32) := fun y hy => by
    have a := (FR.k_nw (A := fun _ => False) (w := w5) (k := 14) (l := 0) (n := 32)).2.2 y (by omega) id
    exact ⟨a.1, a.2.1, a.2.2.1, a.2.2.2.1⟩
  have M10 : SMV (z + 1 + 27) w5 w10 := fun y hy => by
    have b := x4.2.2 y (by rw [wz_nw]; omega) (by omega)
    have a := M7 y hy
    exact ⟨fun f => (b.1 f).trans (a.1 f), fun f => (b.2.1 f).trans (a.2.1 f), fun f => (b.2.2.1 f).trans (a.2.2.1 f), fun f => (b.2.2.2.1 f).trans (a.2.2.2 f)⟩
  rw [show (1 : Int32).toNatClampNeg = 1 by decide, if_pos (by decide), if_pos (show 1 ≤ wl w10 ∧ 1 ≤ wk w10 by omega), bs_eq]
  clear k7 X0 M7 x4 e10
  have hF := FR.k_nw (A := fun _ => False) (w := w10) (k := 15) (l := 1) (n := 1)
  have hold : ∀ y, y ≤ wz w10 → (∀ f, wI (nw w10 15 1 1) f y = wI w10 f y) ∧ (∀ i, wA (nw w10 15 1 1) y i = wA w10 y i) ∧ (∀ f, wJ (nw w10 15 1 1) f y = wJ w10 f y) ∧ (∀ i, wB (nw w10 15 1 1) y i = wB w10 y i) := fun y hy => by
    have a := hF.2.2 y hy id
    exact ⟨a.1, a.2.1, a.2.2.1, a.2.2.2.1⟩
  have kq : wJ (nw w10 15 1 1) 0 (wz w10 + 1) = 15 ∧ wJ (nw w10 15 1 1) 1 (wz w10 + 1) = 1 := by
    constructor
    · rw [wJ_nw, if_pos rfl, if_pos rfl]
    · rw [wJ_nw, if_pos rfl, if_neg (by omega), if_pos rfl]
  have W13 : WF (nw w10 15 1 1) := x3.k_nw
  have z13 : wz (nw w10 15 1 1) = wz w10 + 1 := rfl
  have l13 : wl (nw w10 15 1 1) + 1 = wl w10 := by rw [wl_nw]; omega
  have s13 : wk (nw w10 15 1 1) + 1 = wk w10 := by rw [wk_nw]; omega
  refine ⟨_, rfl, ?_⟩
  show MOK (nw w10 15 1 1) x ∧ x_law_L (z + 1) (wz w10 + 1) L xs 1000 0 (cv (nw w10 15 1 1) x) (mv (nw w10 15 1 1) x) = some 1
  generalize nw w10 15 1 1 = w13 at hold kq W13 z13 l13 s13 ⊢
  have xJ : ∀ f, wJ w13 f x = wJ w10 f x := (hold x x2).2.2.1
  have y6 : ∀ k ∈ mks, x < wJ w13 (560 + k) x ∧ wJ w13 (560 + k) x ≤ wz w10 ∧ wJ w13 0 (wJ w13 (560 + k) x) = 8 + mcy k ∧ wJ w13 1 (wJ w13 (560 + k) x) = mlen k ∧ ∀ i, wA w13 (wJ w13 (560 + k) x) i = 0 := fun k hk => by
    obtain ⟨g1, g2, g3, g4, g5⟩ := x6 k (rks_mks k hk)
    obtain ⟨-, a2, a3, -⟩ := hold _ g2
    rw [xJ, a3, a3]
    exact ⟨g1, g2, g3, g4, fun i => (a2 i).trans (g5 i)⟩
  have inL : ∀ y, (y ≤ z + 1 + 27 ∨ wz w10 < y) → ¬ y ∈ x :: mks.map (fun k => wJ w13 (560 + k) x) := fun y hy h => by
    rcases List.mem_cons.mp h with r | r
    · omega
    · obtain ⟨k, hk, hk2⟩ := List.mem_map.mp r
      have := (y6 k hk).1
      have := (y6 k hk).2.1
      omega
  have cJ : ∀ y, (y ≤ z + 1 + 27 ∨ wz w10 < y) → ∀ f, wJ (cv w13 x) f y = wJ w13 f y := fun y hy f => cv_wJ (fun h => inL y hy h.2)
  refine ⟨⟨(xJ 0).trans x1, fun k hk => ⟨(y6 k hk).2.2.1, (y6 k hk).2.2.2.1⟩, fun j hj k hk h => x7 j (rks_mks j hj) k (rks_mks k hk) (by rw [← xJ, ← xJ]; exact h)⟩, ?_⟩
  have Mc : SMV (z + 1 + 27) w5 (cv w13 x) := fun y hy => by
    have a := M10 y hy
    have b := hold y (by omega)
    exact ⟨fun f => (b.1 f).trans (a.1 f), fun f => (b.2.1 f).trans (a.2.1 f), fun f => (cJ y (Or.inl hy) f).trans ((b.2.2.1 f).trans (a.2.2.1 f)), fun f => (b.2.2.2 f).trans (a.2.2.2 f)⟩
  have Wc : WF (cv w13 x) := by
    refine ⟨(cJ 0 (Or.inl (Nat.zero_le _)) 0).trans W13.1, fun y hy => ?_⟩
    have hy' : wz w13 < y := hy
    exact (cJ y (Or.inr (by omega)) 0).trans (W13.2 y hy')
  have Vc := vc_C0 (q := wz w10 + 1) (e := e0 + 1) Wc (C5.cg Mc) (by
    have a := (Mc 0 (Nat.zero_le _)).2.2.1
    have b := (Mc (e0 + 1) (by omega)).2.2.1
    rw [a, b, b]
    exact ⟨d5.1, Nat.succ_pos _, by show _ ≤ wz w13; omega, d5.2.1, d5.2.2⟩) ⟨(cJ _ (Or.inr (Nat.lt_succ_self _)) 0).trans kq.1, (cJ _ (Or.inr (Nat.lt_succ_self _)) 1).trans kq.2⟩
  have Mm := mv_C0 (w := w13) (x := x) (fun f => ((hold x x2).1 f).trans (x5 f)) (fun k hk => (y6 k hk).2.2.2.2)
  have hp := pot_le (z + 1) (cv w13 x)
  have hB : Bd (z + 1) (cv w13 x) (2 * (513 - 0)) (10 * (513 - 0)) := by
    constructor
    · show _ ≤ wl w13; omega
    · show _ ≤ wk w13; omega
  rcases loop_ok (o := z + 1) (q := wz w10 + 1) (xs := xs) hL 1000 0 (cv w13 x) (mv w13 x) (by omega) ⟨fun _ => [], a00, 0, Vc, Mm, iw00, Nat.le_refl _, hB⟩ with r | r
  · rw [show nI (7 * 0) = 0 from nI_0] at r; exact r
  · omega
