/-! ===== the law's calls of the class against the abstract store (printed by does.py) ===== -/
theorem bh2_l {α ρ : Type} (k : Nat) (w : CS) (he : Nat → CS → Option ρ) (f : α → CS → Option ρ) : bh2 (some (Sum.inl (k, w))) he f = he k w := rfl
theorem bh2_r {α ρ : Type} (v : α) (w : CS) (he : Nat → CS → Option ρ) (f : α → CS → Option ρ) : bh2 (some (Sum.inr (v, w))) he f = f v w := rfl
theorem bh3_l {α ρ : Type} (k : Nat) (w : CS) (he : Nat → CS → Option ρ) (f : α → Option ρ) : bh3 (some (Sum.inl (k, w))) he f = he k w := rfl
theorem bh3_r {α ρ : Type} (v : α) (he : Nat → CS → Option ρ) (f : α → Option ρ) : bh3 (some (Sum.inr v)) he f = f v := rfl
abbrev K3 (r : OUT) : Prop := r.1 = 0 ∨ r.1 = 1 ∨ r.1 = 2 ∨ r.1 = 3
abbrev K2 (r : OUT) : Prop := r.1 = 0 ∨ r.1 = 1 ∨ r.1 = 3
abbrev K1 (r : OUT) : Prop := r.1 = 0 ∨ r.1 = 1
theorem k_openA {a : AS} (p v : Int32) : K3 (openA p v a) := by
  unfold openA
  repeat' (first | exact Or.inl rfl | exact Or.inr (Or.inl rfl) | exact Or.inr (Or.inr (Or.inl rfl)) | exact Or.inr (Or.inr (Or.inr rfl)) | split | dsimp only)
theorem k_closA {a : AS} (p : Int32) : K2 (closA p a) := by
  unfold closA
  repeat' (first | exact Or.inl rfl | exact Or.inr (Or.inl rfl) | exact Or.inr (Or.inr rfl) | split | dsimp only)
theorem k_statA {a : AS} (p : Int32) : K1 (statA p a) := by
  unfold statA
  repeat' (first | exact Or.inl rfl | exact Or.inr rfl | split | dsimp only)
theorem k_mkSA {a : AS} (t s : Int32) : K2 (mkSA t s a) := by
  unfold mkSA
  repeat' (first | exact Or.inl rfl | exact Or.inr (Or.inl rfl) | exact Or.inr (Or.inr rfl) | split | dsimp only)
theorem k_delA {a : AS} (t s : Int32) : K2 (delA t s a) := by
  unfold delA
  repeat' (first | exact Or.inl rfl | exact Or.inr (Or.inl rfl) | exact Or.inr (Or.inr rfl) | split | dsimp only)
theorem k_mkIA {a : AS} (t s f u : Int32) : K2 (mkIA t s f u a) := by
  unfold mkIA
  repeat' (first | exact Or.inl rfl | exact Or.inr (Or.inl rfl) | exact Or.inr (Or.inr rfl) | split | dsimp only)
theorem k_begA {a : AS} (p sc u : Int32) : K3 (begA p sc u a) := by
  unfold begA
  repeat' (first | exact Or.inl rfl | exact Or.inr (Or.inl rfl) | exact Or.inr (Or.inr (Or.inl rfl)) | exact Or.inr (Or.inr (Or.inr rfl)) | split | dsimp only)
theorem k_staA {a : AS} (t : Int32) : K1 (staA t a) := by
  unfold staA
  repeat' (first | exact Or.inl rfl | exact Or.inr rfl | split | dsimp only)
theorem k_comA {a : AS} (t : Int32) : K2 (comA t a) := by
  unfold comA
  repeat' (first | exact Or.inl rfl | exact Or.inr (Or.inl rfl) | exact Or.inr (Or.inr rfl) | split | dsimp only)
theorem k_aboA {a : AS} (t : Int32) : K2 (aboA t a) := by
  unfold aboA
  repeat' (first | exact Or.inl rfl | exact Or.inr (Or.inl rfl) | exact Or.inr (Or.inr rfl) | split | dsimp only)
theorem k_putA {a : AS} (t s k c f g : Int32) : K3 (putA t s k c f g a) := by
  unfold putA
  repeat' (first | exact Or.inl rfl | exact Or.inr (Or.inl rfl) | exact Or.inr (Or.inr (Or.inl rfl)) | exact Or.inr (Or.inr (Or.inr rfl)) | split | dsimp only)
theorem k_rmvA {a : AS} (t s x y : Int32) : K3 (rmvA t s x y a) := by
  unfold rmvA
  repeat' (first | exact Or.inl rfl | exact Or.inr (Or.inl rfl) | exact Or.inr (Or.inr (Or.inl rfl)) | exact Or.inr (Or.inr (Or.inr rfl)) | split | dsimp only)
theorem k_getA {a : AS} (t s k : Int32) : K3 (getA t s k a) := by
  unfold getA
  repeat' (first | exact Or.inl rfl | exact Or.inr (Or.inl rfl) | exact Or.inr (Or.inr (Or.inl rfl)) | exact Or.inr (Or.inr (Or.inr rfl)) | split | dsimp only)
theorem k_cntA {a : AS} (t s x y : Int32) : K3 (cntA t s x y a) := by
  unfold cntA
  repeat' (first | exact Or.inl rfl | exact Or.inr (Or.inl rfl) | exact Or.inr (Or.inr (Or.inl rfl)) | exact Or.inr (Or.inr (Or.inr rfl)) | split | dsimp only)
theorem k_curA {a : AS} (t s f d : Int32) : K3 (curA t s f d a) := by
  unfold curA
  repeat' (first | exact Or.inl rfl | exact Or.inr (Or.inl rfl) | exact Or.inr (Or.inr (Or.inl rfl)) | exact Or.inr (Or.inr (Or.inr rfl)) | split | dsimp only)
theorem k_steA {a : AS} (i : Int32) : K2 (steA i a) := by
  unfold steA
  repeat' (first | exact Or.inl rfl | exact Or.inr (Or.inl rfl) | exact Or.inr (Or.inr rfl) | split | dsimp only)
theorem k_updA {a : AS} (i v : Int32) : K3 (updA i v a) := by
  unfold updA
  repeat' (first | exact Or.inl rfl | exact Or.inr (Or.inl rfl) | exact Or.inr (Or.inr (Or.inl rfl)) | exact Or.inr (Or.inr (Or.inr rfl)) | split | dsimp only)
theorem K2.k3 {r : OUT} (h : K2 r) : K3 r := h.elim Or.inl (fun h => h.elim (fun q => Or.inr (Or.inl q)) (fun q => Or.inr (Or.inr (Or.inr q))))
theorem K1.k3 {r : OUT} (h : K1 r) : K3 r := h.elim Or.inl (fun q => Or.inr (Or.inl q))
/-- what the law reads of a call -/
def dz (r : OUT) : Int32 := if r.1 = 0 then r.2.1 else if r.1 = 1 then -30 else if r.1 = 2 then -20 else -10
theorem dz0 {r : OUT} (h : r.1 = 0) : dz r = r.2.1 := if_pos h
theorem dz1 {r : OUT} (h : r.1 = 1) : dz r = -30 := by unfold dz; rw [h]; rfl
theorem dz2 {r : OUT} (h : r.1 = 2) : dz r = -20 := by unfold dz; rw [h]; rfl
theorem dz3 {r : OUT} (h : r.1 = 3) : dz r = -10 := by unfold dz; rw [h]; rfl
def ST (o N c s : Nat) (w : CS) (a : AS) : Prop := (∃ R, VC o 0 w R a) ∧ IW N a ∧ Bd o w c s
theorem ST.k {o N c s : Nat} {w : CS} {a : AS} (h : ST o N c s w a) : wJ w 0 o = 6 := h.1.choose_spec.1.ko
theorem ST.mono {o N c s N' c' s' : Nat} {w : CS} {a : AS} (h : ST o N c s w a) (hN : N ≤ N') (hc : c' ≤ c) (hs : s' ≤ s) : ST o N' c' s' w a := ⟨h.1, ⟨h.2.1.1, by obtain ⟨T, h1, h2⟩ := h.2.1.2; exact ⟨T, by omega, h2⟩⟩, h.2.2.mono hc hs⟩
theorem dd_CO {X : Option ((Nat × CS) ⊕ (Int32 × CS))} {o q c s : Nat} {r : OUT} (h : CO X o q c s r) (k : K3 r) (f : Int32 → Int32) (g : Int32 → CS → Option ((Int32 × CS) ⊕ (Int32 × CS))) (hg : ∀ w, g r.2.1 w = some (.inl (f r.2.1, w))) (hf : r.1 = 0 → f r.2.1 = r.2.1) : ∃ w' R', l2 (bh2 X (fun k9 w9 => if k9 = 1 then some (.inr (((-30) : Int32), w9)) else if k9 = 2 then some (.inr (((-20) : Int32), w9)) else if k9 = 3 then some (.inr (((-10) : Int32), w9)) else none) g) (fun (v71 : Int32) (w72 : CS) => some ((v71, w72))) = some (dz r, w') ∧ VC o q w' R' r.2.2 ∧ Bd o w' c s := by
  obtain ⟨w', R', V, B, h | h⟩ := h
  · obtain ⟨h1, h2⟩ := h
    rw [h2, bh2_r, hg, w2_inl, dz0 h1, hf h1]
    exact ⟨w', R', rfl, V, B⟩
  · obtain ⟨h1, h2⟩ := h
    rw [h2, bh2_l]
    rcases k with k | k | k | k
    · exact absurd k h1
    · rw [k, if_pos rfl, w2_inr, dz1 k]; exact ⟨w', R', rfl, V, B⟩
    · rw [k, if_neg (by omega), if_pos rfl, w2_inr, dz2 k]; exact ⟨w', R', rfl, V, B⟩
    · rw [k, if_neg (by omega), if_neg (by omega), if_pos rfl, w2_inr, dz3 k]; exact ⟨w', R', rfl, V, B⟩
theorem dd_CR {X : Option ((Nat × CS) ⊕ Int32)} {o c s : Nat} {w : CS} {R : Nat → List Nat} {a : AS} {r : OUT} (V : VC o 0 w R a) (B : Bd o w (c + 2) (s + 10)) (h : CR X w a r) (k : K3 r) : ∃ w', l2 (bh3 X (fun k9 w9 => if k9 = 1 then some (.inr (((-30) : Int32), w9)) else if k9 = 2 then some (.inr (((-20) : Int32), w9)) else if k9 = 3 then some (.inr (((-10) : Int32), w9)) else none) (fun v => some (.inl (v, w)))) (fun (v71 : Int32) (w72 : CS) => some ((v71, w72))) = some (dz r, w') ∧ VC o 0 w' R a ∧ Bd o w' c s := by
  obtain ⟨ea, h | h⟩ := h
  · obtain ⟨h1, h2⟩ := h
    rw [h2, bh3_r, w2_inl, dz0 h1]
    exact ⟨w, rfl, V, B.mono (by omega) (by omega)⟩
  · obtain ⟨h1, h2⟩ := h
    have B' : Bd o (bump w) c s := (B.mono (c' := c + 1) (s' := s + 6) (by omega) (by omega)).bump
    rw [h2, bh3_l]
    rcases k with k | k | k | k
    · exact absurd k h1
    · rw [k, if_pos rfl, w2_inr, dz1 k]; exact ⟨bump w, rfl, VP.bump V, B'⟩
    · rw [k, if_neg (by omega), if_pos rfl, w2_inr, dz2 k]; exact ⟨bump w, rfl, VP.bump V, B'⟩
    · rw [k, if_neg (by omega), if_neg (by omega), if_pos rfl, w2_inr, dz3 k]; exact ⟨bump w, rfl, VP.bump V, B'⟩
theorem z_mkSA (t s : Int32) (a : AS) : (mkSA t s a).2.1 = 0 := by
  unfold mkSA
  repeat' (first | rfl | split)
theorem z_mkIA (t s f u : Int32) (a : AS) : (mkIA t s f u a).2.1 = 0 := by
  unfold mkIA
  repeat' (first | rfl | split)
theorem x1_l {e : Nat × CS} {ρ : Type} (io : Nat × CS → ρ) (f : CS → Option ρ) : bx1 io (some (Sum.inl e)) f = some (io e) := rfl
theorem x1_r {w : CS} {ρ : Type} (io : Nat × CS → ρ) (f : CS → Option ρ) : bx1 io (some (Sum.inr w)) f = f w := rfl
theorem t_CV {X : Option ((Nat × CS) ⊕ CS)} {o q c s : Nat} {r : OUT} (h : CV X o q c s r) (z : r.2.1 = 0) : CO (l1 (bx1 (fun e9 => .inr (.inl e9)) X (fun (w12 : CS) => some (.inl w12))) (fun (w15 : CS) => some (.inr (((0 : Int32), w15))))) o q c s r := by
  obtain ⟨w', R', V, B, h | h⟩ := h
  · obtain ⟨h1, h2⟩ := h
    exact ⟨w', R', V, B, Or.inl ⟨h1, by rw [h2, x1_r, l1_inl, z]⟩⟩
  · obtain ⟨h1, h2⟩ := h
    exact ⟨w', R', V, B, Or.inr ⟨h1, by rw [h2, x1_l, l1_inr]⟩⟩
theorem t_mkS {o q c s : Nat} {w : CS} {a : AS} {R : Nat → List Nat} (V : VC o q w R a) (I : IV a) (B : Bd o w (c + 2) (s + 10)) (t sn x y : Int32) : CO (x_L_told o 0 t sn x y w) o q c s (mkSA t sn a) := by
  have h := t_CV (c_makeStore V I B t sn) (z_mkSA t sn a)
  unfold x_L_told
  rw [if_pos rfl, if_pos V.1.ko]
  exact h
theorem t_mkI {o q c s : Nat} {w : CS} {a : AS} {R : Nat → List Nat} (V : VC o q w R a) (I : IV a) (B : Bd o w (c + 2) (s + 10)) (t sn f : Int32) : CO (x_L_told o 1 t sn f 0 w) o q c s (mkIA t sn f 0 a) := by
  have h := t_CV (c_makeIndex V I B t sn f 0) (z_mkIA t sn f 0 a)
  unfold x_L_told
  rw [if_neg (show ¬ (1 : Int32) = 0 by decide), if_neg (show ¬ (0 : Int32) = 1 by decide), bd_some, if_pos V.1.ko]
  exact h
theorem d_mkS {o N c s : Nat} {w : CS} {a : AS} (h : ST o N (c + 2) (s + 10) w a) (t sn x y : Int32) : ∃ w', x_L_does o 0 t sn x y w = some (dz (mkSA t sn a), w') ∧ ST o (N + 1) c s w' (mkSA t sn a).2.2 := by
  obtain ⟨⟨R, V⟩, I, B⟩ := h
  obtain ⟨w', R', e, V', B'⟩ := dd_CO (t_mkS V I.1 B t sn x y) (k_mkSA t sn).k3 (fun v => v) (fun v w => some (.inl (v, w))) (fun _ => rfl) (fun _ => rfl)
  unfold x_L_does
  rw [if_neg (show ¬ (2 : Int32) ≤ 0 by decide)]
  exact ⟨w', e, ⟨R', V'⟩, i_makeStore I t sn, B'⟩
theorem d_mkI {o N c s : Nat} {w : CS} {a : AS} (h : ST o N (c + 2) (s + 10) w a) (t sn f : Int32) : ∃ w', x_L_does o 1 t sn f 0 w = some (dz (mkIA t sn f 0 a), w') ∧ ST o (N + 1) c s w' (mkIA t sn f 0 a).2.2 := by
  obtain ⟨⟨R, V⟩, I, B⟩ := h
  obtain ⟨w', R', e, V', B'⟩ := dd_CO (t_mkI V I.1 B t sn f) (k_mkIA t sn f 0).k3 (fun v => v) (fun v w => some (.inl (v, w))) (fun _ => rfl) (fun _ => rfl)
  unfold x_L_does
  rw [if_neg (show ¬ (2 : Int32) ≤ 1 by decide)]
  exact ⟨w', e, ⟨R', V'⟩, i_makeIndex I t sn f 0, B'⟩
theorem d_open {o N c s : Nat} {w : CS} {a : AS} (h : ST o N (c + 2) (s + 10) w a) (hN : N < 1000) (p v x y : Int32) : ∃ w', x_L_does o 2 p v x y w = some (dz (openA p v a), w') ∧ ST o (N + 1) c s w' (openA p v a).2.2 := by
  obtain ⟨⟨R, V⟩, I, B⟩ := h
  obtain ⟨w', R', e, V', B'⟩ := dd_CO (c_open V I.1 B p v) (k_openA p v) (fun v => v) (fun v w => some (.inl (v, w))) (fun _ => rfl) (fun _ => rfl)
  unfold x_L_does
  rw [if_pos (show (2 : Int32) ≤ 2 by decide), if_pos rfl, if_pos V.1.ko]
  exact ⟨w', e, ⟨R', V'⟩, i_open I hN p v, B'⟩
theorem d_close {o N c s : Nat} {w : CS} {a : AS} (h : ST o N (c + 2) (s + 10) w a) (p x y z : Int32) : ∃ w', x_L_does o 3 p x y z w = some (dz (closA p a), w') ∧ ST o (N + 1) c s w' (closA p a).2.2 := by
  obtain ⟨⟨R, V⟩, I, B⟩ := h
  obtain ⟨w', R', e, V', B'⟩ := dd_CO (c_close V I.1 B p) (k_closA p).k3 (fun v => v) (fun v w => some (.inl (v, w))) (fun _ => rfl) (fun _ => rfl)
  unfold x_L_does
  rw [if_pos (show (2 : Int32) ≤ 3 by decide), if_neg (show ¬ (3 : Int32) = 2 by decide), if_pos rfl, if_pos V.1.ko]
  exact ⟨w', e, ⟨R', V'⟩, i_close I p, B'⟩
theorem d_deleteStore {o N c s : Nat} {w : CS} {a : AS} (h : ST o N (c + 2) (s + 10) w a) (t sn x y : Int32) : ∃ w', x_L_does o 4 t sn x y w = some (dz (delA t sn a), w') ∧ ST o (N + 1) c s w' (delA t sn a).2.2 := by
  obtain ⟨⟨R, V⟩, I, B⟩ := h
  obtain ⟨w', R', e, V', B'⟩ := dd_CO (c_deleteStore V I.1 B t sn) (k_delA t sn).k3 (fun v => v) (fun v w => some (.inl (v, w))) (fun _ => rfl) (fun _ => rfl)
  unfold x_L_does
  rw [if_pos (show (2 : Int32) ≤ 4 by decide), if_neg (show ¬ (4 : Int32) = 2 by decide), if_neg (show ¬ (4 : Int32) = 3 by decide), if_pos rfl, if_pos V.1.ko]
  exact ⟨w', e, ⟨R', V'⟩, i_deleteStore I t sn, B'⟩
theorem d_commit {o N c s : Nat} {w : CS} {a : AS} (h : ST o N (c + 2) (s + 10) w a) (t x y z : Int32) : ∃ w', x_L_does o 6 t x y z w = some (dz (comA t a), w') ∧ ST o (N + 1) c s w' (comA t a).2.2 := by
  obtain ⟨⟨R, V⟩, I, B⟩ := h
  obtain ⟨w', R', e, V', B'⟩ := dd_CO (c_commit V I.1 B t) (k_comA t).k3 (fun v => v) (fun v w => some (.inl (v, w))) (fun _ => rfl) (fun _ => rfl)
  unfold x_L_does
  rw [if_pos (show (2 : Int32) ≤ 6 by decide), if_neg (show ¬ (6 : Int32) = 2 by decide), if_neg (show ¬ (6 : Int32) = 3 by decide), if_neg (show ¬ (6 : Int32) = 4 by decide), if_neg (show ¬ (6 : Int32) = 5 by decide), if_pos rfl, if_pos V.1.ko]
  exact ⟨w', e, ⟨R', V'⟩, i_commit I t, B'⟩
theorem d_abort {o N c s : Nat} {w : CS} {a : AS} (h : ST o N (c + 2) (s + 10) w a) (t x y z : Int32) : ∃ w', x_L_does o 7 t x y z w = some (dz (aboA t a), w') ∧ ST o (N + 1) c s w' (aboA t a).2.2 := by
  obtain ⟨⟨R, V⟩, I, B⟩ := h
  obtain ⟨w', R', e, V', B'⟩ := dd_CO (c_abort V I.1 B t) (k_aboA t).k3 (fun v => v) (fun v w => some (.inl (v, w))) (fun _ => rfl) (fun _ => rfl)
  unfold x_L_does
  rw [if_pos (show (2 : Int32) ≤ 7 by decide), if_neg (show ¬ (7 : Int32) = 2 by decide), if_neg (show ¬ (7 : Int32) = 3 by decide), if_neg (show ¬ (7 : Int32) = 4 by decide), if_neg (show ¬ (7 : Int32) = 5 by decide), if_neg (show ¬ (7 : Int32) = 6 by decide), if_pos rfl, if_pos V.1.ko]
  exact ⟨w', e, ⟨R', V'⟩, i_abort I t, B'⟩
theorem d_remove {o N c s : Nat} {w : CS} {a : AS} (h : ST o N (c + 2) (s + 10) w a) (t sn x y : Int32) : ∃ w', x_L_does o 9 t sn x y w = some (dz (rmvA t sn x y a), w') ∧ ST o (N + 1) c s w' (rmvA t sn x y a).2.2 := by
  obtain ⟨⟨R, V⟩, I, B⟩ := h
  obtain ⟨w', R', e, V', B'⟩ := dd_CO (c_remove V I.1 B t sn x y) (k_rmvA t sn x y) (fun v => v) (fun v w => some (.inl (v, w))) (fun _ => rfl) (fun _ => rfl)
  unfold x_L_does
  rw [if_pos (show (2 : Int32) ≤ 9 by decide), if_neg (show ¬ (9 : Int32) = 2 by decide), if_neg (show ¬ (9 : Int32) = 3 by decide), if_neg (show ¬ (9 : Int32) = 4 by decide), if_neg (show ¬ (9 : Int32) = 5 by decide), if_neg (show ¬ (9 : Int32) = 6 by decide), if_neg (show ¬ (9 : Int32) = 7 by decide), if_neg (show ¬ (9 : Int32) = 8 by decide), if_pos rfl, if_pos V.1.ko]
  exact ⟨w', e, ⟨R', V'⟩, i_remove I t sn x y, B'⟩
theorem d_cursor {o N c s : Nat} {w : CS} {a : AS} (h : ST o N (c + 2) (s + 10) w a) (t sn f d : Int32) : ∃ w', x_L_does o 12 t sn f d w = some (dz (curA t sn f d a), w') ∧ ST o (N + 1) c s w' (curA t sn f d a).2.2 := by
  obtain ⟨⟨R, V⟩, I, B⟩ := h
  obtain ⟨w', R', e, V', B'⟩ := dd_CO (c_cursor V I.1 B t sn f d) (k_curA t sn f d) (fun v => v) (fun v w => some (.inl (v, w))) (fun _ => rfl) (fun _ => rfl)
  unfold x_L_does
  rw [if_pos (show (2 : Int32) ≤ 12 by decide), if_neg (show ¬ (12 : Int32) = 2 by decide), if_neg (show ¬ (12 : Int32) = 3 by decide), if_neg (show ¬ (12 : Int32) = 4 by decide), if_neg (show ¬ (12 : Int32) = 5 by decide), if_neg (show ¬ (12 : Int32) = 6 by decide), if_neg (show ¬ (12 : Int32) = 7 by decide), if_neg (show ¬ (12 : Int32) = 8 by decide), if_neg (show ¬ (12 : Int32) = 9 by decide), if_neg (show ¬ (12 : Int32) = 10 by decide), if_neg (show ¬ (12 : Int32) = 11 by decide), if_pos rfl, if_pos V.1.ko]
  exact ⟨w', e, ⟨R', V'⟩, i_cursor I t sn f d, B'⟩
theorem d_step {o N c s : Nat} {w : CS} {a : AS} (h : ST o N (c + 2) (s + 10) w a) (ci x y z : Int32) : ∃ w', x_L_does o 13 ci x y z w = some (dz (steA ci a), w') ∧ ST o (N + 1) c s w' (steA ci a).2.2 := by
  obtain ⟨⟨R, V⟩, I, B⟩ := h
  obtain ⟨w', R', e, V', B'⟩ := dd_CO (c_step V I.1 B ci) (k_steA ci).k3 (fun v => v) (fun v w => some (.inl (v, w))) (fun _ => rfl) (fun _ => rfl)
  unfold x_L_does
  rw [if_pos (show (2 : Int32) ≤ 13 by decide), if_neg (show ¬ (13 : Int32) = 2 by decide), if_neg (show ¬ (13 : Int32) = 3 by decide), if_neg (show ¬ (13 : Int32) = 4 by decide), if_neg (show ¬ (13 : Int32) = 5 by decide), if_neg (show ¬ (13 : Int32) = 6 by decide), if_neg (show ¬ (13 : Int32) = 7 by decide), if_neg (show ¬ (13 : Int32) = 8 by decide), if_neg (show ¬ (13 : Int32) = 9 by decide), if_neg (show ¬ (13 : Int32) = 10 by decide), if_neg (show ¬ (13 : Int32) = 11 by decide), if_neg (show ¬ (13 : Int32) = 12 by decide), if_pos rfl, if_pos V.1.ko]
  exact ⟨w', e, ⟨R', V'⟩, i_step I ci, B'⟩
theorem d_update {o N c s : Nat} {w : CS} {a : AS} (h : ST o N (c + 2) (s + 10) w a) (ci v x y : Int32) : ∃ w', x_L_does o 14 ci v x y w = some (dz (updA ci v a), w') ∧ ST o (N + 1) c s w' (updA ci v a).2.2 := by
  obtain ⟨⟨R, V⟩, I, B⟩ := h
  obtain ⟨w', R', e, V', B'⟩ := dd_CO (c_update V I.1 B ci v) (k_updA ci v) (fun v => v) (fun v w => some (.inl (v, w))) (fun _ => rfl) (fun _ => rfl)
  unfold x_L_does
  rw [if_pos (show (2 : Int32) ≤ 14 by decide), if_neg (show ¬ (14 : Int32) = 2 by decide), if_neg (show ¬ (14 : Int32) = 3 by decide), if_neg (show ¬ (14 : Int32) = 4 by decide), if_neg (show ¬ (14 : Int32) = 5 by decide), if_neg (show ¬ (14 : Int32) = 6 by decide), if_neg (show ¬ (14 : Int32) = 7 by decide), if_neg (show ¬ (14 : Int32) = 8 by decide), if_neg (show ¬ (14 : Int32) = 9 by decide), if_neg (show ¬ (14 : Int32) = 10 by decide), if_neg (show ¬ (14 : Int32) = 11 by decide), if_neg (show ¬ (14 : Int32) = 12 by decide), if_neg (show ¬ (14 : Int32) = 13 by decide), if_pos V.1.ko]
  exact ⟨w', e, ⟨R', V'⟩, i_update I ci v, B'⟩
theorem d_begin {o N c s : Nat} {w : CS} {a : AS} (h : ST o N (c + 2) (s + 10) w a) (p sc u x : Int32) (hu : isB u) : ∃ w', x_L_does o 5 p sc u x w = some (dz (begA p sc u a), w') ∧ ST o (N + 1) c s w' (begA p sc u a).2.2 := by
  obtain ⟨⟨R, V⟩, I, B⟩ := h
  have e1 : (if u = 1 then some (1 : Int32) else some (0 : Int32)) = some u := by
    rcases hu with q | q <;> subst q <;> decide
  obtain ⟨w', R', e, V', B'⟩ := dd_CO (c_begin V I.1 B p sc u hu) (k_begA p sc u) (fun v => v) (fun v w => some (.inl (v, w))) (fun _ => rfl) (fun _ => rfl)
  unfold x_L_does
  rw [if_pos (show (2 : Int32) ≤ 5 by decide), if_neg (show ¬ (5 : Int32) = 2 by decide), if_neg (show ¬ (5 : Int32) = 3 by decide), if_neg (show ¬ (5 : Int32) = 4 by decide), if_pos rfl, e1, bd_some, if_pos V.1.ko]
  exact ⟨w', e, ⟨R', V'⟩, i_begin I p sc u hu, B'⟩
theorem v_putA {a : AS} (t s k c f g : Int32) : (putA t s k c f g a).2.1 = 0 ∨ (putA t s k c f g a).2.1 = 1 := by
  unfold putA
  repeat' (first | exact Or.inl rfl | exact Or.inr rfl | split | dsimp only)
theorem d_put {o N c s : Nat} {w : CS} {a : AS} (h : ST o N (c + 2) (s + 10) w a) (t sn k ct : Int32) : ∃ w', x_L_does o 8 t sn k ct w = some (dz (putA t sn k ct (ct - ct / 1000 * 1000) (-1) a), w') ∧ ST o (N + 1) c s w' (putA t sn k ct (ct - ct / 1000 * 1000) (-1) a).2.2 := by
  obtain ⟨⟨R, V⟩, I, B⟩ := h
  have hv := v_putA (a := a) t sn k ct (ct - ct / 1000 * 1000) (-1)
  obtain ⟨w', R', e, V', B'⟩ := dd_CO (c_put V I.1 B t sn k ct (ct - ct / 1000 * 1000) (-1)) (k_putA t sn k ct (ct - ct / 1000 * 1000) (-1)) (fun v => if v = 0 then 0 else 1) (fun v38 w39 => if (v38 : Int32) = 0 then some (.inl ((0 : Int32), w39)) else some (.inl ((1 : Int32), w39))) (fun w => by
    by_cases z : (putA t sn k ct (ct - ct / 1000 * 1000) (-1) a).2.1 = 0
    · rw [if_pos z, if_pos z]
    · rw [if_neg z, if_neg z]) (fun _ => by
    rcases hv with z | z <;> rw [z] <;> decide)
  unfold x_L_does
  rw [if_pos (show (2 : Int32) ≤ 8 by decide), if_neg (show ¬ (8 : Int32) = 2 by decide), if_neg (show ¬ (8 : Int32) = 3 by decide), if_neg (show ¬ (8 : Int32) = 4 by decide), if_neg (show ¬ (8 : Int32) = 5 by decide), if_neg (show ¬ (8 : Int32) = 6 by decide), if_neg (show ¬ (8 : Int32) = 7 by decide), if_pos rfl, if_pos V.1.ko]
  exact ⟨w', e, ⟨R', V'⟩, i_put I t sn k ct _ _, B'⟩
theorem d_get {o N c s : Nat} {w : CS} {a : AS} (h : ST o N (c + 2) (s + 10) w a) (t sn k x : Int32) : ∃ w', x_L_does o 10 t sn k x w = some (dz (getA t sn k a), w') ∧ ST o N c s w' a := by
  obtain ⟨⟨R, V⟩, I, B⟩ := h
  obtain ⟨w', e, V', B'⟩ := dd_CR V B (c_get V I.1 (B.re (by omega) (by omega)) t sn k) (k_getA t sn k)
  unfold x_L_does
  rw [if_pos (show (2 : Int32) ≤ 10 by decide), if_neg (show ¬ (10 : Int32) = 2 by decide), if_neg (show ¬ (10 : Int32) = 3 by decide), if_neg (show ¬ (10 : Int32) = 4 by decide), if_neg (show ¬ (10 : Int32) = 5 by decide), if_neg (show ¬ (10 : Int32) = 6 by decide), if_neg (show ¬ (10 : Int32) = 7 by decide), if_neg (show ¬ (10 : Int32) = 8 by decide), if_neg (show ¬ (10 : Int32) = 9 by decide), if_pos rfl, if_pos V.1.ko]
  exact ⟨w', e, ⟨R, V'⟩, I, B'⟩
theorem d_cnt {o N c s : Nat} {w : CS} {a : AS} (h : ST o N (c + 2) (s + 10) w a) (t sn x y : Int32) : ∃ w', x_L_does o 11 t sn x y w = some (dz (cntA t sn x y a), w') ∧ ST o N c s w' a := by
  obtain ⟨⟨R, V⟩, I, B⟩ := h
  obtain ⟨w', e, V', B'⟩ := dd_CR V B (c_cnt V I.1 (B.re (by omega) (by omega)) t sn x y) (k_cntA t sn x y)
  unfold x_L_does
  rw [if_pos (show (2 : Int32) ≤ 11 by decide), if_neg (show ¬ (11 : Int32) = 2 by decide), if_neg (show ¬ (11 : Int32) = 3 by decide), if_neg (show ¬ (11 : Int32) = 4 by decide), if_neg (show ¬ (11 : Int32) = 5 by decide), if_neg (show ¬ (11 : Int32) = 6 by decide), if_neg (show ¬ (11 : Int32) = 7 by decide), if_neg (show ¬ (11 : Int32) = 8 by decide), if_neg (show ¬ (11 : Int32) = 9 by decide), if_neg (show ¬ (11 : Int32) = 10 by decide), if_pos rfl, if_pos V.1.ko]
  exact ⟨w', e, ⟨R, V'⟩, I, B'⟩
/-! the calls that stand outside: they don't throw there -/
theorem n_get {o N c s : Nat} {w : CS} {a : AS} (h : ST o N (c + 2) (s + 10) w a) (t sn k : Int32) (h0 : (getA t sn k a).1 = 0) : x_X6_get o t sn k w = some (.inr (getA t sn k a).2.1) := by
  obtain ⟨⟨R, V⟩, I, B⟩ := h
  obtain ⟨-, q | q⟩ := c_get V I.1 (B.re (by omega) (by omega)) t sn k
  · exact q.2
  · exact absurd h0 q.1
theorem n_cnt {o N c s : Nat} {w : CS} {a : AS} (h : ST o N (c + 2) (s + 10) w a) (t sn x y : Int32) (h0 : (cntA t sn x y a).1 = 0) : x_X6_count o t sn x y w = some (.inr (cntA t sn x y a).2.1) := by
  obtain ⟨⟨R, V⟩, I, B⟩ := h
  obtain ⟨-, q | q⟩ := (c_cnt V I.1 (B.re (by omega) (by omega)) t sn x y)
  · exact q.2
  · exact absurd h0 q.1
theorem n_rem {o N c s : Nat} {w : CS} {a : AS} (h : ST o N (c + 2) (s + 10) w a) (t sn x y : Int32) (h0 : (rmvA t sn x y a).1 = 0) : ∃ w', x_X6_remove o t sn x y w = some (.inr ((rmvA t sn x y a).2.1, w')) ∧ ST o (N + 1) c s w' (rmvA t sn x y a).2.2 := by
  obtain ⟨⟨R, V⟩, I, B⟩ := h
  obtain ⟨w', R', V', B', q | q⟩ := c_remove V I.1 B t sn x y
  · exact ⟨w', q.2, ⟨R', V'⟩, i_remove I t sn x y, B'⟩
  · exact absurd h0 q.1
theorem n_state {o N c s : Nat} {w : CS} {a : AS} (h : ST o N (c + 2) (s + 10) w a) (p : Int32) (h0 : (statA p a).1 = 0) : x_X6_state o p w = some (.inr (statA p a).2.1) := by
  obtain ⟨⟨R, V⟩, I, B⟩ := h
  obtain ⟨-, q | q⟩ := c_state V (B.re (by omega) (by omega)) p
  · exact q.2
  · exact absurd h0 q.1
theorem n_standing {o N c s : Nat} {w : CS} {a : AS} (h : ST o N (c + 2) (s + 10) w a) (t : Int32) (h0 : (staA t a).1 = 0) : x_X6_standing o t w = some (.inr (staA t a).2.1) := by
  obtain ⟨⟨R, V⟩, I, B⟩ := h
  obtain ⟨-, q | q⟩ := c_standing V I.1 (B.re (by omega) (by omega)) t
  · exact q.2
  · exact absurd h0 q.1
theorem aa_CR {X : Option ((Nat × CS) ⊕ Int32)} {o c s : Nat} {w : CS} {R : Nat → List Nat} {a : AS} {r : OUT} (V : VC o 0 w R a) (B : Bd o w (c + 2) (s + 10)) (h : CR X w a r) (k : K1 r) : ∃ w', l1 (bh3 X (fun k9 w9 => if k9 = 1 then some (.inr (((-30) : Int32), w9)) else none) (fun v => some (.inl v))) (fun (v8 : Int32) => some ((v8, w))) = some (dz r, w') ∧ VC o 0 w' R a ∧ Bd o w' c s := by
  obtain ⟨ea, h | h⟩ := h
  · obtain ⟨h1, h2⟩ := h
    rw [h2, bh3_r, l1_inl, dz0 h1]
    exact ⟨w, rfl, V, B.mono (by omega) (by omega)⟩
  · obtain ⟨h1, h2⟩ := h
    have B' : Bd o (bump w) c s := (B.mono (c' := c + 1) (s' := s + 6) (by omega) (by omega)).bump
    rw [h2, bh3_l]
    rcases k with k | k
    · exact absurd k h1
    · rw [k, if_pos rfl, l1_inr, dz1 k]; exact ⟨bump w, rfl, VP.bump V, B'⟩
theorem a_state {o N c s : Nat} {w : CS} {a : AS} (h : ST o N (c + 2) (s + 10) w a) (p : Int32) : ∃ w', x_L_asks o 0 p w = some (dz (statA p a), w') ∧ ST o N c s w' a := by
  obtain ⟨⟨R, V⟩, I, B⟩ := h
  obtain ⟨w', e, V', B'⟩ := aa_CR V B (c_state V (B.re (by omega) (by omega)) p) (k_statA p)
  unfold x_L_asks
  rw [if_pos rfl, if_pos V.1.ko]
  exact ⟨w', e, ⟨R, V'⟩, I, B'⟩
theorem a_standing {o N c s : Nat} {w : CS} {a : AS} (h : ST o N (c + 2) (s + 10) w a) (t : Int32) : ∃ w', x_L_asks o 1 t w = some (dz (staA t a), w') ∧ ST o N c s w' a := by
  obtain ⟨⟨R, V⟩, I, B⟩ := h
  obtain ⟨w', e, V', B'⟩ := aa_CR V B (c_standing V I.1 (B.re (by omega) (by omega)) t) (k_staA t)
  unfold x_L_asks
  rw [if_neg (show ¬ (1 : Int32) = 0 by decide), if_pos V.1.ko]
  exact ⟨w', e, ⟨R, V'⟩, I, B'⟩
