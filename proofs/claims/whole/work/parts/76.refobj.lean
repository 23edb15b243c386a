/-! ===== PURE: the start: the reference's object; both show the empty store (printed by gen76.py) ===== -/
def XI (x : Nat) (g : Nat → Int32) (w0 : CS) (ks : List Nat) (c s : Nat) (w : CS) : Prop :=
  (wJ w 0 x = 14 ∧ x ≤ wz w ∧ WF w ∧ FR (fun y => y = x) w0 w ∧ (∀ f, wI w f x = g f)) ∧ (∀ k ∈ ks, x < wJ w (560 + k) x ∧ wJ w (560 + k) x ≤ wz w ∧ wJ w 0 (wJ w (560 + k) x) = 8 + mcy k ∧ wJ w 1 (wJ w (560 + k) x) = mlen k ∧ ∀ i, wA w (wJ w (560 + k) x) i = 0) ∧ (∀ j ∈ ks, ∀ k ∈ ks, wJ w (560 + j) x = wJ w (560 + k) x → j = k) ∧ 601024 ≤ wl w + c ∧ 7293034 ≤ wk w + s
theorem XI.blk {x c s k kd n : Nat} {g : Nat → Int32} {w0 w : CS} {ks : List Nat} (X : XI x g w0 ks c s w) (hk : k ∉ ks) (h8 : kd = 8 + mcy k) (hn : n = mlen k) : XI x g w0 (k :: ks) (c + 1) (s + n) (sJ (nw w kd n n) (560 + k) x (wz w + 1)) := by
  obtain ⟨⟨x1, x2, x3, x4, x5⟩, x6, x7, x8, x9⟩ := X
  have p0 : wJ (sJ (nw w kd n n) (560 + k) x (wz w + 1)) (560 + k) x = wz w + 1 := by rw [wJ_sJ, if_pos ⟨rfl, rfl⟩]
  have pj : ∀ j, j ∈ ks → wJ (sJ (nw w kd n n) (560 + k) x (wz w + 1)) (560 + j) x = wJ w (560 + j) x := fun j hj => by
    have hne : ¬ j = k := fun e => hk (e ▸ hj)
    rw [wJ_sJ, if_neg (by omega), wJ_nw, if_neg (by omega)]
  refine ⟨⟨?_, ?_, x3.k_nw.k_sJ (by omega), x4.k_nx.k_sJ (A := fun y => y = x) rfl (by omega), fun f => ?_⟩, fun j hj => ?_, fun i hi j hj e => ?_, ?_, ?_⟩
  · rw [wJ_sJ, if_neg (by omega), wJ_nw, if_neg (by omega)]; exact x1
  · rw [wz_sJ, wz_nw]; omega
  · rw [wI_sJ, wI_nw, if_neg (by omega)]; exact x5 f
  · rcases List.mem_cons.mp hj with q | q
    · subst q
      rw [p0]
      refine ⟨by omega, by rw [wz_sJ, wz_nw]; omega, ?_, ?_, fun i => ?_⟩
      · rw [wJ_sJ, if_neg (by omega), wJ_nw, if_pos rfl, if_pos rfl]; exact h8
      · rw [wJ_sJ, if_neg (by omega), wJ_nw, if_pos rfl, if_neg (by omega), if_pos rfl]; exact hn
      · rw [wA_sJ, wA_nw, if_pos rfl]
    · obtain ⟨y1, y2, y3, y4, y5⟩ := x6 j q
      rw [pj j q]
      refine ⟨y1, by rw [wz_sJ, wz_nw]; omega, ?_, ?_, fun i => ?_⟩
      · rw [wJ_sJ, if_neg (by omega), wJ_nw, if_neg (by omega)]; exact y3
      · rw [wJ_sJ, if_neg (by omega), wJ_nw, if_neg (by omega)]; exact y4
      · rw [wA_sJ, wA_nw, if_neg (by omega)]; exact y5 i
  · rcases List.mem_cons.mp hi with q | q <;> rcases List.mem_cons.mp hj with r | r
    · rw [q, r]
    · subst q
      rw [p0, pj j r] at e
      have := (x6 j r).2.1; omega
    · subst r
      rw [p0, pj i q] at e
      have := (x6 i q).2.1; omega
    · rw [pj i q, pj j r] at e
      exact x7 i q j r e
  · rw [wl_sJ, wl_nw]; omega
  · rw [wk_sJ, wk_nw]; omega
theorem XI.f {x c s : Nat} {g : Nat → Int32} {w0 w : CS} {ks : List Nat} (X : XI x g w0 ks c s w) (f : Nat) (v : Int32) : XI x (fun p => if p = f then v else g p) w0 ks c s (sI w f x v) := by
  obtain ⟨⟨x1, x2, x3, x4, x5⟩, x6, x7, x8, x9⟩ := X
  refine ⟨⟨x1, x2, x3, x4.k_sI (A := fun y => y = x) rfl, fun p => ?_⟩, x6, x7, x8, x9⟩
  show _ = if p = f then v else g p
  rw [wI_sI]
  by_cases h : p = f
  · rw [if_pos ⟨h, rfl⟩, if_pos h]
  · rw [if_neg (fun e => h e.1), if_neg h]; exact x5 p
def RES (x : Nat) (g : Nat → Int32) (w0 : CS) (ks : List Nat) (c s : Nat) (r : Option CS) : Prop := ∃ w', r = some w' ∧ XI x g w0 ks c s w'
theorem blk_res {x c s k kd n f : Nat} {len : Int32} {g : Nat → Int32} {w0 w : CS} {ks : List Nat} {F : CS → Option CS} {g' : Nat → Int32} {ks' : List Nat} {c' s' : Nat} (X : XI x g w0 ks c s w) (hk : k ∉ ks) (h8 : kd = 8 + mcy k) (hn : n = mlen k) (h2 : ¬ len < 0 ∧ len.toNatClampNeg ≤ 1000) (hl : len.toNatClampNeg = n) (hf : f = 560 + k) (hr : c < 1000 ∧ s < 10000 ∧ n < 1000) (H : ∀ w', XI x g w0 (k :: ks) (c + 1) (s + n) w' → RES x g' w0 ks' c' s' (F w')) : RES x g' w0 ks' c' s' (if ¬ len < 0 ∧ len.toNatClampNeg ≤ 1000 then if 1 ≤ wl w ∧ len.toNatClampNeg ≤ wk w then bs (nw w kd len.toNatClampNeg len.toNatClampNeg) (fun w4 => if wJ w4 0 x = 14 then bs (sJ w4 f x (wz w + 1)) F else none) else none else none) := by
  have hx := X.1.1
  have hz := X.1.2.1
  have r1 := X.2.2.2.1
  have r2 := X.2.2.2.2
  rw [if_pos h2, hl, if_pos (show 1 ≤ wl w ∧ n ≤ wk w by omega), bs_eq, if_pos (show wJ (nw w kd n n) 0 x = 14 by rw [wJ_nw, if_neg (by omega)]; exact hx), bs_eq, hf]
  exact H _ (X.blk hk h8 hn)

def rks : List Nat := [30, 29, 28, 27, 26, 25, 24, 22, 21, 20, 19, 17, 16, 15, 14, 13, 12, 11, 10, 9, 8, 7, 6, 3, 2, 1]
set_option maxHeartbeats 4000000 in
theorem x7_ok {x c s : Nat} {g : Nat → Int32} {w0 w : CS} (X : XI x g w0 [] c s w) (hc : c < 500 ∧ s < 5000) : RES x (fun p => if p = 565 then -1 else g p) w0 rks (c + 26) (s + 1516) (x_X7_init x w) := by
  obtain ⟨hc, hs⟩ := hc
  unfold x_X7_init
  rw [if_pos X.1.1]
  refine blk_res (k := 1) (n := 4) X (by decide) (by decide) (by decide) (by decide) (by decide) rfl (by omega) (fun w9 X => ?_)
  refine blk_res (k := 2) (n := 4) X (by decide) (by decide) (by decide) (by decide) (by decide) rfl (by omega) (fun w9 X => ?_)
  refine blk_res (k := 3) (n := 4) X (by decide) (by decide) (by decide) (by decide) (by decide) rfl (by omega) (fun w9 X => ?_)
  rw [if_pos X.1.1, bs_eq]
  have X := X.f 565 (-1)
  generalize sI _ 565 x (-1) = w9 at X ⊢
  refine blk_res (k := 6) (n := 3) X (by decide) (by decide) (by decide) (by decide) (by decide) rfl (by omega) (fun w9 X => ?_)
  refine blk_res (k := 7) (n := 6) X (by decide) (by decide) (by decide) (by decide) (by decide) rfl (by omega) (fun w9 X => ?_)
  refine blk_res (k := 8) (n := 3) X (by decide) (by decide) (by decide) (by decide) (by decide) rfl (by omega) (fun w9 X => ?_)
  refine blk_res (k := 9) (n := 120) X (by decide) (by decide) (by decide) (by decide) (by decide) rfl (by omega) (fun w9 X => ?_)
  refine blk_res (k := 10) (n := 120) X (by decide) (by decide) (by decide) (by decide) (by decide) rfl (by omega) (fun w9 X => ?_)
  refine blk_res (k := 11) (n := 240) X (by decide) (by decide) (by decide) (by decide) (by decide) rfl (by omega) (fun w9 X => ?_)
  refine blk_res (k := 12) (n := 3) X (by decide) (by decide) (by decide) (by decide) (by decide) rfl (by omega) (fun w9 X => ?_)
  refine blk_res (k := 13) (n := 6) X (by decide) (by decide) (by decide) (by decide) (by decide) rfl (by omega) (fun w9 X => ?_)
  refine blk_res (k := 14) (n := 3) X (by decide) (by decide) (by decide) (by decide) (by decide) rfl (by omega) (fun w9 X => ?_)
  refine blk_res (k := 15) (n := 120) X (by decide) (by decide) (by decide) (by decide) (by decide) rfl (by omega) (fun w9 X => ?_)
  refine blk_res (k := 16) (n := 120) X (by decide) (by decide) (by decide) (by decide) (by decide) rfl (by omega) (fun w9 X => ?_)
  refine blk_res (k := 17) (n := 240) X (by decide) (by decide) (by decide) (by decide) (by decide) rfl (by omega) (fun w9 X => ?_)
  refine blk_res (k := 19) (n := 60) X (by decide) (by decide) (by decide) (by decide) (by decide) rfl (by omega) (fun w9 X => ?_)
  refine blk_res (k := 20) (n := 60) X (by decide) (by decide) (by decide) (by decide) (by decide) rfl (by omega) (fun w9 X => ?_)
  refine blk_res (k := 21) (n := 60) X (by decide) (by decide) (by decide) (by decide) (by decide) rfl (by omega) (fun w9 X => ?_)
  refine blk_res (k := 22) (n := 60) X (by decide) (by decide) (by decide) (by decide) (by decide) rfl (by omega) (fun w9 X => ?_)
  refine blk_res (k := 24) (n := 40) X (by decide) (by decide) (by decide) (by decide) (by decide) rfl (by omega) (fun w9 X => ?_)
  refine blk_res (k := 25) (n := 40) X (by decide) (by decide) (by decide) (by decide) (by decide) rfl (by omega) (fun w9 X => ?_)
  refine blk_res (k := 26) (n := 40) X (by decide) (by decide) (by decide) (by decide) (by decide) rfl (by omega) (fun w9 X => ?_)
  refine blk_res (k := 27) (n := 40) X (by decide) (by decide) (by decide) (by decide) (by decide) rfl (by omega) (fun w9 X => ?_)
  refine blk_res (k := 28) (n := 40) X (by decide) (by decide) (by decide) (by decide) (by decide) rfl (by omega) (fun w9 X => ?_)
  refine blk_res (k := 29) (n := 40) X (by decide) (by decide) (by decide) (by decide) (by decide) rfl (by omega) (fun w9 X => ?_)
  refine blk_res (k := 30) (n := 40) X (by decide) (by decide) (by decide) (by decide) (by decide) rfl (by omega) (fun w9 X => ?_)
  refine ⟨_, rfl, ?_⟩
  exact X