/-! ===== PURE: the law's loop (printed by gen72.py) ===== -/
/-- class and reference show one abstract store, before the i-th call -/
def JJ (o q i : Nat) (w : CS) (m : MS) : Prop := ∃ R a D, VC o q w R a ∧ MV m D a ∧ IW i a ∧ D ≤ i ∧ Bd o w (2 * (513 - i)) (10 * (513 - i))
theorem c3_0 {k : Nat} (h : k = 0 ∨ k = 1 ∨ k = 2 ∨ k = 3) : c3 k = 0 ↔ k = 0 := by
  rcases h with h | h | h | h <;> subst h <;> decide
theorem c2_0 {k : Nat} (h : k = 0 ∨ k = 1 ∨ k = 3) : c2 k = 0 ↔ k = 0 := by
  rcases h with h | h | h <;> subst h <;> decide
def tailI (q : Nat) (LOOP : CS → MS → Option Int32) (x : Option (Int32 × CS)) (y : Option (Int32 × MS)) : Option Int32 := b2 x (fun v6 w7 => b2 y (fun v11 m12 => bd (x_X7_thrown m12) (fun v14 => if v14 = v6 then (if v6 = 0 then (if wJ w7 0 q = 15 then (if vR 0 (wJ w7 1 q) then (if lg_cmp (wM w7 q (0 : Int32).toNatClampNeg) v11.toInt64 = 0 then LOOP w7 m12 else some 0) else none) else none) else LOOP w7 m12) else some 0)))
theorem fin_I {o q i : Nat} {LOOP : CS → MS → Option Int32} {x : Option (Int32 × CS)} {y : Option (Int32 × MS)} {c : Nat → Int32} {r : OUT} {D : Nat} (hx : LO c x o q (2 * (513 - (i + 1))) (10 * (513 - (i + 1))) r) (hy : RO y c D r) (hD : D ≤ i) (hI : IW (i + 1) r.2.2) (hz : c r.1 = 0 ↔ r.1 = 0) (hL : ∀ w' m', JJ o q (i + 1) w' m' → LOOP w' m' = some 1) : tailI q LOOP x y = some 1 := by
  obtain ⟨w', R', e1, V, B, hw⟩ := hx
  obtain ⟨b, m', D', e2, h31, M, hb, hD'⟩ := hy
  have hJ : JJ o q (i + 1) w' m' := ⟨R', r.2.2, D', V, M, hI, by omega, B⟩
  unfold tailI x_X7_thrown
  rw [e1, b2_some, e2, b2_some, bd_some, h31, if_pos rfl]
  by_cases z : c r.1 = 0
  · have z0 := hz.mp z
    have ew : wM w' q (0 : Int32).toNatClampNeg = b.toInt64 := by rw [hb z0]; exact hw z0
    rw [if_pos z, if_pos (OQ.of V).1, if_pos (OQ.of V).in, ew, if_pos ((lg_cmp_eq _ _).mpr rfl)]
    exact hL w' m' hJ
  · rw [if_neg z]; exact hL w' m' hJ
def tailP (q : Nat) (LOOP : CS → MS → Option Int32) (x : Option (Int32 × CS)) (y : Option (Int32 × MS)) : Option Int32 := b2 x (fun v6 w7 => b2 y (fun v11 m12 => bd (x_X7_thrown m12) (fun v14 => if v14 = v6 then (if v6 = 0 then (if wJ w7 0 q = 15 then (if vR 0 (wJ w7 1 q) then (if v11 = 0 then (if lg_cmp (wM w7 q (0 : Int32).toNatClampNeg) 0 = 0 then LOOP w7 m12 else some 0) else (if lg_cmp (wM w7 q (0 : Int32).toNatClampNeg) 1 = 0 then LOOP w7 m12 else some 0)) else none) else none) else LOOP w7 m12) else some 0)))
theorem fin_P {o q i : Nat} {LOOP : CS → MS → Option Int32} {x : Option (Int32 × CS)} {y : Option (Int32 × MS)} {c : Nat → Int32} {r : OUT} {D : Nat} (hx : LO c x o q (2 * (513 - (i + 1))) (10 * (513 - (i + 1))) r) (hy : RO y c D r) (hD : D ≤ i) (hI : IW (i + 1) r.2.2) (hz : c r.1 = 0 ↔ r.1 = 0) (hv : r.1 = 0 → r.2.1 = 0 ∨ r.2.1 = 1) (hL : ∀ w' m', JJ o q (i + 1) w' m' → LOOP w' m' = some 1) : tailP q LOOP x y = some 1 := by
  obtain ⟨w', R', e1, V, B, hw⟩ := hx
  obtain ⟨b, m', D', e2, h31, M, hb, hD'⟩ := hy
  have hJ : JJ o q (i + 1) w' m' := ⟨R', r.2.2, D', V, M, hI, by omega, B⟩
  unfold tailP x_X7_thrown
  rw [e1, b2_some, e2, b2_some, bd_some, h31, if_pos rfl]
  by_cases z : c r.1 = 0
  · have z0 := hz.mp z
    have ew : wM w' q (0 : Int32).toNatClampNeg = b.toInt64 := by rw [hb z0]; exact hw z0
    rw [if_pos z, if_pos (OQ.of V).1, if_pos (OQ.of V).in, ew, hb z0]
    rcases hv z0 with u | u
    · rw [u, if_pos rfl, if_pos ((lg_cmp_eq _ _).mpr (show Int32.toInt64 0 = 0 from rfl))]; exact hL w' m' hJ
    · rw [u, if_neg q10, if_pos ((lg_cmp_eq _ _).mpr (show Int32.toInt64 1 = 1 from rfl))]; exact hL w' m' hJ
  · rw [if_neg z]; exact hL w' m' hJ
def tailV (LOOP : CS → MS → Option Int32) (x : Option (Int32 × CS)) (y : Option MS) : Option Int32 := b2 x (fun v6 w7 => bd y (fun m12 => bd (x_X7_thrown m12) (fun v14 => if v14 = v6 then LOOP w7 m12 else some 0)))
theorem fin_V {o q i : Nat} {LOOP : CS → MS → Option Int32} {x : Option (Int32 × CS)} {y : Option MS} {c : Nat → Int32} {r : OUT} {D : Nat} (hx : LV c x o q (2 * (513 - (i + 1))) (10 * (513 - (i + 1))) r) (hy : RV y c D r) (hD : D ≤ i) (hI : IW (i + 1) r.2.2) (hL : ∀ w' m', JJ o q (i + 1) w' m' → LOOP w' m' = some 1) : tailV LOOP x y = some 1 := by
  obtain ⟨w', R', e1, V, B⟩ := hx
  obtain ⟨m', D', e2, h31, M, hD'⟩ := hy
  have hJ : JJ o q (i + 1) w' m' := ⟨R', r.2.2, D', V, M, hI, by omega, B⟩
  unfold tailV x_X7_thrown
  rw [e1, b2_some, e2, bd_some, bd_some, h31, if_pos rfl]
  exact hL w' m' hJ
theorem Bd.step {o i : Nat} {w : CS} (hi : i < 512) (B : Bd o w (2 * (513 - i)) (10 * (513 - i))) : Bd o w (2 * (513 - (i + 1)) + 2) (10 * (513 - (i + 1)) + 10) := by
  have e1 : 2 * (513 - i) = 2 * (513 - (i + 1)) + 2 := by omega
  have e2 : 10 * (513 - i) = 10 * (513 - (i + 1)) + 10 := by omega
  rw [e1, e2] at B
  exact B
theorem d_statA {a : AS} (p : Int32) : (statA p a).2.2 = a := by
  unfold statA
  repeat' (first | rfl | split)
theorem d_staA {a : AS} (t : Int32) : (staA t a).2.2 = a := by
  unfold staA
  repeat' (first | rfl | split)
theorem d_getA {a : AS} (t s k : Int32) : (getA t s k a).2.2 = a := by
  unfold getA
  repeat' (first | rfl | split)
theorem d_cntA {a : AS} (t s x y : Int32) : (cntA t s x y a).2.2 = a := by
  unfold cntA
  repeat' (first | rfl | split)
theorem st_open {o q i : Nat} {w : CS} {m : MS} {LOOP : CS → MS → Option Int32} (hi : i < 512) (J : JJ o q i w m) (hL : ∀ w' m', JJ o q (i + 1) w' m' → LOOP w' m' = some 1) (p v : Int32) : tailI q LOOP (x_L_open o p v q w) (x_X7_open p v m) = some 1 := by
  obtain ⟨R, a, D, V, M, I, hD, B⟩ := J
  exact fin_I (w_open V I.1 (B.step hi) p v) (r_open M I.1 (by omega) p v) hD (i_open I (by omega) p v) (c3_0 (k_openA p v)) hL
theorem st_close {o q i : Nat} {w : CS} {m : MS} {LOOP : CS → MS → Option Int32} (hi : i < 512) (J : JJ o q i w m) (hL : ∀ w' m', JJ o q (i + 1) w' m' → LOOP w' m' = some 1) (p : Int32) : tailI q LOOP (x_L_close o p q w) (x_X7_close p m) = some 1 := by
  obtain ⟨R, a, D, V, M, I, hD, B⟩ := J
  exact fin_I (w_close V I.1 (B.step hi) p) (r_close M I.1 p) hD (i_close I p) (c2_0 (k_closA p)) hL
theorem st_state {o q i : Nat} {w : CS} {m : MS} {LOOP : CS → MS → Option Int32} (hi : i < 512) (J : JJ o q i w m) (hL : ∀ w' m', JJ o q (i + 1) w' m' → LOOP w' m' = some 1) (p : Int32) : tailI q LOOP (x_L_state o p q w) (x_X7_state p m) = some 1 := by
  obtain ⟨R, a, D, V, M, I, hD, B⟩ := J
  exact fin_I (w_state V I.1 (B.step hi) p) (r_state M  p) hD (I.rd (d_statA p)) (c3_0 ((k_statA p).imp id Or.inl)) hL
theorem st_makeStore {o q i : Nat} {w : CS} {m : MS} {LOOP : CS → MS → Option Int32} (hi : i < 512) (J : JJ o q i w m) (hL : ∀ w' m', JJ o q (i + 1) w' m' → LOOP w' m' = some 1) (t s : Int32) : tailV LOOP (x_L_makeStore o t s w) (x_X7_makeStore t s m) = some 1 := by
  obtain ⟨R, a, D, V, M, I, hD, B⟩ := J
  exact fin_V (w_makeStore V I.1 (B.step hi) t s) (r_makeStore M I.1 t s) hD (i_makeStore I t s) hL
theorem st_deleteStore {o q i : Nat} {w : CS} {m : MS} {LOOP : CS → MS → Option Int32} (hi : i < 512) (J : JJ o q i w m) (hL : ∀ w' m', JJ o q (i + 1) w' m' → LOOP w' m' = some 1) (t s : Int32) : tailI q LOOP (x_L_deleteStore o t s q w) (x_X7_deleteStore t s m) = some 1 := by
  obtain ⟨R, a, D, V, M, I, hD, B⟩ := J
  exact fin_I (w_deleteStore V I.1 (B.step hi) t s) (r_deleteStore M I.1 t s) hD (i_deleteStore I t s) (c2_0 (k_delA t s)) hL
theorem st_makeIndex {o q i : Nat} {w : CS} {m : MS} {LOOP : CS → MS → Option Int32} (hi : i < 512) (J : JJ o q i w m) (hL : ∀ w' m', JJ o q (i + 1) w' m' → LOOP w' m' = some 1) (t s f u : Int32) : tailV LOOP (x_L_makeIndex o t s f u w) (x_X7_makeIndex t s f u m) = some 1 := by
  obtain ⟨R, a, D, V, M, I, hD, B⟩ := J
  exact fin_V (w_makeIndex V I.1 (B.step hi) t s f u) (r_makeIndex M I.1 t s f u) hD (i_makeIndex I t s f u) hL
theorem st_begin {o q i : Nat} {w : CS} {m : MS} {LOOP : CS → MS → Option Int32} (hi : i < 512) (J : JJ o q i w m) (hL : ∀ w' m', JJ o q (i + 1) w' m' → LOOP w' m' = some 1) (p sc u : Int32) (hu : isB u) : tailI q LOOP (x_L_begin o p sc u q w) (x_X7_begin p sc u m) = some 1 := by
  obtain ⟨R, a, D, V, M, I, hD, B⟩ := J
  exact fin_I (w_begin V I.1 (B.step hi) p sc u hu) (r_begin M I.1 p sc u hu) hD (i_begin I p sc u hu) (c3_0 (k_begA p sc u)) hL
theorem st_standing {o q i : Nat} {w : CS} {m : MS} {LOOP : CS → MS → Option Int32} (hi : i < 512) (J : JJ o q i w m) (hL : ∀ w' m', JJ o q (i + 1) w' m' → LOOP w' m' = some 1) (t : Int32) : tailI q LOOP (x_L_standing o t q w) (x_X7_standing t m) = some 1 := by
  obtain ⟨R, a, D, V, M, I, hD, B⟩ := J
  exact fin_I (w_standing V I.1 (B.step hi) t) (r_standing M I.1 t) hD (I.rd (d_staA t)) (c3_0 ((k_staA t).imp id Or.inl)) hL
theorem st_commit {o q i : Nat} {w : CS} {m : MS} {LOOP : CS → MS → Option Int32} (hi : i < 512) (J : JJ o q i w m) (hL : ∀ w' m', JJ o q (i + 1) w' m' → LOOP w' m' = some 1) (t : Int32) : tailI q LOOP (x_L_commit o t q w) (x_X7_commit t m) = some 1 := by
  obtain ⟨R, a, D, V, M, I, hD, B⟩ := J
  exact fin_I (w_commit V I.1 (B.step hi) t) (r_commit M I.1 t) hD (i_commit I t) (c2_0 (k_comA t)) hL
theorem st_abort {o q i : Nat} {w : CS} {m : MS} {LOOP : CS → MS → Option Int32} (hi : i < 512) (J : JJ o q i w m) (hL : ∀ w' m', JJ o q (i + 1) w' m' → LOOP w' m' = some 1) (t : Int32) : tailI q LOOP (x_L_abort o t q w) (x_X7_abort t m) = some 1 := by
  obtain ⟨R, a, D, V, M, I, hD, B⟩ := J
  exact fin_I (w_abort V I.1 (B.step hi) t) (r_abort M I.1 t) hD (i_abort I t) (c2_0 (k_aboA t)) hL
theorem st_put {o q i : Nat} {w : CS} {m : MS} {LOOP : CS → MS → Option Int32} (hi : i < 512) (J : JJ o q i w m) (hL : ∀ w' m', JJ o q (i + 1) w' m' → LOOP w' m' = some 1) (t s k c f g : Int32) : tailP q LOOP (x_L_put o t s k c f g q w) (x_X7_put t s k c f g m) = some 1 := by
  obtain ⟨R, a, D, V, M, I, hD, B⟩ := J
  exact fin_P (w_put V I.1 (B.step hi) t s k c f g) (r_put M I.1 t s k c f g) hD (i_put I t s k c f g) (c3_0 (k_putA t s k c f g)) (k_putB t s k c f g) hL
theorem st_remove {o q i : Nat} {w : CS} {m : MS} {LOOP : CS → MS → Option Int32} (hi : i < 512) (J : JJ o q i w m) (hL : ∀ w' m', JJ o q (i + 1) w' m' → LOOP w' m' = some 1) (t s x y : Int32) : tailI q LOOP (x_L_remove o t s x y q w) (x_X7_remove t s x y m) = some 1 := by
  obtain ⟨R, a, D, V, M, I, hD, B⟩ := J
  exact fin_I (w_remove V I.1 (B.step hi) t s x y) (r_remove M I.1 t s x y) hD (i_remove I t s x y) (c3_0 (k_rmvA t s x y)) hL
theorem st_get {o q i : Nat} {w : CS} {m : MS} {LOOP : CS → MS → Option Int32} (hi : i < 512) (J : JJ o q i w m) (hL : ∀ w' m', JJ o q (i + 1) w' m' → LOOP w' m' = some 1) (t s k : Int32) : tailI q LOOP (x_L_get o t s k q w) (x_X7_get t s k m) = some 1 := by
  obtain ⟨R, a, D, V, M, I, hD, B⟩ := J
  exact fin_I (w_get V I.1 (B.step hi) t s k) (r_get M I.1 t s k) hD (I.rd (d_getA t s k)) (c3_0 (k_getA t s k)) hL
theorem st_count {o q i : Nat} {w : CS} {m : MS} {LOOP : CS → MS → Option Int32} (hi : i < 512) (J : JJ o q i w m) (hL : ∀ w' m', JJ o q (i + 1) w' m' → LOOP w' m' = some 1) (t s x y : Int32) : tailI q LOOP (x_L_count o t s x y q w) (x_X7_count t s x y m) = some 1 := by
  obtain ⟨R, a, D, V, M, I, hD, B⟩ := J
  exact fin_I (w_count V I.1 (B.step hi) t s x y) (r_count M I.1 t s x y) hD (I.rd (d_cntA t s x y)) (c3_0 (k_cntA t s x y)) hL
theorem st_cursor {o q i : Nat} {w : CS} {m : MS} {LOOP : CS → MS → Option Int32} (hi : i < 512) (J : JJ o q i w m) (hL : ∀ w' m', JJ o q (i + 1) w' m' → LOOP w' m' = some 1) (t s f d : Int32) : tailI q LOOP (x_L_cursor o t s f d q w) (x_X7_cursor t s f d m) = some 1 := by
  obtain ⟨R, a, D, V, M, I, hD, B⟩ := J
  exact fin_I (w_cursor V I.1 (B.step hi) t s f d) (r_cursor M I.1 t s f d) hD (i_cursor I t s f d) (c3_0 (k_curA t s f d)) hL
theorem st_step {o q i : Nat} {w : CS} {m : MS} {LOOP : CS → MS → Option Int32} (hi : i < 512) (J : JJ o q i w m) (hL : ∀ w' m', JJ o q (i + 1) w' m' → LOOP w' m' = some 1) (t : Int32) : tailI q LOOP (x_L_step o t q w) (x_X7_step t m) = some 1 := by
  obtain ⟨R, a, D, V, M, I, hD, B⟩ := J
  exact fin_I (w_step V I.1 (B.step hi) t) (r_step M I.1 t) hD (i_step I t) (c2_0 (k_steA t)) hL
theorem st_update {o q i : Nat} {w : CS} {m : MS} {LOOP : CS → MS → Option Int32} (hi : i < 512) (J : JJ o q i w m) (hL : ∀ w' m', JJ o q (i + 1) w' m' → LOOP w' m' = some 1) (t v : Int32) : tailI q LOOP (x_L_update o t v q w) (x_X7_update t v m) = some 1 := by
  obtain ⟨R, a, D, V, M, I, hD, B⟩ := J
  exact fin_I (w_update V I.1 (B.step hi) t v) (r_update M I.1 t v) hD (i_update I t v) (c3_0 (k_updA t v)) hL
theorem st_version {o q i : Nat} {w : CS} {m : MS} {LOOP : CS → MS → Option Int32} (hi : i < 512) (J : JJ o q i w m) (hL : ∀ w' m', JJ o q (i + 1) w' m' → LOOP w' m' = some 1) : (if wJ w 0 o = 6 then bd (x_X6_version o w) (fun v51 => b2 (x_X7_version m) (fun v54 m55 => if v51 = v54 then LOOP w m55 else some 0)) else none) = some 1 := by
  obtain ⟨R, a, D, V, M, I, hD, B⟩ := J
  rw [if_pos V.1.ko, c_version V, bd_some, r_version M, b2_some, if_pos rfl]
  exact hL _ _ ⟨R, a, D, V, M.t 0, I.up, by omega, B.mono (by omega) (by omega)⟩
theorem st_upgrade {o q i : Nat} {w : CS} {m : MS} {LOOP : CS → MS → Option Int32} (hi : i < 512) (J : JJ o q i w m) (hL : ∀ w' m', JJ o q (i + 1) w' m' → LOOP w' m' = some 1) : (if wJ w 0 o = 6 then bd (x_X6_upgrade o w) (fun v51 => b2 (x_X7_upgrade m) (fun v54 m55 => if v51 = v54 then LOOP w m55 else some 0)) else none) = some 1 := by
  obtain ⟨R, a, D, V, M, I, hD, B⟩ := J
  rw [if_pos V.1.ko, c_upgr V, bd_some, r_upgrade M, b2_some, if_pos rfl]
  exact hL _ _ ⟨R, a, D, V, M.t 0, I.up, by omega, B.mono (by omega) (by omega)⟩
