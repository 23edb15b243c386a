/-! ===== PURE: the class's calls: tabs and transactions ===== -/
def CO (x : Option ((Nat × CS) ⊕ (Int32 × CS))) (o q c s : Nat) (r : OUT) : Prop := ∃ w' R', VC o q w' R' r.2.2 ∧ Bd o w' c s ∧ ((r.1 = 0 ∧ x = some (.inr (r.2.1, w'))) ∨ (r.1 ≠ 0 ∧ x = some (.inl (r.1, w'))))
def CV (x : Option ((Nat × CS) ⊕ CS)) (o q c s : Nat) (r : OUT) : Prop := ∃ w' R', VC o q w' R' r.2.2 ∧ Bd o w' c s ∧ ((r.1 = 0 ∧ x = some (.inr w')) ∨ (r.1 ≠ 0 ∧ x = some (.inl (r.1, w'))))
def CR (x : Option ((Nat × CS) ⊕ Int32)) (w : CS) (a : AS) (r : OUT) : Prop := r.2.2 = a ∧ ((r.1 = 0 ∧ x = some (.inr r.2.1)) ∨ (r.1 ≠ 0 ∧ x = some (.inl (r.1, bump w))))
theorem VC.f {o q c s k : Nat} {v : Int32} {w : CS} {R : Nat → List Nat} {a : AS} (V : VC o q w R a) (B : Bd o w (c + 2) (s + 10)) (hk : k ≠ 0) : CO (some (.inl (k, bump w))) o q c s (k, v, a) := ⟨_, R, VP.bump V, (B.mono (c' := c + 1) (s' := s + 6) (by omega) (by omega)).bump, Or.inr ⟨hk, rfl⟩⟩
theorem VC.fv {o q c s k : Nat} {v : Int32} {w : CS} {R : Nat → List Nat} {a : AS} (V : VC o q w R a) (B : Bd o w (c + 2) (s + 10)) (hk : k ≠ 0) : CV (some (.inl (k, bump w))) o q c s (k, v, a) := ⟨_, R, VP.bump V, (B.mono (c' := c + 1) (s' := s + 6) (by omega) (by omega)).bump, Or.inr ⟨hk, rfl⟩⟩
theorem CR.f {k : Nat} {v : Int32} {w : CS} {a : AS} (hk : k ≠ 0) : CR (some (.inl (k, bump w))) w a (k, v, a) := ⟨rfl, Or.inr ⟨hk, rfl⟩⟩
theorem CR.s {v : Int32} {w : CS} {a : AS} : CR (some (.inr v)) w a (0, v, a) := ⟨rfl, Or.inl ⟨rfl, rfl⟩⟩
theorem Bd.re2 {o c s : Nat} {w : CS} (B : Bd o w (c + 2) (s + 10)) : RE w := B.re (by omega) (by omega)
theorem c_tabAt {o q : Nat} {w : CS} {R : Nat → List Nat} {a : AS} (V : VC o q w R a) (B : RE w) (p : Int32) : x_X6_tabAt o p w = some (if oT p 4 then .inl (1, bump w) else .inr (o + 6 + p.toNatClampNeg)) := by
  rcases s_tabAt V.1 B p with ⟨i, hi, rfl, e⟩ | ⟨h, e⟩
  · rw [e, if_neg (fun q => q.elim (nI_pos (by omega)) (nI_ge hi (by omega))), nI_clamp (by omega)]
  · rw [e, if_pos h]
theorem c_transactionAt {o q : Nat} {w : CS} {R : Nat → List Nat} {a : AS} (V : VC o q w R a) (hn : lenT a ≤ 60) (B : RE w) (t : Int32) : x_X6_transactionAt o t w = some (if oX a t then .inl (1, bump w) else .inr ((R 6).getD t.toNatClampNeg 0)) := by
  have hl : (R 6).length = lenT a := V.2.2.2.2.1.len
  rcases s_transactionAt V.1 B t with ⟨i, hi, rfl, e⟩ | ⟨h, e⟩
  · rw [e, if_neg (show ¬ oX a (nI i) from fun q => q.elim (nI_pos (by omega)) (nI_ge (by omega) (by omega))), nI_clamp (by omega)]
  · rw [e, if_pos (show oX a t from by rw [hl] at h; exact h)]
theorem c_storeAt {o q : Nat} {w : CS} {R : Nat → List Nat} {a : AS} (V : VC o q w R a) (B : RE w) (s : Int32) : x_X6_storeAt o s w = some (if noS a s then .inl (1, bump w) else .inr (o + 10 + 3 * s.toNatClampNeg)) := by
  rcases s_storeAt V.1 B s with ⟨i, hi, rfl, h0, e⟩ | ⟨h, e⟩
  · have ht : ¬ (a.2.2.1.2 i).1 = 0 := by rw [← (V.2.2.2.1 i (by omega)).1]; exact h0
    rw [e, if_neg (show ¬ noS a (nI i) from fun q => q.elim (fun q => q.elim (nI_pos (by omega)) (nI_ge hi (by omega))) (fun q => ht (by rw [nI_clamp (by omega)] at q; exact q))), nI_clamp (by omega)]
  · rw [e, if_pos]
    rcases oT_cases (n := 3) s (by omega) with q | ⟨i, hi, rfl, q⟩
    · exact Or.inl q
    · refine Or.inr ?_
      rw [nI_clamp (by omega), ← (V.2.2.2.1 i (by omega)).1]
      exact h i hi rfl
theorem c_range {w : CS} (B : RE w) (v lo hi : Int32) : x_X6_requireInRange v lo hi w = some (if rng v lo hi then .inl (2, bump w) else .inr ()) := s_requireInRange B v lo hi
theorem c_key {w : CS} (B : RE w) (k : Int32) : x_X6_requireKey k w = some (if ¬ kP k then .inl (2, bump w) else .inr ()) := by
  unfold x_X6_requireKey
  have e := kx_key k
  by_cases h : kP k
  · rw [if_pos h] at e
    refine (congrArg (fun z => bd z (fun v2 => if v2 = 0 then (if 1 ≤ wl w ∧ 6 ≤ wk w then some ((Sum.inl (2, bump w)) : (Nat × CS) ⊕ Unit) else none) else some (Sum.inr ()))) e).trans ?_
    rw [bd_some, if_neg q10, if_neg (fun q => q h)]
  · rw [if_neg h] at e
    refine (congrArg (fun z => bd z (fun v2 => if v2 = 0 then (if 1 ≤ wl w ∧ 6 ≤ wk w then some ((Sum.inl (2, bump w)) : (Nat × CS) ⊕ Unit) else none) else some (Sum.inr ()))) e).trans ?_
    rw [bd_some, if_pos q00, if_pos B, if_pos h]
theorem c_upgrade {o q : Nat} {w : CS} {R : Nat → List Nat} {a : AS} (V : VC o q w R a) (B : RE w) (t : Int32) : x_X6_requireUpgrade o t w = some (if ¬ t = a.1.2.1 then .inl (3, bump w) else .inr ()) := by
  rw [s_requireUpgrade V.1 B, V.2.1.2.1]
  by_cases h : t = a.1.2.1
  · rw [if_pos h, if_neg (fun q => q h)]
  · rw [if_neg h, if_pos h]
theorem c_tx {o q i : Nat} {w : CS} {R : Nat → List Nat} {a : AS} (V : VC o q w R a) (hi : i < lenT a) : wJ w 0 ((R 6).getD i 0) = 2 ∧ wI w 81 ((R 6).getD i 0) = (txAt a.2.2.1.1 i).2.2.1 ∧ wI w 82 ((R 6).getD i 0) = (txAt a.2.2.1.1 i).2.1 ∧ wI w 83 ((R 6).getD i 0) = (txAt a.2.2.1.1 i).2.2.2 ∧ wJ w 80 ((R 6).getD i 0) = o + 6 + (txAt a.2.2.1.1 i).1 := by
  have hi2 : i < (R 6).length := by rw [V.2.2.2.2.1.len]; exact hi
  obtain ⟨h1, y, hy, ey⟩ := V.1.tk _ (getD_mem hi2)
  have e := (V.2.2.2.2.1.at hi).2
  refine ⟨h1, ?_, ?_, ?_, ?_⟩
  · rw [e]; rfl
  · rw [e]; rfl
  · rw [e]; rfl
  · rw [e]; show _ = o + 6 + (wJ w 80 ((R 6).getD i 0) - (o + 6)); rw [ey]; omega
theorem c_state {o q : Nat} {w : CS} {R : Nat → List Nat} {a : AS} (V : VC o q w R a) (B : RE w) (p : Int32) : CR (x_X6_state o p w) w a (statA p a) := by
  unfold x_X6_state statA
  rw [if_pos V.1.ko, c_tabAt V B]
  by_cases h : oT p 4
  · rw [if_pos h, if_pos h, bx1_inl]; exact CR.f (by decide)
  · obtain ⟨i, hi, rfl, ei⟩ := oT_at h (by omega)
    rw [if_neg h, if_neg h, bx1_inr, ei, if_pos (V.1.tb i hi), (V.2.2.1 i hi).1]; exact CR.s
theorem c_standing {o q : Nat} {w : CS} {R : Nat → List Nat} {a : AS} (V : VC o q w R a) (I : IV a) (B : RE w) (t : Int32) : CR (x_X6_standing o t w) w a (staA t a) := by
  have hn : lenT a ≤ 60 := I.2.2.1.1.1
  unfold x_X6_standing staA
  rw [if_pos V.1.ko, c_transactionAt V hn B]
  by_cases h : oX a t
  · rw [if_pos h, if_pos h, bx1_inl]; exact CR.f (by decide)
  · obtain ⟨i, hi, rfl, ei⟩ := oT_at h (show lenT a < 2 ^ 31 by omega)
    obtain ⟨k1, k2, k3, k4, k5⟩ := c_tx V hi
    rw [if_neg h, if_neg h, bx1_inr, ei, if_pos k1, k4]
    unfold txA
    rw [ei]; exact CR.s
theorem c_canOpen {o q j : Nat} {w : CS} {R : Nat → List Nat} {a : AS} (V : VC o q w R a) (hn : lenT a ≤ 60) (hj : j < 4) (v : Int32) : x_X6_canOpen o (o + 6 + j) v w = some (if ¬ (a.2.1 j).1 = 0 ∨ v < a.1.1 ∨ (v = a.1.1 ∧ ¬ a.1.2.1 = -1) ∨ (a.1.1 < v ∧ ¬ busyA a.2.1 ∧ lenT a = 60) then 0 else 1) := by
  have hl : (R 6).length = lenT a := V.2.2.2.2.1.len
  unfold x_X6_canOpen
  rw [if_pos (V.1.tb j hj), (V.2.2.1 j hj).1, V.2.1.1, V.2.1.2.1, s_hasRoom V.1, s_busy V.1 V.2.2.1, bd_some, hl]
  by_cases h1 : (a.2.1 j).1 = 0
  · rw [if_pos h1, if_pos V.1.ko]
    by_cases h2 : a.1.1 ≤ v
    · rw [if_pos h2]
      have h2' : ¬ v < a.1.1 := Int32.not_lt.mpr h2
      by_cases h3 : v = a.1.1
      · rw [if_pos h3]
        by_cases h4 : a.1.2.1 = -1
        · rw [if_pos h4, bd_some, if_pos isB1, l0_inr, if_neg (fun q => q.elim (fun q => q h1) (fun q => q.elim h2' (fun q => q.elim (fun q => q.2 h4) (fun q => Int32.lt_irrefl (h3 ▸ q.1)))))]
        · rw [if_neg h4, bd_some, if_pos isB0, l0_inr, if_pos (Or.inr (Or.inr (Or.inl ⟨h3, h4⟩)))]
      · have h5 : a.1.1 < v := Int32.lt_of_le_of_ne h2 (Ne.symm h3)
        rw [if_neg h3]
        by_cases h6 : lenT a < 60
        · rw [if_pos h6, if_neg q10, l0_inl, bd_some, if_pos isB1, l0_inr, if_neg (fun q => q.elim (fun q => q h1) (fun q => q.elim h2' (fun q => q.elim (fun q => h3 q.1) (fun q => by have := q.2.2; omega))))]
        · rw [if_neg h6, if_pos q00, bd_some]
          by_cases h7 : busyA a.2.1
          · rw [if_pos h7, if_neg q10, l0_inl, bd_some, if_pos isB1, l0_inr, if_neg (fun q => q.elim (fun q => q h1) (fun q => q.elim h2' (fun q => q.elim (fun q => h3 q.1) (fun q => q.2.1 h7))))]
          · rw [if_neg h7, if_pos q00, l0_inr, bd_some, if_pos isB0, l0_inr, if_pos (Or.inr (Or.inr (Or.inr ⟨h5, h7, by omega⟩)))]
    · rw [if_neg h2, l0_inl, if_pos isB0, if_pos (Or.inr (Or.inl (Int32.not_le.mp h2)))]
  · rw [if_neg h1, l0_inl, if_pos isB0, if_pos (Or.inl h1)]
theorem IV.cq {a : AS} (I : IV a) : ∀ c ∈ a.2.2.2, c.1 < a.2.2.1.1.length := fun c hc => (I.2.2.2.2 c hc).1
theorem c_open {o q c s : Nat} {w : CS} {R : Nat → List Nat} {a : AS} (V : VC o q w R a) (I : IV a) (B : Bd o w (c + 2) (s + 10)) (p v : Int32) : CO (x_X6_open o p v w) o q c s (openA p v a) := by
  have hn : lenT a ≤ 60 := I.2.2.1.1.1
  have RE := B.re2
  unfold x_X6_open openA
  rw [if_pos V.1.ko, c_tabAt V RE]
  by_cases h : oT p 4
  · rw [if_pos h, if_pos h, bx1_inl]; exact V.f B (by decide)
  · obtain ⟨j, hj, rfl, ej⟩ := oT_at h (by omega)
    rw [if_neg h, if_neg h, bx1_inr, c_range RE, ej]
    by_cases h2 : rng v 1 100
    · rw [if_pos h2, if_pos h2, bx1_inl]; exact V.f B (by decide)
    · rw [if_neg h2, if_neg h2, bx1_inr, c_canOpen V hn hj, bd_some]
      by_cases h3 : ¬ (a.2.1 j).1 = 0 ∨ v < a.1.1 ∨ (v = a.1.1 ∧ ¬ a.1.2.1 = -1) ∨ (a.1.1 < v ∧ ¬ busyA a.2.1 ∧ lenT a = 60)
      · rw [if_pos h3, if_pos h3, if_pos q00, if_pos RE]; exact V.f B (by decide)
      · rw [if_neg h3, if_neg h3, if_neg q10, V.2.1.1]
        have h0 : (a.2.1 j).1 = 0 := Decidable.byContradiction fun q => h3 (Or.inl q)
        have hni : ¬ insA a.2.1 j := by unfold insA; rw [h0]; decide
        have tk := V.1.tb j hj
        by_cases h4 : v = a.1.1
        · rw [if_pos h4, if_pos h4, if_pos tk, bs_eq, bd_some, if_pos (show wJ (sI w 160 (o + 6 + j) 1) 0 (o + 6 + j) = 4 from tk), wI_on]
          exact ⟨_, R, VP.b (v := 1) (f := 160) V hj (Or.inl rfl), B.mono (by omega) (by omega), Or.inl ⟨rfl, rfl⟩⟩
        · have V3 := VP.b (v := a.1.2.2) (f := 162) (VP.b (v := v) (f := 161) (VP.b (v := 3) (f := 160) V hj (Or.inl rfl)) hj (Or.inr (Or.inl rfl))) hj (Or.inr (Or.inr rfl))
          have V4 := VP.g (v := a.1.2.2 + 1) (f := 247) V3 (Or.inr (Or.inr rfl))
          have V5 := VP.to (b := ((a.1.1, a.1.2.1, a.1.2.2 + 1), upn a.2.1 j (3, v, a.1.2.2), a.2.2.1)) V4 (by
            simp only [upn_s, upn_upn]
            rfl)
          have hroom : roomA ((a.1.1, a.1.2.1, a.1.2.2 + 1), upn a.2.1 j (3, v, a.1.2.2), a.2.2.1) := by
            intro hb _
            have hb2 : ¬ busyA a.2.1 := fun q => hb ((busy_up (show ¬ ((3 : Int32) = 1 ∨ (3 : Int32) = 2) by decide)).mpr ((busyX_of hni).mpr q))
            have hlt : a.1.1 < v := by
              rcases Int32.lt_or_le v a.1.1 with q | q
              · exact absurd (Or.inr (Or.inl q)) h3
              · exact Int32.lt_of_le_of_ne q (Ne.symm h4)
            have : ¬ lenT a = 60 := fun q => h3 (Or.inr (Or.inr (Or.inr ⟨hlt, hb2, q⟩)))
            show lenT a < 60
            omega
          obtain ⟨w', R', e, V', B'⟩ := s_due (c := c) (s := s) hroom I.2.2.1 I.cq V5 (B.mono (c' := c + 1) (s' := s + 4) (by omega) (by omega))
          have t1 : wI (sI (sI w 160 (o + 6 + j) 3) 161 (o + 6 + j) v) 247 o = a.1.2.2 := by
            rw [wI_off (Or.inl (by omega)), wI_off (Or.inl (by omega))]; exact V.2.1.2.2
          have t2 : wI (sI (sI (sI w 160 (o + 6 + j) 3) 161 (o + 6 + j) v) 162 (o + 6 + j) a.1.2.2) 247 o = a.1.2.2 := by
            rw [wI_off (Or.inl (by omega))]; exact t1
          rw [if_neg h4, if_neg h4, if_pos tk, bs_eq, if_pos (show wJ (sI w 160 (o + 6 + j) 3) 0 (o + 6 + j) = 4 from tk), bs_eq, if_pos (show wJ (sI (sI w 160 (o + 6 + j) 3) 161 (o + 6 + j) v) 0 o = 6 from V.1.ko), if_pos (show wJ (sI (sI w 160 (o + 6 + j) 3) 161 (o + 6 + j) v) 0 (o + 6 + j) = 4 from tk), t1, bs_eq, if_pos (show wJ (sI (sI (sI w 160 (o + 6 + j) 3) 161 (o + 6 + j) v) 162 (o + 6 + j) a.1.2.2) 0 o = 6 from V.1.ko), t2, bs_eq, if_pos (show wJ (sI (sI (sI (sI w 160 (o + 6 + j) 3) 161 (o + 6 + j) v) 162 (o + 6 + j) a.1.2.2) 247 o (a.1.2.2 + 1)) 0 o = 6 from V.1.ko), e, bd_some, bd_some, if_pos (V'.1.tb j hj), (V'.2.2.1 j hj).1]
          exact ⟨w', R', V', B', Or.inl ⟨rfl, rfl⟩⟩
theorem room_close {a : AS} {j : Nat} {T : TS} {u : Int32} (hT : T.1.length = lenT a) (hn : lenT a ≤ 60) (h1 : ¬ lateA a j) : roomA ((a.1.1, u, a.1.2.2), upn a.2.1 j (0, (a.2.1 j).2), T) := by
  intro hb hf
  have hb2 : ¬ busyX a.2.1 j := fun q => hb ((busy_up (show ¬ ((0 : Int32) = 1 ∨ (0 : Int32) = 2) by decide)).mpr q)
  obtain ⟨i, hi, j3, jw⟩ := hf
  have j3' : (upn a.2.1 j (0, (a.2.1 j).2) i).1 = 3 := j3
  have jw' : a.1.1 < (upn a.2.1 j (0, (a.2.1 j).2) i).2.1 := jw
  have hje : i ≠ j := by
    intro e
    rw [e, upn_s] at j3'
    exact absurd (show (0 : Int32) = 3 from j3') (by decide)
  rw [upn_n _ _ hje] at j3' jw'
  have : ¬ lenT a = 60 := fun q => h1 ⟨q, hb2, i, List.mem_range.mpr hi, hje, j3', jw'⟩
  show T.1.length < 60
  rw [hT]
  omega
theorem c_late {o q j : Nat} {w : CS} {R : Nat → List Nat} {a : AS} (V : VC o q w R a) (hj : j < 4) : x_X6_hasRoomAfter o (o + 6 + j) w = some (if lateA a j then 0 else 1) := by
  have hl : (R 6).length = lenT a := V.2.2.2.2.1.len
  rw [s_hasRoomAfter V.1 V.2.2.1 hj, hl, V.2.1.1]
theorem c_close {o q c s : Nat} {w : CS} {R : Nat → List Nat} {a : AS} (V : VC o q w R a) (I : IV a) (B : Bd o w (c + 2) (s + 10)) (p : Int32) : CO (x_X6_close o p w) o q c s (closA p a) := by
  have hn : lenT a ≤ 60 := I.2.2.1.1.1
  have RE := B.re2
  have hl : (R 6).length = lenT a := V.2.2.2.2.1.len
  unfold x_X6_close closA
  rw [if_pos V.1.ko, c_tabAt V RE]
  by_cases h : oT p 4
  · rw [if_pos h, if_pos h, bx1_inl]; exact V.f B (by decide)
  · obtain ⟨j, hj, rfl, ej⟩ := oT_at h (by omega)
    have tk := V.1.tb j hj
    rw [if_neg h, if_neg h, bx1_inr, ej, if_pos tk, (V.2.2.1 j hj).1, c_late V hj, bd_some]
    by_cases h1 : (a.2.1 j).1 = 0
    · rw [if_pos h1, if_pos (Or.inl h1), l0_inl, if_pos RE]; exact V.f B (by decide)
    · by_cases h2 : lateA a j
      · rw [if_neg h1, if_pos h2, if_pos q00, if_pos (Or.inr h2), l0_inl, if_pos RE]; exact V.f B (by decide)
      · obtain ⟨t1, t2, t3⟩ := V.1.tlist
        rw [if_neg h1, if_neg h2, if_neg q10, t1, if_pos t2, p_size t3, bd_some, if_neg (show ¬ ((a.2.1 j).1 = 0 ∨ lateA a j) from fun q => q.elim h1 h2), hl, Int32.sub_eq_add_neg]
        have B1 : Bd o w (c + 1) (s + 4) := B.mono (by omega) (by omega)
        obtain ⟨w1, R1, e1, V1, B1', r6, r7⟩ := s_closeL hj FU (lenT a) a.2.2.1 w R (by show lenT a < 1000; omega) (Nat.le_refl _) I.2.2.1 V B1
        have hT := TSK.close j (lenT a) a.2.2.1 (Nat.le_refl _) I.2.2.1
        have hT2 : TSK (goesA (closeA j (lenT a) a.2.2.1)).2 := TSK.go _ _ _ _ (by rw [Nat.zero_add]; exact Nat.le_refl _) hT
        obtain ⟨w2, R2, e2, V2, B2, s6, s7⟩ := s_runFreed hT V1 B1'
        have hlen : (goesA (closeA j (lenT a) a.2.2.1)).2.1.length = lenT a := by
          unfold goesA
          rw [go_len, close_len]
        obtain ⟨w3, R3, e3, V3, B3⟩ := s_leave (c := c) (s := s) (p := j) hj (room_close hlen hn h2) hT2 (fun c hc => by show c.1 < (goesA (closeA j (lenT a) a.2.2.1)).2.1.length; rw [hlen]; exact I.cq c hc) V2 B2
        rw [show -(1 : Int32) = (-1) from rfl, e1, bd_some, if_pos V1.1.ko, e2, b2_some, if_pos V2.1.ko, e3, bd_some, l0_inr]
        exact ⟨w3, R3, V3, B3, Or.inl ⟨rfl, rfl⟩⟩
theorem c_commit {o q c s : Nat} {w : CS} {R : Nat → List Nat} {a : AS} (V : VC o q w R a) (I : IV a) (B : Bd o w (c + 2) (s + 10)) (t : Int32) : CO (x_X6_commit o t w) o q c s (comA t a) := by
  have hn : lenT a ≤ 60 := I.2.2.1.1.1
  have RE := B.re2
  unfold x_X6_commit comA
  rw [if_pos V.1.ko, c_transactionAt V hn RE]
  by_cases h : oX a t
  · rw [if_pos h, if_pos h, bx1_inl]; exact V.f B (by decide)
  · obtain ⟨i, hi, rfl, ei⟩ := oT_at h (show lenT a < 2 ^ 31 by omega)
    obtain ⟨k1, k2, k3, k4, k5⟩ := c_tx V hi
    have et : txA a (nI i) = txAt a.2.2.1.1 i := by unfold txA; rw [ei]
    rw [if_neg h, if_neg h, bx1_inr, ei, s_requireRunning RE k1, k4, et]
    by_cases h1 : (txAt a.2.2.1.1 i).2.2.2 = 1
    · have V1 : VP o q (sI w 83 ((R 6).getD i 0) 2) R (a.1, a.2.1, (setP a.2.2.1.1 i 2, a.2.2.1.2)) a.2.2.2 := VP.phase (v := 2) V hi
      have hT : TSK (setP a.2.2.1.1 i 2, a.2.2.1.2) := ⟨I.2.2.1.1.setP 2 hi, I.2.2.1.2⟩
      have k1' : wJ (sI w 83 ((R 6).getD i 0) 2) 0 ((R 6).getD i 0) = 2 := k1
      have e246 : wI (sI w 83 ((R 6).getD i 0) 2) 246 o = a.1.2.1 := V1.2.1.2.1
      rw [if_pos h1, if_neg (show ¬ ¬ (txAt a.2.2.1.1 i).2.2.2 = 1 from fun q => q h1), bx1_inr, if_pos k1, bs_eq, if_pos (show wJ (sI w 83 ((R 6).getD i 0) 2) 0 o = 6 from V.1.ko), e246]
      by_cases h2 : nI i = a.1.2.1
      · have h4 := (I.2.2.1.1.2 _ (txAt_mem hi)).1
        have V2 : VP o q (sI (sI w 83 ((R 6).getD i 0) 2) 246 o (-1)) R ((a.1.1, -1, a.1.2.2), a.2.1, (setP a.2.2.1.1 i 2, a.2.2.1.2)) a.2.2.2 := VP.g (v := -1) (f := 246) V1 (Or.inr (Or.inl rfl))
        have V3 : VP o q (sI (sI (sI (sI w 83 ((R 6).getD i 0) 2) 246 o (-1)) 245 o (a.2.1 (txAt a.2.2.1.1 i).1).2.1) 160 (o + 6 + (txAt a.2.2.1.1 i).1) 1) R (((a.2.1 (txAt a.2.2.1.1 i).1).2.1, -1, a.1.2.2), upn a.2.1 (txAt a.2.2.1.1 i).1 (1, (a.2.1 (txAt a.2.2.1.1 i).1).2), (setP a.2.2.1.1 i 2, a.2.2.1.2)) a.2.2.2 := VP.b (v := 1) (f := 160) (VP.g (v := (a.2.1 (txAt a.2.2.1.1 i).1).2.1) (f := 245) V2 (Or.inl rfl)) h4 (Or.inl rfl)
        have B3 : Bd o (sI (sI (sI (sI w 83 ((R 6).getD i 0) 2) 246 o (-1)) 245 o (a.2.1 (txAt a.2.2.1.1 i).1).2.1) 160 (o + 6 + (txAt a.2.2.1.1 i).1) 1) c s := B.mono (c' := c) (s' := s) (by omega) (by omega)
        obtain ⟨w4, R4, e4, V4, B4, r6, r7⟩ := s_runFreed hT V3 B3
        have e161 : wI (sI (sI w 83 ((R 6).getD i 0) 2) 246 o (-1)) 161 (o + 6 + (txAt a.2.2.1.1 i).1) = (a.2.1 (txAt a.2.2.1.1 i).1).2.1 := (V2.2.2.1 _ h4).2.1
        have e80 : wJ (sI (sI w 83 ((R 6).getD i 0) 2) 246 o (-1)) 80 ((R 6).getD i 0) = o + 6 + (txAt a.2.2.1.1 i).1 := k5
        have e80' : ∀ v, wJ (sI (sI (sI w 83 ((R 6).getD i 0) 2) 246 o (-1)) 245 o v) 80 ((R 6).getD i 0) = o + 6 + (txAt a.2.2.1.1 i).1 := fun _ => k5
        rw [if_pos h2, bs_eq, if_pos (show wJ (sI (sI w 83 ((R 6).getD i 0) 2) 246 o (-1)) 0 ((R 6).getD i 0) = 2 from k1), e80, if_pos (show wJ (sI (sI w 83 ((R 6).getD i 0) 2) 246 o (-1)) 0 (o + 6 + (txAt a.2.2.1.1 i).1) = 4 from V.1.tb _ h4), if_pos (show wJ (sI (sI w 83 ((R 6).getD i 0) 2) 246 o (-1)) 0 o = 6 from V.1.ko), e161, bs_eq, if_pos (show wJ (sI (sI (sI w 83 ((R 6).getD i 0) 2) 246 o (-1)) 245 o (a.2.1 (txAt a.2.2.1.1 i).1).2.1) 0 ((R 6).getD i 0) = 2 from k1), e80', if_pos (show wJ (sI (sI (sI w 83 ((R 6).getD i 0) 2) 246 o (-1)) 245 o (a.2.1 (txAt a.2.2.1.1 i).1).2.1) 0 (o + 6 + (txAt a.2.2.1.1 i).1) = 4 from V.1.tb _ h4), bs_eq, bd_some, if_pos V3.1.ko, e4, b2_some]
        show CO _ o q c s (0, _, (if nI i = a.1.2.1 then _ else _))
        rw [if_pos h2]
        exact ⟨w4, R4, V4, B4, Or.inl ⟨rfl, rfl⟩⟩
      · have B3 : Bd o (sI w 83 ((R 6).getD i 0) 2) c s := B.mono (c' := c) (s' := s) (by omega) (by omega)
        obtain ⟨w4, R4, e4, V4, B4, r6, r7⟩ := s_runFreed hT V1 B3
        rw [if_neg h2, bd_some, if_pos V1.1.ko, e4, b2_some]
        show CO _ o q c s (0, _, (if nI i = a.1.2.1 then _ else _))
        rw [if_neg h2]
        exact ⟨w4, R4, V4, B4, Or.inl ⟨rfl, rfl⟩⟩
    · rw [if_neg h1, if_pos (show ¬ (txAt a.2.2.1.1 i).2.2.2 = 1 from h1), bx1_inl]; exact V.f B (by decide)
theorem run_tab {i j : Nat} {T : TS} (hi : i < T.1.length) : (txAt (runA i T).1 j).1 = (txAt T.1 j).1 := by
  by_cases h : j = i
  · subst h; show (txAt (setP T.1 j 1) j).1 = _; rw [setP_s 1 hi]
  · show (txAt (setP T.1 i 1) j).1 = _; rw [setP_n 1 h]
theorem go_tabL : ∀ (n i c : Nat) (T : TS) (j : Nat), i + n ≤ T.1.length → (txAt (goA n i c T).2.1 j).1 = (txAt T.1 j).1 := by
  intro n
  induction n with
  | zero => intro i c T j _; rfl
  | succ n ih =>
    intro i c T j h
    rw [goA]
    split
    · rw [ih _ _ _ _ (by rw [run_len]; omega), run_tab (by omega)]
    · exact ih _ _ _ _ (by omega)
theorem go_tab {T : TS} {j : Nat} : (txAt (goA T.1.length 0 0 T).2.1 j).1 = (txAt T.1 j).1 := go_tabL _ _ _ _ _ (by omega)
theorem c_abort {o q c s : Nat} {w : CS} {R : Nat → List Nat} {a : AS} (V : VC o q w R a) (I : IV a) (B : Bd o w (c + 2) (s + 10)) (t : Int32) : CO (x_X6_abort o t w) o q c s (aboA t a) := by
  have hn : lenT a ≤ 60 := I.2.2.1.1.1
  have RE := B.re2
  unfold x_X6_abort aboA
  rw [if_pos V.1.ko, c_transactionAt V hn RE]
  by_cases h : oX a t
  · rw [if_pos h, if_pos h, bx1_inl]; exact V.f B (by decide)
  · obtain ⟨i, hi, rfl, ei⟩ := oT_at h (show lenT a < 2 ^ 31 by omega)
    obtain ⟨k1, k2, k3, k4, k5⟩ := c_tx V hi
    have h4 := (I.2.2.1.1.2 _ (txAt_mem hi)).1
    have et : txA a (nI i) = txAt a.2.2.1.1 i := by unfold txA; rw [ei]
    have hP : pend w ((R 6).getD i 0) ↔ pendT (txAt a.2.2.1.1 i) := by unfold pend; rw [k4]
    have hl : (R 6).length = lenT a := V.2.2.2.2.1.len
    have e246 : wI w 246 o = a.1.2.1 := V.2.1.2.1
    rw [if_neg h, if_neg h, bx1_inr, ei, et, e246]
    by_cases h1 : pendT (txAt a.2.2.1.1 i)
    · have B1 : Bd o w (c + 1) (s + 4) := B.mono (by omega) (by omega)
      obtain ⟨w1, R1, e1, V1, B1', r6, r7⟩ := s_giveUp V I.2.2.1 hi B1
      have hT := I.2.2.1.give hi
      have hT2 : TSK (goesA (giveA i a.2.2.1)).2 := TSK.go _ _ _ _ (by rw [Nat.zero_add]; exact Nat.le_refl _) hT
      obtain ⟨w2, R2, e2, V2, B2, s6, s7⟩ := s_runFreed hT V1 B1'
      have hlen : (goesA (giveA i a.2.2.1)).2.1.length = lenT a := by
        unfold goesA
        rw [go_len, give_len]
      by_cases h2 : nI i = a.1.2.1
      · rw [if_pos h2, bd_some, if_pos k1, s_isPending k1, if_pos (hP.mpr h1), bd_some, if_neg q10, if_neg q10, k5, c_late V h4, bd_some]
        by_cases h3 : lateA a (txAt a.2.2.1.1 i).1
        · rw [if_pos h3, if_pos q00, l0_inr, l0_inl, if_pos RE, if_pos (Or.inr ⟨h2, h3⟩)]; exact V.f B (by decide)
        · have hB2 : (a.2.1 (txAt a.2.2.1.1 i).1).1 = 2 := by
            rcases I.2.1 with ⟨q, _⟩ | ⟨u, hu, q, _, q2, _⟩
            · rw [q] at h2; exact absurd h2 (nI_m1 (by omega))
            · have hu2 : u < lenT a := hu
              rw [q] at h2
              have := (nI_eq (by omega) (by omega)).mp h2
              rw [this]; exact q2
          obtain ⟨w3, R3, e3, V3, B3⟩ := s_leave (c := c) (s := s) (p := (txAt a.2.2.1.1 i).1) h4 (room_close hlen hn h3) hT2 (fun c hc => by show c.1 < (goesA (giveA i a.2.2.1)).2.1.length; rw [hlen]; exact I.cq c hc) V2 B2
          have hx2 : wJ w2 0 ((R 6).getD i 0) = 2 ∧ wJ w2 80 ((R 6).getD i 0) = o + 6 + (txAt a.2.2.1.1 i).1 := by
            have hr : R2 6 = R 6 := s6.trans r6
            have hi9 : i < (R2 6).length := by rw [hr, hl]; exact hi
            have hi8 : i < (R 6).length := by omega
            have k := V2.1.tk _ (getD_mem hi9)
            rw [hr] at k
            obtain ⟨g1, y, hy, ey⟩ := k
            refine ⟨g1, ?_⟩
            have et2 := (V2.2.2.2.2.1.at (i := i) (by show i < (goesA (giveA i a.2.2.1)).2.1.length; rw [hlen]; exact hi)).2
            rw [hr] at et2
            have htab : (txAt (goesA (giveA i a.2.2.1)).2.1 i).1 = (txAt a.2.2.1.1 i).1 := by
              unfold goesA
              rw [go_tab, give_tab hi]
            rw [et2] at htab
            have : wJ w2 80 ((R 6).getD i 0) - (o + 6) = (txAt a.2.2.1.1 i).1 := htab
            rw [ey] at this ⊢
            omega
          rw [if_neg h3, if_neg q10, l0_inl, e1, bd_some, if_pos V1.1.ko, e2, b2_some, if_neg q10, if_pos hx2.1, if_pos V2.1.ko, hx2.2, e3, bd_some, bd_some, l0_inr, if_neg (show ¬ (¬ pendT (txAt a.2.2.1.1 i) ∨ (nI i = a.1.2.1 ∧ lateA a (txAt a.2.2.1.1 i).1)) from fun q => q.elim (fun q => q h1) (fun q => h3 q.2))]
          show CO _ o q c s (0, _, (if nI i = a.1.2.1 then _ else _))
          rw [if_pos h2]
          rw [if_pos hB2] at V3
          exact ⟨w3, R3, V3, B3, Or.inl ⟨rfl, rfl⟩⟩
      · rw [if_neg h2, bd_some, if_pos k1, s_isPending k1, if_pos (hP.mpr h1), bd_some, if_neg q10, if_pos q00, l0_inl, e1, bd_some, if_pos V1.1.ko, e2, b2_some, if_pos q00, bd_some, l0_inr, if_neg (show ¬ (¬ pendT (txAt a.2.2.1.1 i) ∨ (nI i = a.1.2.1 ∧ lateA a (txAt a.2.2.1.1 i).1)) from fun q => q.elim (fun q => q h1) (fun q => h2 q.1))]
        show CO _ o q c s (0, _, (if nI i = a.1.2.1 then _ else _))
        rw [if_neg h2]
        exact ⟨w2, R2, V2, B2.mono (by omega) (by omega), Or.inl ⟨rfl, rfl⟩⟩
    · by_cases h2 : nI i = a.1.2.1
      · rw [if_pos h2, bd_some, if_pos k1, s_isPending k1, if_neg (fun z => h1 (hP.mp z)), bd_some, if_pos q00, l0_inl, if_pos RE, if_pos (Or.inl h1)]; exact V.f B (by decide)
      · rw [if_neg h2, bd_some, if_pos k1, s_isPending k1, if_neg (fun z => h1 (hP.mp z)), bd_some, if_pos q00, l0_inl, if_pos RE, if_pos (Or.inl h1)]; exact V.f B (by decide)
