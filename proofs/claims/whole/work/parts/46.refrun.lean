/-! ===== PURE: the reference's transactions run, wait and are given up ===== -/
def copyN (sc : Int32) (a b n : Nat) (st : Nat → SA) : Nat → SA := fun j => if b ≤ j ∧ j < b + n ∧ inS sc (nI (j - b)) then st (a + (j - b)) else st j
theorem copyN_3 (sc : Int32) (a b : Nat) (st : Nat → SA) : copyA sc a b st = copyN sc a b 3 st := rfl
theorem copyN_0 (sc : Int32) (a b : Nat) (st : Nat → SA) : copyN sc a b 0 st = st := by
  funext j
  unfold copyN
  rw [if_neg (by omega)]
theorem copyN_i {sc : Int32} {a b n : Nat} {st : Nat → SA} (h : inS sc (nI n)) (hab : a + n < b ∨ b + n < a + n) : copyN sc a b (n + 1) st = upn (copyN sc a b n st) (b + n) (copyN sc a b n st (a + n)) := by
  funext j
  unfold copyN upn
  by_cases hj : j = b + n
  · subst hj
    rw [if_pos ⟨by omega, by omega, by rw [Nat.add_sub_cancel_left]; exact h⟩, if_pos rfl, if_neg (by omega), Nat.add_sub_cancel_left]
  · rw [if_neg hj]
    exact ite_congr (propext ⟨fun q => ⟨q.1, by omega, q.2.2⟩, fun q => ⟨q.1, by omega, q.2.2⟩⟩) (fun _ => rfl) (fun _ => rfl)
theorem copyN_o {sc : Int32} {a b n : Nat} {st : Nat → SA} (h : ¬ inS sc (nI n)) : copyN sc a b (n + 1) st = copyN sc a b n st := by
  funext j
  unfold copyN
  refine ite_congr (propext ⟨fun q => ⟨q.1, ?_, q.2.2⟩, fun q => ⟨q.1, by omega, q.2.2⟩⟩) (fun _ => rfl) (fun _ => rfl)
  obtain ⟨q1, q2, q3⟩ := q
  rcases Nat.lt_or_ge j (b + n) with z | z
  · exact z
  · have : j - b = n := by omega
    rw [this] at q3; exact absurd q3 h
/-- what the stores' and transactions' calls leave alone -/
def FM (m m' : MS) : Prop := (∀ j, j ≠ 18 → gs m' j = gs m j) ∧ ∀ j x, j < 6 ∨ 23 ≤ j → ga m' j x = ga m j x
theorem FM.rf {m : MS} : FM m m := ⟨fun _ _ => rfl, fun _ _ _ => rfl⟩
theorem FM.tr {m m1 m2 : MS} (h : FM m m1) (h2 : FM m1 m2) : FM m m2 := ⟨fun j hj => (h2.1 j hj).trans (h.1 j hj), fun j x hj => (h2.2 j x hj).trans (h.2 j x hj)⟩
theorem MVg.fm {m m' : MS} {g : Int32 × Int32 × Int32} (V : MVg m g) (F : FM m m') : MVg m' g := ⟨(F.1 0 (by omega)).trans V.1, (F.1 5 (by omega)).trans V.2⟩
theorem MVt.fm {m m' : MS} {D : Nat} {B : TQ} (V : MVt m D B) (F : FM m m') : MVt m' D B := by
  refine ⟨(F.1 4 (by omega)).trans V.1, fun j hj => ?_⟩
  rw [F.2 1 j (by omega), F.2 2 j (by omega), F.2 3 j (by omega)]
  obtain ⟨a1, a2, a3⟩ := V.2 j hj
  exact ⟨a1, a2, fun q => ⟨(a3 q).1, fun i hi qi => by rw [F.2 3 i (by omega)]; exact (a3 q).2 i hi qi⟩⟩
theorem MVc.fm {m m' : MS} {cs : List CU} (V : MVc m cs) (F : FM m m') : MVc m' cs := by
  refine ⟨(F.1 23 (by omega)).trans V.1, fun i hi => ?_, fun i hi => ?_⟩
  · rw [F.2 24 i (by omega), F.2 25 i (by omega), F.2 26 i (by omega), F.2 27 i (by omega), F.2 28 i (by omega), F.2 29 i (by omega), F.2 30 i (by omega)]
    exact V.2.1 i hi
  · rw [F.2 29 i (by omega), F.2 30 i (by omega)]
    exact V.2.2 i hi
theorem MVx.eqs {m m' : MS} {ts : List TX} (V : MVx m ts) (h18 : gs m' 18 = gs m 18) (h : ∀ j x, 19 ≤ j → j < 23 → ga m' j x = ga m j x) : MVx m' ts := by
  refine ⟨h18.trans V.1, fun i hi => ?_⟩
  rw [h 19 i (by omega) (by omega), h 20 i (by omega) (by omega), h 21 i (by omega) (by omega), h 22 i (by omega) (by omega)]
  exact V.2 i hi
theorem MVs.eqs {m m' : MS} {b k : Nat} {s : SA} (V : MVs m b k s) (h : ∀ j x, b ≤ j → j < b + 6 → ga m' j x = ga m j x) : MVs m' b k s := by
  obtain ⟨v1, v2, v3, v4⟩ := V
  refine ⟨?_, ?_, fun q => ?_, fun i hi => ?_⟩
  · rw [h b k (by omega) (by omega)]; exact v1
  · rw [h (b + 2) k (by omega) (by omega)]; exact v2
  · rw [h (b + 1) _ (by omega) (by omega), h (b + 1) _ (by omega) (by omega)]; exact v3 q
  · rw [h (b + 3) _ (by omega) (by omega), h (b + 4) _ (by omega) (by omega), h (b + 5) _ (by omega) (by omega), h (b + 5) _ (by omega) (by omega)]; exact v4 i hi
theorem MVT.keep {m m' : MS} {ts : List TX} {st : Nat → SA} {k : Nat} (hk : k < 3) (V : MVT m (ts, st)) (hS : ∀ j, j < 6 → (st j).2.2.2.length ≤ 40) (hg : ∀ j, gs m' j = gs m j) (ha : ∀ j x, ga m' j x = if CPcopies k j x then ga m (j - 6) x else ga m j x) : MVT m' (ts, upn st (k + 3) (st k)) := by
  obtain ⟨vx, vl, vk⟩ := V
  have out : ∀ j x, ¬ CPcopies k j x → ga m' j x = ga m j x := fun j x q => by rw [ha, if_neg q]
  have inn : ∀ j x, CPcopies k j x → ga m' j x = ga m (j - 6) x := fun j x q => by rw [ha, if_pos q]
  refine ⟨vx.eqs (hg 18) (fun j x h1 h2 => out j x (by unfold CPcopies; omega)), fun i hi => ?_, fun i hi => ?_⟩
  · show MVs m' 6 i (upn st (k + 3) (st k) i)
    rw [upn_n _ _ (by omega)]
    exact (vl i hi).eqs (fun j x h1 h2 => out j x (by unfold CPcopies; omega))
  · show MVs m' 12 i (upn st (k + 3) (st k) (i + 3))
    by_cases hik : i = k
    · subst hik
      rw [upn_s]
      obtain ⟨v1, v2, v3, v4⟩ := vl i hi
      refine ⟨?_, ?_, fun q => ?_, fun x hx => ?_⟩
      · rw [inn 12 i (by unfold CPcopies; omega)]; exact v1
      · rw [inn (12 + 2) i (by unfold CPcopies; omega)]; exact v2
      · rw [inn (12 + 1) _ (by unfold CPcopies; omega), inn (12 + 1) _ (by unfold CPcopies; omega)]; exact v3 q
      · have hx9 : x < 40 := Nat.lt_of_lt_of_le hx (hS _ (by omega))
        rw [inn (12 + 3) _ (by unfold CPcopies; omega), inn (12 + 4) _ (by unfold CPcopies; omega), inn (12 + 5) _ (by unfold CPcopies; omega), inn (12 + 5) _ (by unfold CPcopies; omega)]; exact v4 x hx
    · rw [upn_n _ _ (by omega)]
      obtain ⟨v1, v2, v3, v4⟩ := vk i hi
      refine ⟨?_, ?_, fun q => ?_, fun x hx => ?_⟩
      · rw [out 12 i (by unfold CPcopies; omega)]; exact v1
      · rw [out (12 + 2) i (by unfold CPcopies; omega)]; exact v2
      · rw [out (12 + 1) _ (by unfold CPcopies; omega), out (12 + 1) _ (by unfold CPcopies; omega)]; exact v3 q
      · have hx9 : x < 40 := Nat.lt_of_lt_of_le hx (hS _ (by omega))
        rw [out (12 + 3) _ (by unfold CPcopies; omega), out (12 + 4) _ (by unfold CPcopies; omega), out (12 + 5) _ (by unfold CPcopies; omega), out (12 + 5) _ (by unfold CPcopies; omega)]; exact v4 x hx
theorem MVT.rest {m m' : MS} {ts : List TX} {st : Nat → SA} {k : Nat} (hk : k < 3) (V : MVT m (ts, st)) (hS : ∀ j, j < 6 → (st j).2.2.2.length ≤ 40) (hg : ∀ j, gs m' j = gs m j) (ha : ∀ j x, ga m' j x = if CPrestores k j x then ga m (j + 6) x else ga m j x) : MVT m' (ts, upn st k (st (k + 3))) := by
  obtain ⟨vx, vl, vk⟩ := V
  have out : ∀ j x, ¬ CPrestores k j x → ga m' j x = ga m j x := fun j x q => by rw [ha, if_neg q]
  have inn : ∀ j x, CPrestores k j x → ga m' j x = ga m (j + 6) x := fun j x q => by rw [ha, if_pos q]
  refine ⟨vx.eqs (hg 18) (fun j x h1 h2 => out j x (by unfold CPrestores; omega)), fun i hi => ?_, fun i hi => ?_⟩
  · show MVs m' 6 i (upn st k (st (k + 3)) i)
    by_cases hik : i = k
    · subst hik
      rw [upn_s]
      obtain ⟨v1, v2, v3, v4⟩ := vk i hi
      refine ⟨?_, ?_, fun q => ?_, fun x hx => ?_⟩
      · rw [inn 6 i (by unfold CPrestores; omega)]; exact v1
      · rw [inn (6 + 2) i (by unfold CPrestores; omega)]; exact v2
      · rw [inn (6 + 1) _ (by unfold CPrestores; omega), inn (6 + 1) _ (by unfold CPrestores; omega)]; exact v3 q
      · have hx9 : x < 40 := Nat.lt_of_lt_of_le hx (hS _ (by omega))
        rw [inn (6 + 3) _ (by unfold CPrestores; omega), inn (6 + 4) _ (by unfold CPrestores; omega), inn (6 + 5) _ (by unfold CPrestores; omega), inn (6 + 5) _ (by unfold CPrestores; omega)]; exact v4 x hx
    · rw [upn_n _ _ (by omega)]
      obtain ⟨v1, v2, v3, v4⟩ := vl i hi
      refine ⟨?_, ?_, fun q => ?_, fun x hx => ?_⟩
      · rw [out 6 i (by unfold CPrestores; omega)]; exact v1
      · rw [out (6 + 2) i (by unfold CPrestores; omega)]; exact v2
      · rw [out (6 + 1) _ (by unfold CPrestores; omega), out (6 + 1) _ (by unfold CPrestores; omega)]; exact v3 q
      · have hx9 : x < 40 := Nat.lt_of_lt_of_le hx (hS _ (by omega))
        rw [out (6 + 3) _ (by unfold CPrestores; omega), out (6 + 4) _ (by unfold CPrestores; omega), out (6 + 5) _ (by unfold CPrestores; omega), out (6 + 5) _ (by unfold CPrestores; omega)]; exact v4 x hx
  · show MVs m' 12 i (upn st k (st (k + 3)) (i + 3))
    rw [upn_n _ _ (by omega)]
    exact (vk i hi).eqs (fun j x h1 h2 => out j x (by unfold CPrestores; omega))
theorem SOK.len {st : Nat → SA} (h : ∀ k, k < 6 → SOK (st k)) : ∀ k, k < 6 → (st k).2.2.2.length ≤ 40 := fun k hk => (h k hk).2.2.1
theorem SOK.cp {st : Nat → SA} (h : ∀ k, k < 6 → SOK (st k)) (sc : Int32) (a b n : Nat) (hab : a + n ≤ 6 ∧ b + n ≤ 6) : ∀ k, k < 6 → SOK (copyN sc a b n st k) := by
  intro k hk
  unfold copyN
  split
  · exact h _ (by omega)
  · exact h k hk
/-- the stores of a scope are kept -/
theorem m_runsL {i : Nat} {ts : List TX} {st : Nat → SA} (hi : i < ts.length) (hn : ts.length ≤ 60) (hw : ¬ (txAt ts i).2.2.1 = 0) (hS : ∀ k, k < 6 → SOK (st k)) : ∀ (n k : Nat) (m : MS), k ≤ 3 → 3 < n + k → MVT m (ts, copyN (txAt ts i).2.1 0 3 k st) → ∃ m', x_X7_runs_L1 (nI i) n (nI k) m = some m' ∧ MVT m' (ts, copyN (txAt ts i).2.1 0 3 3 st) ∧ FM m m' := by
  intro n
  induction n with
  | zero => intro k m h1 h2; omega
  | succ n ih =>
    intro k m h1 h2 V
    rw [x_X7_runs_L1]
    have z := kx_ge (n := k) (d := 3) (D := 3) rfl (by omega) (by omega)
    by_cases hk : k < 3
    · have hr : vR (nI i) 60 := nI_in (by omega) (by omega)
      have x := V.1.2 i hi
      rw [if_neg (fun q => by have := z.mp q; omega)]
      simp only [if_pos hr, nI_clamp (show i < 2 ^ 31 by omega)]
      rw [if_neg (by rw [x.2.2.1]; exact hw), x.2.1]
      by_cases hb : inS (txAt ts i).2.1 (nI k)
      · rw [if_pos hb]
        have hs := SOK.cp hS (txAt ts i).2.1 0 3 k (by omega)
        obtain ⟨m1, e1, g1, a1⟩ := m_copies hk m (by rw [(V.2.1 k hk).1]; exact (hs k (by omega)).1.1)
        have V1 := V.keep hk (SOK.len hs) g1 a1
        rw [e1, bd_some, bd_some, nI_1]
        have e : upn (copyN (txAt ts i).2.1 0 3 k st) (k + 3) (copyN (txAt ts i).2.1 0 3 k st k) = copyN (txAt ts i).2.1 0 3 (k + 1) st := by
          rw [copyN_i hb (by omega), Nat.zero_add, Nat.add_comm 3 k]
        rw [e] at V1
        obtain ⟨m2, e2, V2, F2⟩ := ih (k + 1) m1 (by omega) (by omega) V1
        refine ⟨m2, e2, V2, FM.tr ⟨fun j _ => g1 j, fun j x hj => ?_⟩ F2⟩
        rw [a1, if_neg (by unfold CPcopies; omega)]
      · rw [if_neg hb, bd_some, nI_1]
        rw [← copyN_o hb] at V
        exact ih (k + 1) m (by omega) (by omega) V
    · have hk3 : k = 3 := by omega
      subst hk3
      exact ⟨m, by rw [if_pos (z.mpr (Nat.le_refl 3))], V, FM.rf⟩
theorem setP_len (ts : List TX) (i : Nat) (p : Int32) : (setP ts i p).length = ts.length := List.length_set
theorem setP_s {ts : List TX} {i : Nat} (p : Int32) (h : i < ts.length) : txAt (setP ts i p) i = ((txAt ts i).1, (txAt ts i).2.1, (txAt ts i).2.2.1, p) := by
  unfold setP
  conv => lhs; unfold txAt
  rw [List.getD_eq_getElem?_getD, List.getElem?_set_self h]; rfl
theorem setP_n {ts : List TX} {i j : Nat} (p : Int32) (h : j ≠ i) : txAt (setP ts i p) j = txAt ts j := by
  unfold setP txAt
  rw [List.getD_eq_getElem?_getD, List.getElem?_set_ne (Ne.symm h), ← List.getD_eq_getElem?_getD]
theorem MVT.setP {m : MS} {T : TS} {i : Nat} (p : Int32) (V : MVT m T) (hi : i < T.1.length) : MVT (sa m 22 i p) (setP T.1 i p, T.2) := by
  obtain ⟨vx, vl, vk⟩ := V
  refine ⟨⟨by rw [setP_len]; exact vx.1, fun j hj => ?_⟩, fun k hk => (vl k hk).eqs (fun j x h1 h2 => by rw [ga_sa2, if_neg (by omega)]), fun k hk => (vk k hk).eqs (fun j x h1 h2 => by rw [ga_sa2, if_neg (by omega)])⟩
  rw [setP_len] at hj
  have x := vx.2 j hj
  simp only [ga_sa2]
  by_cases hji : j = i
  · subst hji
    rw [setP_s p hj]
    simp [x]
  · rw [setP_n p hji]
    simp [hji, x]
theorem FM.p {m : MS} {i : Nat} {v : Int32} : FM m (sa m 22 i v) := ⟨fun _ _ => rfl, fun j x hj => by rw [ga_sa2, if_neg (by omega)]⟩
theorem MVT.c0 {m : MS} {ts : List TX} {st : Nat → SA} (sc : Int32) (a b : Nat) (V : MVT m (ts, st)) : MVT m (ts, copyN sc a b 0 st) := by rw [copyN_0]; exact V
/-- a transaction runs -/
theorem m_runs {i : Nat} {T : TS} {m : MS} (hi : i < T.1.length) (hT : TSK T) (V : MVT m T) : ∃ m', x_X7_runs (nI i) m = some m' ∧ MVT m' (runA i T) ∧ FM m m' := by
  obtain ⟨⟨hn, hx⟩, hS⟩ := hT
  unfold x_X7_runs
  have hr : vR (nI i) 60 := nI_in (by omega) (by omega)
  simp only [if_pos hr, bs_eq, nI_clamp (show i < 2 ^ 31 by omega)]
  have V1 := V.setP 1 hi
  by_cases hw : (txAt T.1 i).2.2.1 = 0
  · have e : x_X7_runs_L1 (nI i) FU 0 (sa m 22 i 1) = some (sa m 22 i 1) := by
      rw [show FU = 999 + 1 from rfl, x_X7_runs_L1, if_neg (by decide)]
      simp only [if_pos hr, nI_clamp (show i < 2 ^ 31 by omega)]
      have x := V1.1.2 i (by rw [setP_len]; exact hi)
      rw [if_pos (by rw [x.2.2.1, setP_s 1 hi]; exact hw)]
    refine ⟨_, by rw [e, bd_some], ?_, FM.p⟩
    unfold runA
    rw [if_pos hw]
    exact V1
  · have hsc : (txAt (setP T.1 i 1) i).2.1 = (txAt T.1 i).2.1 := by rw [setP_s 1 hi]
    have hi' : i < (setP T.1 i 1).length := by rw [setP_len]; exact hi
    obtain ⟨m', e, V2, F⟩ := m_runsL (ts := setP T.1 i 1) (st := T.2) hi' (by rw [setP_len]; exact hn) (by rw [setP_s 1 hi]; exact hw) hS FU 0 (sa m 22 i 1) (by omega) (by show 3 < 1000 + 0; omega) (V1.c0 _ 0 3)
    rw [show nI 0 = 0 from nI_0] at e
    refine ⟨m', by rw [e, bd_some], ?_, FM.p.tr F⟩
    unfold runA
    rw [if_neg hw, copyN_3, ← hsc]
    exact V2
/-- the stores of a scope are restored -/
theorem m_abortsL {i : Nat} {ts : List TX} {st : Nat → SA} (hi : i < ts.length) (hn : ts.length ≤ 60) (hp : (txAt ts i).2.2.2 = 1) (hw : ¬ (txAt ts i).2.2.1 = 0) (hS : ∀ k, k < 6 → SOK (st k)) : ∀ (n k : Nat) (m : MS), k ≤ 3 → 3 < n + k → MVT m (ts, copyN (txAt ts i).2.1 3 0 k st) → ∃ m', x_X7_aborts_L1 (nI i) n (nI k) m = some m' ∧ MVT m' (ts, copyN (txAt ts i).2.1 3 0 3 st) ∧ FM m m' := by
  intro n
  induction n with
  | zero => intro k m h1 h2; omega
  | succ n ih =>
    intro k m h1 h2 V
    rw [x_X7_aborts_L1]
    have z := kx_ge (n := k) (d := 3) (D := 3) rfl (by omega) (by omega)
    by_cases hk : k < 3
    · have hr : vR (nI i) 60 := nI_in (by omega) (by omega)
      have x := V.1.2 i hi
      rw [if_neg (fun q => by have := z.mp q; omega)]
      simp only [if_pos hr, nI_clamp (show i < 2 ^ 31 by omega)]
      rw [if_pos (by rw [x.2.2.2]; exact hp), if_neg (by rw [x.2.2.1]; exact hw), x.2.1]
      by_cases hb : inS (txAt ts i).2.1 (nI k)
      · rw [if_pos hb]
        have hs := SOK.cp hS (txAt ts i).2.1 3 0 k (by omega)
        obtain ⟨m1, e1, g1, a1⟩ := m_restores hk m (by rw [(V.2.2 k hk).1]; exact (hs (k + 3) (by omega)).1.1)
        have V1 := V.rest hk (SOK.len hs) g1 a1
        rw [e1, bd_some, bd_some, nI_1]
        have e : upn (copyN (txAt ts i).2.1 3 0 k st) k (copyN (txAt ts i).2.1 3 0 k st (k + 3)) = copyN (txAt ts i).2.1 3 0 (k + 1) st := by
          rw [copyN_i hb (by omega), Nat.zero_add, Nat.add_comm 3 k]
        rw [e] at V1
        obtain ⟨m2, e2, V2, F2⟩ := ih (k + 1) m1 (by omega) (by omega) V1
        refine ⟨m2, e2, V2, FM.tr ⟨fun j _ => g1 j, fun j x hj => ?_⟩ F2⟩
        rw [a1, if_neg (by unfold CPrestores; omega)]
      · rw [if_neg hb, bd_some, nI_1]
        rw [← copyN_o hb] at V
        exact ih (k + 1) m (by omega) (by omega) V
    · have hk3 : k = 3 := by omega
      subst hk3
      exact ⟨m, by rw [if_pos (z.mpr (Nat.le_refl 3))], V, FM.rf⟩
/-- a transaction is given up; the upgrade's tab is closed by it -/
theorem m_aborts {i : Nat} {T : TS} {m : MS} (hi : i < T.1.length) (hT : TSK T) (V : MVT m T) : ∃ m', MVT m' (giveA i T) ∧ FM m m' ∧ x_X7_aborts (nI i) m = some (if nI i = gs m 5 then sa (ss m' 5 (-1)) 1 (txAt T.1 i).1 0 else m') := by
  obtain ⟨⟨hn, hx⟩, hS⟩ := hT
  unfold x_X7_aborts
  have hr : vR (nI i) 60 := nI_in (by omega) (by omega)
  have key : ∃ m1, x_X7_aborts_L1 (nI i) FU 0 m = some m1 ∧ MVT (sa m1 22 i 3) (giveA i T) ∧ FM m m1 ∧ ga m1 19 i = nI (txAt T.1 i).1 := by
    have x0 := V.1.2 i hi
    by_cases hq : (txAt T.1 i).2.2.2 = 1 ∧ ¬ (txAt T.1 i).2.2.1 = 0
    · obtain ⟨m', e, V2, F⟩ := m_abortsL (ts := T.1) (st := T.2) hi hn hq.1 hq.2 hS FU 0 m (by omega) (by show 3 < 1000 + 0; omega) (V.c0 _ 3 0)
      rw [show nI 0 = 0 from nI_0] at e
      refine ⟨m', e, ?_, F, (V2.1.2 i hi).1⟩
      unfold giveA
      rw [if_pos hq, copyN_3]
      exact V2.setP 3 hi
    · refine ⟨m, ?_, ?_, FM.rf, x0.1⟩
      · rw [show FU = 999 + 1 from rfl, x_X7_aborts_L1, if_neg (by decide)]
        simp only [if_pos hr, nI_clamp (show i < 2 ^ 31 by omega)]
        rw [x0.2.2.2]
        by_cases hp : (txAt T.1 i).2.2.2 = 1
        · rw [if_pos hp, if_pos (by rw [x0.2.2.1]; exact Decidable.byContradiction fun z => hq ⟨hp, z⟩)]
        · rw [if_neg hp]
      · unfold giveA
        rw [if_neg hq]
        exact V.setP 3 hi
  obtain ⟨m1, e1, V1, F1, h19⟩ := key
  refine ⟨sa m1 22 i 3, V1, F1.tr FM.p, ?_⟩
  rw [e1, bd_some]
  simp only [if_pos hr, bs_eq, nI_clamp (show i < 2 ^ 31 by omega)]
  have e5 : gs (sa m1 22 i 3) 5 = gs m 5 := F1.1 5 (by omega)
  rw [e5]
  by_cases hu : nI i = gs m 5
  · rw [if_pos hu, if_pos hu]
    have e19 : ga (ss (sa m1 22 i 3) 5 (-1)) 19 i = nI (txAt T.1 i).1 := by rw [ga_ss, ga_sa2, if_neg (by omega)]; exact h19
    have h4 := (hx _ (txAt_mem hi)).1
    rw [e19]
    simp only [if_pos (show vR (nI (txAt T.1 i).1) 4 from nI_in h4 (by omega)), bs_eq, bd_some, nI_clamp (show (txAt T.1 i).1 < 2 ^ 31 by omega)]
  · rw [if_neg hu, if_neg hu, bd_some]
theorem m_isAlive {i : Nat} {ts : List TX} {m : MS} (hi : i < ts.length) (hn : ts.length ≤ 60) (V : MVx m ts) : x_X7_isAlive (nI i) m = some (if pendT (txAt ts i) then 1 else 0) := by
  unfold x_X7_isAlive
  have hr : vR (nI i) 60 := nI_in (by omega) (by omega)
  simp only [if_pos hr, nI_clamp (show i < 2 ^ 31 by omega)]
  rw [(V.2 i hi).2.2.2]
  by_cases h0 : (txAt ts i).2.2.2 = 0
  · rw [if_pos h0, l0_inl, bd_some, if_pos isB1, if_pos (show pendT (txAt ts i) from Or.inl h0)]
  · by_cases h1 : (txAt ts i).2.2.2 = 1
    · rw [if_neg h0, if_pos h1, l0_inl, bd_some, if_pos isB1, if_pos (show pendT (txAt ts i) from Or.inr h1)]
    · rw [if_neg h0, if_neg h1, l0_inr, bd_some, if_pos isB0, if_neg (show ¬ pendT (txAt ts i) from fun q => q.elim h0 h1)]
theorem exR {P : Nat → Prop} (j : Nat) : (∃ q ∈ List.range (j + 1), P q) ↔ (∃ q ∈ List.range j, P q) ∨ P j := by
  constructor
  · rintro ⟨q, hq, h⟩
    rw [List.mem_range] at hq
    by_cases e : q = j
    · subst e; exact Or.inr h
    · exact Or.inl ⟨q, List.mem_range.mpr (by omega), h⟩
  · rintro (⟨q, hq, h⟩ | h)
    · exact ⟨q, List.mem_range.mpr (by have := List.mem_range.mp hq; omega), h⟩
    · exact ⟨j, List.mem_range.mpr (by omega), h⟩
theorem m_mustWaitL {i : Nat} {ts : List TX} {m : MS} (hi : i < ts.length) (hn : ts.length ≤ 60) (V : MVx m ts) : ∀ (n j : Nat), j ≤ i → i < n + j → x_X7_mustWait_L1 (nI i) m n (nI j) (if ∃ q ∈ List.range j, pendT (txAt ts q) ∧ cflT (txAt ts q) (txAt ts i) then 1 else 0) = some (if mwA ts i then 1 else 0) := by
  intro n
  induction n with
  | zero => intro j h1 h2; omega
  | succ n ih =>
    intro j h1 h2
    rw [x_X7_mustWait_L1]
    by_cases hj : j < i
    · have hr : vR (nI i) 60 := nI_in (by omega) (by omega)
      have hrj : vR (nI j) 60 := nI_in (by omega) (by omega)
      have xi := V.2 i hi
      have xj := V.2 j (by omega)
      rw [if_neg (nI_ge hj (by omega)), nI_1, m_isAlive (show j < ts.length by omega) hn V]
      simp only [bd_some, if_pos hr, if_pos hrj, nI_clamp (show i < 2 ^ 31 by omega), nI_clamp (show j < 2 ^ 31 by omega), xi, xj]
      rw [← ih (j + 1) (by omega) (by omega)]
      have e := exR (P := fun q => pendT (txAt ts q) ∧ cflT (txAt ts q) (txAt ts i)) j
      by_cases hQ : ∃ q ∈ List.range j, pendT (txAt ts q) ∧ cflT (txAt ts q) (txAt ts i)
      · rw [if_pos hQ, if_pos (e.mpr (Or.inl hQ)), if_neg (by decide), l0_inl, bd_some]
      · rw [if_neg hQ, if_pos rfl]
        by_cases hp : pendT (txAt ts j)
        · rw [if_pos hp, if_neg (by decide)]
          by_cases c1 : (txAt ts j).2.1 &&& (txAt ts i).2.1 = 0
          · rw [if_pos c1, l0_inl, l0_inr, bd_some, if_neg (fun q => (e.mp q).elim hQ (fun q => q.2.1 c1))]
          · by_cases c2 : (txAt ts j).2.2.1 = 0
            · by_cases c3 : (txAt ts i).2.2.1 = 0
              · rw [if_neg c1, if_pos c2, if_pos c3, l0_inl, l0_inr, bd_some, if_neg (fun q => (e.mp q).elim hQ (fun q => q.2.2.elim (fun z => z c2) (fun z => z c3)))]
              · rw [if_neg c1, if_pos c2, if_neg c3, l0_inr, l0_inl, bd_some, if_pos (e.mpr (Or.inr ⟨hp, c1, Or.inr c3⟩))]
            · rw [if_neg c1, if_neg c2, l0_inr, l0_inl, bd_some, if_pos (e.mpr (Or.inr ⟨hp, c1, Or.inl c2⟩))]
        · rw [if_neg hp, if_pos rfl, l0_inl, l0_inr, bd_some, if_neg (fun q => (e.mp q).elim hQ (fun q => hp q.1))]
    · have : j = i := by omega
      subst this
      rw [if_pos (nI_le (Nat.le_refl _) (by omega))]
theorem m_mustWait {i : Nat} {ts : List TX} {m : MS} (hi : i < ts.length) (hn : ts.length ≤ 60) (V : MVx m ts) : x_X7_mustWait (nI i) m = some (if mwA ts i then 1 else 0) := by
  unfold x_X7_mustWait
  have h := m_mustWaitL hi hn V FU 0 (Nat.zero_le _) (by show i < 1000 + 0; omega)
  rw [if_neg (by simp), nI_0] at h
  rw [h, bd_some]
  by_cases q : mwA ts i
  · rw [if_pos q, if_pos isB1]
  · rw [if_neg q, if_pos isB0]
/-! what stays of the abstract transactions and stores -/
theorem TOK.setP {ts : List TX} (h : TOK ts) {i : Nat} (p : Int32) (hi : i < ts.length) : TOK (setP ts i p) := by
  refine ⟨by rw [setP_len]; exact h.1, fun t ht => ?_⟩
  rcases List.mem_or_eq_of_mem_set ht with q | q
  · exact h.2 t q
  · have h9 := h.2 _ (txAt_mem hi)
    rw [q]; exact ⟨h9.1, h9.2⟩
theorem TSK.run {T : TS} (h : TSK T) {i : Nat} (hi : i < T.1.length) : TSK (runA i T) := by
  refine ⟨h.1.setP 1 hi, ?_⟩
  show ∀ k, k < 6 → SOK ((if (txAt T.1 i).2.2.1 = 0 then T.2 else copyA (txAt T.1 i).2.1 0 3 T.2) k)
  split
  · exact h.2
  · exact SOK.cp h.2 _ 0 3 3 (by omega)
theorem TSK.give {T : TS} (h : TSK T) {i : Nat} (hi : i < T.1.length) : TSK (giveA i T) := by
  refine ⟨h.1.setP 3 hi, ?_⟩
  show ∀ k, k < 6 → SOK ((if (txAt T.1 i).2.2.2 = 1 ∧ ¬ (txAt T.1 i).2.2.1 = 0 then copyA (txAt T.1 i).2.1 3 0 T.2 else T.2) k)
  split
  · exact SOK.cp h.2 _ 3 0 3 (by omega)
  · exact h.2
theorem run_len (i : Nat) (T : TS) : (runA i T).1.length = T.1.length := setP_len _ _ _
theorem give_len (i : Nat) (T : TS) : (giveA i T).1.length = T.1.length := setP_len _ _ _
theorem go_len : ∀ (n i c : Nat) (T : TS), (goA n i c T).2.1.length = T.1.length := by
  intro n
  induction n with
  | zero => intro i c T; rfl
  | succ n ih =>
    intro i c T
    rw [goA]
    split
    · rw [ih, run_len]
    · exact ih _ _ _
theorem TSK.go : ∀ (n i c : Nat) (T : TS), i + n ≤ T.1.length → TSK T → TSK (goA n i c T).2 := by
  intro n
  induction n with
  | zero => intro i c T _ h; exact h
  | succ n ih =>
    intro i c T hn h
    rw [goA]
    split
    · exact ih _ _ _ (by rw [run_len]; omega) (h.run (by omega))
    · exact ih _ _ _ (by omega) h
theorem m_goesL : ∀ (n r i c : Nat) (T : TS) (m : MS), T.1.length = i + r → r < n → c ≤ i → TSK T → MVT m T → ∃ m', x_X7_goesOn_L1 n (nI i) (nI c) m = some (nI (goA r i c T).1, m') ∧ MVT m' (goA r i c T).2 ∧ FM m m' := by
  intro n
  induction n with
  | zero => intro r i c T m h1 h2; omega
  | succ n ih =>
    intro r i c T m h1 h2 h3 hT V
    rw [x_X7_goesOn_L1, V.1.1]
    have hn := hT.1.1
    cases r with
    | zero =>
      exact ⟨m, by rw [if_pos (nI_le (by omega) (by omega))]; rfl, V, FM.rf⟩
    | succ r =>
      have hi : i < T.1.length := by omega
      have hr : vR (nI i) 60 := nI_in (by omega) (by omega)
      rw [if_neg (nI_ge hi (by omega))]
      simp only [if_pos hr, nI_clamp (show i < 2 ^ 31 by omega)]
      rw [(V.1.2 i hi).2.2.2, m_mustWait hi hn V.1, goA]
      by_cases hp : (txAt T.1 i).2.2.2 = 0
      · by_cases hm : mwA T.1 i
        · rw [if_pos hp, if_pos hm, bd_some, if_neg (by decide), b2_some, nI_1, if_neg (show ¬ ((txAt T.1 i).2.2.2 = 0 ∧ ¬ mwA T.1 i) from fun q => q.2 hm)]
          exact ih r (i + 1) c T m (by omega) (by omega) (by omega) hT V
        · obtain ⟨m1, e1, V1, F1⟩ := m_runs hi hT V
          rw [if_pos hp, if_neg hm, bd_some, if_pos rfl, e1, bd_some, b2_some, nI_1, nI_1, if_pos (show (txAt T.1 i).2.2.2 = 0 ∧ ¬ mwA T.1 i from ⟨hp, hm⟩)]
          obtain ⟨m2, e2, V2, F2⟩ := ih r (i + 1) (c + 1) (runA i T) m1 (by rw [run_len]; omega) (by omega) (by omega) (hT.run hi) V1
          exact ⟨m2, e2, V2, F1.tr F2⟩
      · rw [if_neg hp, b2_some, nI_1, if_neg (show ¬ ((txAt T.1 i).2.2.2 = 0 ∧ ¬ mwA T.1 i) from fun q => hp q.1)]
        exact ih r (i + 1) c T m (by omega) (by omega) (by omega) hT V
theorem m_goesOn {T : TS} {m : MS} (hT : TSK T) (V : MVT m T) : ∃ m', x_X7_goesOn m = some (nI (goesA T).1, m') ∧ MVT m' (goesA T).2 ∧ FM m m' := by
  obtain ⟨m', e, V', F⟩ := m_goesL FU T.1.length 0 0 T m (by omega) (by have := hT.1.1; show _ < 1000; omega) (Nat.le_refl _) hT V
  rw [nI_0] at e
  exact ⟨m', by unfold x_X7_goesOn; rw [e, b2_some]; rfl, V', F⟩
theorem m_adds {m : MS} {T : TS} (hn : T.1.length < 60) (V : MVT m T) (t : Nat) (sc u : Int32) (hu : isB u) : ∃ m', x_X7_adds (nI t) sc u m = some (nI T.1.length, m') ∧ MVT m' (T.1 ++ [(t, sc, u, 0)], T.2) ∧ FM m m' ∧ (∀ j x, j < 19 → ga m' j x = ga m j x) := by
  unfold x_X7_adds
  have h18 := V.1.1
  have hr : vR (nI T.1.length) 60 := nI_in hn (by omega)
  simp only [gs_sa, h18, if_pos hr, if_pos hu, bs_eq, nI_clamp (show T.1.length < 2 ^ 31 by omega), nI_1, gs_ss, if_true]
  refine ⟨_, by rw [nI_pred], ⟨⟨?_, fun i hi => ?_⟩, fun k hk => (V.2.1 k hk).eqs (fun j x h1 h2 => ?_), fun k hk => (V.2.2 k hk).eqs (fun j x h1 h2 => ?_)⟩, ⟨fun j hj => ?_, fun j x hj => ?_⟩, fun j x hj => ?_⟩
  · rw [gs_ss, if_pos rfl, List.length_append]; rfl
  · rw [List.length_append] at hi
    have hi2 : i < T.1.length + 1 := hi
    simp only [ga_ss, ga_sa2]
    by_cases e : i = T.1.length
    · have ht : txAt (T.1 ++ [(t, sc, u, 0)]) i = (t, sc, u, 0) := by
        unfold txAt
        rw [List.getD_eq_getElem?_getD, e, List.getElem?_append_right (Nat.le_refl _), Nat.sub_self]; rfl
      rw [ht]
      simp [e]
    · have ht : txAt (T.1 ++ [(t, sc, u, 0)]) i = txAt T.1 i := by
        unfold txAt
        rw [List.getD_eq_getElem?_getD, List.getElem?_append_left (by omega), ← List.getD_eq_getElem?_getD]
      rw [ht]
      have x := V.1.2 i (by omega)
      simp [e, x]
  · simp only [ga_ss, ga_sa2]
    rw [if_neg (by omega), if_neg (by omega), if_neg (by omega), if_neg (by omega)]
  · simp only [ga_ss, ga_sa2]
    rw [if_neg (by omega), if_neg (by omega), if_neg (by omega), if_neg (by omega)]
  · rw [gs_ss, if_neg hj]; rfl
  · simp only [ga_ss, ga_sa2]
    rw [if_neg (by omega), if_neg (by omega), if_neg (by omega), if_neg (by omega)]
  · simp only [ga_ss, ga_sa2]
    rw [if_neg (by omega), if_neg (by omega), if_neg (by omega), if_neg (by omega)]

