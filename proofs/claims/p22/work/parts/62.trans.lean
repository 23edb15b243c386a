/-! ===== PURE: the class's transactions run, wait and are given up ===== -/
def ARR (o a : Nat) : Nat := if a = 0 then o + 2 else o + 3
theorem SV.arr {o a : Nat} {w : CS} {R : Nat → List Nat} (S : SV o w R) (h : a = 0 ∨ a = 3) : wJ w 0 (ARR o a) = 10 ∧ wJ w 1 (ARR o a) = 3 ∧ ∀ i, i < 3 → wB w (ARR o a) i = o + 10 + 3 * (a + i) := by
  unfold ARR
  rcases h with q | q <;> subst q
  · rw [if_pos rfl]
    exact ⟨S.sa.1, S.sa.2.1, fun i hi => (S.sa.2.2 i hi).trans (by omega)⟩
  · rw [if_neg (by omega)]
    exact ⟨S.ca.1, S.ca.2.1, fun i hi => (S.ca.2.2 i hi).trans (by omega)⟩
theorem SV.tkind {o i : Nat} {w : CS} {R : Nat → List Nat} (S : SV o w R) (hi : i < (R 6).length) : wJ w 0 ((R 6).getD i 0) = 2 := (S.tk _ (getD_mem hi)).1
theorem s_copyL {o q a b i c s : Nat} {g : Int32 × Int32 × Int32} {B : TQ} {ts : List TX} {st : Nat → SA} {cs : List CU} (hab : a = 0 ∧ b = 3 ∨ a = 3 ∧ b = 0) (hi : i < ts.length) (hS : ∀ k, k < 6 → SOK (st k)) : ∀ (n k : Nat) (w : CS) (R : Nat → List Nat), k ≤ 3 → 3 < n + k → VP o q w R (g, B, (ts, copyN (txAt ts i).2.1 a b k st)) cs → Bd o w c s →
    ∃ w' R', x_X6_copyScope_L1 ((R 6).getD i 0) (ARR o a) (ARR o b) n (nI k) w = some w' ∧ VP o q w' R' (g, B, (ts, copyN (txAt ts i).2.1 a b 3 st)) cs ∧ Bd o w' c s ∧ R' 6 = R 6 ∧ R' 7 = R 7 := by
  intro n
  induction n with
  | zero => intro k w R h1 h2; omega
  | succ n ih =>
    intro k w R h1 h2 V Bw
    have S := V.1
    have aa := S.arr (a := a) (by omega)
    have bb := S.arr (a := b) (by omega)
    rw [x_X6_copyScope_L1, if_pos aa.1, aa.2.1]
    by_cases hk : k < 3
    · have hx := S.tkind (i := i) (by rw [V.2.2.2.2.1.len]; exact hi)
      have esc : wI w 82 ((R 6).getD i 0) = (txAt ts i).2.1 := by rw [(V.2.2.2.2.1.at hi).2]; rfl
      have hr : vR (nI k) 3 := nI_in hk (by omega)
      rw [if_neg (nI_ge hk (by omega)), if_pos bb.1, bb.2.1, if_neg (nI_ge hk (by omega)), if_pos hx, s_hasInScope hx, bd_some, esc]
      by_cases hb : inS (txAt ts i).2.1 (nI k)
      · have hs := SOK.cp hS (txAt ts i).2.1 a b k (by omega)
        have hbk := (S.st (b + k) (by omega)).1
        rw [if_pos hb, if_neg q10]
        simp only [if_pos hr, nI_clamp (show k < 2 ^ 31 by omega), aa.2.2 k hk, bb.2.2 k hk]
        obtain ⟨w1, R1, e1, V1, B1, r6, r7⟩ := s_takeOver V (k := b + k) (j := a + k) (by omega) (by omega) (by omega) (hs (a + k) (by omega)).1.1 Bw
        rw [if_pos hbk, e1, bd_some, bd_some, nI_1, ← r6]
        have e : upn (copyN (txAt ts i).2.1 a b k st) (b + k) (copyN (txAt ts i).2.1 a b k st (a + k)) = copyN (txAt ts i).2.1 a b (k + 1) st := (copyN_i hb (by omega)).symm
        obtain ⟨w2, R2, e2, V2, B2, s6, s7⟩ := ih (k + 1) w1 R1 (by omega) (by omega) (V1.to (by
          show (g, B, (ts, upn (copyN (txAt ts i).2.1 a b k st) (b + k) (copyN (txAt ts i).2.1 a b k st (a + k)))) = _
          rw [e])) B1
        exact ⟨w2, R2, e2, V2, B2, s6, s7.trans r7⟩
      · rw [if_neg hb, if_pos q00, bd_some, nI_1]
        rw [← copyN_o hb] at V
        exact ih (k + 1) w R (by omega) (by omega) V Bw
    · have hk3 : k = 3 := by omega
      subst hk3
      exact ⟨w, R, by rw [if_pos (nI_le (by omega) (by omega))], V, Bw, rfl, rfl⟩
theorem s_run {o q i c s : Nat} {w : CS} {R : Nat → List Nat} {a : PA} {cs : List CU} (V : VP o q w R a cs) (hT : TSK a.2.2) (hi : i < a.2.2.1.length) (B : Bd o w c s) :
    ∃ w' R', x_X6_run o ((R 6).getD i 0) w = some w' ∧ VP o q w' R' (a.1, a.2.1, runA i a.2.2) cs ∧ Bd o w' c s ∧ R' 6 = R 6 ∧ R' 7 = R 7 := by
  have S := V.1
  have hx := S.tkind (i := i) (by rw [V.2.2.2.2.1.len]; exact hi)
  have V1 := V.phase (v := 1) hi
  have hw : wI (sI w 83 ((R 6).getD i 0) 1) 81 ((R 6).getD i 0) = (txAt a.2.2.1 i).2.2.1 := by
    rw [wI_off (p := 81) (Or.inl (by omega)), (V.2.2.2.2.1.at hi).2]; rfl
  unfold x_X6_run
  rw [if_pos hx, bs_eq, if_pos (show wJ (sI w 83 ((R 6).getD i 0) 1) 0 ((R 6).getD i 0) = 2 from hx), hw]
  by_cases h0 : (txAt a.2.2.1 i).2.2.1 = 0
  · rw [if_pos h0, bd_some]
    refine ⟨_, R, rfl, V1.to ?_, B, rfl, rfl⟩
    unfold runA
    rw [if_pos h0]
  · have hi' : i < (setP a.2.2.1 i 1).length := by rw [setP_len]; exact hi
    have hsc : (txAt (setP a.2.2.1 i 1) i).2.1 = (txAt a.2.2.1 i).2.1 := by rw [setP_s 1 hi]
    have B1 : Bd o (sI w 83 ((R 6).getD i 0) 1) c s := B
    obtain ⟨w2, R2, e2, V2, B2, r6, r7⟩ := s_copyL (a := 0) (b := 3) (Or.inl ⟨rfl, rfl⟩) hi' hT.2 FU 0 (sI w 83 ((R 6).getD i 0) 1) R (by omega) (by show 3 < 1000 + 0; omega) (V1.to (by rw [copyN_0])) B1
    rw [nI_0] at e2
    have e9 : x_X6_copyScope ((R 6).getD i 0) (wJ (sI w 83 ((R 6).getD i 0) 1) 241 o) (wJ (sI w 83 ((R 6).getD i 0) 1) 242 o) (sI w 83 ((R 6).getD i 0) 1) = some w2 := by
      unfold x_X6_copyScope
      rw [show wJ (sI w 83 ((R 6).getD i 0) 1) 241 o = ARR o 0 from S.fo.2.1, show wJ (sI w 83 ((R 6).getD i 0) 1) 242 o = ARR o 3 from S.fo.2.2.1, e2, bd_some]
    rw [if_neg h0, if_pos (show wJ (sI w 83 ((R 6).getD i 0) 1) 0 o = 6 from S.ko), e9, bd_some, bd_some]
    refine ⟨w2, R2, rfl, V2.to ?_, B2, r6, r7⟩
    unfold runA
    rw [if_neg h0, hsc, copyN_3]
theorem s_giveUp {o q i c s : Nat} {w : CS} {R : Nat → List Nat} {a : PA} {cs : List CU} (V : VP o q w R a cs) (hT : TSK a.2.2) (hi : i < a.2.2.1.length) (B : Bd o w c s) :
    ∃ w' R', x_X6_giveUp o ((R 6).getD i 0) w = some w' ∧ VP o q w' R' (a.1, a.2.1, giveA i a.2.2) cs ∧ Bd o w' c s ∧ R' 6 = R 6 ∧ R' 7 = R 7 := by
  have S := V.1
  have hx := S.tkind (i := i) (by rw [V.2.2.2.2.1.len]; exact hi)
  have hw : wI w 81 ((R 6).getD i 0) = (txAt a.2.2.1 i).2.2.1 := by rw [(V.2.2.2.2.1.at hi).2]; rfl
  have hp : wI w 83 ((R 6).getD i 0) = (txAt a.2.2.1 i).2.2.2 := by rw [(V.2.2.2.2.1.at hi).2]; rfl
  unfold x_X6_giveUp
  rw [if_pos hx, hw, hp]
  by_cases h0 : (txAt a.2.2.1 i).2.2.2 = 1 ∧ ¬ (txAt a.2.2.1 i).2.2.1 = 0
  · obtain ⟨w2, R2, e2, V2, B2, r6, r7⟩ := s_copyL (a := 3) (b := 0) (Or.inr ⟨rfl, rfl⟩) hi hT.2 FU 0 w R (by omega) (by show 3 < 1000 + 0; omega) (V.to (by rw [copyN_0])) B
    rw [nI_0] at e2
    have e9 : x_X6_copyScope ((R 6).getD i 0) (wJ w 242 o) (wJ w 241 o) w = some w2 := by
      unfold x_X6_copyScope
      rw [show wJ w 241 o = ARR o 0 from S.fo.2.1, show wJ w 242 o = ARR o 3 from S.fo.2.2.1, e2, bd_some]
    have hx2 : wJ w2 0 ((R 6).getD i 0) = 2 := by rw [← r6]; exact V2.1.tkind (by rw [V2.2.2.2.2.1.len]; exact hi)
    have V3 := V2.phase (v := 3) hi
    rw [r6] at V3
    rw [if_pos h0.1, if_neg h0.2, if_pos S.ko, e9, bd_some, bd_some, if_pos hx2, bs_eq]
    refine ⟨_, R2, rfl, V3.to ?_, B2, r6, r7⟩
    unfold giveA
    rw [if_pos h0, copyN_3]
  · have V3 := V.phase (v := 3) hi
    have e : (if (txAt a.2.2.1 i).2.2.2 = 1 then if (txAt a.2.2.1 i).2.2.1 = 0 then some w else if wJ w 0 o = 6 then bd (x_X6_copyScope ((R 6).getD i 0) (wJ w 242 o) (wJ w 241 o) w) (fun w6 => some w6) else none else some w) = some w := by
      by_cases h1 : (txAt a.2.2.1 i).2.2.2 = 1
      · rw [if_pos h1, if_pos (Decidable.byContradiction fun z => h0 ⟨h1, z⟩)]
      · rw [if_neg h1]
    rw [e, bd_some, if_pos hx, bs_eq]
    refine ⟨_, R, rfl, V3.to ?_, B, rfl, rfl⟩
    unfold giveA
    rw [if_neg h0]
theorem SV.tlist {o : Nat} {w : CS} {R : Nat → List Nat} (S : SV o w R) : wJ w 243 o = o + 4 ∧ wJ w 0 (o + 4) = 7 ∧ LOK w (o + 4) (R 6) := by
  have hL := S.ls 6 (by omega)
  rw [LL6] at hL
  exact ⟨S.fo.2.2.2.1, hL.1, hL⟩
theorem s_mustWaitL {o i : Nat} {w : CS} {R : Nat → List Nat} {ts : List TX} (S : SV o w R) (T : VT o w R ts) (hi : i < ts.length) : ∀ (n j : Nat), j ≤ i → i < n + j → x_X6_mustWait_L1 o ((R 6).getD i 0) w n (nI j) = some (if ∃ q ∈ List.range i, j ≤ q ∧ pendT (txAt ts q) ∧ cflT (txAt ts q) (txAt ts i) then .inr 1 else .inr 0) := by
  obtain ⟨t1, t2, t3⟩ := S.tlist
  have hl := T.len
  have h60 := S.tn.2
  intro n
  induction n with
  | zero => intro j h1 h2; omega
  | succ n ih =>
    intro j h1 h2
    have hj : j < (R 6).length := by omega
    have hx := S.tkind hj
    rw [x_X6_mustWait_L1, if_pos S.ko, t1, if_pos t2, p_size t3, bd_some, if_neg (nI_ge hj (by omega)), p_get t3 hj, bd_some, if_pos (Or.inr hx)]
    by_cases e : j = i
    · subst e
      rw [if_pos rfl, if_pos isB0, if_neg (fun ⟨q, hq, h, _⟩ => by have := List.mem_range.mp hq; omega)]
    · have hne : ¬ (R 6).getD j 0 = (R 6).getD i 0 := fun q => e (nodup_getD S.tn.1 hj (by omega) q)
      have hxi := S.tkind (i := i) (by omega)
      have ej := (T.at (show j < ts.length by omega)).2
      have ei := (T.at hi).2
      rw [if_neg hne, if_pos hx, s_isPending hx, bd_some, s_conflicts hx hxi, nI_1, ih (j + 1) (by omega) (by omega)]
      have hmem : j ∈ List.range i := List.mem_range.mpr (by omega)
      have hP : pendT (txAt ts j) ↔ pend w ((R 6).getD j 0) := by rw [ej]; exact Iff.rfl
      have hC : cflT (txAt ts j) (txAt ts i) ↔ cfl w ((R 6).getD j 0) ((R 6).getD i 0) := by rw [ej, ei]; exact Iff.rfl
      have hE : (∃ q ∈ List.range i, j ≤ q ∧ pendT (txAt ts q) ∧ cflT (txAt ts q) (txAt ts i)) ↔ (pendT (txAt ts j) ∧ cflT (txAt ts j) (txAt ts i)) ∨ ∃ q ∈ List.range i, j + 1 ≤ q ∧ pendT (txAt ts q) ∧ cflT (txAt ts q) (txAt ts i) := by
        constructor
        · rintro ⟨q, hq, h3, h4⟩
          by_cases z : q = j
          · subst z; exact Or.inl h4
          · exact Or.inr ⟨q, hq, by omega, h4⟩
        · rintro (h4 | ⟨q, hq, h3, h4⟩)
          · exact ⟨j, hmem, Nat.le_refl _, h4⟩
          · exact ⟨q, hq, by omega, h4⟩
      by_cases hp : pend w ((R 6).getD j 0)
      · by_cases hc : cfl w ((R 6).getD j 0) ((R 6).getD i 0)
        · rw [if_pos hp, if_neg q10, bd_some, if_pos hc, if_neg q10, if_pos isB1, l0_inr, if_pos (hE.mpr (Or.inl ⟨hP.mpr hp, hC.mpr hc⟩))]
        · rw [if_pos hp, if_neg q10, bd_some, if_neg hc, if_pos q00, l0_inl]
          by_cases z : ∃ q ∈ List.range i, j + 1 ≤ q ∧ pendT (txAt ts q) ∧ cflT (txAt ts q) (txAt ts i)
          · rw [if_pos z, if_pos (hE.mpr (Or.inr z))]
          · rw [if_neg z, if_neg (fun y => (hE.mp y).elim (fun y => hc (hC.mp y.2)) z)]
      · rw [if_neg hp, if_pos q00, l0_inl]
        by_cases z : ∃ q ∈ List.range i, j + 1 ≤ q ∧ pendT (txAt ts q) ∧ cflT (txAt ts q) (txAt ts i)
        · rw [if_pos z, if_pos (hE.mpr (Or.inr z))]
        · rw [if_neg z, if_neg (fun y => (hE.mp y).elim (fun y => hp (hP.mp y.1)) z)]
theorem s_mustWait {o i : Nat} {w : CS} {R : Nat → List Nat} {ts : List TX} (S : SV o w R) (T : VT o w R ts) (hi : i < ts.length) : x_X6_mustWait o ((R 6).getD i 0) w = some (if mwA ts i then 1 else 0) := by
  have h60 := S.tn.2
  have hl := T.len
  unfold x_X6_mustWait
  have h := s_mustWaitL S T hi FU 0 (Nat.zero_le _) (by show i < 1000 + 0; omega)
  rw [nI_0] at h
  rw [h]
  by_cases z : mwA ts i
  · rw [if_pos z, if_pos (by obtain ⟨q, hq, h4⟩ := z; exact ⟨q, hq, Nat.zero_le _, h4⟩), l0_inr]
  · rw [if_neg z, if_neg (fun ⟨q, hq, _, h4⟩ => z ⟨q, hq, h4⟩), l0_inr]
theorem s_runFreedL {o q c s : Nat} {cs : List CU} {g : Int32 × Int32 × Int32} {B : TQ} : ∀ (n r i d : Nat) (T : TS) (w : CS) (R : Nat → List Nat), T.1.length = i + r → r < n → d ≤ i → TSK T → VP o q w R (g, B, T) cs → Bd o w c s →
    ∃ w' R', x_X6_runFreed_L1 o n (nI i) (nI d) w = some (nI (goA r i d T).1, w') ∧ VP o q w' R' (g, B, (goA r i d T).2) cs ∧ Bd o w' c s ∧ R' 6 = R 6 ∧ R' 7 = R 7 := by
  intro n
  induction n with
  | zero => intro r i d T w R h1 h2; omega
  | succ n ih =>
    intro r i d T w R h1 h2 h3 hT V Bw
    have S := V.1
    have hn := hT.1.1
    obtain ⟨t1, t2, t3⟩ := S.tlist
    have hl : (R 6).length = T.1.length := V.2.2.2.2.1.len
    rw [x_X6_runFreed_L1, if_pos S.ko, t1, if_pos t2, p_size t3, bd_some]
    cases r with
    | zero => exact ⟨w, R, by rw [if_pos (nI_le (by omega) (by omega))]; rfl, V, Bw, rfl, rfl⟩
    | succ r =>
      have hi : i < T.1.length := by omega
      have hi2 : i < (R 6).length := by omega
      have hx := S.tkind hi2
      have hp : wI w 83 ((R 6).getD i 0) = (txAt T.1 i).2.2.2 := by rw [(V.2.2.2.2.1.at hi).2]; rfl
      rw [if_neg (nI_ge hi2 (by omega)), p_get t3 hi2, bd_some, if_pos (Or.inr hx), if_pos hx, hp, s_mustWait S V.2.2.2.2.1 hi, goA]
      by_cases hp : (txAt T.1 i).2.2.2 = 0
      · by_cases hm : mwA T.1 i
        · rw [if_pos hp, if_pos hm, bd_some, if_neg (by decide), b2_some, nI_1, if_neg (show ¬ ((txAt T.1 i).2.2.2 = 0 ∧ ¬ mwA T.1 i) from fun q => q.2 hm)]
          exact ih r (i + 1) d T w R (by omega) (by omega) (by omega) hT V Bw
        · obtain ⟨w1, R1, e1, V1, B1, r6, r7⟩ := s_run V hT hi Bw
          rw [if_pos hp, if_neg hm, bd_some, if_pos rfl, e1, bd_some, b2_some, nI_1, nI_1, if_pos (show (txAt T.1 i).2.2.2 = 0 ∧ ¬ mwA T.1 i from ⟨hp, hm⟩)]
          obtain ⟨w2, R2, e2, V2, B2, s6, s7⟩ := ih r (i + 1) (d + 1) (runA i T) w1 R1 (by rw [run_len]; omega) (by omega) (by omega) (hT.run hi) V1 B1
          exact ⟨w2, R2, e2, V2, B2, s6.trans r6, s7.trans r7⟩
      · rw [if_neg hp, b2_some, nI_1, if_neg (show ¬ ((txAt T.1 i).2.2.2 = 0 ∧ ¬ mwA T.1 i) from fun q => hp q.1)]
        exact ih r (i + 1) d T w R (by omega) (by omega) (by omega) hT V Bw
theorem s_runFreed {o q c s : Nat} {cs : List CU} {w : CS} {R : Nat → List Nat} {a : PA} (hT : TSK a.2.2) (V : VP o q w R a cs) (B : Bd o w c s) : ∃ w' R', x_X6_runFreed o w = some (nI (goesA a.2.2).1, w') ∧ VP o q w' R' (a.1, a.2.1, (goesA a.2.2).2) cs ∧ Bd o w' c s ∧ R' 6 = R 6 ∧ R' 7 = R 7 := by
  obtain ⟨w', R', e, V', B', r6, r7⟩ := s_runFreedL (o := o) (q := q) (c := c) (s := s) (cs := cs) (g := a.1) (B := a.2.1) FU a.2.2.1.length 0 0 a.2.2 w R (by omega) (by have := hT.1.1; show _ < 1000; omega) (Nat.le_refl _) hT V B
  rw [nI_0] at e
  exact ⟨w', R', by unfold x_X6_runFreed; rw [e, b2_some]; rfl, V', B', r6, r7⟩
theorem s_closeL {o q p c s : Nat} {cs : List CU} {g : Int32 × Int32 × Int32} {B : TQ} (hp : p < 4) : ∀ (n k : Nat) (T : TS) (w : CS) (R : Nat → List Nat), k < n → k ≤ T.1.length → TSK T → VP o q w R (g, B, T) cs → Bd o w c s →
    ∃ w' R', x_X6_close_L1 o (o + 6 + p) n (nI k + (-1)) w = some w' ∧ VP o q w' R' (g, B, closeA p k T) cs ∧ Bd o w' c s ∧ R' 6 = R 6 ∧ R' 7 = R 7 := by
  intro n
  induction n with
  | zero => intro k T w R h; omega
  | succ n ih =>
    intro k T w R hn hk hT V Bw
    have S := V.1
    have h60 := hT.1.1
    rw [x_X6_close_L1]
    cases k with
    | zero => exact ⟨w, R, by rw [if_pos (show nI 0 + (-1) < 0 by decide)], V, Bw, rfl, rfl⟩
    | succ k =>
      obtain ⟨t1, t2, t3⟩ := S.tlist
      have hl : (R 6).length = T.1.length := V.2.2.2.2.1.len
      have hkl : k < T.1.length := by omega
      have hk2 : k < (R 6).length := by omega
      have hx := S.tkind hk2
      have et := (V.2.2.2.2.1.at hkl).2
      obtain ⟨-, y, hy, ey⟩ := S.tk _ (getD_mem hk2)
      have etab : (txAt T.1 k).1 = y := by rw [et]; show wJ w 80 ((R 6).getD k 0) - (o + 6) = y; rw [ey]; omega
      have hP : pendT (txAt T.1 k) ↔ pend w ((R 6).getD k 0) := by rw [et]; exact Iff.rfl
      rw [pk_m1, if_neg (nI_pos (by omega)), if_pos S.ko, t1, if_pos t2, p_get t3 hk2, bd_some, if_pos (Or.inr hx), if_pos hx, ey, s_isPending hx, bd_some, closeA]
      by_cases c1 : (txAt T.1 k).1 = p
      · by_cases c2 : pendT (txAt T.1 k)
        · obtain ⟨w1, R1, e1, V1, B1, r6, r7⟩ := s_giveUp V hT hkl Bw
          rw [if_pos (show o + 6 + y = o + 6 + p by omega), if_pos (hP.mp c2), if_neg q10, e1, bd_some, bd_some, if_pos (show (txAt T.1 k).1 = p ∧ pendT (txAt T.1 k) from ⟨c1, c2⟩)]
          obtain ⟨w2, R2, e2, V2, B2, s6, s7⟩ := ih k (giveA k T) w1 R1 (by omega) (by rw [give_len]; omega) (hT.give hkl) V1 B1
          exact ⟨w2, R2, e2, V2, B2, s6.trans r6, s7.trans r7⟩
        · rw [if_pos (show o + 6 + y = o + 6 + p by omega), if_neg (fun z => c2 (hP.mpr z)), if_pos q00, bd_some, if_neg (show ¬ ((txAt T.1 k).1 = p ∧ pendT (txAt T.1 k)) from fun q => c2 q.2)]
          exact ih k T w R (by omega) (by omega) hT V Bw
      · rw [if_neg (show ¬ o + 6 + y = o + 6 + p by omega), bd_some, if_neg (show ¬ ((txAt T.1 k).1 = p ∧ pendT (txAt T.1 k)) from fun q => c1 q.1)]
        exact ih k T w R (by omega) (by omega) hT V Bw
