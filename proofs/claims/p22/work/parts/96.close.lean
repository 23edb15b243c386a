/-! ===== the law's checks: closing ===== -/
theorem close_ge (p : Nat) : ∀ (k : Nat) (T : TS) (i : Nat), k ≤ i → txAt (closeA p k T).1 i = txAt T.1 i := by
  intro k
  induction k with
  | zero => intro T i _; rfl
  | succ k ih =>
    intro T i h
    rw [closeA, ih _ _ (by omega)]
    split
    · exact give_at (by omega)
    · rfl
theorem close_np (p : Nat) : ∀ (k : Nat) (T : TS), k ≤ T.1.length → ∀ i, i < k → pendT (txAt (closeA p k T).1 i) → ¬ (txAt T.1 i).1 = p := by
  intro k
  induction k with
  | zero => intro T _ i hi; omega
  | succ k ih =>
    intro T hk i hi hp
    rw [closeA] at hp
    by_cases c : (txAt T.1 k).1 = p ∧ pendT (txAt T.1 k)
    · rw [if_pos c] at hp
      by_cases e : i = k
      · subst e
        rw [close_ge p _ _ _ (Nat.le_refl _)] at hp
        have hp' : pendT (txAt (setP T.1 i 3) i) := hp
        rw [setP_s 3 (by omega)] at hp'
        exact absurd hp' (np3' rfl)
      · have := ih (giveA k T) (by rw [give_len]; omega) i (by omega) hp
        rw [give_at e] at this
        exact this
    · rw [if_neg c] at hp
      by_cases e : i = k
      · subst e
        rw [close_ge p _ _ _ (Nat.le_refl _)] at hp
        exact fun q => c ⟨q, hp⟩
      · exact ih T (by omega) i (by omega) hp
theorem close_tab (p : Nat) : ∀ (k : Nat) (T : TS), k ≤ T.1.length → ∀ i, (txAt (closeA p k T).1 i).1 = (txAt T.1 i).1 := by
  intro k
  induction k with
  | zero => intro T _ i; rfl
  | succ k ih =>
    intro T hk i
    rw [closeA]
    split
    · rw [ih (giveA k T) (by rw [give_len]; omega) i]
      exact give_tab (by omega)
    · exact ih T (by omega) i
theorem l_isClosed {o N c s : Nat} {w : CS} {m : MS} {a : AS} (H : LR o N (c + 2) (s + 10) w m a) (hl : lenT a ≤ 56) {j : Nat} (hj : j ≤ 4) : ∃ w' m', x_L_isClosed o (nI j) w m = some (1, w', m') ∧ LR o (N + 1) c s w' m' (closA (nI j) a).2.2 := by
  obtain ⟨S, V, J, hC, n, hnN, hn⟩ := H
  obtain ⟨w', e, S'⟩ := d_close S (nI j) 0 0 0
  have hIV := S.2.1.1
  have hl' : a.2.2.1.1.length ≤ 56 := hl
  have z4 : nI j = 4 ↔ j = 4 := kx_eq (d := 4) rfl (by omega) (by omega)
  unfold x_L_isClosed
  by_cases h4 : j = 4
  · subst h4
    have eo : closA (nI 4) a = (1, 0, a) := by unfold closA; rw [if_pos (show oT (nI 4) 4 from oT_n)]
    rw [eo, dz1 rfl] at e
    rw [eo] at S' ⊢
    rw [if_pos (z4.mpr rfl), l0_inl, e, b2_some, if_pos (z4.mpr rfl), bd_some, if_pos rfl, bd_some, if_pos isB1]
    exact ⟨w', m, rfl, S', V, J, hC, n, by omega, hn⟩
  · have hj4 : j < 4 := by omega
    have nT := oT_no hj4 (show 4 < 2 ^ 31 by omega)
    have hcl : (nI j).toNatClampNeg = j := nI_clamp (by omega)
    have vb1 : ga m 3 (3 * j) = (a.2.1 j).1 := (V.2.1 j hj4).1
    have h14 : ga m 3 14 = nI (lenT a) := V.2.2.1.1
    rw [if_neg (fun q => h4 (z4.mp q)), if_neg (fun q => h4 (z4.mp q))]
    simp only [n3, if_pos (vR16 (show 3 * j < 16 by omega)), nI_clamp (show 3 * j < 2 ^ 31 by omega), if_pos v14, t14c, vb1, h14]
    have hlate : ¬ lateA a j := fun q => by have := q.1; omega
    by_cases hc : (a.2.1 j).1 = 0
    · have eo : closA (nI j) a = (3, 0, a) := by unfold closA; rw [hcl, if_neg nT, if_pos (Or.inl hc)]
      rw [eo, dz3 rfl] at e
      rw [eo] at S' ⊢
      rw [if_pos hc, l0_inl, e, b2_some, bd_some, if_pos rfl, bd_some, if_pos isB1]
      exact ⟨w', m, rfl, S', V, J, hC, n, by omega, hn⟩
    · rw [if_neg hc]
      obtain ⟨m1, e1, V1, J1, c1⟩ := l_closeL j hj4 FU (lenT a) m (pa a) (Nat.le_refl _) (by show lenT a < 1000; omega) (show a.2.2.1.1.length < 60 by omega) J V
      obtain ⟨P, hP⟩ : ∃ P, P = clA j (lenT a) (pa a) := ⟨_, rfl⟩
      have hPT : P.2.2 = closeA j (lenT a) a.2.2.1 := by rw [hP, clA_T]
      rw [← hP] at V1 J1
      have key : P.1 = (a.1.1, (if (a.2.1 j).1 = 2 then -1 else a.1.2.1), a.1.2.2) ∧ upn P.2.1 j (0, (P.2.1 j).2) = upn a.2.1 j (0, (a.2.1 j).2) := by
        rcases clA_g j (lenT a) (pa a) (Nat.le_refl _) (show a.2.2.1.1.length < 60 by omega) with q | q
        · obtain ⟨q1, q2, q3⟩ := q
          rw [← hP] at q1 q2
          have h2 : ¬ (a.2.1 j).1 = 2 := fun z => by
            rcases hIV.2.1 with y | ⟨i, hi, hu, hp, h2, hun⟩
            · exact y.2 j hj4 z
            · exact q3 i hi hu ⟨(hun j hj4 z).symm, Or.inr hp⟩
          rw [if_neg h2, q2, q1]
          exact ⟨rfl, rfl⟩
        · obtain ⟨q1, q2, i, hi, hu, ht⟩ := q
          rw [← hP] at q1 q2
          have hu' : a.1.2.1 = nI i := hu
          have ht' : (txAt a.2.2.1.1 i).1 = j := ht
          have h2 : (a.2.1 j).1 = 2 := by
            rcases hIV.2.1 with y | ⟨i', hi', hu2, hp, h2, hun⟩
            · rw [y.1] at hu'; exact absurd hu' (nm1 (by omega))
            · rw [hu'] at hu2
              have : i = i' := (nI_eq (by omega) (by omega)).mp hu2
              subst this
              rw [ht'] at h2; exact h2
          rw [if_pos h2, q2, q1, upn_upn, upn_s]
          exact ⟨rfl, rfl⟩
      obtain ⟨k1, k2⟩ := key
      have hlen1 : P.2.2.1.length = lenT a := by rw [hPT]; exact close_len _ _ _
      have V2 : MP (sa m1 3 (3 * j) 0) ((a.1.1, (if (a.2.1 j).1 = 2 then -1 else a.1.2.1), a.1.2.2), upn a.2.1 j (0, (a.2.1 j).2), P.2.2) := by
        rw [← k1, ← k2]
        exact ⟨V1.1.eq (fun x h1 h2 => gsa_n (Or.inr (by omega))), V1.2.1.cond hj4 (by decide) (fun q => absurd q (by decide)), V1.2.2.1.eq (fun x => ⟨gsa_n (Or.inl (by omega)), gsa_n (Or.inl (by omega))⟩) (gsa_n (Or.inr (by omega))), V1.2.2.2.eq (fun x => gsa_n (Or.inl (by omega)))⟩
      have J2 : JP ((a.1.1, (if (a.2.1 j).1 = 2 then -1 else a.1.2.1), a.1.2.2), upn a.2.1 j (0, (a.2.1 j).2), P.2.2) := by
        rw [← k1, ← k2]
        refine ⟨J1.1, fun i hi hp => ?_, fun q i hi => ?_, J1.2.2.2⟩
        · have hi' : i < lenT a := by have : i < P.2.2.1.length := hi; omega
          have hp' : pendT (txAt P.2.2.1 i) := hp
          have h1 : insA P.2.1 (txAt P.2.2.1 i).1 := J1.2.1 i hi hp
          have ne : ¬ (txAt P.2.2.1 i).1 = j := by
            rw [hPT] at hp' ⊢
            rw [close_tab j _ _ (Nat.le_refl _)]
            exact close_np j _ _ (Nat.le_refl _) i hi' hp'
          show insA (upn P.2.1 j (0, (P.2.1 j).2)) (txAt P.2.2.1 i).1
          unfold insA
          rw [upn_n _ _ ne]
          exact h1
        · show ¬ (upn P.2.1 j (0, (P.2.1 j).2) i).1 = 1
          by_cases z : i = j
          · subst z; rw [upn_s]; exact (show ¬ (0 : Int32) = 1 by decide)
          · rw [upn_n _ _ z]; exact J1.2.2.1 q i hi
      obtain ⟨m3, e3, V3, F3⟩ := l_go V2 J2
      have J3 := J2.go
      have hu3 : ¬ busyA (upn a.2.1 j (0, (a.2.1 j).2)) → (if (a.2.1 j).1 = 2 then (-1 : Int32) else a.1.2.1) = -1 := fun q => by
        by_cases z : (a.2.1 j).1 = 2
        · rw [if_pos z]
        · rw [if_neg z]
          rcases hIV.2.1 with y | ⟨i, hi, hu, hp, h2, -⟩
          · exact y.1
          · refine absurd ⟨(txAt a.2.2.1.1 i).1, List.mem_range.mpr (J.1.1 i hi).1, ?_⟩ q
            have e9 : (txAt a.2.2.1.1 i).1 ≠ j := fun y => z (y ▸ h2)
            unfold insA
            rw [upn_n _ _ e9]
            exact Or.inr h2
      obtain ⟨m4, e4, V4, J4, c4⟩ := l_looks (show (goesA P.2.2).2.1.length < 60 by rw [goes_len]; omega) hu3 J3 V3
      have hout : closA (nI j) a = (0, (a.2.1 j).1, plus (looksA 4 ((a.1.1, (if (a.2.1 j).1 = 2 then -1 else a.1.2.1), a.1.2.2), upn a.2.1 j (0, (a.2.1 j).2), (goesA P.2.2).2)) a.2.2.2) := by
        unfold closA
        rw [hcl, if_neg nT, if_neg (fun q => q.elim hc hlate), hPT]
      rw [e1, bd_some, bs_eq, e3, b2_some, e4, bd_some, e, b2_some, hout, dz0 rfl, if_pos rfl, bd_some, if_pos isB1, l0_inr]
      rw [hout] at S'
      exact ⟨w', m4, rfl, S', V4, J4, hC, n, by omega, by rw [c4, F3 3 15 (by omega), gsa_n (Or.inr (by omega)), c1]; exact hn⟩
