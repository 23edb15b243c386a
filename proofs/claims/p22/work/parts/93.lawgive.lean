/-! ===== the law's own arrays: what goes on, what is aborted, what closing aborts ===== -/
theorem go_tx : ∀ (n i c : Nat) (T : TS) (j : Nat), i + n ≤ T.1.length → ∃ p, txAt (goA n i c T).2.1 j = ((txAt T.1 j).1, (txAt T.1 j).2.1, (txAt T.1 j).2.2.1, p) ∧ ((p = 0 ∨ p = 1) ↔ pendT (txAt T.1 j)) := by
  intro n
  induction n with
  | zero => intro i c T j _; exact ⟨(txAt T.1 j).2.2.2, rfl, Iff.rfl⟩
  | succ n ih =>
    intro i c T j h
    rw [goA]
    split
    · next q =>
      obtain ⟨p, e, hp⟩ := ih (i + 1) (c + 1) (runA i T) j (by rw [run_len]; omega)
      refine ⟨p, ?_, hp.trans ?_⟩
      · rw [e]
        show ((txAt (setP T.1 i 1) j).1, (txAt (setP T.1 i 1) j).2.1, (txAt (setP T.1 i 1) j).2.2.1, p) = _
        by_cases z : j = i
        · subst z; rw [setP_s 1 (by omega)]
        · rw [setP_n 1 z]
      · show pendT (txAt (setP T.1 i 1) j) ↔ _
        by_cases z : j = i
        · subst z
          rw [setP_s 1 (by omega)]
          exact ⟨fun _ => Or.inl q.1, fun _ => Or.inr rfl⟩
        · rw [setP_n 1 z]
    · exact ih (i + 1) c T j (by omega)
theorem goes_tx (T : TS) (j : Nat) : ∃ p, txAt (goesA T).2.1 j = ((txAt T.1 j).1, (txAt T.1 j).2.1, (txAt T.1 j).2.2.1, p) ∧ ((p = 0 ∨ p = 1) ↔ pendT (txAt T.1 j)) := go_tx _ _ _ _ j (by omega)
theorem goes_pend {T : TS} {j : Nat} (h : pendT (txAt (goesA T).2.1 j)) : pendT (txAt T.1 j) ∧ (txAt (goesA T).2.1 j).1 = (txAt T.1 j).1 := by
  obtain ⟨p, e, hp⟩ := goes_tx T j
  rw [e] at h ⊢
  exact ⟨hp.mp h, rfl⟩
theorem go_lo : ∀ (n i c : Nat) (T : TS) (k : Nat), k < 3 → (goA n i c T).2.2 k = T.2 k := by
  intro n
  induction n with
  | zero => intro i c T k _; rfl
  | succ n ih =>
    intro i c T k hk
    rw [goA]
    split
    · rw [ih _ _ _ k hk]
      show (if (txAt T.1 i).2.2.1 = 0 then T.2 else copyA (txAt T.1 i).2.1 0 3 T.2) k = T.2 k
      split
      · rfl
      · exact (cp_hi hk).2
    · exact ih _ _ _ k hk
theorem go_id : ∀ (n i c : Nat) (T : TS), (∀ k, i ≤ k → k < i + n → ¬ (txAt T.1 k).2.2.2 = 0) → goA n i c T = (c, T) := by
  intro n
  induction n with
  | zero => intro i c T _; rfl
  | succ n ih =>
    intro i c T h
    rw [goA, if_neg (fun q => h i (by omega) (by omega) q.1)]
    exact ih _ _ _ (fun k h1 h2 => h k (by omega) (by omega))
/-- while an upgrade runs, nothing goes on -/
theorem JP.still {a : PA} (J : JP a) (hu : ¬ a.1.2.1 = -1) : goesA a.2.2 = (0, a.2.2) := by
  refine go_id _ _ _ _ (fun k _ hk q => ?_)
  have hk' : k < a.2.2.1.length := by omega
  have h1 := J.2.2.2 hu k hk' (Or.inl q)
  have h2 := (J.1.2.2.2.1 k hk' h1).2.2
  rw [q] at h2
  exact p01 h2
theorem JP.go {a : PA} (J : JP a) : JP (a.1, a.2.1, (goesA a.2.2).2) := by
  refine ⟨J.1.goes, fun i hi hp => ?_, J.2.2.1, fun hu i hi hp => ?_⟩
  · have hi' : i < a.2.2.1.length := by have : i < (goesA a.2.2).2.1.length := hi; rw [goes_len] at this; exact this
    obtain ⟨h1, h2⟩ := goes_pend hp
    show insA a.2.1 (txAt (goesA a.2.2).2.1 i).1
    rw [h2]
    exact J.2.1 i hi' h1
  · have hi' : i < a.2.2.1.length := by have : i < (goesA a.2.2).2.1.length := hi; rw [goes_len] at this; exact this
    exact J.2.2.2 hu i hi' (goes_pend hp).1
theorem l_go {m : MS} {a : PA} (V : MP m a) (J : JP a) : ∃ m', x_L_goesOn m = some (nI (goesA a.2.2).1, m') ∧ MP m' (a.1, a.2.1, (goesA a.2.2).2) ∧ FA m m' := by
  obtain ⟨Vg, Vb, Va, Vh⟩ := V
  obtain ⟨m', e, V', F⟩ := l_goesOn J.1.2.2.2.2.2 Va J.1.1
  refine ⟨m', e, ⟨Vg.eq (fun x _ _ => F 3 x (by omega)), Vb.eq (fun x _ => F 3 x (by omega)), V', ⟨fun k hk => ?_, fun hu k hk => ?_⟩⟩, F⟩
  · rw [F 4 k (by omega), Vh.1 k hk]
    exact congrArg (fun s : SA => s.1) (go_lo _ _ _ a.2.2 k hk).symm
  · rw [F 4 _ (by omega), Vh.2 hu k hk]
    have := J.still hu
    show _ = ((goesA a.2.2).2.2 (3 + k)).1
    rw [this]
/-- a transaction is aborted -/
def aA (i : Nat) (a : PA) : PA := if a.1.2.1 = nI i then ((a.1.1, -1, a.1.2.2), upn a.2.1 (txAt a.2.2.1 i).1 (0, (a.2.1 (txAt a.2.2.1 i).1).2), giveA i a.2.2) else (a.1, a.2.1, giveA i a.2.2)
theorem aA_T (i : Nat) (a : PA) : (aA i a).2.2 = giveA i a.2.2 := by unfold aA; split <;> rfl
theorem JP.give {a : PA} (J : JP a) {i : Nat} (hi : i < a.2.2.1.length) (hp : pendT (txAt a.2.2.1 i)) : JP (aA i a) := by
  have back : ∀ k, k < (setP a.2.2.1 i 3).length → pendT (txAt (setP a.2.2.1 i 3) k) → k ≠ i ∧ k < a.2.2.1.length ∧ pendT (txAt a.2.2.1 k) ∧ (txAt (setP a.2.2.1 i 3) k).1 = (txAt a.2.2.1 k).1 := fun k hk q => by
    rw [setP_len] at hk
    have e : k ≠ i := fun z => by subst z; rw [setP_s 3 hi] at q; exact np3' rfl q
    rw [setP_n 3 e] at q ⊢
    exact ⟨e, hk, q, rfl⟩
  unfold aA
  by_cases hu : a.1.2.1 = nI i
  · rw [if_pos hu]
    have hu1 : ¬ a.1.2.1 = -1 := by rw [hu]; exact nI_m1 (by have := J.1.2.2.2.2.2; omega)
    have hno : ∀ k, k < (setP a.2.2.1 i 3).length → ¬ pendT (txAt (setP a.2.2.1 i 3) k) := fun k hk q => by
      obtain ⟨e, hk', q', -⟩ := back k hk q
      have := J.2.2.2 hu1 k hk' q'
      rw [hu] at this
      have hL := J.1.2.2.2.2.2
      exact e ((nI_eq (by omega) (by omega)).mp this).symm
    exact ⟨J.1.give hi hp (Or.inr ⟨rfl, hu⟩), fun k hk q => absurd q (hno k hk), fun q => absurd rfl q, fun q => absurd rfl q⟩
  · rw [if_neg hu]
    refine ⟨J.1.give hi hp (Or.inl ⟨rfl, hu⟩), fun k hk q => ?_, J.2.2.1, fun hx k hk q => ?_⟩
    · obtain ⟨e, hk', q', e2⟩ := back k hk q
      show insA a.2.1 (txAt (setP a.2.2.1 i 3) k).1
      rw [e2]
      exact J.2.1 k hk' q'
    · obtain ⟨e, hk', q', e2⟩ := back k hk q
      exact J.2.2.2 hx k hk' q'
theorem l_aborts {m : MS} {a : PA} (V : MP m a) (J : JP a) {i : Nat} (hi : i < a.2.2.1.length) (hp : pendT (txAt a.2.2.1 i)) (hl : a.2.2.1.length < 60) : ∃ m', x_L_aborts (nI i) (nI (txAt a.2.2.1 i).1) m = some m' ∧ MP m' (aA i a) ∧ ga m' 3 15 = ga m 3 15 ∧ (∀ x, ga m' 2 x = ga m 2 x) := by
  obtain ⟨Vg, Vb, Va, Vh⟩ := V
  have hr : vR (nI i) 60 := vR60 (by omega)
  have ht := (J.1.1 i hi).1
  have hrt : vR (nI (3 * (txAt a.2.2.1 i).1)) 16 := vR16 (by omega)
  unfold x_L_aborts
  simp only [if_pos hr, nI_clamp (show i < 2 ^ 31 by omega), bs_eq, if_pos v13, t13c, n3, if_pos hrt, nI_clamp (show 3 * (txAt a.2.2.1 i).1 < 2 ^ 31 by omega)]
  have h13 : ga (sa m 1 i 3) 3 13 = a.1.2.1 := (gsa_n (Or.inl (by omega))).trans Vg.2
  rw [h13]
  have Va1 : MA (sa m 1 i 3) (setP a.2.2.1 i 3) := Va.phase hi 3
  unfold aA
  by_cases hu : a.1.2.1 = nI i
  · rw [if_pos hu.symm, if_pos hu]
    have hu1 : ¬ a.1.2.1 = -1 := by rw [hu]; exact nI_m1 (by omega)
    obtain ⟨U1, U2, U3⟩ := J.1.2.2.2.1 i hi hu
    obtain ⟨m', e, h4, h5⟩ := l_bkL FU 0 (sa (sa (sa m 1 i 3) 3 13 (-1)) 3 (3 * (txAt a.2.2.1 i).1) 0) (by omega) (by show 3 < 1000 + 0; omega)
    rw [nI_0] at e
    rw [e, bd_some, bd_some]
    refine ⟨m', rfl, ⟨⟨?_, ?_⟩, ?_, ?_, ⟨fun k hk => ?_, fun q => absurd rfl q⟩⟩, ?_, fun x => ?_⟩
    · rw [h5 3 12 (Or.inl (by omega)), gsa_n (Or.inr (by omega)), gsa_n (Or.inr (by omega)), gsa_n (Or.inl (by omega))]; exact Vg.1
    · rw [h5 3 13 (Or.inl (by omega)), gsa_n (Or.inr (by omega)), gsa_s]
    · refine (Vb.cond ht (v := 0) (by decide) (fun q => absurd q (by decide))).eq (fun x hx => ?_)
      rw [h5 3 x (Or.inl (by omega))]
      by_cases z : x = 3 * (txAt a.2.2.1 i).1
      · rw [z, gsa_s, gsa_s]
      · rw [gsa_n (Or.inr z), gsa_n (Or.inr z), gsa_n (Or.inr (by omega)), gsa_n (Or.inl (by omega))]
    · exact Va1.eq (fun x => ⟨by rw [h5 1 x (Or.inl (by omega)), gsa_n (Or.inl (by omega)), gsa_n (Or.inl (by omega))], by rw [h5 2 x (Or.inl (by omega)), gsa_n (Or.inl (by omega)), gsa_n (Or.inl (by omega))]⟩) (by rw [h5 3 14 (Or.inl (by omega)), gsa_n (Or.inr (by omega)), gsa_n (Or.inr (by omega))])
    · rw [h4 k (by omega) hk, gsa_n (Or.inl (by omega)), gsa_n (Or.inl (by omega)), gsa_n (Or.inl (by omega)), Vh.2 hu1 k hk]
      show _ = ((if (txAt a.2.2.1 i).2.2.2 = 1 ∧ ¬ (txAt a.2.2.1 i).2.2.1 = 0 then copyA (txAt a.2.2.1 i).2.1 3 0 a.2.2.2 else a.2.2.2) k).1
      rw [if_pos ⟨U3, U2⟩, (cp_lo hk).1, U1, if_pos (in_7 k hk)]
    · rw [h5 3 15 (Or.inl (by omega)), gsa_n (Or.inr (by omega)), gsa_n (Or.inr (by omega)), gsa_n (Or.inl (by omega))]
    · rw [h5 2 x (Or.inl (by omega)), gsa_n (Or.inl (by omega)), gsa_n (Or.inl (by omega)), gsa_n (Or.inl (by omega))]
  · rw [if_neg (fun q => hu q.symm), if_neg hu, bd_some]
    refine ⟨sa m 1 i 3, rfl, ⟨Vg.eq (fun x _ _ => gsa_n (Or.inl (by omega))), Vb.eq (fun x _ => gsa_n (Or.inl (by omega))), Va1, ⟨fun k hk => ?_, fun hx k hk => ?_⟩⟩, gsa_n (Or.inl (by omega)), fun x => gsa_n (Or.inl (by omega))⟩
    · rw [gsa_n (Or.inl (by omega)), Vh.1 k hk]
      show _ = ((if (txAt a.2.2.1 i).2.2.2 = 1 ∧ ¬ (txAt a.2.2.1 i).2.2.1 = 0 then copyA (txAt a.2.2.1 i).2.1 3 0 a.2.2.2 else a.2.2.2) k).1
      by_cases c : (txAt a.2.2.1 i).2.2.2 = 1 ∧ ¬ (txAt a.2.2.1 i).2.2.1 = 0
      · rw [if_pos c, (cp_lo hk).1]
        by_cases z : inS (txAt a.2.2.1 i).2.1 (nI k)
        · rw [if_pos z]; exact (J.1.2.2.1 i hi c.1 c.2 hu k hk z).symm
        · rw [if_neg z]
      · rw [if_neg c]
    · rw [gsa_n (Or.inl (by omega)), Vh.2 hx k hk]
      show _ = ((if (txAt a.2.2.1 i).2.2.2 = 1 ∧ ¬ (txAt a.2.2.1 i).2.2.1 = 0 then copyA (txAt a.2.2.1 i).2.1 3 0 a.2.2.2 else a.2.2.2) (3 + k)).1
      split
      · rw [(cp_lo hk).2]
      · rfl
/-- closing: the last of its transactions first -/
def clA (p : Nat) : Nat → PA → PA
  | 0, a => a
  | n + 1, a => clA p n (if (txAt a.2.2.1 n).1 = p ∧ pendT (txAt a.2.2.1 n) then aA n a else a)
theorem clA_T (p : Nat) : ∀ (k : Nat) (a : PA), (clA p k a).2.2 = closeA p k a.2.2 := by
  intro k
  induction k with
  | zero => intro a; rfl
  | succ k ih =>
    intro a
    rw [clA, closeA, ih]
    by_cases c : (txAt a.2.2.1 k).1 = p ∧ pendT (txAt a.2.2.1 k)
    · rw [if_pos c, if_pos c, aA_T]
    · rw [if_neg c, if_neg c]
theorem aA_at {i j : Nat} {a : PA} (h : j ≠ i) : txAt (aA i a).2.2.1 j = txAt a.2.2.1 j := by
  rw [show (aA i a).2.2.1 = (giveA i a.2.2).1 from congrArg (fun T : TS => T.1) (aA_T i a)]
  exact give_at h
theorem aA_len (i : Nat) (a : PA) : (aA i a).2.2.1.length = a.2.2.1.length := by
  rw [show (aA i a).2.2.1 = (giveA i a.2.2).1 from congrArg (fun T : TS => T.1) (aA_T i a)]
  exact give_len _ _
theorem clA_g (p : Nat) : ∀ (k : Nat) (a : PA), k ≤ a.2.2.1.length → a.2.2.1.length < 60 → ((clA p k a).1 = a.1 ∧ (clA p k a).2.1 = a.2.1 ∧ ∀ i, i < k → a.1.2.1 = nI i → ¬ ((txAt a.2.2.1 i).1 = p ∧ pendT (txAt a.2.2.1 i))) ∨ ((clA p k a).1 = (a.1.1, -1, a.1.2.2) ∧ (clA p k a).2.1 = upn a.2.1 p (0, (a.2.1 p).2) ∧ ∃ i, i < k ∧ a.1.2.1 = nI i ∧ (txAt a.2.2.1 i).1 = p) := by
  intro k
  induction k with
  | zero => intro a _ _; exact Or.inl ⟨rfl, rfl, fun i hi => by omega⟩
  | succ k ih =>
    intro a hk hl
    rw [clA]
    by_cases c : (txAt a.2.2.1 k).1 = p ∧ pendT (txAt a.2.2.1 k)
    · rw [if_pos c]
      by_cases hu : a.1.2.1 = nI k
      · have e : aA k a = ((a.1.1, -1, a.1.2.2), upn a.2.1 p (0, (a.2.1 p).2), giveA k a.2.2) := by unfold aA; rw [if_pos hu, c.1]
        rcases ih (aA k a) (by rw [aA_len]; omega) (by rw [aA_len]; exact hl) with h | h
        · obtain ⟨h1, h2, -⟩ := h
          refine Or.inr ⟨by rw [h1, e], by rw [h2, e], k, by omega, hu, c.1⟩
        · obtain ⟨-, -, i, hi, h4, -⟩ := h
          rw [e] at h4
          exact absurd h4 (nm1 (by omega))
      · have e : aA k a = (a.1, a.2.1, giveA k a.2.2) := by unfold aA; rw [if_neg hu]
        rcases ih (aA k a) (by rw [aA_len]; omega) (by rw [aA_len]; exact hl) with h | h
        · obtain ⟨h1, h2, h3⟩ := h
          refine Or.inl ⟨by rw [h1, e], by rw [h2, e], fun i hi hui => ?_⟩
          by_cases z : i = k
          · subst z; exact absurd hui hu
          · have := h3 i (by omega) (by rw [e]; exact hui)
            rw [aA_at z] at this
            exact this
        · obtain ⟨h1, h2, i, hi, h4, h5⟩ := h
          refine Or.inr ⟨by rw [h1, e], by rw [h2, e], i, by omega, by rw [e] at h4; exact h4, ?_⟩
          rw [aA_at (by omega)] at h5
          exact h5
    · rw [if_neg c]
      rcases ih a (by omega) hl with h | h
      · refine Or.inl ⟨h.1, h.2.1, fun i hi hui => ?_⟩
        by_cases z : i = k
        · subst z; exact c
        · exact h.2.2 i (by omega) hui
      · obtain ⟨h1, h2, i, hi, h4, h5⟩ := h
        exact Or.inr ⟨h1, h2, i, by omega, h4, h5⟩
theorem nI_s1 (k : Nat) : nI k + (-1) = nI k - 1 := (Int32.sub_eq_add_neg (nI k) 1).symm
theorem l_closeL (p : Nat) (hp : p < 4) : ∀ (f k : Nat) (m : MS) (a : PA), k ≤ a.2.2.1.length → k < f → a.2.2.1.length < 60 → JP a → MP m a → ∃ m', x_L_isClosed_L1 (nI p) f (nI k - 1) m = some m' ∧ MP m' (clA p k a) ∧ JP (clA p k a) ∧ ga m' 3 15 = ga m 3 15 := by
  intro f
  induction f with
  | zero => intro k m a h1 h2; omega
  | succ f ih =>
    intro k m a hk hf hl J V
    rw [x_L_isClosed_L1]
    cases k with
    | zero => rw [if_pos (show nI 0 - 1 < 0 by decide)]; exact ⟨m, rfl, V, J, rfl⟩
    | succ k =>
      have hr : vR (nI k) 60 := vR60 (by omega)
      have hk' : k < a.2.2.1.length := by omega
      have hV := V.2.2.1.2 k hk'
      rw [nI_pred]
      rw [if_neg (nI_pos (by omega)), if_pos hr, nI_s1, clA]
      simp only [nI_clamp (show k < 2 ^ 31 by omega), hV.2, cod_tab (J.1.1 k hk')]
      have ht := (J.1.1 k hk').1
      have e1 : nI (txAt a.2.2.1 k).1 = nI p ↔ (txAt a.2.2.1 k).1 = p := nI_eq (by omega) (by omega)
      by_cases c1 : (txAt a.2.2.1 k).1 = p
      · rw [if_pos (e1.mpr c1), l_isAlive (by omega), bd_some]
        by_cases c2 : pendT (txAt a.2.2.1 k)
        · rw [if_pos (show ga m 1 k = 0 ∨ ga m 1 k = 1 by rw [hV.1]; exact c2), if_neg (show ¬ (1 : Int32) = 0 by decide), if_pos ⟨c1, c2⟩]
          obtain ⟨m1, e2, V1, g1, -⟩ := l_aborts V J hk' c2 hl
          rw [c1] at e2
          rw [e2, bd_some, bd_some]
          obtain ⟨m', e3, V', J', g2⟩ := ih k m1 (aA k a) (by rw [aA_len]; omega) (by omega) (by rw [aA_len]; exact hl) (J.give hk' c2) V1
          exact ⟨m', e3, V', J', g2.trans g1⟩
        · rw [if_neg (show ¬ (ga m 1 k = 0 ∨ ga m 1 k = 1) by rw [hV.1]; exact c2), if_pos rfl, bd_some, if_neg (fun q => c2 q.2)]
          exact ih k m a (by omega) (by omega) hl J V
      · rw [if_neg (fun q => c1 (e1.mp q)), bd_some, if_neg (fun q => c1 q.1)]
        exact ih k m a (by omega) (by omega) hl J V
