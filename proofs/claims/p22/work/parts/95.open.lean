/-! ===== the law's checks: what it asks, opening, closing ===== -/
abbrev pa (a : AS) : PA := (a.1, a.2.1, a.2.2.1)
def LR (o N c s : Nat) (w : CS) (m : MS) (a : AS) : Prop := ST o N c s w a ∧ MP m (pa a) ∧ JP (pa a) ∧ a.2.2.2 = [] ∧ ∃ n, n ≤ N ∧ ga m 3 15 = nI n
theorem oT_n {n : Nat} : oT (nI n) n := Or.inr (Int32.le_refl _)
theorem oT_m (n : Nat) : oT (-1) n := Or.inl (by decide)
theorem oT_no {j n : Nat} (h : j < n) (hn : n < 2 ^ 31) : ¬ oT (nI j) n := fun q => q.elim (nI_pos (by omega)) (nI_ge h hn)
theorem stat_at {a : AS} {j : Nat} (h : j < 4) : statA (nI j) a = (0, (a.2.1 j).1, a) := by
  unfold statA
  rw [if_neg (oT_no h (by omega)), nI_clamp (by omega)]
theorem sta_at {a : AS} {j : Nat} (h : j < lenT a) (hl : lenT a < 2 ^ 31) : staA (nI j) a = (0, (txAt a.2.2.1.1 j).2.2.2, a) := by
  unfold staA oX
  rw [if_neg (oT_no h hl)]
  unfold txA
  rw [nI_clamp (by omega)]
theorem dz30 {r : OUT} (h : r.1 = 1) : dz r = -30 := dz1 h
theorem l_soL1 {o N c s : Nat} {w : CS} {m : MS} {a : AS} (S : ST o N (c + 2) (s + 10) w a) (V : MP m (pa a)) : ∀ (f k : Nat), k ≤ 4 → 4 < f + k → x_L_isSo_L1 m o w f (nI k) 1 = some 1 := by
  intro f
  induction f with
  | zero => intro k h1 h2; omega
  | succ f ih =>
    intro k h1 h2
    rw [x_L_isSo_L1]
    have z := kx_ge (n := k) (d := 4) (D := 4) rfl (by omega) (by omega)
    by_cases hk : k < 4
    · have e := stat_at (a := a) hk
      rw [if_neg (fun q => by have := z.mp q; omega), if_neg (show ¬ (1 : Int32) = 0 by decide), if_pos S.k, n_state S (nI k) (by rw [e]), e]
      show (if vR (3 * nI k) 16 then _ else none) = _
      simp only [n3, if_pos (vR16 (show 3 * k < 16 by omega)), nI_clamp (show 3 * k < 2 ^ 31 by omega), (V.2.1 k hk).1]
      rw [if_pos trivial, bd_some, nI_1]
      exact ih (k + 1) (by omega) (by omega)
    · have : k = 4 := by omega
      subst this
      rw [if_pos (z.mpr (by omega))]
theorem l_soL2 {o N c s : Nat} {w : CS} {m : MS} {a : AS} (S : ST o N (c + 2) (s + 10) w a) (V : MP m (pa a)) (hl : lenT a ≤ 60) : ∀ (f k : Nat), k ≤ lenT a → lenT a < f + k → x_L_isSo_L2 m o w f (nI k) 1 = some 1 := by
  intro f
  induction f with
  | zero => intro k h1 h2; omega
  | succ f ih =>
    intro k h1 h2
    rw [x_L_isSo_L2]
    have z : nI (lenT a) ≤ nI k ↔ lenT a ≤ k := nI_leI (by omega) (by omega)
    have v14' : ga m 3 14 = nI (lenT a) := V.2.2.1.1
    simp only [if_pos v14, t14c, v14']
    by_cases hk : k < lenT a
    · have e := sta_at (a := a) hk (by omega)
      rw [if_neg (fun q => by have := z.mp q; omega), if_neg (show ¬ (1 : Int32) = 0 by decide), if_pos S.k, n_standing S (nI k) (by rw [e]), e]
      show (if vR (nI k) 60 then _ else none) = _
      simp only [if_pos (vR60 (show k < 60 by omega)), nI_clamp (show k < 2 ^ 31 by omega), (V.2.2.1.2 k hk).1]
      rw [if_pos trivial, bd_some, nI_1]
      exact ih (k + 1) (by omega) (by omega)
    · have : k = lenT a := by omega
      rw [if_pos (z.mpr (by omega))]
theorem l_isSo {o N c s : Nat} {w : CS} {m : MS} {a : AS} (S : ST o N (c + 10) (s + 50) w a) (V : MP m (pa a)) (hl : lenT a ≤ 60) : ∃ w', x_L_isSo o w m = some (1, w') ∧ ST o N c s w' a := by
  obtain ⟨R, VC0⟩ := S.1
  have h12 : ga m 3 12 = a.1.1 := V.1.1
  have h13 : ga m 3 13 = a.1.2.1 := V.1.2
  have h14 : ga m 3 14 = nI (lenT a) := V.2.2.1.1
  obtain ⟨w1, e1, S1⟩ := a_state (c := c + 8) (s := s + 40) S 4
  obtain ⟨w2, e2, S2⟩ := a_state (c := c + 6) (s := s + 30) S1 (-1)
  obtain ⟨w3, e3, S3⟩ := a_standing (c := c + 4) (s := s + 20) S2 (nI (lenT a))
  obtain ⟨w4, e4, S4⟩ := a_standing (c := c + 2) (s := s + 10) S3 (-1)
  have z1 : dz (statA 4 a) = -30 := dz1 (by unfold statA; rw [if_pos (show oT 4 4 from oT_n (n := 4))])
  have z2 : dz (statA (-1) a) = -30 := dz1 (by unfold statA; rw [if_pos (oT_m 4)])
  have z3 : dz (staA (nI (lenT a)) a) = -30 := dz1 (by unfold staA; rw [if_pos (show oX a (nI (lenT a)) from oT_n)])
  have z4 : dz (staA (-1) a) = -30 := dz1 (by unfold staA; rw [if_pos (show oX a (-1) from oT_m _)])
  rw [z1] at e1
  rw [z2] at e2
  rw [z3] at e3
  rw [z4] at e4
  unfold x_L_isSo
  rw [if_pos S.k, c_version VC0, bd_some]
  simp only [if_pos v12, if_pos v13, if_pos v14, t12c, t13c, t14c, h12, h13, h14, if_true, c_upgr VC0, bd_some, e1, e2, e3, e4, b2_some, l1_inr]
  have L1 := l_soL1 S4 V FU 0 (by omega) (by show 4 < 1000 + 0; omega)
  have L2 := l_soL2 S4 V hl FU 0 (by omega) (by show lenT a < 1000 + 0; omega)
  rw [nI_0] at L1 L2
  rw [L1, bd_some, L2, bd_some, if_pos isB1]
  exact ⟨w4, rfl, S4.mono (Nat.le_refl _) (by omega) (by omega)⟩
theorem rng_v (v : Int32) : rng v 1 100 ↔ (v ≤ 0 ∨ 101 ≤ v) := by
  unfold rng
  rw [Int32.lt_iff_toInt_lt, Int32.le_iff_toInt_le, Int32.le_iff_toInt_le, Int32.le_iff_toInt_le]
  show v.toInt < 1 ∨ ¬ v.toInt ≤ 100 ↔ (v.toInt ≤ 0 ∨ 101 ≤ v.toInt)
  omega
theorem IU.neg {u : Int32} {B : TQ} {ts : List TX} (h : IU u B ts) (hl : ts.length ≤ 60) : (0 ≤ u ↔ ¬ u = -1) := by
  rcases h with q | ⟨i, hi, e, -⟩
  · rw [q.1]; decide
  · rw [e]
    exact ⟨fun _ => nI_m1 (by omega), fun _ => nI_pos' (by omega)⟩
theorem MB.open1 {m : MS} {B : TQ} {j : Nat} {v x : Int32} (V : MB m B) (hj : j < 4) (h0 : (B j).1 = 0) {n : Nat} (hn : ga m 3 15 = nI n) (hN : n < 2 ^ 30) : MB (sa (sa (sa (sa m 3 (3 * j) 1) 3 (3 * j + 1) v) 3 (3 * j + 2) x) 3 15 (nI (n + 1))) (upn B j (1, (B j).2)) := by
  intro i hi
  obtain ⟨a1, a2, a3⟩ := V i hi
  have g15 : ga (sa (sa (sa (sa m 3 (3 * j) 1) 3 (3 * j + 1) v) 3 (3 * j + 2) x) 3 15 (nI (n + 1))) 3 15 = nI (n + 1) := gsa_s
  have off : ∀ k r, k < 4 → k ≠ j → r < 3 → ga (sa (sa (sa (sa m 3 (3 * j) 1) 3 (3 * j + 1) v) 3 (3 * j + 2) x) 3 15 (nI (n + 1))) 3 (3 * k + r) = ga m 3 (3 * k + r) := fun k r hk hkj hr => by
    rw [gsa_n (Or.inr (by omega)), gsa_n (Or.inr (by omega)), gsa_n (Or.inr (by omega)), gsa_n (Or.inr (by omega))]
  by_cases hij : i = j
  · subst hij
    rw [upn_s]
    refine ⟨by rw [gsa_n (Or.inr (by omega)), gsa_n (Or.inr (by omega)), gsa_n (Or.inr (by omega)), gsa_s], fun q => ?_, fun q => absurd q (show ¬ (1 : Int32) = 3 by decide)⟩
    exact absurd q (show ¬ ((1 : Int32) = 2 ∨ (1 : Int32) = 3) by decide)
  · rw [upn_n _ _ hij, off i 1 hi hij (by omega), off i 2 hi hij (by omega), g15, show 3 * i = 3 * i + 0 from rfl, off i 0 hi hij (by omega)]
    refine ⟨a1, a2, fun q => ⟨?_, fun k hk qk => ?_⟩⟩
    · have h1 := (a3 q).1
      rw [hn] at h1
      exact Int32.lt_trans h1 (nI_lt (by omega) (by omega))
    · by_cases hkj : k = j
      · subst hkj; rw [upn_s] at qk; exact absurd qk (show ¬ (1 : Int32) = 3 by decide)
      · rw [upn_n _ _ hkj] at qk ⊢
        rw [off k 2 hk hkj (by omega)]
        exact (a3 q).2 k hk qk
theorem MB.open3 {m : MS} {B : TQ} {j : Nat} {v t : Int32} (V : MB m B) (hj : j < 4) (h0 : (B j).1 = 0) {n : Nat} (hn : ga m 3 15 = nI n) (hN : n < 2 ^ 30) (hB : ∀ k, k < 4 → (B k).1 = 3 → (B k).2.2 < t) : MB (sa (sa (sa (sa m 3 (3 * j) 3) 3 (3 * j + 1) v) 3 (3 * j + 2) (nI n)) 3 15 (nI (n + 1))) (upn B j (3, v, t)) := by
  intro i hi
  obtain ⟨a1, a2, a3⟩ := V i hi
  have g15 : ga (sa (sa (sa (sa m 3 (3 * j) 3) 3 (3 * j + 1) v) 3 (3 * j + 2) (nI n)) 3 15 (nI (n + 1))) 3 15 = nI (n + 1) := gsa_s
  have g2 : ga (sa (sa (sa (sa m 3 (3 * j) 3) 3 (3 * j + 1) v) 3 (3 * j + 2) (nI n)) 3 15 (nI (n + 1))) 3 (3 * j + 2) = nI n := by rw [gsa_n (Or.inr (by omega)), gsa_s]
  have off : ∀ k r, k < 4 → k ≠ j → r < 3 → ga (sa (sa (sa (sa m 3 (3 * j) 3) 3 (3 * j + 1) v) 3 (3 * j + 2) (nI n)) 3 15 (nI (n + 1))) 3 (3 * k + r) = ga m 3 (3 * k + r) := fun k r hk hkj hr => by
    rw [gsa_n (Or.inr (by omega)), gsa_n (Or.inr (by omega)), gsa_n (Or.inr (by omega)), gsa_n (Or.inr (by omega))]
  have hlt : nI n < nI (n + 1) := nI_lt (by omega) (by omega)
  by_cases hij : i = j
  · subst hij
    rw [upn_s, g2, g15]
    refine ⟨by rw [gsa_n (Or.inr (by omega)), gsa_n (Or.inr (by omega)), gsa_n (Or.inr (by omega)), gsa_s], fun _ => by rw [gsa_n (Or.inr (by omega)), gsa_n (Or.inr (by omega)), gsa_s], fun _ => ⟨hlt, fun k hk qk => ?_⟩⟩
    by_cases hkj : k = i
    · subst hkj
      rw [upn_s, g2]
      exact ⟨fun q => absurd q Int32.lt_irrefl, fun q => absurd q Int32.lt_irrefl⟩
    · rw [upn_n _ _ hkj] at qk ⊢
      rw [off k 2 hk hkj (by omega)]
      have h1 := ((V k hk).2.2 qk).1
      rw [hn] at h1
      exact ⟨fun q => absurd (Int32.lt_trans q h1) Int32.lt_irrefl, fun q => absurd (Int32.lt_trans q (hB k hk qk)) Int32.lt_irrefl⟩
  · rw [upn_n _ _ hij, off i 1 hi hij (by omega), off i 2 hi hij (by omega), g15, show 3 * i = 3 * i + 0 from rfl, off i 0 hi hij (by omega)]
    refine ⟨a1, a2, fun q => ⟨?_, fun k hk qk => ?_⟩⟩
    · have h1 := (a3 q).1
      rw [hn] at h1
      exact Int32.lt_trans h1 hlt
    · by_cases hkj : k = j
      · subst hkj
        rw [upn_s, g2]
        have h1 := (a3 q).1
        rw [hn] at h1
        exact ⟨fun _ => hB i hi q, fun _ => h1⟩
      · rw [upn_n _ _ hkj] at qk ⊢
        rw [off k 2 hk hkj (by omega)]
        exact (a3 q).2 k hk qk
theorem v6_eq (v : Int32) : l0 (if v ≤ 0 then some (Sum.inl ()) else if (101 : Int32) ≤ v then some (Sum.inl ()) else some (Sum.inr (1 : Int32))) (fun _ => some 0) = some (if v ≤ 0 ∨ 101 ≤ v then 0 else 1) := by
  by_cases h1 : v ≤ 0
  · rw [if_pos h1, if_pos (Or.inl h1), l0_inl]
  · by_cases h2 : (101 : Int32) ≤ v
    · rw [if_neg h1, if_pos h2, if_pos (Or.inr h2), l0_inl]
    · rw [if_neg h1, if_neg h2, if_neg (fun q => q.elim h1 h2), l0_inr]
theorem v18_eq {c v ver u : Int32} : l0 (if c = 0 then (if v < ver then some (Sum.inl ()) else l0 (if ver < v then some (Sum.inl ()) else if 0 ≤ u then some (Sum.inr (Sum.inl ())) else some (Sum.inl ())) (fun _ => some (Sum.inr (1 : Int32)))) else some (Sum.inl ())) (fun _ => some 0) = some (if c = 0 ∧ ¬ v < ver ∧ (ver < v ∨ ¬ 0 ≤ u) then 1 else 0) := by
  by_cases h1 : c = 0
  · rw [if_pos h1]
    by_cases h2 : v < ver
    · rw [if_pos h2, l0_inl, if_neg (fun q => q.2.1 h2)]
    · rw [if_neg h2]
      by_cases h3 : ver < v
      · rw [if_pos h3, l0_inl, l0_inr, if_pos ⟨h1, h2, Or.inl h3⟩]
      · rw [if_neg h3]
        by_cases h4 : 0 ≤ u
        · rw [if_pos h4, l0_inr, l0_inl, if_neg (fun q => q.2.2.elim h3 (fun z => z h4))]
        · rw [if_neg h4, l0_inl, l0_inr, if_pos ⟨h1, h2, Or.inr h4⟩]
  · rw [if_neg h1, l0_inl, if_neg (fun q => h1 q.1)]
theorem e10 : ¬ (1 : Int32) = 0 := by decide
theorem l_openGood {o N c s : Nat} {w w' : CS} {m : MS} {a : AS} {j n : Nat} {x v : Int32} (hj : j < 4) (hn : ga m 3 15 = nI n) (a1 : PA) (hV : MP (sa (sa (sa (sa m 3 (3 * j) x) 3 (3 * j + 1) v) 3 (3 * j + 2) (nI n)) 3 15 (nI (n + 1))) a1) (hJ : JP a1) (hl : a1.2.2.1.length < 60) (hu : ¬ busyA a1.2.1 → a1.1.2.1 = -1) (hout : openA (nI j) v a = (0, ((looksA 4 a1).2.1 j).1, plus (looksA 4 a1) a.2.2.2)) (hC : a.2.2.2 = []) (hnN : n ≤ N) (e : x_L_does o 2 (nI j) v 0 0 w = some (dz (openA (nI j) v a), w')) (S' : ST o (N + 1) c s w' (openA (nI j) v a).2.2) :
    ∃ m', (bd (x_L_looks (sa (sa (sa (sa m 3 (3 * j) x) 3 (3 * j + 1) v) 3 (3 * j + 2) (nI n)) 3 15 (nI (n + 1)))) (fun (m35 : MS) => b2 (x_L_does o 2 (nI j) v 0 0 w) (fun (v37 : Int32) (w38 : CS) => bd (if (v37 : Int32) = (ga m35 3 (3 * j)) then some (1 : Int32) else some (0 : Int32)) (fun (v41 : Int32) => if isB v41 then some (Sum.inr (α := Unit) ((v41, w38, m35))) else none)))) = some (Sum.inr (1, w', m')) ∧ LR o (N + 1) c s w' m' (openA (nI j) v a).2.2 := by
  obtain ⟨m', e2, V2, J2, c2⟩ := l_looks hl hu hJ hV
  rw [e2, bd_some, e, b2_some, hout, dz0 rfl, (V2.2.1 j hj).1, if_pos rfl, bd_some, if_pos isB1]
  rw [hout] at S'
  exact ⟨m', rfl, S', V2, J2, hC, n + 1, by omega, c2.trans gsa_s⟩
theorem l_isOpened {o N c s : Nat} {w : CS} {m : MS} {a : AS} (H : LR o N (c + 2) (s + 10) w m a) (hN : N < 999) (hl : lenT a ≤ 56) {j : Nat} (hj : j ≤ 4) (v : Int32) : ∃ w' m', x_L_isOpened o (nI j) v w m = some (1, w', m') ∧ LR o (N + 1) c s w' m' (openA (nI j) v a).2.2 := by
  obtain ⟨S, V, J, hC, n, hnN, hn⟩ := H
  obtain ⟨w', e, S'⟩ := d_open S (by omega) (nI j) v 0 0
  have hIV := S.2.1.1
  have hl' : a.2.2.1.1.length ≤ 56 := hl
  have z4 := kx_ge (n := j) (d := 4) (D := 4) rfl (by omega) (by omega)
  have h12 : ga m 3 12 = a.1.1 := V.1.1
  have h13 : ga m 3 13 = a.1.2.1 := V.1.2
  unfold x_L_isOpened
  by_cases h4 : j = 4
  · subst h4
    have eo : openA (nI 4) v a = (1, 0, a) := by unfold openA; rw [if_pos (show oT (nI 4) 4 from oT_n)]
    rw [eo, dz1 rfl] at e
    rw [eo] at S' ⊢
    rw [if_pos (z4.mpr (by omega)), bd_some, v6_eq, bd_some, if_pos rfl, l0_inl, bd_some, if_pos rfl, l0_inl, e, b2_some, if_pos rfl, bd_some, if_pos rfl, bd_some, if_pos isB1]
    exact ⟨w', m, rfl, S', V, J, hC, n, by omega, hn⟩
  · have hj4 : j < 4 := by omega
    have nT := oT_no hj4 (show 4 < 2 ^ 31 by omega)
    have hcl : (nI j).toNatClampNeg = j := nI_clamp (by omega)
    obtain ⟨vb1, vb2, vb3⟩ := V.2.1 j hj4
    have vb1' : ga m 3 (3 * j) = (a.2.1 j).1 := vb1
    rw [if_neg (fun q => by have := z4.mp q; omega), bd_some, v6_eq, bd_some]
    simp only [if_neg e10, n3, np2, nI_1, if_pos (vR16 (show 3 * j < 16 by omega)), if_pos (vR16 (show 3 * j + 1 < 16 by omega)), if_pos (vR16 (show 3 * j + 2 < 16 by omega)), nI_clamp (show 3 * j < 2 ^ 31 by omega), nI_clamp (show 3 * j + 1 < 2 ^ 31 by omega), nI_clamp (show 3 * j + 2 < 2 ^ 31 by omega), if_pos v12, if_pos v13, if_pos v15, t12c, t13c, t15c, vb1', h12, h13]
    rw [v18_eq, bd_some]
    have hneg := IU.neg hIV.2.1 (show a.2.2.1.1.length ≤ 60 by omega)
    by_cases hb : v ≤ 0 ∨ 101 ≤ v
    · have eo : openA (nI j) v a = (2, 0, a) := by unfold openA; rw [if_neg nT, if_pos ((rng_v v).mpr hb)]
      rw [eo, dz2 rfl] at e
      rw [eo] at S' ⊢
      rw [if_pos hb, if_pos rfl, ite_self, l0_inl, e, b2_some, if_pos rfl, bd_some, if_pos rfl, bd_some, if_pos isB1]
      exact ⟨w', m, rfl, S', V, J, hC, n, by omega, hn⟩
    · have nrng : ¬ rng v 1 100 := fun q => hb ((rng_v v).mp q)
      by_cases hc : (a.2.1 j).1 = 0 ∧ ¬ v < a.1.1 ∧ (a.1.1 < v ∨ ¬ 0 ≤ a.1.2.1)
      · rw [if_neg hb, if_pos hc, if_neg e10]
        obtain ⟨hc1, hc2, hc3⟩ := hc
        have h60 : ¬ lenT a = 60 := by omega
        have hcond : ¬ (¬ (a.2.1 j).1 = 0 ∨ v < a.1.1 ∨ (v = a.1.1 ∧ ¬ a.1.2.1 = -1) ∨ (a.1.1 < v ∧ ¬ busyA a.2.1 ∧ lenT a = 60)) := by
          rintro (q | q | q | q)
          · exact q hc1
          · exact hc2 q
          · rcases hc3 with z | z
            · rw [q.1] at z; exact Int32.lt_irrefl z
            · exact z (hneg.mpr q.2)
          · exact h60 q.2.2
        have hA : ∀ x, ga (sa (sa m 3 (3 * j) x) 3 (3 * j + 1) v) 3 15 = nI n := fun x => by rw [gsa_n (Or.inr (by omega)), gsa_n (Or.inr (by omega))]; exact hn
        have hB : ∀ x, ga (sa (sa (sa m 3 (3 * j) x) 3 (3 * j + 1) v) 3 (3 * j + 2) (nI n)) 3 15 = nI n := fun x => by rw [gsa_n (Or.inr (by omega))]; exact hA x
        have nins : ¬ insA a.2.1 j := by unfold insA; rw [hc1]; decide
        have hub : ∀ y, ¬ busyA (upn a.2.1 j y) → a.1.2.1 = -1 := fun y q => by
          rcases hIV.2.1 with z | ⟨i, hi, -, -, h2, -⟩
          · exact z.1
          · refine absurd ⟨(txAt a.2.2.1.1 i).1, List.mem_range.mpr (J.1.1 i hi).1, ?_⟩ q
            have e9 : (txAt a.2.2.1.1 i).1 ≠ j := fun z => by rw [z, hc1] at h2; exact absurd h2 (by decide)
            unfold insA
            rw [upn_n _ _ e9]
            exact Or.inr h2
        have Va : ∀ x y t, MA (sa (sa (sa (sa m 3 (3 * j) x) 3 (3 * j + 1) v) 3 (3 * j + 2) y) 3 15 t) a.2.2.1.1 := fun x y t => V.2.2.1.eq (fun k => ⟨by rw [gsa_n (Or.inl (by omega)), gsa_n (Or.inl (by omega)), gsa_n (Or.inl (by omega)), gsa_n (Or.inl (by omega))], by rw [gsa_n (Or.inl (by omega)), gsa_n (Or.inl (by omega)), gsa_n (Or.inl (by omega)), gsa_n (Or.inl (by omega))]⟩) (by rw [gsa_n (Or.inr (by omega)), gsa_n (Or.inr (by omega)), gsa_n (Or.inr (by omega)), gsa_n (Or.inr (by omega))])
        have Vh : ∀ x y t, MHs (sa (sa (sa (sa m 3 (3 * j) x) 3 (3 * j + 1) v) 3 (3 * j + 2) y) 3 15 t) a.1.2.1 a.2.2.1.2 := fun x y t => V.2.2.2.eq (fun k => by rw [gsa_n (Or.inl (by omega)), gsa_n (Or.inl (by omega)), gsa_n (Or.inl (by omega)), gsa_n (Or.inl (by omega))])
        have Vg : ∀ x y t g, MG m g → MG (sa (sa (sa (sa m 3 (3 * j) x) 3 (3 * j + 1) v) 3 (3 * j + 2) y) 3 15 t) g := fun x y t g h => h.eq (fun k h1 h2 => by rw [gsa_n (Or.inr (by omega)), gsa_n (Or.inr (by omega)), gsa_n (Or.inr (by omega)), gsa_n (Or.inr (by omega))])
        by_cases hv : v = a.1.1
        · rw [if_pos hv, bd_some, bs_eq, bs_eq]
          simp only [hA, bs_eq, hB, nI_1]
          have hb1 : busyA (upn a.2.1 j (1, (a.2.1 j).2)) := ⟨j, List.mem_range.mpr hj4, Or.inl (by rw [upn_s])⟩
          have hlk : looksA 4 ((a.1, upn a.2.1 j (1, (a.2.1 j).2), a.2.2.1) : PA) = (a.1, upn a.2.1 j (1, (a.2.1 j).2), a.2.2.1) := looks_busy hb1 4
          have hu1 : a.1.2.1 = -1 := by
            rcases hc3 with z | z
            · rw [hv] at z; exact absurd z Int32.lt_irrefl
            · exact Classical.byContradiction (fun q => z (hneg.mpr q))
          have hout : openA (nI j) v a = (0, ((looksA 4 ((a.1, upn a.2.1 j (1, (a.2.1 j).2), a.2.2.1) : PA)).2.1 j).1, plus (looksA 4 ((a.1, upn a.2.1 j (1, (a.2.1 j).2), a.2.2.1) : PA)) a.2.2.2) := by
            rw [hlk]
            unfold openA
            rw [hcl, if_neg nT, if_neg nrng, if_neg hcond, if_pos hv]
            show _ = ((0 : Nat), (upn a.2.1 j (1, (a.2.1 j).2) j).1, _)
            rw [upn_s]
            rfl
          obtain ⟨m', e9, L9⟩ := l_openGood (c := c) (s := s) hj4 hn (a.1, upn a.2.1 j (1, (a.2.1 j).2), a.2.2.1) ⟨Vg _ _ _ _ V.1, V.2.1.open1 hj4 hc1 hn (by omega), Va _ _ _, Vh _ _ _⟩ ⟨J.1, J.2.1.set0 nins _, fun q => absurd hu1 q, J.2.2.2⟩ (show a.2.2.1.1.length < 60 by omega) (hub _) hout hC hnN e S'
          rw [e9, if_neg e10, l0_inr]
          exact ⟨w', m', rfl, L9⟩
        · rw [if_neg hv, bd_some, bs_eq, bs_eq]
          simp only [hA, bs_eq, hB, nI_1]
          have hout : openA (nI j) v a = (0, ((looksA 4 (((a.1.1, a.1.2.1, a.1.2.2 + 1), upn a.2.1 j (3, v, a.1.2.2), a.2.2.1) : PA)).2.1 j).1, plus (looksA 4 (((a.1.1, a.1.2.1, a.1.2.2 + 1), upn a.2.1 j (3, v, a.1.2.2), a.2.2.1) : PA)) a.2.2.2) := by
            unfold openA
            rw [hcl, if_neg nT, if_neg nrng, if_neg hcond, if_neg hv]
          obtain ⟨m', e9, L9⟩ := l_openGood (c := c) (s := s) hj4 hn ((a.1.1, a.1.2.1, a.1.2.2 + 1), upn a.2.1 j (3, v, a.1.2.2), a.2.2.1) ⟨Vg _ _ _ _ V.1, V.2.1.open3 hj4 hc1 hn (by omega) hIV.1.2.2, Va _ _ _, Vh _ _ _⟩ ⟨J.1, J.2.1.set0 nins _, fun q i hi => by
            show ¬ (upn a.2.1 j (3, v, a.1.2.2) i).1 = 1
            by_cases z : i = j
            · subst z; rw [upn_s]; exact (show ¬ (3 : Int32) = 1 by decide)
            · rw [upn_n _ _ z]; exact J.2.2.1 q i hi, J.2.2.2⟩ (show a.2.2.1.1.length < 60 by omega) (hub _) hout hC hnN e S'
          rw [e9, if_neg e10, l0_inr]
          exact ⟨w', m', rfl, L9⟩
      · have eo : openA (nI j) v a = (3, 0, a) := by
          unfold openA
          rw [hcl, if_neg nT, if_neg nrng, if_pos]
          by_cases q1 : (a.2.1 j).1 = 0
          · by_cases q2 : v < a.1.1
            · exact Or.inr (Or.inl q2)
            · refine Or.inr (Or.inr (Or.inl ?_))
              have q3 : ¬ a.1.1 < v := fun q => hc ⟨q1, q2, Or.inl q⟩
              have q4 : 0 ≤ a.1.2.1 := Classical.byContradiction (fun q => hc ⟨q1, q2, Or.inr q⟩)
              exact ⟨Int32.le_antisymm (Int32.not_lt.mp q3) (Int32.not_lt.mp q2), hneg.mp q4⟩
          · exact Or.inl q1
        rw [eo, dz3 rfl] at e
        rw [eo] at S' ⊢
        rw [if_neg hb, if_neg hc, if_pos rfl, l0_inl, e, b2_some, if_neg e10, bd_some, if_pos rfl, bd_some, if_pos isB1]
        exact ⟨w', m, rfl, S', V, J, hC, n, by omega, hn⟩
