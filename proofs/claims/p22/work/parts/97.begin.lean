/-! ===== the law's checks: beginning, ending ===== -/
theorem inS_0 : ∀ a, a < 8 → ∀ k, k < 3 → ((nI a >>> (nI k &&& 31)) &&& 1 = 0 ↔ ¬ inS (nI a) (nI k)) := by decide +kernel
theorem inS_z : ∀ k, k < 3 → ¬ inS (nI 0) (nI k) := by decide +kernel
theorem rng_sc : ∀ a, a < 8 → (rng (nI a) 1 7 ↔ a = 0) := by decide +kernel
theorem l_begL {m : MS} {sc : Nat} (hs : sc < 8) : ∀ (f k : Nat), k ≤ 3 → 3 < f + k → x_L_isBegun_L1 m (nI sc) f (nI k) (if ∀ q ∈ List.range k, inS (nI sc) (nI q) → ga m 4 q = 1 then 1 else 0) = some (if ∀ q ∈ List.range 3, inS (nI sc) (nI q) → ga m 4 q = 1 then 1 else 0) := by
  intro f
  induction f with
  | zero => intro k h1 h2; omega
  | succ f ih =>
    intro k h1 h2
    rw [x_L_isBegun_L1]
    have z := kx_ge (n := k) (d := 3) (D := 3) rfl (by omega) (by omega)
    by_cases hk : k < 3
    · have hr : vR (nI k) 6 := vR6 (by omega)
      rw [if_neg (fun q => by have := z.mp q; omega)]
      by_cases hQ : ∀ q ∈ List.range k, inS (nI sc) (nI q) → ga m 4 q = 1
      · have i0 := inS_0 sc hs k hk
        rw [if_pos hQ, if_neg e10, nI_1, ← ih (k + 1) (by omega) (by omega)]
        simp only [if_pos hr, nI_clamp (show k < 2 ^ 31 by omega)]
        by_cases hi : inS (nI sc) (nI k)
        · rw [if_neg (fun q => i0.mp q hi)]
          by_cases hg : ga m 4 k = 1
          · rw [if_pos hg, l0_inl, bd_some, if_pos (fun q hq hin => by
              by_cases e : q = k
              · rw [e]; exact hg
              · exact hQ q (List.mem_range.mpr (by have := List.mem_range.mp hq; omega)) hin)]
          · rw [if_neg hg, l0_inr, bd_some, if_neg (fun q => hg (q k (List.mem_range.mpr (by omega)) hi))]
        · rw [if_pos (i0.mpr hi), l0_inl, bd_some, if_pos (fun q hq hin => by
            by_cases e : q = k
            · rw [e] at hin; exact absurd hin hi
            · exact hQ q (List.mem_range.mpr (by have := List.mem_range.mp hq; omega)) hin)]
      · rw [if_neg hQ, if_pos rfl, if_neg (fun q => hQ (fun i hi => q i (List.mem_range.mpr (by have := List.mem_range.mp hi; omega))))]
    · have : k = 3 := by omega
      subst this
      rw [if_pos (z.mpr (by omega))]
theorem l_begL0 {m : MS} {sc f : Nat} : x_L_isBegun_L1 m (nI sc) (f + 1) 0 0 = some 0 := by
  rw [x_L_isBegun_L1]
  rw [if_neg (show ¬ (3 : Int32) ≤ 0 by decide), if_pos rfl]
theorem MA.add {m : MS} {ts : List TX} (V : MA m ts) (t : TX) : MA (sa (sa (sa m 1 ts.length t.2.2.2) 2 ts.length (cod t)) 3 14 (nI (ts.length + 1))) (ts ++ [t]) := by
  refine ⟨by rw [gsa_s, len_1], fun k hk => ?_⟩
  rw [len_1] at hk
  rw [gsa_n (Or.inl (by omega)), gsa_n (Or.inl (by omega)), gsa_n (m := sa (sa m 1 ts.length t.2.2.2) 2 ts.length (cod t)) (Or.inl (by omega))]
  by_cases e : k = ts.length
  · subst e
    rw [gsa_s, gsa_s, txA_r]
    exact ⟨rfl, rfl⟩
  · rw [gsa_n (Or.inr e), gsa_n (Or.inr e), gsa_n (Or.inl (by omega)), txA_l (by omega)]
    exact V.2 k (by omega)
theorem v_code (j sc : Nat) (u : Int32) (hs : sc < 8) : (((16 : Int32) * nI j) + nI sc) + (if u = 0 then (0 : Int32) else 8) = cod (j, nI sc, u, 0) := by
  unfold cod
  show _ = nI (16 * j + ((nI sc).toNatClampNeg + (if u = 0 then 0 else 8)))
  rw [nI_clamp (by omega), show (16 : Int32) * nI j = nI (16 * j) from pk_mul 16 j, nI_add]
  by_cases h : u = 0
  · rw [if_pos h, if_pos h, show (0 : Int32) = nI 0 from nI_0.symm, nI_add]
    congr 1
  · rw [if_neg h, if_neg h, show (8 : Int32) = nI 8 from rfl, nI_add]
    congr 1
theorem l_isBegun {o N c s : Nat} {w : CS} {m : MS} {a : AS} (H : LR o N (c + 4) (s + 20) w m a) (hl : lenT a ≤ 56) {j sc : Nat} (hj : j ≤ 4) (hs : sc < 8) {u : Int32} (hu : isB u) : ∃ w' m', x_L_isBegun o (nI j) (nI sc) u w m = some (1, w', m') ∧ LR o (N + 1) c s w' m' (begA (nI j) (nI sc) u a).2.2 := by
  obtain ⟨S, V, J, hC, n, hnN, hn⟩ := H
  obtain ⟨w', e, S'⟩ := d_begin (c := c + 2) (s := s + 10) S (nI j) (nI sc) u 0 hu
  have hIV := S.2.1.1
  have hl' : a.2.2.1.1.length ≤ 56 := hl
  have z4 := kx_ge (n := j) (d := 4) (D := 4) rfl (by omega) (by omega)
  have h14 : ga m 3 14 = nI (lenT a) := V.2.2.1.1
  have eu : (if u = 0 then some (0 : Int32) else some (1 : Int32)) = some u := by
    rcases hu with q | q <;> subst q <;> decide
  have e8 : (if u = 0 then some (0 : Int32) else some (8 : Int32)) = some (if u = 0 then 0 else 8) := by
    by_cases q : u = 0
    · rw [if_pos q, if_pos q]
    · rw [if_neg q, if_neg q]
  have zs : nI sc ≤ 0 ↔ sc = 0 := by
    have := kx_le (n := sc) (d := 0) (D := 0) rfl (by omega) (by omega)
    rw [this]; omega
  unfold x_L_isBegun
  by_cases h4 : j = 4
  · subst h4
    have eo : begA (nI 4) (nI sc) u a = (1, 0, a) := by unfold begA; rw [if_pos (show oT (nI 4) 4 from oT_n)]
    rw [eo, dz1 rfl] at e
    rw [eo] at S' ⊢
    rw [if_pos (z4.mpr (by omega)), bd_some]
    have e4 : (if nI sc ≤ 0 then some (0 : Int32) else some (1 : Int32)) = some (if nI sc ≤ 0 then 0 else 1) := by
      by_cases q : nI sc ≤ 0
      · rw [if_pos q, if_pos q]
      · rw [if_neg q, if_neg q]
    rw [e4, bd_some, show x_L_isBegun_L1 m (nI sc) FU 0 0 = some 0 from l_begL0 (f := 999), bd_some, if_pos rfl, bd_some, if_pos (show (-30 : Int32) < 0 by decide), bd_some, eu, bd_some, e, b2_some, if_pos rfl, if_pos (show (-30 : Int32) < 0 by decide), l0_inl, l0_inr, bd_some, if_pos isB1]
    exact ⟨w', m, rfl, S'.mono (Nat.le_refl _) (by omega) (by omega), V, J, hC, n, by omega, hn⟩
  · have hj4 : j < 4 := by omega
    have nT := oT_no hj4 (show 4 < 2 ^ 31 by omega)
    have hcl : (nI j).toNatClampNeg = j := nI_clamp (by omega)
    have vb1 : ga m 3 (3 * j) = (a.2.1 j).1 := (V.2.1 j hj4).1
    have hL := l_begL (m := m) hs FU 0 (by omega) (by show 3 < 1000 + 0; omega)
    rw [if_pos (fun q hq => absurd (List.mem_range.mp hq) (by omega)), nI_0] at hL
    have hst : ∀ k, k < 3 → (ga m 4 k = 1 ↔ ¬ (a.2.2.1.2 k).1 = 0) := fun k hk => by
      have h1 : ga m 4 k = (a.2.2.1.2 k).1 := V.2.2.2.1 k hk
      have h2 := (SOK.of hIV hk).1.1
      rw [h1]
      rcases h2 with q | q <;> rw [q] <;> decide
    rw [if_neg (fun q => by have := z4.mp q; omega), bd_some]
    by_cases hz : sc = 0
    · have eo : begA (nI j) (nI sc) u a = (2, 0, a) := by
        have hr := (rng_sc sc hs).mpr hz
        unfold begA
        rw [if_neg nT, if_neg (fun q => q.1 hr), if_pos hr]
      rw [eo, dz2 rfl] at e
      rw [eo] at S' ⊢
      have hall : ∀ q ∈ List.range 3, inS (nI sc) (nI q) → ga m 4 q = 1 := fun q hq hin => by rw [hz] at hin; exact absurd hin (inS_z q (List.mem_range.mp hq))
      rw [if_pos hall] at hL
      rw [if_pos (zs.mpr hz), bd_some, hL, bd_some, if_neg e10, if_pos rfl, bd_some, if_pos (show (-20 : Int32) < 0 by decide), bd_some, eu, bd_some, e, b2_some, if_pos rfl, if_pos (show (-20 : Int32) < 0 by decide), l0_inl, l0_inr, bd_some, if_pos isB1]
      exact ⟨w', m, rfl, S'.mono (Nat.le_refl _) (by omega) (by omega), V, J, hC, n, by omega, hn⟩
    · have hnr : ¬ rng (nI sc) 1 7 := fun q => hz ((rng_sc sc hs).mp q)
      rw [if_neg (fun q => hz (zs.mp q)), bd_some, hL, bd_some]
      by_cases hall : ∀ q ∈ List.range 3, inS (nI sc) (nI q) → ga m 4 q = 1
      · have hnx : ¬ (¬ rng (nI sc) 1 7 ∧ ∃ k ∈ List.range 3, inS (nI sc) (nI k) ∧ (a.2.2.1.2 k).1 = 0) := by
          rintro ⟨-, k, hk, h1, h2⟩
          have hk' := List.mem_range.mp hk
          exact (hst k hk').mp (hall k hk h1) h2
        rw [if_pos hall, if_neg e10, if_neg e10]
        simp only [n3, if_pos (vR16 (show 3 * j < 16 by omega)), nI_clamp (show 3 * j < 2 ^ 31 by omega), vb1, if_pos v14, t14c, h14]
        by_cases hc : (a.2.1 j).1 = 1
        · have hu1 : a.1.2.1 = -1 := Classical.byContradiction (fun q => J.2.2.1 q j hj4 hc)
          have eo : begA (nI j) (nI sc) u a = (0, nI (lenT a), (a.1, a.2.1, (goesA (a.2.2.1.1 ++ [(j, nI sc, u, 0)], a.2.2.1.2)).2, a.2.2.2)) := by
            unfold begA
            rw [hcl, if_neg nT, if_neg hnx, if_neg hnr, if_neg (fun q => q.elim (fun z => z hc) (fun z => z (by omega)))]
          rw [eo, dz0 rfl] at e
          rw [eo] at S' ⊢
          have g14 : ga (sa (sa m 1 (lenT a) 0) 2 (lenT a) (cod (j, nI sc, u, 0))) 3 14 = nI (lenT a) := by rw [gsa_n (Or.inl (by omega)), gsa_n (Or.inl (by omega))]; exact h14
          have V1 : MP (sa (sa (sa m 1 (lenT a) 0) 2 (lenT a) (cod (j, nI sc, u, 0))) 3 14 (nI (lenT a + 1))) (a.1, a.2.1, (a.2.2.1.1 ++ [(j, nI sc, u, 0)], a.2.2.1.2)) := by
            refine ⟨V.1.eq (fun x h1 h2 => ?_), V.2.1.eq (fun x h1 => ?_), V.2.2.1.add (j, nI sc, u, 0), V.2.2.2.eq (fun x => ?_)⟩
            · rw [gsa_n (Or.inr (by omega)), gsa_n (Or.inl (by omega)), gsa_n (Or.inl (by omega))]
            · rw [gsa_n (Or.inr (by omega)), gsa_n (Or.inl (by omega)), gsa_n (Or.inl (by omega))]
            · rw [gsa_n (Or.inl (by omega)), gsa_n (Or.inl (by omega)), gsa_n (Or.inl (by omega))]
          have J1 : JP (a.1, a.2.1, (a.2.2.1.1 ++ [((j, nI sc, u, 0) : TX)], a.2.2.1.2)) := by
            refine ⟨J.1.add (t := (j, nI sc, u, 0)) ⟨hj4, ⟨sc, by omega, hs, rfl⟩, hu, Or.inl rfl⟩ rfl (show a.2.2.1.1.length < 60 by omega) (by show ¬ a.1.2.1 = nI a.2.2.1.1.length; rw [hu1]; exact nm1 (by omega)), fun i hi hp => ?_, J.2.2.1, fun q => absurd hu1 q⟩
            have hi' : i < (a.2.2.1.1 ++ [((j, nI sc, u, 0) : TX)]).length := hi
            rw [len_1] at hi'
            have hp' : pendT (txAt (a.2.2.1.1 ++ [((j, nI sc, u, 0) : TX)]) i) := hp
            show insA a.2.1 (txAt (a.2.2.1.1 ++ [((j, nI sc, u, 0) : TX)]) i).1
            by_cases z : i = a.2.2.1.1.length
            · subst z; rw [txA_r]; exact Or.inl hc
            · rw [txA_l (by omega)] at hp' ⊢
              exact J.2.1 i (by show i < a.2.2.1.1.length; omega) hp'
          obtain ⟨m', e5, V2, F2⟩ := l_go V1 J1
          have hnl : ¬ nI (lenT a) < 0 := nI_pos (by omega)
          rw [if_pos hc, bd_some, if_neg hnl]
          simp only [if_neg hnl, if_pos (vR60 (show lenT a < 60 by omega)), nI_clamp (show lenT a < 2 ^ 31 by omega), bs_eq, e8, bd_some, v_code j sc u hs, g14, nI_1, e5, b2_some, eu, e, if_pos S'.k]
          have hst2 := sta_at (a := ((a.1, a.2.1, (goesA (a.2.2.1.1 ++ [((j, nI sc, u, 0) : TX)], a.2.2.1.2)).2, a.2.2.2) : AS)) (j := lenT a) (by show lenT a < (goesA (a.2.2.1.1 ++ [((j, nI sc, u, 0) : TX)], a.2.2.1.2)).2.1.length; rw [goes_len, len_1]; exact Nat.lt_succ_self _) (by show (goesA (a.2.2.1.1 ++ [((j, nI sc, u, 0) : TX)], a.2.2.1.2)).2.1.length < 2 ^ 31; rw [goes_len, len_1]; omega)
          have hs3 := n_standing S' (nI (lenT a)) (by rw [hst2])
          rw [hst2] at hs3
          have hg : ga m' 1 (lenT a) = (txAt (goesA (a.2.2.1.1 ++ [((j, nI sc, u, 0) : TX)], a.2.2.1.2)).2.1 (lenT a)).2.2.2 := (V2.2.2.1.2 (lenT a) (by show lenT a < (goesA (a.2.2.1.1 ++ [((j, nI sc, u, 0) : TX)], a.2.2.1.2)).2.1.length; rw [goes_len, len_1]; exact Nat.lt_succ_self _)).1
          rw [if_pos trivial, hs3]
          show ∃ w'' m'', (bd (l0 (l0 (if (txAt (goesA (a.2.2.1.1 ++ [((j, nI sc, u, 0) : TX)], a.2.2.1.2)).2.1 (lenT a)).2.2.2 = ga m' 1 (lenT a) then some (Sum.inl ()) else some (Sum.inr (Sum.inl ()))) (fun _ => some (Sum.inr 1))) (fun _ => some 0)) (fun v51 => if isB v51 then some (v51, w', m') else none)) = some (1, w'', m'') ∧ _
          rw [if_pos hg.symm, l0_inl, l0_inr, bd_some, if_pos isB1]
          exact ⟨w', m', rfl, S'.mono (Nat.le_refl _) (by omega) (by omega), V2, J1.go, hC, n, by omega, by rw [F2 3 15 (by omega), gsa_n (Or.inr (by omega)), gsa_n (Or.inl (by omega)), gsa_n (Or.inl (by omega))]; exact hn⟩
        · have eo : begA (nI j) (nI sc) u a = (3, 0, a) := by
            unfold begA
            rw [hcl, if_neg nT, if_neg hnx, if_neg hnr, if_pos (Or.inl hc)]
          rw [eo, dz3 rfl] at e
          rw [eo] at S' ⊢
          rw [if_neg hc, bd_some, if_pos (show (-10 : Int32) < 0 by decide), bd_some, eu, bd_some, e, b2_some, if_pos rfl, if_pos (show (-10 : Int32) < 0 by decide), l0_inl, l0_inr, bd_some, if_pos isB1]
          exact ⟨w', m, rfl, S'.mono (Nat.le_refl _) (by omega) (by omega), V, J, hC, n, by omega, hn⟩
      · have eo : begA (nI j) (nI sc) u a = (1, 0, a) := by
          unfold begA
          rw [if_neg nT, if_pos]
          refine ⟨hnr, Classical.byContradiction (fun q => hall (fun k hk hin => ?_))⟩
          exact (hst k (List.mem_range.mp hk)).mpr (fun z => q ⟨k, hk, hin, z⟩)
        rw [eo, dz1 rfl] at e
        rw [eo] at S' ⊢
        rw [if_neg hall, if_pos rfl, bd_some, if_pos (show (-30 : Int32) < 0 by decide), bd_some, eu, bd_some, e, b2_some, if_pos rfl, if_pos (show (-30 : Int32) < 0 by decide), l0_inl, l0_inr, bd_some, if_pos isB1]
        exact ⟨w', m, rfl, S'.mono (Nat.le_refl _) (by omega) (by omega), V, J, hC, n, by omega, hn⟩
