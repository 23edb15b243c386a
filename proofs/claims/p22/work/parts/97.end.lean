/-! ===== the law's checks: commit and abort ===== -/
theorem fbA_none {B : TQ} (h : ∀ j, j < 4 → ¬ (B j).1 = 3) : fbA B 4 0 none = none := by
  cases e : fbA B 4 0 none with
  | none => rfl
  | some q =>
    have := fbA_lt B 4 0 none (by omega) (fun q hq => by cases hq) q e
    exact absurd this.2 (h q this.1)
theorem looks_id {n : Int32} {a : PA} (h : IB n a.2.1) : ∀ k, looksA k a = a := by
  by_cases q : ∃ j, j < 4 ∧ (a.2.1 j).1 = 3
  · exact looks_busy (h.2.1 q)
  · exact looks_none (fbA_none (fun j hj z => q ⟨j, hj, z⟩))
theorem two_eq {P : Prop} [Decidable P] : (if P then some (1 : Int32) else some (0 : Int32)) = some (if P then 1 else 0) := by
  by_cases h : P
  · rw [if_pos h, if_pos h]
  · rw [if_neg h, if_neg h]
/-- the word of the call: 6 commits, 7 aborts -/
theorem w67 (b : Int32) : (if b = 0 then some (7 : Int32) else some (6 : Int32)) = some (if b = 0 then 7 else 6) := by
  by_cases h : b = 0
  · rw [if_pos h, if_pos h]
  · rw [if_neg h, if_neg h]
theorem d_end {o N c s : Nat} {w : CS} {a : AS} (h : ST o N (c + 2) (s + 10) w a) (t : Int32) (b : Int32) : ∃ w', x_L_does o (if b = 0 then 7 else 6) t 0 0 0 w = some (dz (if b = 0 then aboA t a else comA t a), w') ∧ ST o (N + 1) c s w' (if b = 0 then aboA t a else comA t a).2.2 := by
  by_cases q : b = 0
  · rw [if_pos q, if_pos q]; exact d_abort h t 0 0 0
  · rw [if_neg q, if_neg q]; exact d_commit h t 0 0 0
theorem l_isEnded {o N c s : Nat} {w : CS} {m : MS} {a : AS} (H : LR o N (c + 2) (s + 10) w m a) (hl : lenT a ≤ 56) {i : Nat} (hi : i ≤ lenT a) (b : Int32) : ∃ w' m', x_L_isEnded o (nI i) b w m = some (1, w', m') ∧ LR o (N + 1) c s w' m' (if b = 0 then aboA (nI i) a else comA (nI i) a).2.2 := by
  obtain ⟨S, V, J, hC, n, hnN, hn⟩ := H
  obtain ⟨w', e, S'⟩ := d_end S (nI i) b
  have hIV := S.2.1.1
  have hl' : a.2.2.1.1.length ≤ 56 := hl
  have h14 : ga m 3 14 = nI (lenT a) := V.2.2.1.1
  have h13 : ga m 3 13 = a.1.2.1 := V.1.2
  unfold x_L_isEnded
  simp only [if_pos v14, t14c, h14]
  have zi : nI i = nI (lenT a) ↔ i = lenT a := nI_eq (by omega) (by omega)
  by_cases h0 : i = lenT a
  · have hoX : oX a (nI i) := by rw [h0]; exact oT_n
    have eo : (if b = 0 then aboA (nI i) a else comA (nI i) a) = (1, 0, a) := by
      by_cases q : b = 0
      · rw [if_pos q]; unfold aboA; rw [if_pos hoX]
      · rw [if_neg q]; unfold comA; rw [if_pos hoX]
    rw [eo, dz1 rfl] at e
    rw [eo] at S' ⊢
    rw [if_pos (zi.mpr h0), w67, bd_some, e, b2_some, if_pos rfl, bd_some, if_pos isB1]
    exact ⟨w', m, rfl, S', V, J, hC, n, by omega, hn⟩
  · have hi' : i < lenT a := by omega
    have hnX : ¬ oX a (nI i) := oT_no hi' (by omega)
    have hcl : (nI i).toNatClampNeg = i := nI_clamp (by omega)
    have hr : vR (nI i) 60 := vR60 (by omega)
    have hphase : ga m 1 i = (txAt a.2.2.1.1 i).2.2.2 := (V.2.2.1.2 i hi').1
    have hcode : ga m 2 i = cod (txAt a.2.2.1.1 i) := (V.2.2.1.2 i hi').2
    have hok := J.1.1 i hi'
    have hok' : okT (txAt a.2.2.1.1 i) := hok
    have ht4 : (txAt a.2.2.1.1 i).1 < 4 := hok'.1
    rw [if_neg (fun q => h0 (zi.mp q))]
    -- may it end
    have hcan : l0 (if b = 0 then bd (x_L_isAlive (nI i) m) (fun (v5 : Int32) => if (v5 : Int32) = 0 then some (Sum.inl ()) else some (Sum.inr (Sum.inl ()))) else if vR (nI i) 60 then if ((ga m 1 (nI i).toNatClampNeg) : Int32) = 1 then some (Sum.inr (Sum.inl ())) else some (Sum.inl ()) else none) (fun (_ : Unit) => bd (if b = 0 then some (7 : Int32) else some (6 : Int32)) (fun (v10 : Int32) => b2 (x_L_does o v10 (nI i) 0 0 0 w) (fun (v12 : Int32) (w13 : CS) => bd (if (v12 : Int32) = (-10) then some (1 : Int32) else some (0 : Int32)) (fun (v15 : Int32) => if isB v15 then some (Sum.inr ((v15, w13, m))) else none)))) = (if (if b = 0 then pendT (txAt a.2.2.1.1 i) else (txAt a.2.2.1.1 i).2.2.2 = 1) then some (Sum.inl ()) else some (Sum.inr (1, w', m))) := by
      have hfail : ¬ (if b = 0 then pendT (txAt a.2.2.1.1 i) else (txAt a.2.2.1.1 i).2.2.2 = 1) → x_L_does o (if b = 0 then 7 else 6) (nI i) 0 0 0 w = some (-10, w') := fun q => by
        rw [e]
        have eo : (if b = 0 then aboA (nI i) a else comA (nI i) a) = (3, 0, a) := by
          by_cases z : b = 0
          · rw [if_pos z] at q ⊢
            unfold aboA txA
            rw [hcl, if_neg hnX, if_pos (Or.inl q)]
          · rw [if_neg z] at q ⊢
            unfold comA txA
            rw [hcl, if_neg hnX, if_pos q]
        rw [eo, dz3 rfl]
      by_cases z : b = 0
      · rw [if_pos z, l_isAlive (by omega), bd_some, hphase]
        by_cases p : pendT (txAt a.2.2.1.1 i)
        · rw [if_pos p, if_neg e10, l0_inr, if_pos (by rw [if_pos z]; exact p)]
        · rw [if_neg p, if_pos rfl, l0_inl, w67, bd_some, hfail (by rw [if_pos z]; exact p), b2_some, if_pos rfl, bd_some, if_pos isB1, if_neg (by rw [if_pos z]; exact p)]
      · rw [if_neg z, if_pos hr, hcl, hphase]
        by_cases p : (txAt a.2.2.1.1 i).2.2.2 = 1
        · rw [if_pos p, l0_inr, if_pos (by rw [if_neg z]; exact p)]
        · rw [if_neg p, l0_inl, w67, bd_some, hfail (by rw [if_neg z]; exact p), b2_some, if_pos rfl, bd_some, if_pos isB1, if_neg (by rw [if_neg z]; exact p)]
    rw [hcan]
    by_cases hc : (if b = 0 then pendT (txAt a.2.2.1.1 i) else (txAt a.2.2.1.1 i).2.2.2 = 1)
    · rw [if_pos hc, l0_inl, if_pos hr]
      have hlate : ∀ p, ¬ lateA a p := fun p q => by have := q.1; omega
      have hbusyu : ¬ busyA a.2.1 → a.1.2.1 = -1 := fun q => by
        rcases hIV.2.1 with y | ⟨k, hk, -, -, h2, -⟩
        · exact y.1
        · exact absurd ⟨(txAt a.2.2.1.1 k).1, List.mem_range.mpr (J.1.1 k hk).1, Or.inr h2⟩ q
      by_cases hb : b = 0
      · rw [if_pos hb] at hc
        simp only [if_pos hb, bd_some, hcl, hcode, cod_tab hok']
        simp only [if_pos hb] at e S'
        obtain ⟨m1, e1, V1, c1, -⟩ := l_aborts V J hi' hc (show a.2.2.1.1.length < 60 by omega)
        have J1 := J.give hi' hc
        obtain ⟨m2, e2, V2, F2⟩ := l_go V1 J1
        have J2 := J1.go
        have hT : (aA i (pa a)).2.2 = giveA i a.2.2.1 := aA_T i (pa a)
        have hlen2 : (goesA (aA i (pa a)).2.2).2.1.length < 60 := by rw [goes_len, hT, give_len]; omega
        have hu2 : ¬ busyA (aA i (pa a)).2.1 → (aA i (pa a)).1.2.1 = -1 := fun q => by
          by_cases hu : a.1.2.1 = nI i
          · have e9 : aA i (pa a) = ((a.1.1, -1, a.1.2.2), upn a.2.1 (txAt a.2.2.1.1 i).1 (0, (a.2.1 (txAt a.2.2.1.1 i).1).2), giveA i a.2.2.1) := by unfold aA; rw [if_pos (show (pa a).1.2.1 = nI i from hu)]
            rw [e9]
          · have e9 : aA i (pa a) = (a.1, a.2.1, giveA i a.2.2.1) := by unfold aA; rw [if_neg (show ¬ (pa a).1.2.1 = nI i from hu)]
            rw [e9] at q ⊢
            exact hbusyu q
        obtain ⟨m3, e3, V3, J3, c3⟩ := l_looks (a := ((aA i (pa a)).1, (aA i (pa a)).2.1, (goesA (aA i (pa a)).2.2).2)) hlen2 hu2 J2 V2
        have e1' : x_L_aborts (nI i) (nI (txAt a.2.2.1.1 i).1) m = some m1 := e1
        simp only [e1', bd_some, e2, b2_some, e3, e]
        have hout : aboA (nI i) a = (0, nI (goesA (aA i (pa a)).2.2).1, plus (looksA 4 ((aA i (pa a)).1, (aA i (pa a)).2.1, (goesA (aA i (pa a)).2.2).2)) a.2.2.2) := by
          unfold aboA txA
          rw [hcl, if_neg hnX, if_neg (fun q => q.elim (fun z => z hc) (fun z => hlate _ z.2)), hT]
          by_cases hu : a.1.2.1 = nI i
          · have e9 : aA i (pa a) = ((a.1.1, -1, a.1.2.2), upn a.2.1 (txAt a.2.2.1.1 i).1 (0, (a.2.1 (txAt a.2.2.1.1 i).1).2), giveA i a.2.2.1) := by unfold aA; rw [if_pos (show (pa a).1.2.1 = nI i from hu)]
            rw [e9]
            show ((0 : Nat), _, (if nI i = a.1.2.1 then _ else _)) = _
            rw [if_pos hu.symm]
          · have e9 : aA i (pa a) = (a.1, a.2.1, giveA i a.2.2.1) := by unfold aA; rw [if_neg (show ¬ (pa a).1.2.1 = nI i from hu)]
            rw [e9]
            show ((0 : Nat), _, (if nI i = a.1.2.1 then _ else _)) = _
            rw [if_neg (fun q => hu q.symm), looks_id (n := a.1.2.2) (a := (a.1, a.2.1, (goesA (giveA i a.2.2.1)).2)) hIV.1]
            rfl
        rw [hout] at S' ⊢
        rw [dz0 rfl, if_pos rfl, bd_some, if_pos isB1]
        exact ⟨w', m3, rfl, S', V3, J3, hC, n, by omega, by rw [c3, F2 3 15 (by omega), c1]; exact hn⟩
      · rw [if_neg hb] at hc
        simp only [if_neg hb, bd_some, hcl, hcode, cod_tab hok', if_pos hr, if_pos v13, t13c, h13]
        simp only [if_neg hb] at e S'
        have L60 : a.2.2.1.1.length < 60 := by omega
        -- what the commit makes of the upgrade
        have key : ∃ m1 : MS, ∃ a1 : PA, (∀ F : MS → Option (Int32 × CS × MS), bd (if (nI i : Int32) = a.1.2.1 then if vR ((3 * nI (txAt a.2.2.1.1 i).1) + 1) 16 then if vR 12 16 then bs (sa m 3 (12 : Int32).toNatClampNeg (ga m 3 ((3 * nI (txAt a.2.2.1.1 i).1) + 1).toNatClampNeg)) (fun (m26 : MS) => if vR (3 * nI (txAt a.2.2.1.1 i).1) 16 then bs (sa m26 3 (3 * nI (txAt a.2.2.1.1 i).1).toNatClampNeg 1) (fun (m28 : MS) => bs (sa m28 3 13 (-1)) (fun (m30 : MS) => some m30)) else none) else none else none else some m) F = F m1) ∧ MP (sa m1 1 i 2) a1 ∧ JP a1 ∧ ga m1 3 15 = ga m 3 15 ∧ a1.2.2 = (setP a.2.2.1.1 i 2, a.2.2.1.2) ∧ comA (nI i) a = (0, nI (goesA a1.2.2).1, plus (a1.1, a1.2.1, (goesA a1.2.2).2) a.2.2.2) := by
          have hback : ∀ k, k < (setP a.2.2.1.1 i 2).length → pendT (txAt (setP a.2.2.1.1 i 2) k) → k ≠ i ∧ k < a.2.2.1.1.length ∧ pendT (txAt a.2.2.1.1 k) ∧ (txAt (setP a.2.2.1.1 i 2) k).1 = (txAt a.2.2.1.1 k).1 := fun k hk q => by
            rw [setP_len] at hk
            have e9 : k ≠ i := fun z => by
              subst z
              rw [setP_s 2 hi'] at q
              rcases q with y | y
              · exact absurd y (show ¬ (2 : Int32) = 0 by decide)
              · exact absurd y (show ¬ (2 : Int32) = 1 by decide)
            rw [setP_n 2 e9] at q ⊢
            exact ⟨e9, hk, q, rfl⟩
          by_cases hu : a.1.2.1 = nI i
          · have hu1 : ¬ a.1.2.1 = -1 := by rw [hu]; exact nI_m1 (by omega)
            have h2 : (a.2.1 (txAt a.2.2.1.1 i).1).1 = 2 := by
              rcases hIV.2.1 with y | ⟨k, hk, hu2, -, h2, -⟩
              · exact absurd y.1 hu1
              · rw [hu] at hu2
                have : i = k := (nI_eq (by omega) (by omega)).mp hu2
                subst this; exact h2
            have hW : ga m 3 (3 * (txAt a.2.2.1.1 i).1 + 1) = (a.2.1 (txAt a.2.2.1.1 i).1).2.1 := (V.2.1 _ ht4).2.1 (Or.inl h2)
            refine ⟨sa (sa (sa m 3 12 (a.2.1 (txAt a.2.2.1.1 i).1).2.1) 3 (3 * (txAt a.2.2.1.1 i).1) 1) 3 13 (-1), (((a.2.1 (txAt a.2.2.1.1 i).1).2.1, -1, a.1.2.2), upn a.2.1 (txAt a.2.2.1.1 i).1 (1, (a.2.1 (txAt a.2.2.1.1 i).1).2), (setP a.2.2.1.1 i 2, a.2.2.1.2)), fun F => ?_, ⟨⟨?_, ?_⟩, ?_, ?_, ?_⟩, ⟨J.1.done hi' (Or.inr ⟨rfl, hu⟩), fun k hk q => ?_, fun q => absurd rfl q, fun q => absurd rfl q⟩, ?_, rfl, ?_⟩
            · rw [if_pos hu.symm]
              simp only [n3, nI_1, if_pos (vR16 (show 3 * (txAt a.2.2.1.1 i).1 + 1 < 16 by omega)), if_pos (vR16 (show 3 * (txAt a.2.2.1.1 i).1 < 16 by omega)), if_pos v12, t12c, nI_clamp (show 3 * (txAt a.2.2.1.1 i).1 + 1 < 2 ^ 31 by omega), nI_clamp (show 3 * (txAt a.2.2.1.1 i).1 < 2 ^ 31 by omega), bs_eq, hW, bd_some]
            · rw [gsa_n (Or.inl (by omega)), gsa_n (Or.inr (by omega)), gsa_n (Or.inr (by omega)), gsa_s]
            · rw [gsa_n (Or.inl (by omega)), gsa_s]
            · refine (V.2.1.cond ht4 (v := 1) (by decide) (fun q => absurd q (by decide))).eq (fun x hx => ?_)
              rw [gsa_n (Or.inl (by omega)), gsa_n (Or.inr (by omega))]
              by_cases z : x = 3 * (txAt a.2.2.1.1 i).1
              · rw [z, gsa_s, gsa_s]
              · rw [gsa_n (Or.inr z), gsa_n (Or.inr (by omega)), gsa_n (Or.inr z)]
            · refine (MA.eq V.2.2.1 (m' := sa (sa (sa m 3 12 (a.2.1 (txAt a.2.2.1.1 i).1).2.1) 3 (3 * (txAt a.2.2.1.1 i).1) 1) 3 13 (-1)) (fun x => ⟨?_, ?_⟩) ?_).phase hi' 2
              · rw [gsa_n (Or.inl (by omega)), gsa_n (Or.inl (by omega)), gsa_n (Or.inl (by omega))]
              · rw [gsa_n (Or.inl (by omega)), gsa_n (Or.inl (by omega)), gsa_n (Or.inl (by omega))]
              · rw [gsa_n (Or.inr (by omega)), gsa_n (Or.inr (by omega)), gsa_n (Or.inr (by omega))]
            · refine ⟨fun k hk => ?_, fun q => absurd rfl q⟩
              rw [gsa_n (Or.inl (by omega)), gsa_n (Or.inl (by omega)), gsa_n (Or.inl (by omega)), gsa_n (Or.inl (by omega))]
              exact V.2.2.2.1 k hk
            · obtain ⟨e9, hk', q', -⟩ := hback k hk q
              have h5 := J.2.2.2 hu1 k hk' q'
              have h6 : a.1.2.1 = nI k := h5
              rw [hu] at h6
              exact absurd ((nI_eq (by omega) (by omega)).mp h6).symm e9
            · rw [gsa_n (Or.inr (by omega)), gsa_n (Or.inr (by omega)), gsa_n (Or.inr (by omega))]
            · unfold comA txA
              rw [hcl, if_neg hnX, if_neg (fun q => q hc)]
              show ((0 : Nat), _, (if nI i = a.1.2.1 then _ else _)) = _
              rw [if_pos hu.symm]
              rfl
          · refine ⟨m, (a.1, a.2.1, (setP a.2.2.1.1 i 2, a.2.2.1.2)), fun F => ?_, ⟨V.1.eq (fun x h1 h2 => gsa_n (Or.inl (by omega))), V.2.1.eq (fun x h1 => gsa_n (Or.inl (by omega))), V.2.2.1.phase hi' 2, V.2.2.2.eq (fun x => gsa_n (Or.inl (by omega)))⟩, ⟨J.1.done hi' (Or.inl ⟨rfl, hu⟩), fun k hk q => ?_, J.2.2.1, fun hx k hk q => ?_⟩, rfl, rfl, ?_⟩
            · rw [if_neg (fun q => hu q.symm), bd_some]
            · obtain ⟨e9, hk', q', e8⟩ := hback k hk q
              show insA a.2.1 (txAt (setP a.2.2.1.1 i 2) k).1
              rw [e8]
              exact J.2.1 k hk' q'
            · obtain ⟨e9, hk', q', e8⟩ := hback k hk q
              exact J.2.2.2 hx k hk' q'
            · unfold comA txA
              rw [hcl, if_neg hnX, if_neg (fun q => q hc)]
              show ((0 : Nat), _, (if nI i = a.1.2.1 then _ else _)) = _
              rw [if_neg (fun q => hu q.symm)]
              rfl
        obtain ⟨m1, a1, k1, V1, J1, c1, hT, hout⟩ := key
        obtain ⟨m2, e2, V2, F2⟩ := l_go V1 J1
        rw [k1]
        simp only [bs_eq, bd_some, e2, b2_some, e]
        rw [hout] at S' ⊢
        rw [dz0 rfl, if_pos rfl, bd_some, if_pos isB1]
        exact ⟨w', m2, rfl, S', V2, J1.go, hC, n, by omega, by rw [F2 3 15 (by omega), gsa_n (Or.inl (by omega)), c1]; exact hn⟩
    · rw [if_neg hc, l0_inr]
      have eo : (if b = 0 then aboA (nI i) a else comA (nI i) a).2.2 = a := by
        by_cases z : b = 0
        · rw [if_pos z] at hc ⊢
          unfold aboA txA
          rw [hcl, if_neg hnX, if_pos (Or.inl hc)]
        · rw [if_neg z] at hc ⊢
          unfold comA txA
          rw [hcl, if_neg hnX, if_pos hc]
      rw [eo] at S' ⊢
      exact ⟨w', m, rfl, S', V, J, hC, n, by omega, hn⟩
