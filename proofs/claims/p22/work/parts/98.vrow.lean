/-! ===== the law's checks: a row put, and what is found of it ===== -/
theorem ST.up {o N N' c s c' s' : Nat} {w : CS} {m : MS} {a : AS} (H : LR o N c s w m a) (hN : N ≤ N') (hc : c' ≤ c) (hs : s' ≤ s) : LR o N' c' s' w m a := ⟨H.1.mono hN hc hs, H.2.1, H.2.2.1, H.2.2.2.1, by obtain ⟨n, q1, q2⟩ := H.2.2.2.2; exact ⟨n, by omega, q2⟩⟩
theorem kP_mid {kk : Nat} (h : kk < 2000000) (h2 : kk % 1000000 < 1000) : kP (nI kk) := (kP_lo h).mpr h2
theorem l_isRow {o N c s : Nat} {w : CS} {m : MS} {a : AS} (H : LR o N (c + 10) (s + 50) w m a) (hl : lenT a ≤ 56) {i k kk cc : Nat} (hi : i ≤ lenT a) (hk : k ≤ 3) (hkk : kk < 2000000) (hcc : cc ≤ 10000) : ∃ w' a', x_L_isRow o (nI i) (nI k) (nI kk) (nI cc) w m = some (1, w') ∧ LR o (N + 4) c s w' m a' := by
  obtain ⟨S, V, J, hC, n, hnN, hn⟩ := id H
  obtain ⟨w1, e1, S1⟩ := d_put (c := c + 8) (s := s + 40) S (nI i) (nI k) (nI kk) (nI cc)
  have hIV := S.2.1.1
  have h14 : ga m 3 14 = nI (lenT a) := V.2.2.1.1
  have hci : (nI i).toNatClampNeg = i := nI_clamp (by omega)
  have hck : (nI k).toNatClampNeg = k := nI_clamp (by omega)
  unfold x_L_isRow
  simp only [if_pos v14, t14c, h14]
  rw [chk10 V hi hl hk, bd_some, chk16 hkk hcc, bd_some]
  by_cases c1 : thR a i k
  · obtain ⟨t1, t2, t3⟩ := id c1
    have hnX : ¬ oX a (nI i) := oT_no t1 (by omega)
    have hnS : ¬ noS a (nI k) := fun q => q.elim (oT_no t2 (by omega)) (fun z => by rw [hck, t3] at z; exact e10 z)
    rw [if_pos c1, chk23 V J t1 hl t2, bd_some]
    by_cases c2 : rgR kk cc
    · have hkP : kP (nI kk) := kP_mid hkk c2.1
      have hrc : ¬ rng (nI cc) 0 9999 := fun q => by have := (rng_c hcc).mp q; have := c2.2; omega
      have hrf : ¬ rng (nI cc - nI cc / 1000 * 1000) (-1) 999 := ct_f cc c2.2
      have hrg : ¬ rng (-1) (-1) 999 := by decide
      rw [if_pos c2]
      by_cases c3 : rdR a i k
      · have hre : reA a (nI i) (nI k) := by unfold reA txA; rw [hci]; exact c3
        have X := J.1.2.2.2.2.1
        have hX : ∀ r ∈ (a.2.2.1.2 k).2.2.2, ¬ rng r.2.1 0 9999 := X k (by omega)
        have hS := SOK.of hIV t2
        have hP : ∀ r ∈ (a.2.2.1.2 k).2.2.2, kP r.1 := fun r hr => (hS.2.2.2.2 r hr).1
        have hlen := hS.2.2.1
        have hst : stA a (nI k) = a.2.2.1.2 k := by unfold stA; rw [hck]
        have eg : getA (nI i) (nI k) (nI kk) a = (0, gotV (findR (a.2.2.1.2 k).2.2.2 (nI kk)), a) := by
          unfold getA
          rw [if_neg hnX, if_neg hnS, if_neg (fun q => q hkP), if_neg (fun q => q hre), hst]
          cases findR (a.2.2.1.2 k).2.2.2 (nI kk) <;> rfl
        have ec : ∀ x y, kP x → kP y → cntA (nI i) (nI k) x y a = (0, nI ((a.2.2.1.2 k).2.2.2.countP (fun r => decide (btwR x y r))), a) := fun x y hx hy => by
          unfold cntA
          rw [if_neg hnX, if_neg hnS, if_neg (fun q => q hx), if_neg (fun q => q hy), if_neg (fun q => q hre), hst]
        have q1 := n_cnt (c := c + 8) (s := s + 40) S (nI i) (nI k) 0 3999999 (by rw [ec _ _ kP_0 kP_M])
        have q2 := n_get (c := c + 8) (s := s + 40) S (nI i) (nI k) (nI kk) (by rw [eg])
        have q3 := n_cnt (c := c + 8) (s := s + 40) S (nI i) (nI k) (nI kk) (nI kk) (by rw [ec _ _ hkP hkP])
        have q4 := n_cnt (c := c + 8) (s := s + 40) S (nI i) (nI k) 3999999 0 (by rw [ec _ _ kP_M kP_0])
        rw [ec _ _ kP_0 kP_M, cnt_all hP] at q1
        rw [eg] at q2
        rw [ec _ _ hkP hkP, cnt_key hkP _ hP hS.2.2.2.1] at q3
        rw [ec _ _ kP_M kP_0, cnt_no hP] at q4
        obtain ⟨g1, g2, g3⟩ := got_rng (k := nI kk) hX
        have hlt : ¬ (41 : Int32) ≤ nI (a.2.2.1.2 k).2.2.2.length := fun q => by
          have := (kx_ge (n := (a.2.2.1.2 k).2.2.2.length) (d := 41) (D := 41) rfl (by omega) (by omega)).mp q
          omega
        obtain ⟨gv, hgv⟩ : ∃ gv, gv = gotV (findR (a.2.2.1.2 k).2.2.2 (nI kk)) := ⟨_, rfl⟩
        rw [← hgv] at q2 g1 g2 g3
        have q2' : x_X6_get o (nI i) (nI k) (nI kk) w = some (.inr gv) := q2
        have q1' : x_X6_count o (nI i) (nI k) 0 3999999 w = some (.inr (nI (a.2.2.1.2 k).2.2.2.length)) := q1
        have q4' : x_X6_count o (nI i) (nI k) 3999999 0 w = some (.inr (nI 0)) := q4
        have q3' : x_X6_count o (nI i) (nI k) (nI kk) (nI kk) w = some (.inr (if (0 : Int32) ≤ gv then 1 else 0)) := by
          by_cases z : findR (a.2.2.1.2 k).2.2.2 (nI kk) = none
          · rw [if_neg (fun q => g3.mp q z)]
            rw [if_pos z] at q3
            exact q3
          · rw [if_pos (g3.mpr z)]
            rw [if_neg z] at q3
            exact q3
        rw [if_pos c3, chk28 V J t1 hl, bd_some, if_neg e10, if_neg e10, if_neg e10, if_pos S.k, q1']
        show ∃ w' a', l0 (bn3 (x_X6_get o (nI i) (nI k) (nI kk) w) _) _ = some (1, w') ∧ _
        rw [q2']
        show ∃ w' a', l0 (bd _ _) _ = some (1, w') ∧ _
        rw [if_neg (nI_pos (by omega)), if_neg hlt, if_neg g1, if_neg g2, q3', q4']
        show ∃ w' a', l0 (bd (l0 (bd (if (0 : Int32) ≤ gv then some (1 : Int32) else some 0) (fun v44 => if (if (0 : Int32) ≤ gv then (1 : Int32) else 0) = v44 then (if nI 0 = 0 then some (Sum.inr (1 : Int32)) else some (Sum.inl ())) else some (Sum.inl ()))) (fun _ => some 0)) _) _ = some (1, w') ∧ _
        rw [two_eq, bd_some, if_pos rfl, if_pos nI_0, l0_inr, bd_some]
        by_cases c4 : (txAt a.2.2.1.1 i).2.2.1 = 0
        · -- it does not write
          have eo : putA (nI i) (nI k) (nI kk) (nI cc) (nI cc - nI cc / 1000 * 1000) (-1) a = (3, 0, a) := by
            unfold putA
            rw [if_neg hnX, if_neg hnS, if_neg (fun q => q hkP), if_neg hrc, if_neg hrf, if_neg hrg, if_pos (fun q => q.2 (by unfold txA; rw [hci]; exact c4))]
          rw [eo, dz3 rfl] at e1
          rw [eo] at S1
          obtain ⟨w2, e2, S2⟩ := d_remove (c := c + 6) (s := s + 30) S1 (nI i) (nI k) 0 0
          have er : rmvA (nI i) (nI k) 0 0 a = (3, 0, a) := by
            unfold rmvA
            rw [if_neg hnX, if_neg hnS, if_neg (fun q => q kP_0), if_neg (fun q => q kP_0), if_pos (fun q => q.2 (by unfold txA; rw [hci]; exact c4))]
          rw [er, dz3 rfl] at e2
          rw [er] at S2
          have p2 := n_get (c := c + 6) (s := s + 30) S1 (nI i) (nI k) (nI kk) (by rw [eg])
          have p1 := n_cnt (c := c + 6) (s := s + 30) S1 (nI i) (nI k) 0 3999999 (by rw [ec _ _ kP_0 kP_M])
          rw [eg, ← hgv] at p2
          rw [ec _ _ kP_0 kP_M, cnt_all hP] at p1
          rw [if_neg (fun q => q c4), e1, b2_some, if_pos rfl, l0_inl, if_neg e10, if_pos rfl, if_pos S1.k, p2]
          show ∃ w' a', l0 (b2 (l1 (if gv = gv then bn3 (x_X6_count o (nI i) (nI k) 0 3999999 w1) _ else _) _) _) _ = some (1, w') ∧ _
          rw [if_pos rfl, p1]
          show ∃ w' a', l0 (b2 (l1 (if nI (a.2.2.1.2 k).2.2.2.length = nI (a.2.2.1.2 k).2.2.2.length then _ else _) _) _) _ = some (1, w') ∧ _
          rw [if_pos rfl, if_pos rfl, e2, b2_some, if_pos rfl, l1_inl, l1_inr, b2_some, if_pos isB1, l0_inr]
          exact ⟨w2, a, rfl, ST.up ⟨S2, V, J, hC, n, (by omega : n ≤ N + 1 + 1), hn⟩ (by omega) (by omega) (by omega)⟩
        · have hwr : wrA a (nI i) (nI k) := ⟨hre, by unfold txA; rw [hci]; exact c4⟩
          rw [if_pos (show ¬ (txAt a.2.2.1.1 i).2.2.1 = 0 from c4)]
          by_cases c5 : (((stA a (nI k)).2.1 = 2 ∧ tknR (stA a (nI k)).2.2.2 0 (nI kk, nI cc, nI cc - nI cc / 1000 * 1000, -1)) ∨ ((stA a (nI k)).2.2.1 = 2 ∧ tknR (stA a (nI k)).2.2.2 1 (nI kk, nI cc, nI cc - nI cc / 1000 * 1000, -1))) ∨ (findR (stA a (nI k)).2.2.2 (nI kk) = none ∧ ¬ allR a < 40)
          · have eo : putA (nI i) (nI k) (nI kk) (nI cc) (nI cc - nI cc / 1000 * 1000) (-1) a = (3, 0, a) := by
              unfold putA
              rw [if_neg hnX, if_neg hnS, if_neg (fun q => q hkP), if_neg hrc, if_neg hrf, if_neg hrg, if_neg (fun q => q hwr), if_pos c5]
            rw [eo, dz3 rfl] at e1
            rw [eo] at S1
            have p2 := n_get (c := c + 6) (s := s + 30) S1 (nI i) (nI k) (nI kk) (by rw [eg])
            have p1 := n_cnt (c := c + 6) (s := s + 30) S1 (nI i) (nI k) 0 3999999 (by rw [ec _ _ kP_0 kP_M])
            rw [eg, ← hgv] at p2
            rw [ec _ _ kP_0 kP_M, cnt_all hP] at p1
            rw [e1, b2_some, if_neg e10, if_pos rfl, l0_inl, if_neg e10, if_pos rfl, if_pos S1.k, p2]
            show ∃ w' a', l0 (b2 (l1 (if gv = gv then bn3 (x_X6_count o (nI i) (nI k) 0 3999999 w1) _ else _) _) _) _ = some (1, w') ∧ _
            rw [if_pos rfl, p1]
            show ∃ w' a', l0 (b2 (l1 (if nI (a.2.2.1.2 k).2.2.2.length = nI (a.2.2.1.2 k).2.2.2.length then _ else _) _) _) _ = some (1, w') ∧ _
            rw [if_pos rfl, if_neg e10, l1_inl, l1_inr, b2_some, if_pos isB1, l0_inr]
            exact ⟨w1, a, rfl, ST.up ⟨S1, V, J, hC, n, (by omega : n ≤ N + 1), hn⟩ (by omega) (by omega) (by omega)⟩
          · obtain ⟨r, hr⟩ : ∃ r : RW, r = (nI kk, nI cc, nI cc - nI cc / 1000 * 1000, -1) := ⟨_, rfl⟩
            have hrk : r.1 = nI kk := by rw [hr]
            obtain ⟨vv, hvv⟩ : ∃ vv : SA, vv = ((a.2.2.1.2 k).1, (a.2.2.1.2 k).2.1, (a.2.2.1.2 k).2.2.1, putR (a.2.2.1.2 k).2.2.2 r) := ⟨_, rfl⟩
            have hv4 : vv.2.2.2 = putR (a.2.2.1.2 k).2.2.2 r := by rw [hvv]
            have hv1 : vv.1 = (a.2.2.1.2 k).1 := by rw [hvv]
            have eo : putA (nI i) (nI k) (nI kk) (nI cc) (nI cc - nI cc / 1000 * 1000) (-1) a = (0, (if findR (a.2.2.1.2 k).2.2.2 (nI kk) = none then 1 else 0), setS a (nI k) vv) := by
              unfold putA
              rw [if_neg hnX, if_neg hnS, if_neg (fun q => q hkP), if_neg hrc, if_neg hrf, if_neg hrg, if_neg (fun q => q hwr), if_neg c5, hst, hvv, hr]
            rw [eo, dz0 rfl] at e1
            rw [eo] at S1
            have S1' : ST o (N + 1) (c + 8) (s + 40) w1 (setS a (nI k) vv) := S1
            have hcont : ∀ y ∈ vv.2.2.2, ¬ rng y.2.1 0 9999 := fun y hy => by
              rw [hv4] at hy
              rcases putR_mem _ _ _ hy with z | z
              · rw [z, hr]; exact hrc
              · exact hX y z
            have L1 : LR o (N + 1) (c + 8) (s + 40) w1 m (setS a (nI k) vv) := lr_rows V J hC hn (by omega) t2 hv1 hcont S1'
            have hst2 : stA (setS a (nI k) vv) (nI k) = vv := by unfold stA setS; exact upn_s _ _ _
            have x1 : ¬ oX (setS a (nI k) vv) (nI i) := hnX
            have x2 : ¬ noS (setS a (nI k) vv) (nI k) := fun q => q.elim (oT_no t2 (by omega)) (fun z => by
              have z' : (stA (setS a (nI k) vv) (nI k)).1 = 0 := z
              rw [hst2, hv1, t3] at z'
              exact e10 z')
            have x3 : reA (setS a (nI k) vv) (nI i) (nI k) := hre
            have hP2 : ∀ y ∈ vv.2.2.2, kP y.1 := fun y hy => by
              rw [hv4] at hy
              rcases putR_mem _ _ _ hy with z | z
              · rw [z, hr]; exact hkP
              · exact hP y z
            have hN2 : (vv.2.2.2.map (fun y => y.1)).Nodup := by rw [hv4]; exact putR_nd _ _ hS.2.2.2.1
            have hf2 : findR vv.2.2.2 (nI kk) = some r := by rw [hv4, ← hrk]; exact find_put _
            have hl2 : vv.2.2.2.length = (a.2.2.1.2 k).2.2.2.length + (if findR (a.2.2.1.2 k).2.2.2 (nI kk) = none then 1 else 0) := by rw [hv4, put_len', hrk]
            have eg2 : getA (nI i) (nI k) (nI kk) (setS a (nI k) vv) = (0, nI cc, setS a (nI k) vv) := by
              unfold getA
              rw [if_neg x1, if_neg x2, if_neg (fun q => q hkP), if_neg (fun q => q x3), hst2, hf2, hr]
            have ec2 : ∀ x y, kP x → kP y → cntA (nI i) (nI k) x y (setS a (nI k) vv) = (0, nI (vv.2.2.2.countP (fun r => decide (btwR x y r))), setS a (nI k) vv) := fun x y hx hy => by
              unfold cntA
              rw [if_neg x1, if_neg x2, if_neg (fun q => q hx), if_neg (fun q => q hy), if_neg (fun q => q x3), hst2]
            have p2 := n_get (c := c + 6) (s := s + 30) S1' (nI i) (nI k) (nI kk) (by rw [eg2])
            have p1 := n_cnt (c := c + 6) (s := s + 30) S1' (nI i) (nI k) 0 3999999 (by rw [ec2 _ _ kP_0 kP_M])
            have p3 := n_cnt (c := c + 6) (s := s + 30) S1' (nI i) (nI k) 0 (nI kk) (by rw [ec2 _ _ kP_0 hkP])
            have p4 := n_cnt (c := c + 6) (s := s + 30) S1' (nI i) (nI k) (nI kk) 3999999 (by rw [ec2 _ _ hkP kP_M])
            rw [eg2] at p2
            rw [ec2 _ _ kP_0 kP_M, cnt_all hP2] at p1
            rw [ec2 _ _ kP_0 hkP] at p3
            rw [ec2 _ _ hkP kP_M] at p4
            have hsplit := cnt_split hkP vv.2.2.2 hP2
            rw [cnt_key hkP _ hP2 hN2, hf2, if_neg (fun q => by cases q)] at hsplit
            have htold : (if findR (a.2.2.1.2 k).2.2.2 (nI kk) = none then (1 : Int32) else 0) = nI (if findR (a.2.2.1.2 k).2.2.2 (nI kk) = none then 1 else 0) := by
              by_cases z : findR (a.2.2.1.2 k).2.2.2 (nI kk) = none
              · rw [if_pos z, if_pos z]; rfl
              · rw [if_neg z, if_neg z]; rfl
            have htold2 : (if findR (a.2.2.1.2 k).2.2.2 (nI kk) = none then (1 : Int32) else 0) = (if (0 : Int32) ≤ gv then 0 else 1) := by
              by_cases z : findR (a.2.2.1.2 k).2.2.2 (nI kk) = none
              · rw [if_pos z, if_neg (fun q => g3.mp q z)]
              · rw [if_neg z, if_pos (g3.mpr z)]
            obtain ⟨tv, htv⟩ : ∃ tv : Int32, tv = (if findR (a.2.2.1.2 k).2.2.2 (nI kk) = none then (1 : Int32) else 0) := ⟨_, rfl⟩
            have htm : ¬ tv = -10 := by
              rw [htv]
              by_cases z : findR (a.2.2.1.2 k).2.2.2 (nI kk) = none
              · rw [if_pos z]; decide
              · rw [if_neg z]; decide
            have hsum1 : nI vv.2.2.2.length = nI (a.2.2.1.2 k).2.2.2.length + tv := by rw [htv, htold, nI_add, hl2]
            have e59 : (if (0 : Int32) ≤ gv then some (0 : Int32) else some (1 : Int32)) = some tv := by
              rw [htv, htold2]
              by_cases z : (0 : Int32) ≤ gv
              · rw [if_pos z, if_pos z]
              · rw [if_neg z, if_neg z]
            have e1' : x_L_does o 8 (nI i) (nI k) (nI kk) (nI cc) w = some (tv, w1) := by rw [e1, htv]
            have p1' : x_X6_count o (nI i) (nI k) 0 3999999 w1 = some (.inr (nI (a.2.2.1.2 k).2.2.2.length + tv)) := by rw [← hsum1]; exact p1
            rw [e1', b2_some, if_neg e10, if_neg htm, if_neg e10, e59, bd_some, if_pos rfl, if_pos S1'.k, p2]
            show ∃ w' a', l0 (l0 (bd (l0 (if nI cc = nI cc then bn3 (x_X6_count o (nI i) (nI k) 0 3999999 w1) _ else _) _) _) _) _ = some (1, w') ∧ _
            rw [if_pos rfl, p1']
            show ∃ w' a', l0 (l0 (bd (l0 (if (nI (a.2.2.1.2 k).2.2.2.length + tv) = (nI (a.2.2.1.2 k).2.2.2.length + tv) then bn3 (x_X6_count o (nI i) (nI k) 0 (nI kk) w1) _ else _) _) _) _) _ = some (1, w') ∧ _
            rw [if_pos rfl, p3]
            show ∃ w' a', l0 (l0 (bd (l0 (bn3 (x_X6_count o (nI i) (nI k) (nI kk) 3999999 w1) _) _) _) _) _ = some (1, w') ∧ _
            rw [p4]
            show ∃ w' a', l0 (l0 (bd (l0 (if (nI (vv.2.2.2.countP (fun r => decide (btwR 0 (nI kk) r))) + nI (vv.2.2.2.countP (fun r => decide (btwR (nI kk) 3999999 r)))) = ((nI (a.2.2.1.2 k).2.2.2.length + tv) + 1) then some (Sum.inr (1 : Int32)) else some (Sum.inl ())) (fun _ => some 0)) (fun v75 => if isB v75 then some (Sum.inr (Sum.inr (v75, w1))) else none)) _) _ = some (1, w') ∧ _
            rw [if_pos (by rw [nI_add, hsplit, ← hsum1, nI_1]), l0_inr, bd_some, if_pos isB1, l0_inr, l0_inr]
            exact ⟨w1, setS a (nI k) vv, rfl, ST.up L1 (by omega) (by omega) (by omega)⟩
      · have hre : ¬ reA a (nI i) (nI k) := by unfold reA txA; rw [hci]; exact c3
        have eo : putA (nI i) (nI k) (nI kk) (nI cc) (nI cc - nI cc / 1000 * 1000) (-1) a = (3, 0, a) := by
          unfold putA
          rw [if_neg hnX, if_neg hnS, if_neg (fun q => q hkP), if_neg hrc, if_neg hrf, if_neg hrg, if_pos (fun q => hre q.1)]
        rw [eo, dz3 rfl] at e1
        rw [eo] at S1
        obtain ⟨w2, e2, S2⟩ := d_remove (c := c + 6) (s := s + 30) S1 (nI i) (nI k) (nI kk) (nI kk)
        have er : rmvA (nI i) (nI k) (nI kk) (nI kk) a = (3, 0, a) := by
          unfold rmvA
          rw [if_neg hnX, if_neg hnS, if_neg (fun q => q hkP), if_neg (fun q => q hkP), if_pos (fun q => hre q.1)]
        rw [er, dz3 rfl] at e2
        rw [er] at S2
        obtain ⟨w3, e3, S3⟩ := d_get (c := c + 4) (s := s + 20) S2 (nI i) (nI k) (nI kk) 0
        have eg : getA (nI i) (nI k) (nI kk) a = (3, 0, a) := by
          unfold getA
          rw [if_neg hnX, if_neg hnS, if_neg (fun q => q hkP), if_pos hre]
        rw [eg, dz3 rfl] at e3
        obtain ⟨w4, e4, S4⟩ := d_cnt (c := c + 2) (s := s + 10) S3 (nI i) (nI k) 0 3999999
        have ec : cntA (nI i) (nI k) 0 3999999 a = (3, 0, a) := by
          unfold cntA
          rw [if_neg hnX, if_neg hnS, if_neg (fun q => q kP_0), if_neg (fun q => q kP_M), if_pos hre]
        rw [ec, dz3 rfl] at e4
        rw [if_neg c3, if_pos rfl, l0_inl, bd_some, if_neg e10, if_neg e10, if_pos rfl, e1, b2_some, if_pos rfl, e2, b2_some, if_pos rfl, e3, b2_some, if_pos rfl, e4, b2_some, if_pos rfl, l1_inr, b2_some, if_pos isB1, l0_inr]
        exact ⟨w4, a, rfl, ST.up ⟨S4, V, J, hC, n, (by omega : n ≤ N + 1 + 1), hn⟩ (by omega) (by omega) (by omega)⟩
    · have eo : putA (nI i) (nI k) (nI kk) (nI cc) (nI cc - nI cc / 1000 * 1000) (-1) a = (2, 0, a) := by
        unfold putA
        rw [if_neg hnX, if_neg hnS]
        by_cases z : kk % 1000000 < 1000
        · rw [if_neg (fun q => q (kP_mid hkk z)), if_pos ((rng_c hcc).mpr (by
            have : ¬ cc < 10000 := fun q => c2 ⟨z, q⟩
            omega))]
        · rw [if_pos (fun q => z ((kP_lo hkk).mp q))]
      rw [eo, dz2 rfl] at e1
      rw [eo] at S1
      rw [if_neg c2]
      have fin : ∀ v28 : Int32, l0 (if (1 : Int32) = 0 then some (Sum.inl ()) else if (0 : Int32) = 0 then some (Sum.inl ()) else none) (fun (_ : Unit) => b2 (x_L_does o 8 (nI i) (nI k) (nI kk) (nI cc) w) (fun (v125 : Int32) (w126 : CS) => bd (if (1 : Int32) = 0 then some ((-30) : Int32) else some ((-20) : Int32)) (fun (v128 : Int32) => bd (if (v125 : Int32) = v128 then some (1 : Int32) else some (0 : Int32)) (fun (v130 : Int32) => if isB v130 then some ((v130, w126)) else none)))) = some (1, w1) := fun _ => by
        rw [if_neg e10, if_pos rfl, l0_inl, e1, b2_some, if_neg e10, bd_some, if_pos rfl, bd_some, if_pos isB1]
      refine ⟨w1, a, ?_, ST.up ⟨S1, V, J, hC, n, (by omega : n ≤ N + 1), hn⟩ (by omega) (by omega) (by omega)⟩
      by_cases c3 : rdR a i k
      · rw [if_pos c3, chk28 V J t1 hl, bd_some, if_neg e10, if_pos rfl, l0_inl, e1, b2_some, if_neg e10, bd_some, if_pos rfl, bd_some, if_pos isB1]
      · rw [if_neg c3, if_pos rfl, l0_inl, bd_some, if_neg e10, if_pos rfl, l0_inl, e1, b2_some, if_neg e10, bd_some, if_pos rfl, bd_some, if_pos isB1]
  · have eo : putA (nI i) (nI k) (nI kk) (nI cc) (nI cc - nI cc / 1000 * 1000) (-1) a = (1, 0, a) := by
      unfold putA
      by_cases z1 : i = lenT a
      · rw [if_pos (show oX a (nI i) by rw [z1]; exact oT_n)]
      · rw [if_neg (show ¬ oX a (nI i) from oT_no (by omega) (by omega)), if_pos]
        by_cases z2 : k = 3
        · rw [z2]; exact Or.inl oT_n
        · refine Or.inr ?_
          rw [hck]
          rcases (SOK.of hIV (show k < 3 by omega)).1.1 with q | q
          · exact q
          · exact absurd ⟨by omega, by omega, q⟩ c1
    rw [eo, dz1 rfl] at e1
    rw [eo] at S1
    rw [if_neg c1, if_pos rfl, l0_inl, bd_some, if_pos rfl, l0_inl, bd_some, if_pos rfl, l0_inl, e1, b2_some, if_pos rfl, bd_some, if_pos rfl, bd_some, if_pos isB1]
    exact ⟨w1, a, rfl, ST.up ⟨S1, V, J, hC, n, (by omega : n ≤ N + 1), hn⟩ (by omega) (by omega) (by omega)⟩
