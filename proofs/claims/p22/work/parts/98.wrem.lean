/-! ===== the law's checks: rows taken away ===== -/
theorem chkW {m : MS} {a : AS} (V : MP m (pa a)) (J : JP (pa a)) {i k : Nat} (hi : i ≤ lenT a) (hl : lenT a ≤ 56) (hk : k < 3) : l0 (if nI (lenT a) ≤ nI i then some (Sum.inl ()) else if (3 : Int32) ≤ nI k then some (Sum.inl ()) else bd (if (3 : Int32) ≤ nI k then some (0 : Int32) else some (nI k)) (fun v5 => if vR v5 6 then if ga m 4 v5.toNatClampNeg = 1 then if vR (nI i) 60 then if ga m 1 (nI i).toNatClampNeg = 1 then if vR (nI i) 60 then if ((ga m 2 (nI i).toNatClampNeg >>> (nI k &&& 31)) &&& 1) = 1 then if vR (nI i) 60 then if (ga m 2 (nI i).toNatClampNeg &&& 8) = 8 then some (Sum.inr (1 : Int32)) else some (Sum.inl ()) else none else some (Sum.inl ()) else none else some (Sum.inl ()) else none else some (Sum.inl ()) else none)) (fun _ => some 0) = some (if thR a i k ∧ rdR a i k ∧ ¬ (txAt a.2.2.1.1 i).2.2.1 = 0 then 1 else 0) := by
  obtain ⟨z1, z2⟩ := there_cs (a := a) hi hl (show k ≤ 3 by omega)
  by_cases c1 : i = lenT a
  · rw [if_pos (z1.mpr c1), l0_inl, if_neg (fun q => by have := q.1.1; omega)]
  · have hi' : i < lenT a := by omega
    have hst : ga m 4 k = (a.2.2.1.2 k).1 := V.2.2.2.1 k (by omega)
    have h1 : ga m 1 i = (txAt a.2.2.1.1 i).2.2.2 := (V.2.2.1.2 i hi').1
    have h2 : ga m 2 i = cod (txAt a.2.2.1.1 i) := (V.2.2.1.2 i hi').2
    have h3 := (cod_in (show okT (txAt a.2.2.1.1 i) from J.1.1 i hi') hk).1
    have h4 := (cod_in (show okT (txAt a.2.2.1.1 i) from J.1.1 i hi') hk).2
    rw [if_neg (fun q => c1 (z1.mp q)), if_neg (fun q => by have := z2.mp q; omega), if_neg (fun q => by have := z2.mp q; omega), bd_some, if_pos (vR6 (show k < 6 by omega)), nI_clamp (show k < 2 ^ 31 by omega), hst]
    by_cases c3 : (a.2.2.1.2 k).1 = 1
    · rw [if_pos c3]
      simp only [if_pos (vR60 (show i < 60 by omega)), nI_clamp (show i < 2 ^ 31 by omega), h1, h2]
      by_cases c4 : (txAt a.2.2.1.1 i).2.2.2 = 1
      · rw [if_pos c4]
        by_cases c5 : inS (txAt a.2.2.1.1 i).2.1 (nI k)
        · rw [if_pos (h3.mpr c5)]
          by_cases c6 : (txAt a.2.2.1.1 i).2.2.1 = 0
          · rw [if_neg (fun q => h4.mp q c6), l0_inl, if_neg (fun q => q.2.2 c6)]
          · rw [if_pos (h4.mpr c6), l0_inr, if_pos ⟨⟨hi', hk, c3⟩, ⟨c4, c5⟩, c6⟩]
        · rw [if_neg (fun q => c5 (h3.mp q)), l0_inl, if_neg (fun q => c5 q.2.1.2)]
      · rw [if_neg c4, l0_inl, if_neg (fun q => c4 q.2.1.1)]
    · rw [if_neg c3, l0_inl, if_neg (fun q => c3 q.1.2.2)]
theorem l_isRemoved {o N c s : Nat} {w : CS} {m : MS} {a : AS} (H : LR o N (c + 10) (s + 50) w m a) (hl : lenT a ≤ 56) {i k x y : Nat} (hi : i ≤ lenT a) (hk : k < 3) (hx : x < 1000) (hy : y < 1000) : ∃ w' a', x_L_isRemoved o (nI i) (nI k) (nI x) (nI y) w m = some (1, w') ∧ LR o (N + 4) c s w' m a' := by
  obtain ⟨S, V, J, hC, n, hnN, hn⟩ := id H
  have hIV := S.2.1.1
  have h14 : ga m 3 14 = nI (lenT a) := V.2.2.1.1
  have hci : (nI i).toNatClampNeg = i := nI_clamp (by omega)
  have hck : (nI k).toNatClampNeg = k := nI_clamp (by omega)
  have kx : kP (nI x) := kP_mid (by omega) (by omega)
  have ky : kP (nI y) := kP_mid (by omega) (by omega)
  unfold x_L_isRemoved
  simp only [if_pos v14, t14c, h14]
  rw [chkW V J hi hl hk, bd_some]
  have hnT : ¬ oT (nI k) 3 := oT_no hk (by omega)
  by_cases c1 : thR a i k ∧ rdR a i k ∧ ¬ (txAt a.2.2.1.1 i).2.2.1 = 0
  · obtain ⟨⟨t1, t2, t3⟩, c3, c4⟩ := id c1
    have hnX : ¬ oX a (nI i) := oT_no t1 (by omega)
    have hnS : ¬ noS a (nI k) := fun q => q.elim hnT (fun z => by rw [hck, t3] at z; exact e10 z)
    have hre : reA a (nI i) (nI k) := by unfold reA txA; rw [hci]; exact c3
    have hwr : wrA a (nI i) (nI k) := ⟨hre, by unfold txA; rw [hci]; exact c4⟩
    have X := J.1.2.2.2.2.1
    have hX : ∀ r ∈ (a.2.2.1.2 k).2.2.2, ¬ rng r.2.1 0 9999 := X k (by omega)
    have hS := SOK.of hIV t2
    have hP : ∀ r ∈ (a.2.2.1.2 k).2.2.2, kP r.1 := fun r hr => (hS.2.2.2.2 r hr).1
    have hlen := hS.2.2.1
    have hst : stA a (nI k) = a.2.2.1.2 k := by unfold stA; rw [hck]
    obtain ⟨cn, hcn⟩ : ∃ cn, cn = (a.2.2.1.2 k).2.2.2.countP (fun r => decide (btwR (nI x) (nI y) r)) := ⟨_, rfl⟩
    have ec : ∀ x y, kP x → kP y → cntA (nI i) (nI k) x y a = (0, nI ((a.2.2.1.2 k).2.2.2.countP (fun r => decide (btwR x y r))), a) := fun x y hx hy => by
      unfold cntA
      rw [if_neg hnX, if_neg hnS, if_neg (fun q => q hx), if_neg (fun q => q hy), if_neg (fun q => q hre), hst]
    have q1 := n_cnt (c := c + 8) (s := s + 40) S (nI i) (nI k) 0 3999999 (by rw [ec _ _ kP_0 kP_M])
    have q2 := n_cnt (c := c + 8) (s := s + 40) S (nI i) (nI k) (nI x) (nI y) (by rw [ec _ _ kx ky])
    rw [ec _ _ kP_0 kP_M, cnt_all hP] at q1
    rw [ec _ _ kx ky, ← hcn] at q2
    obtain ⟨vv, hvv⟩ : ∃ vv : SA, vv = ((a.2.2.1.2 k).1, (a.2.2.1.2 k).2.1, (a.2.2.1.2 k).2.2.1, remR (a.2.2.1.2 k).2.2.2 (nI x) (nI y)) := ⟨_, rfl⟩
    have hv4 : vv.2.2.2 = remR (a.2.2.1.2 k).2.2.2 (nI x) (nI y) := by rw [hvv]
    have hv1 : vv.1 = (a.2.2.1.2 k).1 := by rw [hvv]
    have eo : rmvA (nI i) (nI k) (nI x) (nI y) a = (0, nI cn, setS a (nI k) vv) := by
      unfold rmvA
      rw [if_neg hnX, if_neg hnS, if_neg (fun q => q kx), if_neg (fun q => q ky), if_neg (fun q => q hwr), hst, hvv, hcn]
    obtain ⟨w1, e1, S1⟩ := n_rem (c := c + 8) (s := s + 40) S (nI i) (nI k) (nI x) (nI y) (by rw [eo])
    rw [eo] at e1 S1
    have S1' : ST o (N + 1) (c + 8) (s + 40) w1 (setS a (nI k) vv) := S1
    have hcont : ∀ r ∈ vv.2.2.2, ¬ rng r.2.1 0 9999 := fun r hr => by
      rw [hv4] at hr
      exact hX r (List.mem_filter.mp hr).1
    have L1 : LR o (N + 1) (c + 8) (s + 40) w1 m (setS a (nI k) vv) := lr_rows V J hC hn (by omega) t2 hv1 hcont S1'
    have hst2 : stA (setS a (nI k) vv) (nI k) = vv := by unfold stA setS; exact upn_s _ _ _
    have x1 : ¬ oX (setS a (nI k) vv) (nI i) := hnX
    have x2 : ¬ noS (setS a (nI k) vv) (nI k) := fun q => q.elim hnT (fun z => by
      have z' : (stA (setS a (nI k) vv) (nI k)).1 = 0 := z
      rw [hst2, hv1, t3] at z'
      exact e10 z')
    have x3 : reA (setS a (nI k) vv) (nI i) (nI k) := hre
    have hP2 : ∀ r ∈ vv.2.2.2, kP r.1 := fun r hr => by
      rw [hv4] at hr
      exact hP r (List.mem_filter.mp hr).1
    have ec2 : ∀ x y, kP x → kP y → cntA (nI i) (nI k) x y (setS a (nI k) vv) = (0, nI (vv.2.2.2.countP (fun r => decide (btwR x y r))), setS a (nI k) vv) := fun x y hx hy => by
      unfold cntA
      rw [if_neg x1, if_neg x2, if_neg (fun q => q hx), if_neg (fun q => q hy), if_neg (fun q => q x3), hst2]
    have p1 := n_cnt (c := c + 6) (s := s + 30) S1' (nI i) (nI k) 0 3999999 (by rw [ec2 _ _ kP_0 kP_M])
    have p2 := n_cnt (c := c + 6) (s := s + 30) S1' (nI i) (nI k) (nI x) (nI y) (by rw [ec2 _ _ kx ky])
    rw [ec2 _ _ kP_0 kP_M, cnt_all hP2] at p1
    rw [ec2 _ _ kx ky] at p2
    have hz : vv.2.2.2.countP (fun r => decide (btwR (nI x) (nI y) r)) = 0 := by rw [hv4]; exact cnt_rem _ _ _
    have hlr := len_rem (nI x) (nI y) (a.2.2.1.2 k).2.2.2
    rw [← hcn, ← hv4] at hlr
    have hsub : nI vv.2.2.2.length = nI (a.2.2.1.2 k).2.2.2.length - nI cn := by rw [pk_sub (by omega)]; congr 1; omega
    rw [hz] at p2
    have p1' : x_X6_count o (nI i) (nI k) 0 3999999 w1 = some (.inr (nI (a.2.2.1.2 k).2.2.2.length - nI cn)) := by rw [← hsub]; exact p1
    have q1' : x_X6_count o (nI i) (nI k) 0 3999999 w = some (.inr (nI (a.2.2.1.2 k).2.2.2.length)) := q1
    have q2' : x_X6_count o (nI i) (nI k) (nI x) (nI y) w = some (.inr (nI cn)) := q2
    have p2' : x_X6_count o (nI i) (nI k) (nI x) (nI y) w1 = some (.inr (nI 0)) := p2
    have e1' : x_X6_remove o (nI i) (nI k) (nI x) (nI y) w = some (.inr (nI cn, w1)) := e1
    rw [if_pos c1, if_neg e10, if_pos S.k, q1']
    show ∃ w' a', bn3 (x_X6_count o (nI i) (nI k) (nI x) (nI y) w) _ = some (1, w') ∧ _
    rw [q2']
    show ∃ w' a', bn2 (x_X6_remove o (nI i) (nI k) (nI x) (nI y) w) _ = some (1, w') ∧ _
    rw [e1']
    show ∃ w' a', bd (l0 (if nI cn = nI cn then if wJ w1 0 o = 6 then bn3 (x_X6_count o (nI i) (nI k) 0 3999999 w1) _ else none else _) _) _ = some (1, w') ∧ _
    rw [if_pos rfl, if_pos S1'.k, p1']
    show ∃ w' a', bd (l0 (if (nI (a.2.2.1.2 k).2.2.2.length - nI cn) = (nI (a.2.2.1.2 k).2.2.2.length - nI cn) then bn3 (x_X6_count o (nI i) (nI k) (nI x) (nI y) w1) _ else _) _) _ = some (1, w') ∧ _
    rw [if_pos rfl, p2']
    show ∃ w' a', bd (l0 (if nI 0 = 0 then some (Sum.inr (1 : Int32)) else some (Sum.inl ())) (fun _ => some 0)) (fun v35 => if isB v35 then some (v35, w1) else none) = some (1, w') ∧ _
    rw [if_pos nI_0, l0_inr, bd_some, if_pos isB1]
    exact ⟨w1, setS a (nI k) vv, rfl, ST.up L1 (by omega) (by omega) (by omega)⟩
  · obtain ⟨w1, e1, S1⟩ := d_remove (c := c + 8) (s := s + 40) S (nI i) (nI k) (nI x) (nI y)
    have eo : ∃ r, (r = 1 ∨ r = 3) ∧ rmvA (nI i) (nI k) (nI x) (nI y) a = (r, 0, a) := by
      unfold rmvA
      by_cases z1 : i = lenT a
      · exact ⟨1, Or.inl rfl, by rw [if_pos (show oX a (nI i) by rw [z1]; exact oT_n)]⟩
      · have hi' : i < lenT a := by omega
        rw [if_neg (show ¬ oX a (nI i) from oT_no hi' (by omega))]
        by_cases z3 : (a.2.2.1.2 k).1 = 1
        · have hnS : ¬ noS a (nI k) := fun q => q.elim hnT (fun z => by rw [hck, z3] at z; exact e10 z)
          refine ⟨3, Or.inr rfl, ?_⟩
          rw [if_neg hnS, if_neg (fun q => q kx), if_neg (fun q => q ky), if_pos]
          intro q
          have q1 := q.1
          have q2 := q.2
          unfold reA txA at q1
          unfold txA at q2
          rw [hci] at q1 q2
          exact c1 ⟨⟨hi', hk, z3⟩, q1, q2⟩
        · refine ⟨1, Or.inl rfl, ?_⟩
          rw [if_pos]
          refine Or.inr ?_
          rw [hck]
          rcases (SOK.of hIV hk).1.1 with q | q
          · exact q
          · exact absurd q z3
    obtain ⟨r, hr, eo⟩ := eo
    rw [eo] at e1 S1
    have hneg : ¬ (0 : Int32) ≤ dz (r, 0, a) := by
      rcases hr with q | q <;> subst q
      · rw [dz1 rfl]; decide
      · rw [dz3 rfl]; decide
    rw [if_neg c1, if_pos rfl, e1, b2_some, if_neg hneg, bd_some, if_pos isB1]
    exact ⟨w1, a, rfl, ST.up ⟨S1, V, J, hC, n, (by omega : n ≤ N + 1), hn⟩ (by omega) (by omega) (by omega)⟩
