/-! ===== the law: a step of it, the loop ===== -/
theorem l_part {L : Nat} {xs : Nat → Int32} (p d : Nat) {D : Int32} (hD : D = nI d) (hp : p < 2 ^ 31) (h0 : 0 < d) (hd : d < 2 ^ 31) : ∃ r, r < d ∧ x_L_part L xs (nI p) D = some (nI r) := by
  have key : ∀ v : Int32, ∃ r, r < d ∧ (v &&& 2147483647) - (v &&& 2147483647) / D * D = nI r := fun v => by
    obtain ⟨j, hj, e⟩ := pk_andE v (m := 2147483647) 31 (by decide)
    rw [e, hD, pk_rem hj h0 hd]
    exact ⟨j % d, Nat.mod_lt _ h0, rfl⟩
  have hz : ¬ D = 0 := by rw [hD]; exact nI_ne0 h0 hd
  unfold x_L_part
  by_cases h : nI L ≤ nI p
  · obtain ⟨r, hr, e⟩ := key ((397 * nI p) + ((263 * nI p) * nI p))
    rw [if_pos h, bd_some, if_pos hz, e]
    exact ⟨r, hr, rfl⟩
  · have hin : vR (nI p) L := fun q => q.elim (nI_pos hp) (fun z => by
      rw [nI_clamp hp] at z
      exact h (nI_le z hp))
    obtain ⟨r, hr, e⟩ := key (xs (nI p).toNatClampNeg)
    rw [if_neg h, if_pos hin, bd_some, if_pos hz, e]
    exact ⟨r, hr, rfl⟩
theorem tab_of {r : Nat} : ∃ j, j ≤ 4 ∧ (if nI (r % 11) = 0 then some (4 : Int32) else some (nI (r % 4))) = some (nI j) := by
  by_cases h : nI (r % 11) = 0
  · exact ⟨4, by omega, by rw [if_pos h]; rfl⟩
  · exact ⟨r % 4, by omega, by rw [if_neg h]⟩
theorem l_isDone {o N c s : Nat} {w : CS} {m : MS} {a : AS} {L : Nat} {xs : Nat → Int32} (H : LR o N (c + 10) (s + 50) w m a) (hN : N < 990) (hl : lenT a ≤ 56) {p : Nat} (hp : p < 1000) : ∃ w' m' a', x_L_isDone L xs o (nI p) w m = some (1, w', m') ∧ LR o (N + 4) c s w' m' a' := by
  obtain ⟨S, V, J, hC, n, hnN, hn⟩ := id H
  have hIV := S.2.1.1
  have h14 : ga m 3 14 = nI (lenT a) := V.2.2.1.1
  have h13 : ga m 3 13 = a.1.2.1 := V.1.2
  obtain ⟨r2, h2, e2⟩ := l_part (L := L) (xs := xs) p 40 (D := 40) rfl (by omega) (by omega) (by omega)
  obtain ⟨r4, h4, e4⟩ := l_part (L := L) (xs := xs) (p + 1) 6000 (D := 6000) rfl (by omega) (by omega) (by omega)
  obtain ⟨r6, h6, e6⟩ := l_part (L := L) (xs := xs) (p + 2) 7000 (D := 7000) rfl (by omega) (by omega) (by omega)
  obtain ⟨r8, h8, e8⟩ := l_part (L := L) (xs := xs) (p + 3) 8000 (D := 8000) rfl (by omega) (by omega) (by omega)
  have a3 : nI p + 3 = nI (p + 3) := nI_add p 3
  have b63 : nI r6 - nI r6 / 3 * 3 = nI (r6 % 3) := kx_rem rfl (by omega) (by omega) (by omega)
  have d63 : nI r6 / 3 = nI (r6 / 3) := kx_div rfl (by omega) (by omega) (by omega)
  have b625 : nI r6 - nI r6 / 25 * 25 = nI (r6 % 25) := kx_rem rfl (by omega) (by omega) (by omega)
  have b69 : nI r6 - nI r6 / 9 * 9 = nI (r6 % 9) := kx_rem rfl (by omega) (by omega) (by omega)
  have b630 : nI r6 - nI r6 / 30 * 30 = nI (r6 % 30) := kx_rem rfl (by omega) (by omega) (by omega)
  have b697 : nI r6 - nI r6 / 997 * 997 = nI (r6 % 997) := kx_rem rfl (by omega) (by omega) (by omega)
  have b411 : nI r4 - nI r4 / 11 * 11 = nI (r4 % 11) := kx_rem rfl (by omega) (by omega) (by omega)
  have b44 : nI r4 - nI r4 / 4 * 4 = nI (r4 % 4) := kx_rem rfl (by omega) (by omega) (by omega)
  have b43 : nI r4 - nI r4 / 3 * 3 = nI (r4 % 3) := kx_rem rfl (by omega) (by omega) (by omega)
  have b49 : nI r4 - nI r4 / 9 * 9 = nI (r4 % 9) := kx_rem rfl (by omega) (by omega) (by omega)
  have b83 : nI r8 - nI r8 / 3 * 3 = nI (r8 % 3) := kx_rem rfl (by omega) (by omega) (by omega)
  have b88 : nI r8 - nI r8 / 8 * 8 = nI (r8 % 8) := kx_rem rfl (by omega) (by omega) (by omega)
  have d88 : nI r8 / 8 = nI (r8 / 8) := kx_div rfl (by omega) (by omega) (by omega)
  have b883 : nI (r8 / 8) - nI (r8 / 8) / 3 * 3 = nI (r8 / 8 % 3) := kx_rem rfl (by omega) (by omega) (by omega)
  have b820 : nI r8 - nI r8 / 20 * 20 = nI (r8 % 20) := kx_rem rfl (by omega) (by omega) (by omega)
  have d820 : nI r8 / 20 = nI (r8 / 20) := kx_div rfl (by omega) (by omega) (by omega)
  have b8230 : nI (r8 / 20) - nI (r8 / 20) / 30 * 30 = nI (r8 / 20 % 30) := kx_rem rfl (by omega) (by omega) (by omega)
  have b822 : nI (r8 / 20) - nI (r8 / 20) / 2 * 2 = nI (r8 / 20 % 2) := kx_rem rfl (by omega) (by omega) (by omega)
  have b830 : nI r8 - nI r8 / 30 * 30 = nI (r8 % 30) := kx_rem rfl (by omega) (by omega) (by omega)
  unfold x_L_isDone
  rw [e2, bd_some, nI_1, e4, bd_some, np2, e6, bd_some, a3, e8, bd_some]
  rw [b63, b625, b69, b630, b697, b411, b44, b43, b49, b83, b88, b820, b830]
  rw [d63, d88, d820, b883, b8230, b822]
  have hits : ∃ i, i ≤ lenT a ∧ (if nI (r6 % 3) = 0 then (if vR 14 16 then (if ¬ (ga m 3 (14 : Int32).toNatClampNeg + 1) = 0 then some (nI (r6 / 3) - nI (r6 / 3) / (ga m 3 (14 : Int32).toNatClampNeg + 1) * (ga m 3 (14 : Int32).toNatClampNeg + 1)) else none) else none) else (if vR 13 16 then (if ga m 3 (13 : Int32).toNatClampNeg < 0 then (if vR 14 16 then (if ga m 3 (14 : Int32).toNatClampNeg = 0 then some (0 : Int32) else (if vR 14 16 then some (ga m 3 (14 : Int32).toNatClampNeg - 1) else none)) else none) else (if vR 13 16 then some (ga m 3 (13 : Int32).toNatClampNeg) else none)) else none)) = some (nI i) := by
    rw [if_pos v14, if_pos v13, if_pos v13, if_pos v14, if_pos v14, t14c, t13c, h14, h13, nI_1]
    by_cases q : nI (r6 % 3) = 0
    · rw [if_pos q, if_pos (nI_ne0 (by omega) (by omega)), pk_rem (by omega) (by omega) (by omega)]
      exact ⟨r6 / 3 % (lenT a + 1), by have := Nat.mod_lt (r6 / 3) (show 0 < lenT a + 1 by omega); omega, rfl⟩
    · rw [if_neg q]
      rcases hIV.2.1 with z | ⟨i, hi, hu, -⟩
      · rw [z.1, if_pos (by decide)]
        by_cases y : lenT a = 0
        · rw [y, if_pos nI_0]; exact ⟨0, by omega, by rw [nI_0]⟩
        · rw [if_neg (nI_ne0 (by omega) (by omega))]
          obtain ⟨t, ht⟩ : ∃ t, lenT a = t + 1 := ⟨lenT a - 1, by omega⟩
          rw [ht, nI_pred]
          exact ⟨t, by omega, rfl⟩
      · have hi2 : i < lenT a := hi
        rw [hu, if_neg (nI_pos (by omega))]
        exact ⟨i, by omega, rfl⟩
  obtain ⟨i, hi, eits⟩ := hits
  rw [eits, bd_some]
  have t6 : (6 : Int32) ≤ nI r2 ↔ 6 ≤ r2 := kx_ge (d := 6) rfl (by omega) (by omega)
  have t9 : (9 : Int32) ≤ nI r2 ↔ 9 ≤ r2 := kx_ge (d := 9) rfl (by omega) (by omega)
  have t12 : (12 : Int32) ≤ nI r2 ↔ 12 ≤ r2 := kx_ge (d := 12) rfl (by omega) (by omega)
  have t14 : (14 : Int32) ≤ nI r2 ↔ 14 ≤ r2 := kx_ge (d := 14) rfl (by omega) (by omega)
  have t15 : (15 : Int32) ≤ nI r2 ↔ 15 ≤ r2 := kx_ge (d := 15) rfl (by omega) (by omega)
  have t21 : (21 : Int32) ≤ nI r2 ↔ 21 ≤ r2 := kx_ge (d := 21) rfl (by omega) (by omega)
  have t26 : (26 : Int32) ≤ nI r2 ↔ 26 ≤ r2 := kx_ge (d := 26) rfl (by omega) (by omega)
  have t37 : (37 : Int32) ≤ nI r2 ↔ 37 ≤ r2 := kx_ge (d := 37) rfl (by omega) (by omega)
  by_cases g6 : 6 ≤ r2
  · rw [if_pos (t6.mpr g6)]
    by_cases g9 : 9 ≤ r2
    · rw [if_pos (t9.mpr g9)]
      by_cases g15 : 15 ≤ r2
      · rw [if_pos (t15.mpr g15)]
        by_cases g21 : 21 ≤ r2
        · rw [if_pos (t21.mpr g21)]
          by_cases g26 : 26 ≤ r2
          · rw [if_pos (t26.mpr g26)]
            by_cases g37 : 37 ≤ r2
            · obtain ⟨w', a', e, L'⟩ := l_isRemoved H hl hi (show r4 % 3 < 3 by omega) (show r8 % 20 < 1000 by omega) (show r8 / 20 % 30 < 1000 by omega)
              rw [if_pos (t37.mpr g37), e, b2_some, if_pos isB1]
              exact ⟨w', m, a', rfl, L'⟩
            · rw [if_neg (fun q => g37 (t37.mp q))]
              have ek : ∃ kk, kk < 2000000 ∧ (if nI (r8 % 30) = 0 then some (1000 : Int32) else some (nI (r8 % 20) + nI (r8 / 20 % 2) * 1000000)) = some (nI kk) := by
                by_cases q : nI (r8 % 30) = 0
                · exact ⟨1000, by omega, by rw [if_pos q]; rfl⟩
                · exact ⟨r8 % 20 + r8 / 20 % 2 * 1000000, by omega, by rw [if_neg q, show (1000000 : Int32) = nI 1000000 from rfl, pk_mul, nI_add]⟩
              have es : ∃ k, k ≤ 3 ∧ (if nI (r4 % 9) = 0 then some (3 : Int32) else some (nI (r4 % 3))) = some (nI k) := by
                by_cases q : nI (r4 % 9) = 0
                · exact ⟨3, by omega, by rw [if_pos q]; rfl⟩
                · exact ⟨r4 % 3, by omega, by rw [if_neg q]⟩
              have ec : ∃ cc, cc ≤ 10000 ∧ (if nI (r6 % 30) = 0 then some (10000 : Int32) else some (nI (r6 % 997))) = some (nI cc) := by
                by_cases q : nI (r6 % 30) = 0
                · exact ⟨10000, by omega, by rw [if_pos q]; rfl⟩
                · exact ⟨r6 % 997, by omega, by rw [if_neg q]⟩
              obtain ⟨kk, hkk, ek⟩ := ek
              obtain ⟨k, hk, es⟩ := es
              obtain ⟨cc, hcc, ec⟩ := ec
              obtain ⟨w', a', e, L'⟩ := l_isRow H hl hi hk hkk hcc
              rw [ek, bd_some, es, bd_some, ec, bd_some, e, b2_some, if_pos isB1]
              exact ⟨w', m, a', rfl, L'⟩
          · rw [if_neg (fun q => g26 (t26.mp q))]
            have eb : ∃ b : Int32, (if (24 : Int32) ≤ nI r2 then some (0 : Int32) else some (1 : Int32)) = some b := by
              by_cases q : (24 : Int32) ≤ nI r2
              · exact ⟨0, by rw [if_pos q]⟩
              · exact ⟨1, by rw [if_neg q]⟩
            obtain ⟨b, eb⟩ := eb
            obtain ⟨w', m', e, L'⟩ := l_isEnded (c := c) (s := s) (ST.up H (Nat.le_refl _) (by omega) (by omega)) hl hi b
            rw [eb, bd_some, e, w3_some, if_pos isB1]
            exact ⟨w', m', _, rfl, ST.up L' (by omega) (Nat.le_refl _) (Nat.le_refl _)⟩
        · rw [if_neg (fun q => g21 (t21.mp q))]
          obtain ⟨j, hj, ej⟩ := tab_of (r := r4)
          have eb : ∃ b : Int32, isB b ∧ (if nI (r8 / 8 % 3) ≤ 0 then some (0 : Int32) else some (1 : Int32)) = some b := by
            by_cases q : nI (r8 / 8 % 3) ≤ 0
            · exact ⟨0, isB0, by rw [if_pos q]⟩
            · exact ⟨1, isB1, by rw [if_neg q]⟩
          obtain ⟨b, hb, eb⟩ := eb
          obtain ⟨w', m', e, L'⟩ := l_isBegun (c := c) (s := s) (ST.up H (Nat.le_refl _) (by omega) (by omega)) hl hj (show r8 % 8 < 8 by omega) hb
          rw [ej, bd_some, eb, bd_some, e, w3_some, if_pos isB1]
          exact ⟨w', m', _, rfl, ST.up L' (by omega) (Nat.le_refl _) (Nat.le_refl _)⟩
      · rw [if_neg (fun q => g15 (t15.mp q))]
        by_cases g12 : 12 ≤ r2
        · rw [if_pos (t12.mpr g12)]
          by_cases g14 : 14 ≤ r2
          · obtain ⟨w', m', a', e, L'⟩ := l_store4 (c := c) (s := s) (ST.up H (Nat.le_refl _) (by omega) (by omega)) hl hi (show r4 % 4 ≤ 3 by omega) (nI (r8 % 3))
            rw [if_pos (t14.mpr g14), bd_some, e, w3_some, if_pos isB1]
            exact ⟨w', m', a', rfl, ST.up L' (by omega) (Nat.le_refl _) (Nat.le_refl _)⟩
          · obtain ⟨w', m', a', e, L'⟩ := l_store1 (c := c) (s := s) (ST.up H (Nat.le_refl _) (by omega) (by omega)) hl hi (show r4 % 4 ≤ 3 by omega) (show r8 % 3 < 3 by omega)
            rw [if_neg (fun q => g14 (t14.mp q)), bd_some, e, w3_some, if_pos isB1]
            exact ⟨w', m', a', rfl, ST.up L' (by omega) (Nat.le_refl _) (Nat.le_refl _)⟩
        · obtain ⟨w', m', a', e, L'⟩ := l_store0 (c := c) (s := s) (ST.up H (Nat.le_refl _) (by omega) (by omega)) hl hi (show r4 % 4 ≤ 3 by omega) (nI (r8 % 3))
          rw [if_neg (fun q => g12 (t12.mp q)), bd_some, e, w3_some, if_pos isB1]
          exact ⟨w', m', a', rfl, ST.up L' (by omega) (Nat.le_refl _) (Nat.le_refl _)⟩
    · rw [if_neg (fun q => g9 (t9.mp q))]
      obtain ⟨j, hj, ej⟩ := tab_of (r := r4)
      obtain ⟨w', m', e, L'⟩ := l_isClosed (c := c) (s := s) (ST.up H (Nat.le_refl _) (by omega) (by omega)) hl hj
      rw [ej, bd_some, e, w3_some, if_pos isB1]
      exact ⟨w', m', _, rfl, ST.up L' (by omega) (Nat.le_refl _) (Nat.le_refl _)⟩
  · rw [if_neg (fun q => g6 (t6.mp q))]
    obtain ⟨j, hj, ej⟩ := tab_of (r := r4)
    have ev : ∃ v : Int32, (if nI (r6 % 25) = 0 then some (101 : Int32) else if nI (r8 % 3) ≤ 0 then some (nI (r6 % 9)) else if vR 12 16 then if vR 12 16 then bd (if ga m 3 (12 : Int32).toNatClampNeg = 0 then some (0 : Int32) else some (1 : Int32)) (fun (v85 : Int32) => some ((ga m 3 (12 : Int32).toNatClampNeg + nI (r8 % 3)) - v85)) else none else none) = some v := by
      by_cases q1 : nI (r6 % 25) = 0
      · exact ⟨_, by rw [if_pos q1]⟩
      · by_cases q2 : nI (r8 % 3) ≤ 0
        · exact ⟨_, by rw [if_neg q1, if_pos q2]⟩
        · rw [if_neg q1, if_neg q2, if_pos v12, if_pos v12]
          by_cases q3 : ga m 3 (12 : Int32).toNatClampNeg = 0
          · exact ⟨_, by rw [if_pos q3, bd_some]⟩
          · exact ⟨_, by rw [if_neg q3, bd_some]⟩
    obtain ⟨v, ev⟩ := ev
    obtain ⟨w', m', e, L'⟩ := l_isOpened (c := c) (s := s) (ST.up H (Nat.le_refl _) (by omega) (by omega)) (by omega) hl hj v
    rw [ej, bd_some, ev, bd_some, e, w3_some, if_pos isB1]
    exact ⟨w', m', _, rfl, ST.up L' (by omega) (Nat.le_refl _) (Nat.le_refl _)⟩
theorem n4 (j : Nat) : (4 : Int32) * nI j = nI (4 * j) := pk_mul 4 j
theorem l_lawL {o L : Nat} {xs : Nat → Int32} (c s : Nat) : ∀ (f k : Nat) (w : CS) (m : MS) (a : AS), k ≤ 58 → 58 < f + k → LR o (5 * k) (c + 20 * (58 - k)) (s + 100 * (58 - k)) w m a → ∃ w' m' a', x_L_law_L1 L o xs f (nI k) 1 w m = some (1, w', m') ∧ LR o 300 c s w' m' a' := by
  intro f
  induction f with
  | zero => intro k w m a h1 h2; omega
  | succ f ih =>
    intro k w m a h1 h2 H
    rw [x_L_law_L1]
    have z : (58 : Int32) ≤ nI k ↔ 58 ≤ k := kx_ge (d := 58) rfl (by omega) (by omega)
    have hlen60 : lenT a ≤ 60 := H.2.2.1.1.2.2.2.2.2
    have h14 : ga m 3 14 = nI (lenT a) := H.2.1.2.2.1.1
    by_cases hk : k < 58
    · obtain ⟨q, hq⟩ : ∃ q, 58 - k = q + 1 := ⟨58 - k - 1, by omega⟩
      rw [hq] at H
      have hq' : 58 - (k + 1) = q := by omega
      rw [if_neg (fun y => by have := z.mp y; omega), if_neg e10]
      simp only [if_pos v14, t14c, h14]
      have z55 : (55 : Int32) < nI (lenT a) ↔ 55 < lenT a := kx_gt (d := 55) rfl (by omega) (by omega)
      by_cases hs : 55 < lenT a
      · rw [if_pos (z55.mpr hs), w2_inl, w3_some, nI_1]
        exact ih (k + 1) w m a (by omega) (by omega) (by rw [hq']; exact ST.up H (by omega) (by omega) (by omega))
      · obtain ⟨w1, m1, a1, e1, H1⟩ := l_isDone (L := L) (xs := xs) (c := c + 20 * q + 10) (s := s + 100 * q + 50) (ST.up H (Nat.le_refl _) (by omega) (by omega)) (by omega) (by omega) (show 4 * k < 1000 by omega)
        obtain ⟨w2, e2, S2⟩ := l_isSo (c := c + 20 * q) (s := s + 100 * q) H1.1 H1.2.1 H1.2.2.1.1.2.2.2.2.2
        rw [if_neg (fun y => hs (z55.mp y)), n4, e1, w3_some, if_neg e10, e2, b2_some, if_neg e10, l1_inr, w2_inl, w3_some, nI_1]
        exact ih (k + 1) w2 m1 a1 (by omega) (by omega) (by rw [hq']; exact ST.up (N := 5 * k + 4) ⟨S2, H1.2⟩ (by omega) (by omega) (by omega))
    · have : k = 58 := by omega
      subst this
      rw [if_pos (z.mpr (by omega))]
      exact ⟨w, m, a, rfl, ST.up H (by omega) (by omega) (by omega)⟩
