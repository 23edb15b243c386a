/-! ===== PURE: the law's loop says true (printed by gen73.py) ===== -/
set_option maxHeartbeats 8000000 in
set_option maxRecDepth 100000 in
theorem loop_ok {o q L : Nat} {xs : Nat → Int32} (hL : L ≤ 3584) : ∀ (n i : Nat) (w : CS) (m : MS), 513 < n + i → JJ o q i w m → x_law_L o q L xs n (nI (7 * i)) w m = some 1 ∨ 512 < i := by
  intro n
  induction n with
  | zero => intro i w m h1 _; exact Or.inr (by omega)
  | succ n ih =>
    intro i w m h1 J
    by_cases hi : i ≤ 512
    · left
      rw [x_law_L]
      have hs : (nI L - 7) < nI (7 * i) ↔ L < 7 * i + 7 := by
        have e1 : (nI L - 7).toInt = (L : Int) - 7 := pk_sub_toInt (b := 7) (by omega) (by omega)
        have e2 : (nI (7 * i)).toInt = ((7 * i : Nat) : Int) := nI_toInt (by omega)
        rw [Int32.lt_iff_toInt_lt, e1, e2]
        omega
      by_cases hstop : L < 7 * i + 7
      · rw [if_pos (hs.mpr hstop)]
      · rw [if_neg (fun z => hstop (hs.mp z))]
        have hi2 : i < 512 := by omega
        have hnx : ∀ w' m', JJ o q (i + 1) w' m' → x_law_L o q L xs n (nI (7 * i + 7)) w' m' = some 1 := by
          intro w' m' J'
          rcases ih (i + 1) w' m' (by omega) J' with z | z
          · rw [show 7 * i + 7 = 7 * (i + 1) by omega]; exact z
          · omega
        have r0 : vR (nI (7 * i)) L := nI_in (by omega) (by omega)
        have r1 : vR (nI (7 * i + 1)) L := nI_in (by omega) (by omega)
        have r2 : vR (nI (7 * i + 2)) L := nI_in (by omega) (by omega)
        have r3 : vR (nI (7 * i + 3)) L := nI_in (by omega) (by omega)
        have r4 : vR (nI (7 * i + 4)) L := nI_in (by omega) (by omega)
        have r5 : vR (nI (7 * i + 5)) L := nI_in (by omega) (by omega)
        have r6 : vR (nI (7 * i + 6)) L := nI_in (by omega) (by omega)
        have a1 : nI (7 * i) + 1 = nI (7 * i + 1) := nI_add _ 1
        have a2 : nI (7 * i) + 2 = nI (7 * i + 2) := nI_add _ 2
        have a3 : nI (7 * i) + 3 = nI (7 * i + 3) := nI_add _ 3
        have a4 : nI (7 * i) + 4 = nI (7 * i + 4) := nI_add _ 4
        have a5 : nI (7 * i) + 5 = nI (7 * i + 5) := nI_add _ 5
        have a6 : nI (7 * i) + 6 = nI (7 * i + 6) := nI_add _ 6
        have a7 : nI (7 * i) + 7 = nI (7 * i + 7) := nI_add _ 7
        rw [if_pos r0]
        simp only [a1, a2, a3, a4, a5, a6, a7, if_pos r1, if_pos r2, if_pos r3, if_pos r4, if_pos r5, if_pos r6]
        by_cases h0 : ((xs (nI (7 * i)).toNatClampNeg) &&& 31).toInt = 0
        · rw [if_pos h0]
          exact st_open hi2 J hnx _ _
        rw [if_neg h0]
        by_cases h1 : ((xs (nI (7 * i)).toNatClampNeg) &&& 31).toInt = 1
        · rw [if_pos h1]
          exact st_close hi2 J hnx _
        rw [if_neg h1]
        by_cases h2 : ((xs (nI (7 * i)).toNatClampNeg) &&& 31).toInt = 2
        · rw [if_pos h2]
          exact st_state hi2 J hnx _
        rw [if_neg h2]
        by_cases h3 : ((xs (nI (7 * i)).toNatClampNeg) &&& 31).toInt = 3
        · rw [if_pos h3]
          exact st_version hi2 J hnx 
        rw [if_neg h3]
        by_cases h4 : ((xs (nI (7 * i)).toNatClampNeg) &&& 31).toInt = 4
        · rw [if_pos h4]
          exact st_upgrade hi2 J hnx 
        rw [if_neg h4]
        by_cases h5 : ((xs (nI (7 * i)).toNatClampNeg) &&& 31).toInt = 5
        · rw [if_pos h5]
          exact st_makeStore hi2 J hnx _ _
        rw [if_neg h5]
        by_cases h6 : ((xs (nI (7 * i)).toNatClampNeg) &&& 31).toInt = 6
        · rw [if_pos h6]
          exact st_deleteStore hi2 J hnx _ _
        rw [if_neg h6]
        by_cases h7 : ((xs (nI (7 * i)).toNatClampNeg) &&& 31).toInt = 7
        · rw [if_pos h7]
          by_cases hb : xs (nI (7 * i + 4)).toNatClampNeg = 0
          · simp only [if_pos hb]
            exact st_makeIndex hi2 J hnx _ _ _ _
          · simp only [if_neg hb]
            exact st_makeIndex hi2 J hnx _ _ _ _
        rw [if_neg h7]
        by_cases h8 : ((xs (nI (7 * i)).toNatClampNeg) &&& 31).toInt = 8
        · rw [if_pos h8]
          by_cases hb : xs (nI (7 * i + 3)).toNatClampNeg = 0
          · simp only [if_pos hb]
            exact st_begin hi2 J hnx _ _ _ isB0
          · simp only [if_neg hb]
            exact st_begin hi2 J hnx _ _ _ isB1
        rw [if_neg h8]
        by_cases h9 : ((xs (nI (7 * i)).toNatClampNeg) &&& 31).toInt = 9
        · rw [if_pos h9]
          exact st_standing hi2 J hnx _
        rw [if_neg h9]
        by_cases h10 : ((xs (nI (7 * i)).toNatClampNeg) &&& 31).toInt = 10
        · rw [if_pos h10]
          exact st_commit hi2 J hnx _
        rw [if_neg h10]
        by_cases h11 : ((xs (nI (7 * i)).toNatClampNeg) &&& 31).toInt = 11
        · rw [if_pos h11]
          exact st_abort hi2 J hnx _
        rw [if_neg h11]
        by_cases h12 : ((xs (nI (7 * i)).toNatClampNeg) &&& 31).toInt = 12
        · rw [if_pos h12]
          exact st_put hi2 J hnx _ _ _ _ _ _
        rw [if_neg h12]
        by_cases h13 : ((xs (nI (7 * i)).toNatClampNeg) &&& 31).toInt = 13
        · rw [if_pos h13]
          exact st_remove hi2 J hnx _ _ _ _
        rw [if_neg h13]
        by_cases h14 : ((xs (nI (7 * i)).toNatClampNeg) &&& 31).toInt = 14
        · rw [if_pos h14]
          exact st_get hi2 J hnx _ _ _
        rw [if_neg h14]
        by_cases h15 : ((xs (nI (7 * i)).toNatClampNeg) &&& 31).toInt = 15
        · rw [if_pos h15]
          exact st_count hi2 J hnx _ _ _ _
        rw [if_neg h15]
        by_cases h16 : ((xs (nI (7 * i)).toNatClampNeg) &&& 31).toInt = 16
        · rw [if_pos h16]
          exact st_cursor hi2 J hnx _ _ _ _
        rw [if_neg h16]
        by_cases h17 : ((xs (nI (7 * i)).toNatClampNeg) &&& 31).toInt = 17
        · rw [if_pos h17]
          exact st_step hi2 J hnx _
        rw [if_neg h17]
        by_cases h18 : ((xs (nI (7 * i)).toNatClampNeg) &&& 31).toInt = 18
        · rw [if_pos h18]
          exact st_update hi2 J hnx _ _
        rw [if_neg h18]
        refine hnx w m ?_
        obtain ⟨R, a, D, V, M, I, hD, B⟩ := J
        exact ⟨R, a, D, V, M, I.up, by omega, B.mono (by omega) (by omega)⟩
    · exact Or.inr (by omega)
