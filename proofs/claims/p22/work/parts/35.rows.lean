/-! ===== PURE: a store's rows ===== -/
def rk (v : Int32) : Int32 := (x_X1_rank v).getD 0
theorem rk_some (v : Int32) : x_X1_rank v = some (rk v) := by
  have h : ∃ r, x_X1_rank v = some r := by
    unfold x_X1_rank
    split
    · split
      · rw [bd_some]; split <;> exact ⟨_, rfl⟩
      · rw [bd_some]; split <;> exact ⟨_, rfl⟩
    · exact ⟨_, rfl⟩
  obtain ⟨r, hr⟩ := h
  unfold rk
  rw [hr]
  rfl
/-- the number of a row by a field: 0 the first, else the second -/
def rn (w : CS) (f : Int32) (x : Nat) : Int32 := if f = 0 then wI w 42 x else wI w 43 x
theorem s_number {w : CS} {x : Nat} (hx : wJ w 0 x = 1) (f : Int32) : x_X2_number x f w = some (rn w f x) := by
  unfold x_X2_number rn
  by_cases h : f = 0
  · simp only [h, if_true, hx, bd_some]
  · simp only [h, if_false, if_true, hx, bd_some]
abbrev btw (w : CS) (a b : Int32) (x : Nat) : Prop := rk a ≤ rk (wI w 40 x) ∧ rk (wI w 40 x) ≤ rk b
theorem s_isBetween {w : CS} {x : Nat} (hx : wJ w 0 x = 1) (a b : Int32) : x_X2_isBetween x a b w = some (if btw w a b x then 1 else 0) := by
  unfold x_X2_isBetween btw
  simp only [rk_some, bd_some, if_pos hx]
  by_cases h1 : rk a ≤ rk (wI w 40 x)
  · by_cases h2 : rk (wI w 40 x) ≤ rk b
    · simp [h1, h2, Int32.not_lt.mpr h1, Int32.not_lt.mpr h2, bd_some, l0_inl, l0_inr]
    · simp [h1, h2, Int32.not_lt.mpr h1, Int32.not_le.mp h2, bd_some, l0_inl, l0_inr]
  · simp [h1, Int32.not_le.mp h1, bd_some, l0_inl, l0_inr]
theorem s_countL {o : Nat} {w : CS} {R : Nat → List Nat} (S : SV o w R) {k : Nat} (hk : k < 6) (a b : Int32) : ∀ (n i c : Nat), (R k).length < n + i → i ≤ (R k).length → c ≤ i → x_X3_countBetween_L1 (o + 10 + 3 * k) a b w n (nI i) (nI c) = some (nI (c + ((R k).drop i).countP (fun x => decide (btw w a b x)))) := by
  obtain ⟨h1, h2, h3, h4⟩ := s_rows S hk
  intro n
  induction n with
  | zero => intro i c q r; omega
  | succ n ih =>
    intro i c q r hc
    rw [x_X3_countBetween_L1, if_pos h1, if_pos h2, p_size h3, bd_some]
    by_cases hi : i < (R k).length
    · have hx := s_rowkind S hk hi
      have hg : (R k).getD i 0 = (R k)[i] := by rw [List.getD_eq_getElem?_getD, List.getElem?_eq_getElem hi]; rfl
      rw [hg] at hx
      rw [if_neg (nI_ge hi (by omega)), p_get h3 hi, bd_some, hg, if_pos (Or.inr hx), if_pos hx, s_isBetween hx, bd_some, List.drop_eq_getElem_cons hi, List.countP_cons]
      by_cases hb : btw w a b (R k)[i]
      · rw [if_pos hb, if_neg (by decide), bd_some, nI_1, nI_1, ih (i + 1) (c + 1) (by omega) (by omega) (by omega)]
        rw [if_pos (decide_eq_true hb)]
        congr 2
        omega
      · rw [if_neg hb, if_pos rfl, bd_some, nI_1, ih (i + 1) c (by omega) (by omega) (by omega), if_neg (fun q => hb (of_decide_eq_true q))]
        rfl
    · rw [if_pos (nI_le (by omega) (by omega)), List.drop_eq_nil_of_le (by omega)]
      rfl
theorem s_count {o : Nat} {w : CS} {R : Nat → List Nat} (S : SV o w R) {k : Nat} (hk : k < 6) (a b : Int32) : x_X3_countBetween (o + 10 + 3 * k) a b w = some (nI ((R k).countP (fun x => decide (btw w a b x)))) := by
  have h4 := (S.rk k hk).1
  unfold x_X3_countBetween
  have h := s_countL S hk a b FU 0 0 (by show (R k).length < 1000 + 0; omega) (Nat.zero_le _) (Nat.le_refl _)
  rw [show nI 0 = 0 from nI_0, List.drop_zero, Nat.zero_add] at h
  rw [h, bd_some]
