/-! ===== PURE: rows between two keys are removed ===== -/
/-- a list changed in place, any number of times -/
def LCS (w w' : CS) (l : Nat) : Prop := FR (fun y => y = l ∨ y = wJ w 281 l) w w' ∧ cap w' l = cap w l ∧ wJ w' 281 l = wJ w 281 l ∧ (wz w' = wz w ∧ wl w' = wl w ∧ wk w' = wk w)
theorem LCS.rf {w : CS} {l : Nat} : LCS w w l := ⟨FR.rf, rfl, rfl, rfl, rfl, rfl⟩
theorem LCS.tr {w w1 w2 : CS} {l : Nat} (h : LCS w w1 l) (h2 : LCS w1 w2 l) : LCS w w2 l := by
  obtain ⟨a1, a2, a3, a4, a5, a6⟩ := h
  obtain ⟨b1, b2, b3, b4, b5, b6⟩ := h2
  exact ⟨a1.tr (b1.mono fun y _ q => by rw [a3] at q; exact q), b2.trans a2, b3.trans a3, b4.trans a4, b5.trans a5, b6.trans a6⟩
theorem LCF.s {w w' : CS} {l : Nat} (h : LCF w w' l) : LCS w w' l := ⟨h.1.1, h.2.1, h.2.2.1, h.2.2.2⟩
/-- what is no list and no list's array stays whole -/
theorem SV.whole {o j : Nat} {w w' : CS} {R : Nat → List Nat} (S : SV o w R) (hj : j < 8) (F : FR (fun y => y = LL o j ∨ y = wJ w 281 (LL o j)) w w') {y k : Nat} (hk : wJ w 0 y = k + 1) (h7 : k + 1 ≠ 7) (h12 : k + 1 ≠ 12) : (∀ f, wI w' f y = wI w f y) ∧ (∀ i, wA w' y i = wA w y i) ∧ (∀ f, wJ w' f y = wJ w f y) ∧ (∀ i, wB w' y i = wB w y i) ∧ (∀ f, wL w' f y = wL w f y) ∧ (∀ i, wM w' y i = wM w y i) := by
  have hL := S.ls j hj
  have hkd : wJ w 0 (wJ w 281 (LL o j)) = 12 ∨ wJ w 0 (wJ w 281 (LL o j)) = 0 := by
    rcases hL.2.1 with q | q
    · exact Or.inl q.1
    · exact Or.inr q.2.2.1
  refine F.2.2 y (S.wf.le hk).2 (fun q => ?_)
  rcases q with q | q
  · rw [q, hL.1] at hk; omega
  · rw [q] at hk; rcases hkd with z | z <;> rw [z] at hk <;> omega
theorem s_removeL {o k : Nat} (hk : k < 6) (a b : Int32) : ∀ (n : Nat) (xs ys : List Nat) (c : Nat) (w : CS) (R : Nat → List Nat), SV o w R → R k = xs ++ ys → xs.length < n → ∃ w', x_X3_removeBetween_L1 (o + 10 + 3 * k) a b n (nI xs.length + (-1)) (nI c) w = some (nI (c + xs.countP (fun x => decide (btw w a b x))), w') ∧ SV o w' (fun i => if i = k then xs.filter (fun x => ¬ btw w a b x) ++ ys else R i) ∧ LCS w w' (LL o k) := by
  intro n
  induction n with
  | zero => intro xs ys c w R _ _ h; omega
  | succ n ih =>
    intro xs ys c w R S hR hn
    obtain ⟨h1, h2, h3, h4⟩ := s_rows S hk
    rw [x_X3_removeBetween_L1]
    rcases List.eq_nil_or_concat xs with h | ⟨zs, x, h⟩
    · subst h
      refine ⟨w, ?_, ?_, LCS.rf⟩
      · rw [if_pos (show nI ([] : List Nat).length + (-1) < 0 by decide)]
        rfl
      · have e : (fun i => if i = k then ([] : List Nat).filter (fun x => ¬ btw w a b x) ++ ys else R i) = R := by
          funext i
          by_cases hi : i = k
          · rw [if_pos hi, hi, hR]; rfl
          · rw [if_neg hi]
        rw [e]; exact S
    · rw [List.concat_eq_append] at h
      subst h
      have hlen : (zs ++ [x]).length = zs.length + 1 := by simp
      have hRl : (R k).length = zs.length + 1 + ys.length := by rw [hR]; simp; omega
      have hm : zs.length < (R k).length := by omega
      have hx9 : (R k).getD zs.length 0 = x := by rw [hR]; simp
      have hx := s_rowkind S hk hm
      rw [hx9] at hx
      rw [hlen] at hn ⊢
      rw [pk_m1, if_neg (nI_pos (by omega)), if_pos h1, if_pos h2, p_get h3 hm, bd_some, hx9, if_pos (Or.inr hx), if_pos hx, s_isBetween hx, bd_some]
      have e202 : wJ w 202 (o + 10 + 3 * k) = LL o k := by rw [(S.st k hk).2.2.1, LLr hk]
      by_cases hb : btw w a b x
      · rw [if_pos hb, if_neg (by decide)]
        obtain ⟨w1, e1, l1, l2⟩ := p_remove S.wf h3 hm
        have hE : (R k).eraseIdx zs.length = zs ++ ys := by
          rw [hR, List.append_assoc, List.eraseIdx_append_of_length_le (Nat.le_refl _)]
          simp
        rw [hE, e202] at l1
        rw [e202] at l2
        have S1 := S.list (xs := zs ++ ys) (by omega) l2.1 l1 (fun _ => ⟨by have := (S.rk k hk).1; rw [hRl] at this; rw [List.length_append]; omega, fun y hy => (S.rk k hk).2 y (by rw [hR]; simp only [List.mem_append, List.mem_singleton] at hy ⊢; rcases hy with q | q; exact Or.inl (Or.inl q); exact Or.inr q)⟩) (fun q => by omega) (fun q => by omega)
        rw [e1, b2_some, b2_some, nI_1]
        obtain ⟨w2, e2, S2, L2⟩ := ih zs ys (c + 1) w1 _ S1 (if_pos rfl) (by omega)
        have same : ∀ y ∈ zs, (decide (btw w1 a b y)) = (decide (btw w a b y)) := by
          intro y hy
          have hy1 := (S.rk k hk).2 y (by rw [hR]; simp [hy])
          have := (S.whole (by omega) l2.1.1 hy1 (by omega) (by omega)).1 40
          exact decide_eq_decide.mpr (by unfold btw; rw [this])
        refine ⟨w2, ?_, ?_, l2.s.tr L2⟩
        · have e8 : zs.countP (fun y => decide (btw w1 a b y)) = zs.countP (fun y => decide (btw w a b y)) := List.countP_congr (fun y hy => by rw [same y hy])
          have e9 : List.countP (fun y => decide (btw w a b y)) [x] = 1 := by simp [hb]
          rw [e2, e8, List.countP_append, e9, show c + 1 + List.countP (fun y => decide (btw w a b y)) zs = c + (List.countP (fun y => decide (btw w a b y)) zs + 1) by omega]
        · have e : (fun i => if i = k then (zs ++ [x]).filter (fun y => ¬ btw w a b y) ++ ys else R i) = (fun i => if i = k then zs.filter (fun y => ¬ btw w1 a b y) ++ ys else if i = k then zs ++ ys else R i) := by
            funext i
            by_cases hi : i = k
            · rw [if_pos hi, if_pos hi, List.filter_append]
              have hf : zs.filter (fun y => ¬ btw w a b y) = zs.filter (fun y => ¬ btw w1 a b y) := by
                apply List.filter_congr
                intro y hy
                have := same y hy
                simp only [decide_eq_decide] at this
                simp [this]
              rw [hf]
              simp [hb]
            · rw [if_neg hi, if_neg hi, if_neg hi]
          rw [e]; exact S2
      · rw [if_neg hb, if_pos rfl, b2_some]
        obtain ⟨w2, e2, S2, L2⟩ := ih zs (x :: ys) c w R S (by rw [hR]; simp) (by omega)
        refine ⟨w2, ?_, ?_, L2⟩
        · rw [e2, List.countP_append]
          simp [hb]
        · have e : (fun i => if i = k then (zs ++ [x]).filter (fun y => ¬ btw w a b y) ++ ys else R i) = (fun i => if i = k then zs.filter (fun y => ¬ btw w a b y) ++ x :: ys else R i) := by
            funext i
            by_cases hi : i = k
            · rw [if_pos hi, if_pos hi, List.filter_append, List.filter_cons_of_pos (p := fun y => decide (¬ btw w a b y)) (decide_eq_true hb), List.filter_nil, List.append_assoc]
              rfl
            · rw [if_neg hi, if_neg hi]
          rw [e]; exact S2
theorem s_remove {o k : Nat} {w : CS} {R : Nat → List Nat} (S : SV o w R) (hk : k < 6) (a b : Int32) : ∃ w', x_X3_removeBetween (o + 10 + 3 * k) a b w = some (nI ((R k).countP (fun x => decide (btw w a b x))), w') ∧ SV o w' (fun i => if i = k then (R k).filter (fun x => ¬ btw w a b x) else R i) ∧ LCS w w' (LL o k) := by
  obtain ⟨h1, h2, h3, h4⟩ := s_rows S hk
  obtain ⟨w', e, S1, L⟩ := s_removeL hk a b FU (R k) [] 0 w R S (by simp) (by show _ < 1000; omega)
  rw [Nat.zero_add] at e
  refine ⟨w', ?_, by simpa using S1, L⟩
  unfold x_X3_removeBetween
  rw [if_pos h1, if_pos h2, p_size h3, bd_some, Int32.sub_eq_add_neg, show (0 : Int32) = nI 0 from nI_0.symm, e, b2_some]
