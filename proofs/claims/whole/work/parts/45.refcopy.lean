/-! ===== PURE: the reference keeps and restores stores (printed by gen45.py) ===== -/
abbrev CPcopies (k j x : Nat) : Prop := (j = 12 ∨ j = 14) ∧ x = k ∨ j = 13 ∧ (x = 2 * k ∨ x = 2 * k + 1) ∨ (j = 15 ∨ j = 16) ∧ 40 * k ≤ x ∧ x < 40 * k + 40 ∨ j = 17 ∧ 80 * k ≤ x ∧ x < 80 * k + 80
abbrev CPcopies2 (k i j x : Nat) : Prop := (j = 15 ∨ j = 16) ∧ 40 * k + i ≤ x ∧ x < 40 * k + 40 ∨ j = 17 ∧ 2 * (40 * k + i) ≤ x ∧ x < 80 * k + 80
abbrev CPcopies1 (k i j x : Nat) : Prop := j = 13 ∧ 2 * k + i ≤ x ∧ x < 2 * k + 2
theorem m_copiesL2 {k : Nat} (hk : k < 3) : ∀ (n i : Nat) (m : MS), i ≤ 40 → 40 < n + i → ∃ m', x_X7_copies_L2 (nI k) n (nI (40 * k + i)) m = some m' ∧ (∀ j, gs m' j = gs m j) ∧ ∀ j x, ga m' j x = if CPcopies2 k i j x then ga m (j - 6) x else ga m j x := by
  intro n
  induction n with
  | zero => intro i m h1 h2; omega
  | succ n ih =>
    intro i m h1 h2
    rw [x_X7_copies_L2, show (40 : Int32) = nI 40 from rfl, pk_mul, nI_add]
    by_cases hi : i < 40
    · have hr : vR (nI (40 * k + i)) 120 := nI_in (by omega) (by omega)
      have e2 : (2 : Int32) * nI (40 * k + i) = nI (2 * (40 * k + i)) := pk_mul 2 _
      have hr2 : vR (nI (2 * (40 * k + i))) 240 := nI_in (by omega) (by omega)
      have hr3 : vR (nI (2 * (40 * k + i) + 1)) 240 := nI_in (by omega) (by omega)
      rw [if_neg (nI_ge (by omega) (by omega)), e2, nI_1, nI_1]
      simp only [if_pos hr, if_pos hr2, if_pos hr3, bs_eq, nI_clamp (show 40 * k + i < 2 ^ 31 by omega), nI_clamp (show 2 * (40 * k + i) < 2 ^ 31 by omega), nI_clamp (show 2 * (40 * k + i) + 1 < 2 ^ 31 by omega)]
      obtain ⟨m', e, g, a⟩ := ih (i + 1) _ (by omega) (by omega)
      refine ⟨m', e, fun j => (g j).trans rfl, fun j x => ?_⟩
      rw [a]
      simp only [ga_sa2]
      by_cases c1 : CPcopies2 k (i + 1) j x
      · have c2 : CPcopies2 k i j x := by unfold CPcopies2 at *; omega
        rw [if_pos c1, if_pos c2]
        rw [if_neg (by unfold CPcopies2 at *; omega), if_neg (by unfold CPcopies2 at *; omega), if_neg (by unfold CPcopies2 at *; omega), if_neg (by unfold CPcopies2 at *; omega)]
      · rw [if_neg c1]
        by_cases c2 : CPcopies2 k i j x
        · rw [if_pos c2]
          have c3 : (j = 17 ∧ x = 2 * (40 * k + i) + 1) ∨ (j = 17 ∧ x = 2 * (40 * k + i)) ∨ (j = 16 ∧ x = 40 * k + i) ∨ (j = 15 ∧ x = 40 * k + i) := by unfold CPcopies2 at *; omega
          rcases c3 with ⟨rfl, rfl⟩ | ⟨rfl, rfl⟩ | ⟨rfl, rfl⟩ | ⟨rfl, rfl⟩ <;> simp
        · rw [if_neg c2]
          rw [if_neg (by unfold CPcopies2 at *; omega), if_neg (by unfold CPcopies2 at *; omega), if_neg (by unfold CPcopies2 at *; omega), if_neg (by unfold CPcopies2 at *; omega)]
    · refine ⟨m, by rw [if_pos (nI_le (by omega) (by omega))], fun j => rfl, fun j x => ?_⟩
      rw [if_neg (by unfold CPcopies2; omega)]
theorem m_copiesL1 {k : Nat} (hk : k < 3) : ∀ (n i : Nat) (m : MS), i ≤ 2 → 2 < n + i → ∃ m', x_X7_copies_L1 (nI k) n (nI i) m = some m' ∧ (∀ j, gs m' j = gs m j) ∧ ∀ j x, ga m' j x = if CPcopies1 k i j x then ga m (j - 6) x else ga m j x := by
  intro n
  induction n with
  | zero => intro i m h1 h2; omega
  | succ n ih =>
    intro i m h1 h2
    rw [x_X7_copies_L1, show (2 : Int32) = nI 2 from rfl, pk_mul, nI_add]
    by_cases hi : i < 2
    · have hr : vR (nI (2 * k + i)) 6 := nI_in (by omega) (by omega)
      rw [if_neg (nI_ge (by omega) (by omega)), if_pos hr, if_pos hr, bs_eq, nI_1, nI_clamp (show 2 * k + i < 2 ^ 31 by omega)]
      obtain ⟨m', e, g, a⟩ := ih (i + 1) _ (by omega) (by omega)
      refine ⟨m', e, fun j => (g j).trans rfl, fun j x => ?_⟩
      rw [a]
      simp only [ga_sa2]
      by_cases c1 : CPcopies1 k (i + 1) j x
      · have c2 : CPcopies1 k i j x := by unfold CPcopies1 at *; omega
        rw [if_pos c1, if_pos c2, if_neg (by unfold CPcopies1 at *; omega)]
      · rw [if_neg c1]
        by_cases c2 : CPcopies1 k i j x
        · have c3 : j = 13 ∧ x = 2 * k + i := by unfold CPcopies1 at *; omega
          obtain ⟨rfl, rfl⟩ := c3
          rw [if_pos c2]
          simp
        · rw [if_neg c2, if_neg (by unfold CPcopies1 at *; omega)]
    · refine ⟨m, by rw [if_pos (nI_le (by omega) (by omega))], fun j => rfl, fun j x => ?_⟩
      rw [if_neg (by unfold CPcopies1; omega)]
theorem m_copies {k : Nat} (hk : k < 3) (m : MS) (hb : isB (ga m 6 k)) : ∃ m', x_X7_copies (nI k) m = some m' ∧ (∀ j, gs m' j = gs m j) ∧ ∀ j x, ga m' j x = if CPcopies k j x then ga m (j - 6) x else ga m j x := by
  unfold x_X7_copies
  have hr : vR (nI k) 3 := nI_in hk (by omega)
  simp only [if_pos hr, bs_eq, nI_clamp (show k < 2 ^ 31 by omega), if_pos hb]
  obtain ⟨m1, e1, g1, a1⟩ := m_copiesL1 hk FU 0 (sa (sa m 12 k (ga m 6 k)) 14 k (ga m 8 k)) (by omega) (by show 2 < 1000 + 0; omega)
  obtain ⟨m2, e2, g2, a2⟩ := m_copiesL2 hk FU 0 m1 (by omega) (by show 40 < 1000 + 0; omega)
  rw [show nI 0 = 0 from nI_0] at e1
  rw [Nat.add_zero, show nI (40 * k) = 40 * nI k from (pk_mul 40 k).symm] at e2
  have e1' : x_X7_copies_L1 (nI k) FU 0 (sa (sa m 12 k (ga m 6 k)) 14 k (ga (sa m 12 k (ga m 6 k)) 8 k)) = some m1 := e1
  refine ⟨m2, by rw [e1', bd_some, e2, bd_some], fun j => (g2 j).trans ((g1 j).trans rfl), fun j x => ?_⟩
  rw [a2]
  simp only [a1, ga_sa2]
  by_cases c : CPcopies k j x
  · rw [if_pos c]
    rcases c with ⟨c1 | c1, c2⟩ | ⟨c1, c2⟩ | ⟨c1 | c1, c2, c3⟩ | ⟨c1, c2, c3⟩
    · subst c1; subst c2; simp
    · subst c1; subst c2; simp
    · subst c1; rw [if_neg (by unfold CPcopies2; omega), if_pos (by unfold CPcopies1; omega)]; simp
    · subst c1; rw [if_pos (by unfold CPcopies2; omega)]; simp
    · subst c1; rw [if_pos (by unfold CPcopies2; omega)]; simp
    · subst c1; rw [if_pos (by unfold CPcopies2; omega)]; simp
  · rw [if_neg c]
    rw [if_neg (by unfold CPcopies at c; unfold CPcopies2; omega), if_neg (by unfold CPcopies at c; unfold CPcopies1; omega), if_neg (by unfold CPcopies at c; omega), if_neg (by unfold CPcopies at c; omega)]
abbrev CPrestores (k j x : Nat) : Prop := (j = 6 ∨ j = 8) ∧ x = k ∨ j = 7 ∧ (x = 2 * k ∨ x = 2 * k + 1) ∨ (j = 9 ∨ j = 10) ∧ 40 * k ≤ x ∧ x < 40 * k + 40 ∨ j = 11 ∧ 80 * k ≤ x ∧ x < 80 * k + 80
abbrev CPrestores2 (k i j x : Nat) : Prop := (j = 9 ∨ j = 10) ∧ 40 * k + i ≤ x ∧ x < 40 * k + 40 ∨ j = 11 ∧ 2 * (40 * k + i) ≤ x ∧ x < 80 * k + 80
abbrev CPrestores1 (k i j x : Nat) : Prop := j = 7 ∧ 2 * k + i ≤ x ∧ x < 2 * k + 2
theorem m_restoresL2 {k : Nat} (hk : k < 3) : ∀ (n i : Nat) (m : MS), i ≤ 40 → 40 < n + i → ∃ m', x_X7_restores_L2 (nI k) n (nI (40 * k + i)) m = some m' ∧ (∀ j, gs m' j = gs m j) ∧ ∀ j x, ga m' j x = if CPrestores2 k i j x then ga m (j + 6) x else ga m j x := by
  intro n
  induction n with
  | zero => intro i m h1 h2; omega
  | succ n ih =>
    intro i m h1 h2
    rw [x_X7_restores_L2, show (40 : Int32) = nI 40 from rfl, pk_mul, nI_add]
    by_cases hi : i < 40
    · have hr : vR (nI (40 * k + i)) 120 := nI_in (by omega) (by omega)
      have e2 : (2 : Int32) * nI (40 * k + i) = nI (2 * (40 * k + i)) := pk_mul 2 _
      have hr2 : vR (nI (2 * (40 * k + i))) 240 := nI_in (by omega) (by omega)
      have hr3 : vR (nI (2 * (40 * k + i) + 1)) 240 := nI_in (by omega) (by omega)
      rw [if_neg (nI_ge (by omega) (by omega)), e2, nI_1, nI_1]
      simp only [if_pos hr, if_pos hr2, if_pos hr3, bs_eq, nI_clamp (show 40 * k + i < 2 ^ 31 by omega), nI_clamp (show 2 * (40 * k + i) < 2 ^ 31 by omega), nI_clamp (show 2 * (40 * k + i) + 1 < 2 ^ 31 by omega)]
      obtain ⟨m', e, g, a⟩ := ih (i + 1) _ (by omega) (by omega)
      refine ⟨m', e, fun j => (g j).trans rfl, fun j x => ?_⟩
      rw [a]
      simp only [ga_sa2]
      by_cases c1 : CPrestores2 k (i + 1) j x
      · have c2 : CPrestores2 k i j x := by unfold CPrestores2 at *; omega
        rw [if_pos c1, if_pos c2]
        rw [if_neg (by unfold CPrestores2 at *; omega), if_neg (by unfold CPrestores2 at *; omega), if_neg (by unfold CPrestores2 at *; omega), if_neg (by unfold CPrestores2 at *; omega)]
      · rw [if_neg c1]
        by_cases c2 : CPrestores2 k i j x
        · rw [if_pos c2]
          have c3 : (j = 11 ∧ x = 2 * (40 * k + i) + 1) ∨ (j = 11 ∧ x = 2 * (40 * k + i)) ∨ (j = 10 ∧ x = 40 * k + i) ∨ (j = 9 ∧ x = 40 * k + i) := by unfold CPrestores2 at *; omega
          rcases c3 with ⟨rfl, rfl⟩ | ⟨rfl, rfl⟩ | ⟨rfl, rfl⟩ | ⟨rfl, rfl⟩ <;> simp
        · rw [if_neg c2]
          rw [if_neg (by unfold CPrestores2 at *; omega), if_neg (by unfold CPrestores2 at *; omega), if_neg (by unfold CPrestores2 at *; omega), if_neg (by unfold CPrestores2 at *; omega)]
    · refine ⟨m, by rw [if_pos (nI_le (by omega) (by omega))], fun j => rfl, fun j x => ?_⟩
      rw [if_neg (by unfold CPrestores2; omega)]
theorem m_restoresL1 {k : Nat} (hk : k < 3) : ∀ (n i : Nat) (m : MS), i ≤ 2 → 2 < n + i → ∃ m', x_X7_restores_L1 (nI k) n (nI i) m = some m' ∧ (∀ j, gs m' j = gs m j) ∧ ∀ j x, ga m' j x = if CPrestores1 k i j x then ga m (j + 6) x else ga m j x := by
  intro n
  induction n with
  | zero => intro i m h1 h2; omega
  | succ n ih =>
    intro i m h1 h2
    rw [x_X7_restores_L1, show (2 : Int32) = nI 2 from rfl, pk_mul, nI_add]
    by_cases hi : i < 2
    · have hr : vR (nI (2 * k + i)) 6 := nI_in (by omega) (by omega)
      rw [if_neg (nI_ge (by omega) (by omega)), if_pos hr, if_pos hr, bs_eq, nI_1, nI_clamp (show 2 * k + i < 2 ^ 31 by omega)]
      obtain ⟨m', e, g, a⟩ := ih (i + 1) _ (by omega) (by omega)
      refine ⟨m', e, fun j => (g j).trans rfl, fun j x => ?_⟩
      rw [a]
      simp only [ga_sa2]
      by_cases c1 : CPrestores1 k (i + 1) j x
      · have c2 : CPrestores1 k i j x := by unfold CPrestores1 at *; omega
        rw [if_pos c1, if_pos c2, if_neg (by unfold CPrestores1 at *; omega)]
      · rw [if_neg c1]
        by_cases c2 : CPrestores1 k i j x
        · have c3 : j = 7 ∧ x = 2 * k + i := by unfold CPrestores1 at *; omega
          obtain ⟨rfl, rfl⟩ := c3
          rw [if_pos c2]
          simp
        · rw [if_neg c2, if_neg (by unfold CPrestores1 at *; omega)]
    · refine ⟨m, by rw [if_pos (nI_le (by omega) (by omega))], fun j => rfl, fun j x => ?_⟩
      rw [if_neg (by unfold CPrestores1; omega)]
theorem m_restores {k : Nat} (hk : k < 3) (m : MS) (hb : isB (ga m 12 k)) : ∃ m', x_X7_restores (nI k) m = some m' ∧ (∀ j, gs m' j = gs m j) ∧ ∀ j x, ga m' j x = if CPrestores k j x then ga m (j + 6) x else ga m j x := by
  unfold x_X7_restores
  have hr : vR (nI k) 3 := nI_in hk (by omega)
  simp only [if_pos hr, bs_eq, nI_clamp (show k < 2 ^ 31 by omega), if_pos hb]
  obtain ⟨m1, e1, g1, a1⟩ := m_restoresL1 hk FU 0 (sa (sa m 6 k (ga m 12 k)) 8 k (ga m 14 k)) (by omega) (by show 2 < 1000 + 0; omega)
  obtain ⟨m2, e2, g2, a2⟩ := m_restoresL2 hk FU 0 m1 (by omega) (by show 40 < 1000 + 0; omega)
  rw [show nI 0 = 0 from nI_0] at e1
  rw [Nat.add_zero, show nI (40 * k) = 40 * nI k from (pk_mul 40 k).symm] at e2
  have e1' : x_X7_restores_L1 (nI k) FU 0 (sa (sa m 6 k (ga m 12 k)) 8 k (ga (sa m 6 k (ga m 12 k)) 14 k)) = some m1 := e1
  refine ⟨m2, by rw [e1', bd_some, e2, bd_some], fun j => (g2 j).trans ((g1 j).trans rfl), fun j x => ?_⟩
  rw [a2]
  simp only [a1, ga_sa2]
  by_cases c : CPrestores k j x
  · rw [if_pos c]
    rcases c with ⟨c1 | c1, c2⟩ | ⟨c1, c2⟩ | ⟨c1 | c1, c2, c3⟩ | ⟨c1, c2, c3⟩
    · subst c1; subst c2; simp
    · subst c1; subst c2; simp
    · subst c1; rw [if_neg (by unfold CPrestores2; omega), if_pos (by unfold CPrestores1; omega)]; simp
    · subst c1; rw [if_pos (by unfold CPrestores2; omega)]; simp
    · subst c1; rw [if_pos (by unfold CPrestores2; omega)]; simp
    · subst c1; rw [if_pos (by unfold CPrestores2; omega)]; simp
  · rw [if_neg c]
    rw [if_neg (by unfold CPrestores at c; unfold CPrestores2; omega), if_neg (by unfold CPrestores at c; unfold CPrestores1; omega), if_neg (by unfold CPrestores at c; omega), if_neg (by unfold CPrestores at c; omega)]
