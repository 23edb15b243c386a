/-! ===== PURE: the reference's rows ===== -/
abbrev rwD (xs : List RW) (i : Nat) : RW := xs.getD i (0, 0, 0, 0)
theorem rwD_get {xs : List RW} {i : Nat} (h : i < xs.length) : rwD xs i = xs[i] := by unfold rwD; rw [List.getD_eq_getElem?_getD, List.getElem?_eq_getElem h]; rfl
theorem rwD_mem {xs : List RW} {i : Nat} (h : i < xs.length) : rwD xs i ∈ xs := by rw [rwD_get h]; exact List.getElem_mem h
theorem exG {P : RW → Prop} (xs : List RW) : (∃ q ∈ List.range xs.length, P (rwD xs q)) ↔ ∃ x ∈ xs, P x := by
  constructor
  · rintro ⟨q, hq, h⟩
    exact ⟨_, rwD_mem (List.mem_range.mp hq), h⟩
  · rintro ⟨x, hx, h⟩
    obtain ⟨i, hi, e⟩ := List.mem_iff_getElem.mp hx
    exact ⟨i, List.mem_range.mpr hi, by rw [rwD_get hi, e]; exact h⟩
theorem put_at {r : RW} : ∀ (xs : List RW) (i : Nat), i < xs.length → (rwD xs i).1 = r.1 → (∀ j, j < i → ¬ (rwD xs j).1 = r.1) → putR xs r = xs.set i r := by
  intro xs
  induction xs with
  | nil => intro i h; exact absurd h (Nat.not_lt_zero _)
  | cons x xs ih =>
    intro i h h1 h2
    cases i with
    | zero => rw [putR, if_pos (show x.1 = r.1 from h1)]; rfl
    | succ i =>
      have h3 : ¬ x.1 = r.1 := h2 0 (Nat.succ_pos _)
      rw [putR, if_neg h3, List.set_cons_succ, ih i (Nat.lt_of_succ_lt_succ h) h1 (fun j hj => h2 (j + 1) (Nat.succ_lt_succ hj))]
theorem put_no {r : RW} : ∀ (xs : List RW), (∀ j, j < xs.length → ¬ (rwD xs j).1 = r.1) → putR xs r = xs ++ [r] := by
  intro xs
  induction xs with
  | nil => intro _; rfl
  | cons x xs ih =>
    intro h
    have h3 : ¬ x.1 = r.1 := h 0 (Nat.succ_pos _)
    rw [putR, if_neg h3, ih (fun j hj => h (j + 1) (Nat.succ_lt_succ hj)), List.cons_append]
theorem find_at {k : Int32} : ∀ (xs : List RW) (i : Nat), i < xs.length → (rwD xs i).1 = k → (∀ j, j < i → ¬ (rwD xs j).1 = k) → findR xs k = some (rwD xs i) := by
  intro xs
  induction xs with
  | nil => intro i h; exact absurd h (Nat.not_lt_zero _)
  | cons x xs ih =>
    intro i h h1 h2
    unfold findR
    cases i with
    | zero =>
      have h3 : x.1 = k := h1
      rw [List.find?_cons, show decide (x.1 = k) = true from decide_eq_true h3]; rfl
    | succ i =>
      have h3 : ¬ x.1 = k := h2 0 (Nat.succ_pos _)
      rw [List.find?_cons, show decide (x.1 = k) = false from decide_eq_false h3]
      exact ih i (Nat.lt_of_succ_lt_succ h) h1 (fun j hj => h2 (j + 1) (Nat.succ_lt_succ hj))
theorem find_no {k : Int32} : ∀ (xs : List RW), (∀ j, j < xs.length → ¬ (rwD xs j).1 = k) → findR xs k = none := by
  intro xs h
  unfold findR
  rw [List.find?_eq_none]
  intro x hx
  obtain ⟨i, hi, e⟩ := List.mem_iff_getElem.mp hx
  have := h i hi
  rw [rwD_get hi, e] at this
  simpa using this
theorem MVs.at {m : MS} {b k i : Nat} {s : SA} (V : MVs m b k s) (hi : i < s.2.2.2.length) : ga m (b + 3) (40 * k + i) = (rwD s.2.2.2 i).1 ∧ ga m (b + 4) (40 * k + i) = (rwD s.2.2.2 i).2.1 ∧ ga m (b + 5) (2 * (40 * k + i)) = (rwD s.2.2.2 i).2.2.1 ∧ ga m (b + 5) (2 * (40 * k + i) + 1) = (rwD s.2.2.2 i).2.2.2 := by
  have h := V.2.2.2 i hi
  unfold rwD
  rw [← h]
  exact ⟨rfl, rfl, rfl, rfl⟩
theorem n40 (k : Nat) : (40 : Int32) * nI k = nI (40 * k) := pk_mul 40 k
theorem n2 (k : Nat) : (2 : Int32) * nI k = nI (2 * k) := pk_mul 2 k
theorem m_findL {m : MS} {k : Nat} {s : SA} (hk : k < 3) (hl : s.2.2.2.length ≤ 40) (V : MVs m 6 k s) (key : Int32) : ∀ (n i : Nat), s.2.2.2.length < n + i → i ≤ s.2.2.2.length → (∀ j, j < i → ¬ (rwD s.2.2.2 j).1 = key) →
    (∃ j, j < s.2.2.2.length ∧ (rwD s.2.2.2 j).1 = key ∧ (∀ q, q < j → ¬ (rwD s.2.2.2 q).1 = key) ∧ x_X7_find_L1 (nI k) key m n (nI (40 * k + i)) = some (.inr (nI (40 * k + j)))) ∨ ((∀ j, j < s.2.2.2.length → ¬ (rwD s.2.2.2 j).1 = key) ∧ x_X7_find_L1 (nI k) key m n (nI (40 * k + i)) = some (.inl ())) := by
  intro n
  induction n with
  | zero => intro i h1 h2; omega
  | succ n ih =>
    intro i h1 h2 h3
    have hr : vR (nI k) 3 := nI_in hk (by omega)
    rw [x_X7_find_L1]
    simp only [if_pos hr, nI_clamp (show k < 2 ^ 31 by omega), V.2.1, n40, nI_add]
    by_cases hi : i < s.2.2.2.length
    · have hr2 : vR (nI (40 * k + i)) 120 := nI_in (by omega) (by omega)
      rw [if_neg (nI_ge (by omega) (by omega))]
      simp only [if_pos hr2, nI_clamp (show 40 * k + i < 2 ^ 31 by omega)]
      rw [show ga m 9 (40 * k + i) = _ from (V.at hi).1]
      by_cases hK : (rwD s.2.2.2 i).1 = key
      · rw [if_pos hK]; exact Or.inl ⟨i, hi, hK, h3, rfl⟩
      · rw [if_neg hK, nI_1, Nat.add_assoc]
        exact ih (i + 1) (by omega) (by omega) (fun j hj => by
          by_cases e : j = i
          · rw [e]; exact hK
          · exact h3 j (by omega))
    · rw [if_pos (nI_le (by omega) (by omega))]
      exact Or.inr ⟨fun j hj => h3 j (by omega), rfl⟩
theorem m_find {m : MS} {k : Nat} {s : SA} (hk : k < 3) (hl : s.2.2.2.length ≤ 40) (V : MVs m 6 k s) (key : Int32) :
    (∃ j, j < s.2.2.2.length ∧ (rwD s.2.2.2 j).1 = key ∧ (∀ q, q < j → ¬ (rwD s.2.2.2 q).1 = key) ∧ x_X7_find (nI k) key m = some (nI (40 * k + j))) ∨ ((∀ j, j < s.2.2.2.length → ¬ (rwD s.2.2.2 j).1 = key) ∧ x_X7_find (nI k) key m = some (-1)) := by
  unfold x_X7_find
  rw [n40]
  rcases m_findL hk hl V key FU 0 (by show _ < 1000 + 0; omega) (Nat.zero_le _) (fun j hj => absurd hj (Nat.not_lt_zero _)) with ⟨j, h1, h2, h3, h4⟩ | ⟨h1, h2⟩
  · rw [Nat.add_zero] at h4
    exact Or.inl ⟨j, h1, h2, h3, by rw [h4, l0_inr]⟩
  · rw [Nat.add_zero] at h2
    exact Or.inr ⟨h1, by rw [h2, l0_inl]⟩
theorem rN_f {f : Nat} (hf : f < 2) {m : MS} {b k i : Nat} {s : SA} (V : MVs m b k s) (hi : i < s.2.2.2.length) : ga m (b + 5) (2 * (40 * k + i) + f) = rNum (nI f) (rwD s.2.2.2 i) := by
  have h := V.at hi
  unfold rNum
  rcases (show f = 0 ∨ f = 1 by omega) with q | q <;> subst q
  · rw [if_pos (show nI 0 = 0 from rfl)]; exact h.2.2.1
  · rw [if_neg (show ¬ nI 1 = 0 by decide)]; exact h.2.2.2
theorem m_takenL {m : MS} {k f : Nat} {s : SA} (hk : k < 3) (hf : f < 2) (hl : s.2.2.2.length ≤ 40) (V : MVs m 6 k s) (key v : Int32) : ∀ (n i : Nat), s.2.2.2.length < n + i → i ≤ s.2.2.2.length → x_X7_isTaken_L1 (nI k) key (nI f) v m n (nI (40 * k + i)) (if ∃ q ∈ List.range i, ¬ (rwD s.2.2.2 q).1 = key ∧ ¬ v = -1 ∧ rNum (nI f) (rwD s.2.2.2 q) = v then 1 else 0) = some (if ∃ q ∈ List.range s.2.2.2.length, ¬ (rwD s.2.2.2 q).1 = key ∧ ¬ v = -1 ∧ rNum (nI f) (rwD s.2.2.2 q) = v then 1 else 0) := by
  intro n
  induction n with
  | zero => intro i h1 h2; omega
  | succ n ih =>
    intro i h1 h2
    have hr : vR (nI k) 3 := nI_in hk (by omega)
    rw [x_X7_isTaken_L1]
    simp only [if_pos hr, nI_clamp (show k < 2 ^ 31 by omega), V.2.1, n40, nI_add]
    by_cases hi : i < s.2.2.2.length
    · have hr2 : vR (nI (40 * k + i)) 120 := nI_in (by omega) (by omega)
      have hr3 : vR (nI (2 * (40 * k + i) + f)) 240 := nI_in (by omega) (by omega)
      rw [if_neg (nI_ge (by omega) (by omega)), nI_1, Nat.add_assoc, ← ih (i + 1) (by omega) (by omega)]
      simp only [if_pos hr2, n2, nI_add, if_pos hr3, nI_clamp (show 40 * k + i < 2 ^ 31 by omega), nI_clamp (show 2 * (40 * k + i) + f < 2 ^ 31 by omega)]
      rw [show ga m 9 (40 * k + i) = _ from (V.at hi).1, show ga m 11 (2 * (40 * k + i) + f) = _ from rN_f hf V hi]
      have e := exR (P := fun q => ¬ (rwD s.2.2.2 q).1 = key ∧ ¬ v = -1 ∧ rNum (nI f) (rwD s.2.2.2 q) = v) i
      by_cases hQ : ∃ q ∈ List.range i, ¬ (rwD s.2.2.2 q).1 = key ∧ ¬ v = -1 ∧ rNum (nI f) (rwD s.2.2.2 q) = v
      · rw [if_pos hQ, if_pos (e.mpr (Or.inl hQ)), if_neg q10, l0_inl, bd_some]
      · rw [if_neg hQ, if_pos rfl]
        by_cases hK : (rwD s.2.2.2 i).1 = key
        · rw [if_pos hK, l0_inl, l0_inr, bd_some, if_neg (fun q => (e.mp q).elim hQ (fun q => q.1 hK))]
        · by_cases hv : v = -1
          · rw [if_neg hK, if_pos hv, l0_inl, l0_inr, bd_some, if_neg (fun q => (e.mp q).elim hQ (fun q => q.2.1 hv))]
          · by_cases hn : rNum (nI f) (rwD s.2.2.2 i) = v
            · rw [if_neg hK, if_neg hv, if_pos hn, l0_inr, l0_inl, bd_some, if_pos (e.mpr (Or.inr ⟨hK, hv, hn⟩))]
            · rw [if_neg hK, if_neg hv, if_neg hn, l0_inl, l0_inr, bd_some, if_neg (fun q => (e.mp q).elim hQ (fun q => hn q.2.2))]
    · have : i = s.2.2.2.length := by omega
      subst this
      rw [if_pos (nI_le (by omega) (by omega))]
theorem sIx_at {m : MS} {k f : Nat} {s : SA} (hf : f < 2) (V : MVs m 6 k s) (h : ¬ s.1 = 0) : ga m 7 (2 * k + f) = sIx f s := by
  unfold sIx
  rcases (show f = 0 ∨ f = 1 by omega) with q | q <;> subst q
  · exact (V.2.2.1 h).1
  · exact (V.2.2.1 h).2
theorem m_isTaken {m : MS} {k f : Nat} {s : SA} (hk : k < 3) (hf : f < 2) (hl : s.2.2.2.length ≤ 40) (ht : ¬ s.1 = 0) (V : MVs m 6 k s) (key v : Int32) : x_X7_isTaken (nI k) key (nI f) v m = some (if sIx f s = 2 ∧ ¬ v = -1 ∧ ∃ x ∈ s.2.2.2, ¬ x.1 = key ∧ rNum (nI f) x = v then 1 else 0) := by
  unfold x_X7_isTaken
  have h := m_takenL hk hf hl V key v FU 0 (by show _ < 1000 + 0; omega) (Nat.zero_le _)
  rw [if_neg (by simp), Nat.add_zero] at h
  rw [n40, h, bd_some]
  have hr : vR (nI (2 * k + f)) 6 := nI_in (by omega) (by omega)
  simp only [n2, nI_add, if_pos hr, nI_clamp (show 2 * k + f < 2 ^ 31 by omega), sIx_at hf V ht]
  have eg := exG (P := fun x => ¬ x.1 = key ∧ ¬ v = -1 ∧ rNum (nI f) x = v) s.2.2.2
  by_cases hQ : ∃ q ∈ List.range s.2.2.2.length, ¬ (rwD s.2.2.2 q).1 = key ∧ ¬ v = -1 ∧ rNum (nI f) (rwD s.2.2.2 q) = v
  · obtain ⟨x, hx, x1, x2, x3⟩ := eg.mp hQ
    rw [if_pos hQ, if_neg q10]
    by_cases h2 : sIx f s = 2
    · rw [if_pos h2, l0_inr, bd_some, if_pos isB1, if_pos ⟨h2, x2, x, hx, x1, x3⟩]
    · rw [if_neg h2, l0_inl, bd_some, if_pos isB0, if_neg (fun q => h2 q.1)]
  · rw [if_neg hQ, if_pos rfl, l0_inl, bd_some, if_pos isB0, if_neg (fun q => hQ (eg.mpr (by obtain ⟨-, q2, x, hx, x1, x3⟩ := q; exact ⟨x, hx, x1, q2, x3⟩)))]
theorem m_can {m : MS} {i : Nat} {ts : List TX} (hi : i < ts.length) (hn : ts.length ≤ 60) (V : MVx m ts) (s w : Int32) : x_X7_can (nI i) s w m = some (if ((txAt ts i).2.2.2 = 1 ∧ inS (txAt ts i).2.1 s) ∧ (¬ (txAt ts i).2.2.1 = 0 ∨ w = 0) then 1 else 0) := by
  unfold x_X7_can
  have hr : vR (nI i) 60 := nI_in (by omega) (by omega)
  have x := V.2 i hi
  simp only [if_pos hr, nI_clamp (show i < 2 ^ 31 by omega), x]
  by_cases h1 : (txAt ts i).2.2.2 = 1
  · by_cases h2 : inS (txAt ts i).2.1 s
    · by_cases h3 : (txAt ts i).2.2.1 = 0
      · by_cases h4 : w = 0
        · rw [if_pos h1, if_pos h2, if_pos h3, if_pos h4, l0_inl, l0_inr, bd_some, if_pos isB1, if_pos ⟨⟨h1, h2⟩, Or.inr h4⟩]
        · rw [if_pos h1, if_pos h2, if_pos h3, if_neg h4, l0_inr, l0_inl, bd_some, if_pos isB0, if_neg (fun q => q.2.elim (fun z => z h3) h4)]
      · rw [if_pos h1, if_pos h2, if_neg h3, l0_inl, l0_inr, bd_some, if_pos isB1, if_pos ⟨⟨h1, h2⟩, Or.inl h3⟩]
    · rw [if_pos h1, if_neg h2, l0_inl, bd_some, if_pos isB0, if_neg (fun q => h2 q.1.2)]
  · rw [if_neg h1, l0_inl, bd_some, if_pos isB0, if_neg (fun q => h1 q.1.1)]
theorem m_misses {m : MS} {D : Nat} {a : AS} (V : MV m D a) (I : IV a) (t s lo hi w : Int32) : x_X7_misses t s lo hi w m = some (if oX a t then 1 else if noS a s then 1 else if ¬ kP lo then 2 else if ¬ kP hi then 2 else if reA a t s ∧ (¬ (txA a t).2.2.1 = 0 ∨ w = 0) then 0 else 3) := by
  have hn : lenT a ≤ 60 := I.2.2.1.1.1
  unfold x_X7_misses
  rw [m_isTransaction V.2.2.1.1.1 hn, m_isStore V.2.2.1.2.1, m_isKey, m_isKey, bd_some]
  by_cases h : oX a t
  · simp only [if_pos h, bd_some, l0_inl, l0_inr, l1_inl, l1_inr, b2_some, bs_eq, if_neg q10, if_pos q00, if_neg q20, if_neg q30, if_pos q11, if_neg q01, if_pos isB0, if_pos isB1, if_true, if_false]
  · obtain ⟨i, hi9, rfl, ei⟩ := oT_at h (show lenT a < 2 ^ 31 by omega)
    rw [m_can hi9 hn V.2.2.1.1]
    by_cases h2 : noS a s
    · simp only [if_neg h, if_pos h2, bd_some, l0_inl, l0_inr, l1_inl, l1_inr, b2_some, bs_eq, if_neg q10, if_pos q00, if_neg q20, if_neg q30, if_pos q11, if_neg q01, if_pos isB0, if_pos isB1, if_true, if_false]
    · by_cases h3 : kP lo
      · by_cases h4 : kP hi
        · unfold reA txA
          rw [ei]
          by_cases h5 : ((txAt a.2.2.1.1 i).2.2.2 = 1 ∧ inS (txAt a.2.2.1.1 i).2.1 s) ∧ (¬ (txAt a.2.2.1.1 i).2.2.1 = 0 ∨ w = 0)
          · simp only [if_neg h, if_neg h2, if_pos h3, if_pos h4, if_pos h5, if_neg (show ¬ ¬ kP lo from fun q => q h3), if_neg (show ¬ ¬ kP hi from fun q => q h4), bd_some, l0_inl, l0_inr, l1_inl, l1_inr, b2_some, bs_eq, if_neg q10, if_pos q00, if_neg q20, if_neg q30, if_pos q11, if_neg q01, if_pos isB0, if_pos isB1, if_true, if_false]
          · simp only [if_neg h, if_neg h2, if_pos h3, if_pos h4, if_neg h5, if_neg (show ¬ ¬ kP lo from fun q => q h3), if_neg (show ¬ ¬ kP hi from fun q => q h4), bd_some, l0_inl, l0_inr, l1_inl, l1_inr, b2_some, bs_eq, if_neg q10, if_pos q00, if_neg q20, if_neg q30, if_pos q11, if_neg q01, if_pos isB0, if_pos isB1, if_true, if_false]
        · simp only [if_neg h, if_neg h2, if_pos h3, if_neg h4, if_pos h4, if_neg (show ¬ ¬ kP lo from fun q => q h3), bd_some, l0_inl, l0_inr, l1_inl, l1_inr, b2_some, bs_eq, if_neg q10, if_pos q00, if_neg q20, if_neg q30, if_pos q11, if_neg q01, if_pos isB0, if_pos isB1, if_true, if_false]
      · simp only [if_neg h, if_neg h2, if_neg h3, if_pos h3, bd_some, l0_inl, l0_inr, l1_inl, l1_inr, b2_some, bs_eq, if_neg q10, if_pos q00, if_neg q20, if_neg q30, if_pos q11, if_neg q01, if_pos isB0, if_pos isB1, if_true, if_false]
theorem m_missR {m : MS} {D : Nat} {a : AS} (V : MV m D a) (I : IV a) (t s lo hi : Int32) : x_X7_misses t s lo hi 0 m = some (if oX a t then 1 else if noS a s then 1 else if ¬ kP lo then 2 else if ¬ kP hi then 2 else if reA a t s then 0 else 3) := by
  rw [m_misses V I]
  by_cases h5 : reA a t s
  · rw [if_pos h5, if_pos (show reA a t s ∧ (¬ (txA a t).2.2.1 = 0 ∨ (0 : Int32) = 0) from ⟨h5, Or.inr rfl⟩)]
  · rw [if_neg h5, if_neg (show ¬ (reA a t s ∧ (¬ (txA a t).2.2.1 = 0 ∨ (0 : Int32) = 0)) from fun q => h5 q.1)]
theorem m_missW {m : MS} {D : Nat} {a : AS} (V : MV m D a) (I : IV a) (t s lo hi : Int32) : x_X7_misses t s lo hi 1 m = some (if oX a t then 1 else if noS a s then 1 else if ¬ kP lo then 2 else if ¬ kP hi then 2 else if wrA a t s then 0 else 3) := by
  rw [m_misses V I]
  by_cases h5 : wrA a t s
  · rw [if_pos h5, if_pos (show reA a t s ∧ (¬ (txA a t).2.2.1 = 0 ∨ (1 : Int32) = 0) from ⟨h5.1, Or.inl h5.2⟩)]
  · rw [if_neg h5, if_neg (show ¬ (reA a t s ∧ (¬ (txA a t).2.2.1 = 0 ∨ (1 : Int32) = 0)) from fun q => h5 ⟨q.1, q.2.elim id (fun z => absurd z q10)⟩)]
theorem SOK.of {a : AS} (I : IV a) {k : Nat} (hk : k < 3) : SOK (a.2.2.1.2 k) := I.2.2.1.2 k (by omega)
theorem r_get {m : MS} {D : Nat} {a : AS} (V : MV m D a) (I : IV a) (t s k : Int32) : RO (x_X7_get t s k m) c3 D (getA t s k a) := by
  unfold x_X7_get getA
  rw [m_missR V I, bd_some]
  by_cases h : oX a t
  · simp only [if_pos h, bd_some, l0_inl, l0_inr, l1_inl, l1_inr, b2_some, bs_eq, if_neg q10, if_pos q00, if_neg q20, if_neg q30, if_pos q11, if_neg q01, if_pos isB0, if_pos isB1, if_true, if_false, f1]; exact RO.f V (by decide) rfl
  · by_cases h2 : noS a s
    · simp only [if_neg h, if_pos h2, bd_some, l0_inl, l0_inr, l1_inl, l1_inr, b2_some, bs_eq, if_neg q10, if_pos q00, if_neg q20, if_neg q30, if_pos q11, if_neg q01, if_pos isB0, if_pos isB1, if_true, if_false, f1]; exact RO.f V (by decide) rfl
    · by_cases h3 : kP k
      · by_cases h5 : reA a t s
        · simp only [if_neg h, if_neg h2, if_neg (show ¬ ¬ kP k from fun q => q h3), if_pos h5, if_neg (show ¬ ¬ reA a t s from fun q => q h5), f0, bd_some, l0_inl, l0_inr, l1_inl, l1_inr, b2_some, bs_eq, if_neg q10, if_pos q00, if_neg q20, if_neg q30, if_pos q11, if_neg q01, if_pos isB0, if_pos isB1, if_true, if_false]
          obtain ⟨j, hj, rfl, ej⟩ := oT_at (fun q => h2 (Or.inl q)) (by omega)
          have V1 := (V.t 0).2.2.1.2.1 j hj
          have hl := (SOK.of I hj).2.2.1
          rcases m_find hj hl V1 k with ⟨i, i1, i2, i3, e⟩ | ⟨i1, e⟩
          · rw [e, bd_some, if_neg (nI_m1 (by omega))]
            have hr : vR (nI (40 * j + i)) 120 := nI_in (by omega) (by omega)
            simp only [if_pos hr, nI_clamp (show 40 * j + i < 2 ^ 31 by omega), bd_some]
            unfold stA
            rw [ej, find_at _ i i1 i2 i3, show ga (ss m 31 0) 10 (40 * j + i) = _ from (V1.at i1).2.1]
            exact RO.s V rfl
          · rw [e, bd_some, if_pos rfl, bd_some]
            unfold stA
            rw [ej, find_no _ i1]
            exact RO.s V rfl
        · simp only [if_neg h, if_neg h2, if_neg (show ¬ ¬ kP k from fun q => q h3), if_neg h5, if_pos h5, f3, bd_some, l0_inl, l0_inr, l1_inl, l1_inr, b2_some, bs_eq, if_neg q10, if_pos q00, if_neg q20, if_neg q30, if_pos q11, if_neg q01, if_pos isB0, if_pos isB1, if_true, if_false]
          exact RO.f V (by decide) rfl
      · simp only [if_neg h, if_neg h2, if_pos h3, f2, bd_some, l0_inl, l0_inr, l1_inl, l1_inr, b2_some, bs_eq, if_neg q10, if_pos q00, if_neg q20, if_neg q30, if_pos q11, if_neg q01, if_pos isB0, if_pos isB1, if_true, if_false]; exact RO.f V (by decide) rfl
theorem m_countL {m : MS} {k : Nat} {s : SA} (hk : k < 3) (hS : SOK s) (V : MVs m 6 k s) {x y : Int32} (hx : kP x) (hy : kP y) : ∀ (n i c : Nat), s.2.2.2.length < n + i → i ≤ s.2.2.2.length → x_X7_count_L1 (nI k) x y m n (nI (40 * k + i)) (nI c) = some (nI (c + (s.2.2.2.drop i).countP (fun r => decide (btwR x y r)))) := by
  have hl := hS.2.2.1
  intro n
  induction n with
  | zero => intro i c h1 h2; omega
  | succ n ih =>
    intro i c h1 h2
    have hr : vR (nI k) 3 := nI_in hk (by omega)
    rw [x_X7_count_L1]
    simp only [if_pos hr, nI_clamp (show k < 2 ^ 31 by omega), V.2.1, n40, nI_add]
    by_cases hi : i < s.2.2.2.length
    · have hr2 : vR (nI (40 * k + i)) 120 := nI_in (by omega) (by omega)
      rw [if_neg (nI_ge (by omega) (by omega))]
      simp only [if_pos hr2, nI_clamp (show 40 * k + i < 2 ^ 31 by omega)]
      rw [show ga m 9 (40 * k + i) = _ from (V.at hi).1, m_isBetween (hS.2.2.2.2 _ (rwD_mem hi)).1 hx hy, bd_some, List.drop_eq_getElem_cons hi, List.countP_cons, rwD_get hi, nI_1, Nat.add_assoc]
      by_cases hb : btwR x y s.2.2.2[i]
      · rw [if_pos hb, if_neg q10, bd_some, nI_1, ih (i + 1) (c + 1) (by omega) (by omega), if_pos (decide_eq_true hb)]
        congr 2
        omega
      · rw [if_neg hb, if_pos rfl, bd_some, show nI c + 0 = nI c from by rw [show (0 : Int32) = nI 0 from rfl, nI_add, Nat.add_zero], ih (i + 1) c (by omega) (by omega), if_neg (fun q => hb (of_decide_eq_true q))]
        rfl
    · rw [if_pos (nI_le (by omega) (by omega)), List.drop_eq_nil_of_le (by omega)]
      rfl
theorem r_count {m : MS} {D : Nat} {a : AS} (V : MV m D a) (I : IV a) (t s x y : Int32) : RO (x_X7_count t s x y m) c3 D (cntA t s x y a) := by
  unfold x_X7_count cntA
  rw [m_missR V I, bd_some]
  by_cases h : oX a t
  · simp only [if_pos h, bd_some, l0_inl, l0_inr, l1_inl, l1_inr, b2_some, bs_eq, if_neg q10, if_pos q00, if_neg q20, if_neg q30, if_pos q11, if_neg q01, if_pos isB0, if_pos isB1, if_true, if_false, f1]; exact RO.f V (by decide) rfl
  · by_cases h2 : noS a s
    · simp only [if_neg h, if_pos h2, bd_some, l0_inl, l0_inr, l1_inl, l1_inr, b2_some, bs_eq, if_neg q10, if_pos q00, if_neg q20, if_neg q30, if_pos q11, if_neg q01, if_pos isB0, if_pos isB1, if_true, if_false, f1]; exact RO.f V (by decide) rfl
    · by_cases h3 : kP x
      · by_cases h4 : kP y
        · by_cases h5 : reA a t s
          · simp only [if_neg h, if_neg h2, if_neg (show ¬ ¬ kP x from fun q => q h3), if_neg (show ¬ ¬ kP y from fun q => q h4), if_pos h5, if_neg (show ¬ ¬ reA a t s from fun q => q h5), f0, bd_some, l0_inl, l0_inr, l1_inl, l1_inr, b2_some, bs_eq, if_neg q10, if_pos q00, if_neg q20, if_neg q30, if_pos q11, if_neg q01, if_pos isB0, if_pos isB1, if_true, if_false]
            obtain ⟨j, hj, rfl, ej⟩ := oT_at (fun q => h2 (Or.inl q)) (by omega)
            have V1 := (V.t 0).2.2.1.2.1 j hj
            have e := m_countL hj (SOK.of I hj) V1 h3 h4 FU 0 0 (by have := (SOK.of I hj).2.2.1; show _ < 1000 + 0; omega) (Nat.zero_le _)
            rw [Nat.add_zero, nI_0, Nat.zero_add, List.drop_zero] at e
            unfold stA
            rw [n40, e, bd_some, ej]
            exact RO.s V rfl
          · simp only [if_neg h, if_neg h2, if_neg (show ¬ ¬ kP x from fun q => q h3), if_neg (show ¬ ¬ kP y from fun q => q h4), if_neg h5, if_pos h5, f3, bd_some, l0_inl, l0_inr, l1_inl, l1_inr, b2_some, bs_eq, if_neg q10, if_pos q00, if_neg q20, if_neg q30, if_pos q11, if_neg q01, if_pos isB0, if_pos isB1, if_true, if_false]
            exact RO.f V (by decide) rfl
        · simp only [if_neg h, if_neg h2, if_neg (show ¬ ¬ kP x from fun q => q h3), if_pos h4, f2, bd_some, l0_inl, l0_inr, l1_inl, l1_inr, b2_some, bs_eq, if_neg q10, if_pos q00, if_neg q20, if_neg q30, if_pos q11, if_neg q01, if_pos isB0, if_pos isB1, if_true, if_false]; exact RO.f V (by decide) rfl
      · simp only [if_neg h, if_neg h2, if_pos h3, f2, bd_some, l0_inl, l0_inr, l1_inl, l1_inr, b2_some, bs_eq, if_neg q10, if_pos q00, if_neg q20, if_neg q30, if_pos q11, if_neg q01, if_pos isB0, if_pos isB1, if_true, if_false]; exact RO.f V (by decide) rfl
