/-! ===== rows: what is counted, what is found ===== -/
theorem kP_lo {n : Nat} (h : n < 2000000) : kP (nI n) ↔ n % 1000000 < 1000 := by
  have hk : kN n ↔ n % 1000000 < 1000 := by
    unfold kN
    constructor
    · rintro ⟨h1, h2 | h2 | h2⟩
      · omega
      · omega
      · omega
    · intro h1
      exact ⟨by omega, Or.inr (Or.inl ⟨by omega, by omega⟩)⟩
  rw [kP_iff, ← hk]
  constructor
  · rintro ⟨q, e, hq⟩
    have : n = q := (nI_eq (by omega) (by have := hq.1; omega)).mp e
    rw [this]; exact hq
  · exact fun q => ⟨n, rfl, q⟩
theorem kP_0 : kP 0 := (kP_lo (n := 0) (by omega)).mpr (by omega)
theorem kP_M : kP 3999999 := (kP_iff 3999999).mpr ⟨3999999, rfl, by unfold kN; omega⟩
theorem rk_0 : rk 0 = nI 0 := by
  have := rk_nI (n := 0) (by omega)
  rw [nI_0] at this
  rw [this]
  decide
theorem rk_M : rk 3999999 = nI 3999999 := by
  have := rk_nI (n := 3999999) (by omega)
  rw [show (3999999 : Int32) = nI 3999999 from rfl, this]
  decide
theorem btw_all {r : RW} (h : kP r.1) : btwR 0 3999999 r := by
  obtain ⟨q, h1, h2⟩ := rk_of h
  unfold btwR
  rw [rk_0, rk_M, h2]
  exact ⟨nI_le (by omega) (by omega), nI_le (by omega) (by omega)⟩
theorem btw_no {r : RW} (h : kP r.1) : ¬ btwR 3999999 0 r := by
  obtain ⟨q, h1, h2⟩ := rk_of h
  unfold btwR
  rw [rk_0, rk_M, h2]
  rintro ⟨z1, z2⟩
  have y1 := (nI_leI (by omega) (by omega)).mp z1
  have y2 := (nI_leI (by omega) (by omega)).mp z2
  omega
theorem btw_eq {r : RW} {k : Int32} (h : kP r.1) (hk : kP k) : btwR k k r ↔ r.1 = k := by
  unfold btwR
  constructor
  · rintro ⟨z1, z2⟩
    exact rk_inj h hk (Int32.le_antisymm z2 z1)
  · intro e
    rw [e]
    exact ⟨Int32.le_refl _, Int32.le_refl _⟩
theorem cnt_all {xs : List RW} (h : ∀ r ∈ xs, kP r.1) : xs.countP (fun r => decide (btwR 0 3999999 r)) = xs.length := by
  rw [List.countP_eq_length]
  exact fun r hr => decide_eq_true (btw_all (h r hr))
theorem cnt_no {xs : List RW} (h : ∀ r ∈ xs, kP r.1) : xs.countP (fun r => decide (btwR 3999999 0 r)) = 0 := by
  rw [List.countP_eq_zero]
  exact fun r hr q => btw_no (h r hr) (of_decide_eq_true q)
theorem cnt_split {k : Int32} (hk : kP k) : ∀ (xs : List RW), (∀ r ∈ xs, kP r.1) → xs.countP (fun r => decide (btwR 0 k r)) + xs.countP (fun r => decide (btwR k 3999999 r)) = xs.length + xs.countP (fun r => decide (btwR k k r)) := by
  intro xs
  induction xs with
  | nil => intro _; rfl
  | cons x xs ih =>
    intro h
    have hx := h x List.mem_cons_self
    have h2 := ih (fun r hr => h r (List.mem_cons_of_mem _ hr))
    rw [List.countP_cons, List.countP_cons, List.countP_cons, List.length_cons]
    obtain ⟨q, q1, q2⟩ := rk_of hx
    obtain ⟨p, p1, p2⟩ := rk_of hk
    have e1 : btwR 0 k x ↔ q ≤ p := by
      unfold btwR
      rw [rk_0, q2, p2]
      exact ⟨fun z => (nI_leI (by omega) (by omega)).mp z.2, fun z => ⟨nI_le (by omega) (by omega), nI_le z (by omega)⟩⟩
    have e2 : btwR k 3999999 x ↔ p ≤ q := by
      unfold btwR
      rw [rk_M, q2, p2]
      exact ⟨fun z => (nI_leI (by omega) (by omega)).mp z.1, fun z => ⟨nI_le z (by omega), nI_le (by omega) (by omega)⟩⟩
    have e3 : btwR k k x ↔ p = q := by
      unfold btwR
      rw [q2, p2]
      exact ⟨fun z => by have a1 := (nI_leI (by omega) (by omega)).mp z.1; have a2 := (nI_leI (by omega) (by omega)).mp z.2; omega, fun z => ⟨nI_le (by omega) (by omega), nI_le (by omega) (by omega)⟩⟩
    simp only [decide_eq_true_eq, e1, e2, e3]
    by_cases c1 : q ≤ p
    · by_cases c2 : p ≤ q
      · rw [if_pos c1, if_pos c2, if_pos (by omega)]; omega
      · rw [if_pos c1, if_neg c2, if_neg (by omega)]; omega
    · rw [if_neg c1, if_pos (by omega), if_neg (by omega)]; omega
theorem cnt_key {k : Int32} (hk : kP k) : ∀ (xs : List RW), (∀ r ∈ xs, kP r.1) → (xs.map (fun r => r.1)).Nodup → xs.countP (fun r => decide (btwR k k r)) = if findR xs k = none then 0 else 1 := by
  intro xs
  induction xs with
  | nil => intro _ _; rfl
  | cons x xs ih =>
    intro h hn
    rw [List.map_cons, List.nodup_cons] at hn
    have hx := h x List.mem_cons_self
    have h2 := ih (fun r hr => h r (List.mem_cons_of_mem _ hr)) hn.2
    have e3 := btw_eq hx hk
    rw [List.countP_cons, h2]
    unfold findR
    rw [List.find?_cons]
    simp only [decide_eq_true_eq, e3]
    by_cases c : x.1 = k
    · rw [if_pos c, decide_eq_true c]
      have hno : xs.find? (fun y => decide (y.1 = k)) = none := by
        rw [List.find?_eq_none]
        intro y hy
        exact fun q => hn.1 (by rw [c, ← of_decide_eq_true q]; exact List.mem_map.mpr ⟨y, hy, rfl⟩)
      rw [hno, if_pos rfl]
      rfl
    · rw [if_neg c, decide_eq_false c]
      rfl
theorem find_put {r : RW} : ∀ (xs : List RW), findR (putR xs r) r.1 = some r := by
  intro xs
  induction xs with
  | nil => unfold findR putR; rw [List.find?_cons, decide_eq_true rfl]
  | cons x xs ih =>
    rw [putR]
    by_cases c : x.1 = r.1
    · rw [if_pos c]; unfold findR; rw [List.find?_cons, decide_eq_true rfl]
    · rw [if_neg c]; unfold findR at ih ⊢; rw [List.find?_cons, decide_eq_false c]; exact ih
theorem put_len' {r : RW} : ∀ (xs : List RW), (putR xs r).length = xs.length + (if findR xs r.1 = none then 1 else 0) := by
  intro xs
  induction xs with
  | nil => rfl
  | cons x xs ih =>
    rw [putR]
    by_cases c : x.1 = r.1
    · rw [if_pos c]
      have : ¬ findR (x :: xs) r.1 = none := by unfold findR; rw [List.find?_cons, decide_eq_true c]; exact fun q => by cases q
      rw [if_neg this]; rfl
    · rw [if_neg c, List.length_cons, ih, List.length_cons]
      have : findR (x :: xs) r.1 = findR xs r.1 := by unfold findR; rw [List.find?_cons, decide_eq_false c]
      rw [this]; omega
theorem find_mem {xs : List RW} {k : Int32} {r : RW} (h : findR xs k = some r) : r ∈ xs := List.mem_of_find?_eq_some h
theorem cnt_rem (x y : Int32) : ∀ (xs : List RW), (remR xs x y).countP (fun r => decide (btwR x y r)) = 0 := by
  intro xs
  rw [List.countP_eq_zero]
  intro r hr q
  have := (List.mem_filter.mp hr).2
  exact of_decide_eq_true this (of_decide_eq_true q)
theorem len_rem (x y : Int32) : ∀ (xs : List RW), (remR xs x y).length + xs.countP (fun r => decide (btwR x y r)) = xs.length := by
  intro xs
  unfold remR
  induction xs with
  | nil => rfl
  | cons r xs ih =>
    rw [List.filter_cons, List.countP_cons, List.length_cons]
    by_cases c : btwR x y r
    · rw [if_neg (by rw [decide_eq_true_eq]; exact fun q => q c), if_pos (decide_eq_true c)]; omega
    · rw [if_pos (decide_eq_true c), if_neg (fun q => c (of_decide_eq_true q)), List.length_cons]; omega
