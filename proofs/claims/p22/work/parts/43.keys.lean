/-! ===== PURE: keys and ranks, the same in class and reference ===== -/
def kN (n : Nat) : Prop := n < 4000000 ∧ (n / 1000000 = 3 ∨ (n / 1000000 < 2 ∧ n % 1000000 ≤ 999) ∨ (n / 1000000 = 2 ∧ (1 ≤ n % 1000000 % 100 ∧ n % 1000000 % 100 ≤ 26) ∧ ((1 ≤ n % 1000000 / 100 % 100 ∧ n % 1000000 / 100 % 100 ≤ 26) ∨ n % 1000000 / 100 = 0) ∧ ((1 ≤ n % 1000000 / 10000 ∧ n % 1000000 / 10000 ≤ 26) ∨ n % 1000000 / 10000 = 0)))
def rkN (n : Nat) : Nat := if n / 1000000 = 2 then 2000000 + (if n % 1000000 < 100 then n % 1000000 * 10000 else if n % 1000000 < 10000 then n % 1000000 * 100 else n % 1000000) else n
theorem kx_rem {n d : Nat} {D : Int32} (hD : D = nI d) (hn : n < 2 ^ 31) (h0 : 0 < d) (hd : d < 2 ^ 31) : nI n - nI n / D * D = nI (n % d) := by rw [hD]; exact pk_rem hn h0 hd
theorem kx_div {n d : Nat} {D : Int32} (hD : D = nI d) (hn : n < 2 ^ 31) (h0 : 0 < d) (hd : d < 2 ^ 31) : nI n / D = nI (n / d) := by rw [hD]; exact pk_div hn h0 hd
theorem kx_eq {n d : Nat} {D : Int32} (hD : D = nI d) (hn : n < 2 ^ 31) (hd : d < 2 ^ 31) : nI n = D ↔ n = d := by rw [hD]; exact nI_eq hn hd
theorem kx_lt {n d : Nat} {D : Int32} (hD : D = nI d) (hn : n < 2 ^ 31) (hd : d < 2 ^ 31) : nI n < D ↔ n < d := by rw [hD]; exact nI_ltI hn hd
theorem kx_le {n d : Nat} {D : Int32} (hD : D = nI d) (hn : n < 2 ^ 31) (hd : d < 2 ^ 31) : nI n ≤ D ↔ n ≤ d := by rw [hD]; exact nI_leI hn hd
theorem kx_gt {n d : Nat} {D : Int32} (hD : D = nI d) (hn : n < 2 ^ 31) (hd : d < 2 ^ 31) : D < nI n ↔ d < n := by rw [hD]; exact nI_ltI hd hn
theorem kx_ge {n d : Nat} {D : Int32} (hD : D = nI d) (hn : n < 2 ^ 31) (hd : d < 2 ^ 31) : D ≤ nI n ↔ d ≤ n := by rw [hD]; exact nI_leI hd hn
theorem kx_letter {n : Nat} (hn : n < 2 ^ 31) : x_X1_isLetter (nI n) = some (if 1 ≤ n ∧ n ≤ 26 then 1 else 0) := by
  unfold x_X1_isLetter
  have e1 := kx_lt (n := n) (d := 1) (D := 1) rfl hn (by omega)
  have e2 := kx_gt (n := n) (d := 26) (D := 26) rfl hn (by omega)
  by_cases h1 : n < 1
  · rw [if_pos (e1.mpr h1), l0_inl, bd_some, if_pos (by decide), if_neg (by omega)]
  · rw [if_neg (fun q => h1 (e1.mp q))]
    by_cases h2 : 26 < n
    · rw [if_pos (e2.mpr h2), l0_inl, bd_some, if_pos (by decide), if_neg (by omega)]
    · rw [if_neg (fun q => h2 (e2.mp q)), l0_inr, bd_some, if_pos (by decide), if_pos (by omega)]
theorem kx_text {n : Nat} (hn : n < 1000000) : x_X1_isText (nI n) = some (if (1 ≤ n % 100 ∧ n % 100 ≤ 26) ∧ ((1 ≤ n / 100 % 100 ∧ n / 100 % 100 ≤ 26) ∨ n / 100 = 0) ∧ ((1 ≤ n / 10000 ∧ n / 10000 ≤ 26) ∨ n / 10000 = 0) then 1 else 0) := by
  unfold x_X1_isText
  have hd : nI n / 100 = nI (n / 100) := kx_div rfl (by omega) (by omega) (by omega)
  have hd2 : nI (n / 100) / 100 = nI (n / 100 / 100) := kx_div rfl (by omega) (by omega) (by omega)
  have hr : nI n - nI n / 100 * 100 = nI (n % 100) := kx_rem rfl (by omega) (by omega) (by omega)
  have hr2 : nI (n / 100) - nI (n / 100) / 100 * 100 = nI (n / 100 % 100) := kx_rem rfl (by omega) (by omega) (by omega)
  rw [hr, hd, hr2, hd2]
  have z1 := kx_eq (n := n / 100 % 100) (d := 0) (D := 0) rfl (by omega) (by omega)
  have z2 := kx_eq (n := n / 100 / 100) (d := 0) (D := 0) rfl (by omega) (by omega)
  simp only [z1, z2, kx_letter (show n % 100 < 2 ^ 31 by omega), kx_letter (show n / 100 % 100 < 2 ^ 31 by omega), kx_letter (show n / 100 / 100 < 2 ^ 31 by omega), bd_some]
  have e9 : n / 10000 = n / 100 / 100 := by omega
  rw [e9]
  by_cases a1 : n / 100 % 100 = 0 <;> by_cases a2 : n / 100 / 100 = 0 <;> by_cases a3 : 1 ≤ n % 100 ∧ n % 100 ≤ 26 <;> by_cases a4 : 1 ≤ n / 100 % 100 ∧ n / 100 % 100 ≤ 26 <;> by_cases a5 : 1 ≤ n / 100 / 100 ∧ n / 100 / 100 ≤ 26 <;>
    first
    | (exfalso; omega)
    | (have a6 : n / 100 = 0 ∨ ¬ n / 100 = 0 := by omega
       rcases a6 with a6 | a6 <;> first | (exfalso; omega) | simp [a1, a2, a3, a4, a5, a6, l0_inl, l0_inr, bd_some])
theorem kx_isKey {n : Nat} (hn : n < 2 ^ 31) [Decidable (kN n)] : x_X1_isKey (nI n) = some (if kN n then 1 else 0) := by
  unfold x_X1_isKey
  rw [if_neg (nI_pos hn)]
  have e1 := kx_lt (n := n) (d := 4000000) (D := 4000000) rfl hn (by omega)
  by_cases h : n < 4000000
  · rw [if_pos (e1.mpr h)]
    have hd : nI n / 1000000 = nI (n / 1000000) := kx_div rfl (by omega) (by omega) (by omega)
    have hr : nI n - nI n / 1000000 * 1000000 = nI (n % 1000000) := kx_rem rfl (by omega) (by omega) (by omega)
    rw [hr, hd]
    have z2 := kx_eq (n := n / 1000000) (d := 2) (D := 2) rfl (by omega) (by omega)
    have z3 := kx_eq (n := n / 1000000) (d := 3) (D := 3) rfl (by omega) (by omega)
    have z4 := kx_gt (n := n % 1000000) (d := 999) (D := 999) rfl (by omega) (by omega)
    simp only [z2, z3, z4, kx_text (show n % 1000000 < 1000000 by omega), bd_some]
    by_cases h2 : n / 1000000 = 2
    · have e10 : n % 1000000 / 10000 = n % 1000000 / 10000 := rfl
      have hk : kN n ↔ ((1 ≤ n % 1000000 % 100 ∧ n % 1000000 % 100 ≤ 26) ∧ ((1 ≤ n % 1000000 / 100 % 100 ∧ n % 1000000 / 100 % 100 ≤ 26) ∨ n % 1000000 / 100 = 0) ∧ ((1 ≤ n % 1000000 / 10000 ∧ n % 1000000 / 10000 ≤ 26) ∨ n % 1000000 / 10000 = 0)) := by
        unfold kN
        constructor
        · rintro ⟨-, q | q | q⟩
          · omega
          · omega
          · exact q.2
        · intro q
          exact ⟨h, Or.inr (Or.inr ⟨h2, q⟩)⟩
      by_cases h5 : ((1 ≤ n % 1000000 % 100 ∧ n % 1000000 % 100 ≤ 26) ∧ ((1 ≤ n % 1000000 / 100 % 100 ∧ n % 1000000 / 100 % 100 ≤ 26) ∨ n % 1000000 / 100 = 0) ∧ ((1 ≤ n % 1000000 / 10000 ∧ n % 1000000 / 10000 ≤ 26) ∨ n % 1000000 / 10000 = 0))
      · rw [if_pos h2, if_pos h5, if_pos (hk.mpr h5)]; rfl
      · rw [if_pos h2, if_neg h5, if_neg (fun q => h5 (hk.mp q))]; rfl
    · by_cases h3 : n / 1000000 = 3
      · have hk : kN n := ⟨h, Or.inl h3⟩
        simp [h2, h3, hk, l0_inl, l0_inr, bd_some]
        rfl
      · by_cases h4 : 999 < n % 1000000
        · have hk : ¬ kN n := by unfold kN; omega
          simp [h2, h3, h4, hk, l0_inl, l0_inr, bd_some]
          rfl
        · have hk : kN n := by unfold kN; omega
          simp [h2, h3, h4, hk, l0_inl, l0_inr, bd_some]
          rfl
  · rw [if_neg (fun q => h (e1.mp q)), l0_inl, if_pos (by decide), if_neg (fun q => h q.1)]
theorem kx_isKeyN {v : Int32} (h : v < 0) : x_X1_isKey v = some 0 := by
  unfold x_X1_isKey
  rw [if_pos h, l0_inl, if_pos (by decide)]
theorem kP_iff (v : Int32) : kP v ↔ ∃ n, v = nI n ∧ kN n := by
  classical
  constructor
  · intro h
    by_cases h0 : v < 0
    · have := kx_isKeyN h0; unfold kP at h; rw [this] at h; cases h
    · obtain ⟨n, hn, rfl⟩ := nI_of h0
      refine ⟨n, rfl, ?_⟩
      unfold kP at h
      rw [kx_isKey hn] at h
      by_cases hk : kN n
      · exact hk
      · rw [if_neg hk] at h; cases h
  · rintro ⟨n, rfl, hk⟩
    unfold kP
    rw [kx_isKey (by have := hk.1; omega), if_pos hk]
/-- the class's test of a key -/
theorem kx_key (v : Int32) : x_X1_isKey v = some (if kP v then 1 else 0) := by
  classical
  by_cases h0 : v < 0
  · have h := kx_isKeyN h0
    have hk : ¬ kP v := fun q => by unfold kP at q; rw [h] at q; cases q
    rw [if_neg hk]; exact h
  · obtain ⟨n, hn, rfl⟩ := nI_of h0
    have h := kx_isKey hn
    by_cases hk : kN n
    · rw [if_pos hk] at h
      rw [if_pos (show kP (nI n) from h)]; exact h
    · rw [if_neg hk] at h
      rw [if_neg (show ¬ kP (nI n) from fun q => by unfold kP at q; rw [h] at q; cases q)]; exact h
theorem rk_nI {n : Nat} (hn : n < 4000000) : rk (nI n) = nI (rkN n) := by
  have h : x_X1_rank (nI n) = some (nI (rkN n)) := by
    unfold x_X1_rank rkN
    have hd : nI n / 1000000 = nI (n / 1000000) := kx_div rfl (by omega) (by omega) (by omega)
    have hr : nI n - nI n / 1000000 * 1000000 = nI (n % 1000000) := kx_rem rfl (by omega) (by omega) (by omega)
    rw [hr, hd]
    have z2 := kx_eq (n := n / 1000000) (d := 2) (D := 2) rfl (by omega) (by omega)
    have z3 := kx_ge (n := n % 1000000) (d := 100) (D := 100) rfl (by omega) (by omega)
    have m1 : ∀ y : Nat, nI y * 100 = nI (y * 100) := fun y => pk_mul y 100
    have m2 : ∀ y : Nat, (2000000 : Int32) + nI y = nI (2000000 + y) := fun y => nI_add 2000000 y
    by_cases h2 : n / 1000000 = 2
    · rw [if_pos (z2.mpr h2), if_pos h2]
      by_cases h3 : 100 ≤ n % 1000000
      · rw [if_pos (z3.mpr h3), bd_some]
        have z4 := kx_ge (n := n % 1000000) (d := 10000) (D := 10000) rfl (by omega) (by omega)
        by_cases h4 : 10000 ≤ n % 1000000
        · rw [if_pos (z4.mpr h4), bd_some, m2, if_neg (by omega), if_neg (by omega)]
        · rw [if_neg (fun q => h4 (z4.mp q)), bd_some, m1, m2, if_neg (by omega), if_pos (by omega)]
      · rw [if_neg (fun q => h3 (z3.mp q)), bd_some, m1]
        have z4 := kx_ge (n := n % 1000000 * 100) (d := 10000) (D := 10000) rfl (by omega) (by omega)
        rw [if_neg (fun q => by have := z4.mp q; omega), bd_some, m1, m2, if_pos (by omega), Nat.mul_assoc]
    · rw [if_neg (fun q => h2 (z2.mp q)), if_neg h2]
  unfold rk
  rw [h]; rfl
theorem rkN_lt {n : Nat} (h : kN n) : rkN n < 4000000 := by
  unfold rkN kN at *
  split
  · split
    · omega
    · split <;> omega
  · omega
theorem rkN_inj {a b : Nat} (ha : kN a) (hb : kN b) (h : rkN a = rkN b) : a = b := by
  unfold rkN kN at *
  obtain ⟨a1, a2⟩ := ha
  obtain ⟨b1, b2⟩ := hb
  by_cases p : a / 1000000 = 2 <;> by_cases q : b / 1000000 = 2
  · rw [if_pos p, if_pos q] at h
    have ea : a = 2000000 + a % 1000000 := by omega
    have eb : b = 2000000 + b % 1000000 := by omega
    generalize a % 1000000 = x at *
    generalize b % 1000000 = y at *
    split at h <;> split at h <;> (try split at h) <;> (try split at h) <;> omega
  · rw [if_pos p, if_neg q] at h
    exfalso
    split at h <;> (try split at h) <;> omega
  · rw [if_neg p, if_pos q] at h
    exfalso
    split at h <;> (try split at h) <;> omega
  · rw [if_neg p, if_neg q] at h; exact h
theorem rk_inj {a b : Int32} (ha : kP a) (hb : kP b) (h : rk a = rk b) : a = b := by
  obtain ⟨x, rfl, hx⟩ := (kP_iff a).mp ha
  obtain ⟨y, rfl, hy⟩ := (kP_iff b).mp hb
  rw [rk_nI hx.1, rk_nI hy.1] at h
  rw [rkN_inj hx hy ((nI_eq (by have := rkN_lt hx; omega) (by have := rkN_lt hy; omega)).mp h)]
theorem rk_of {a : Int32} (ha : kP a) : ∃ r, r < 4000000 ∧ rk a = nI r := by
  obtain ⟨x, rfl, hx⟩ := (kP_iff a).mp ha
  exact ⟨_, rkN_lt hx, rk_nI hx.1⟩
