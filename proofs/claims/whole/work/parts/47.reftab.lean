/-! ===== PURE: the reference's tabs ===== -/
/-- the best blocked tab, as the reference numbers it -/
def fbI (b : Option Nat) : Int32 := match b with
  | none => -1
  | some k => nI k
theorem fbA_lt (B : TQ) : ∀ (n k : Nat) (b : Option Nat), k + n ≤ 4 → (∀ q, b = some q → q < 4 ∧ (B q).1 = 3) → ∀ q, fbA B n k b = some q → q < 4 ∧ (B q).1 = 3 := by
  intro n
  induction n with
  | zero => intro k b _ h q hq; exact h q hq
  | succ n ih =>
    intro k b hk h q hq
    rw [fbA] at hq
    refine ih (k + 1) _ (by omega) (fun q' hq' => ?_) q hq
    split at hq'
    · next c => cases hq'; exact ⟨by omega, c.1⟩
    · exact h q' hq'
theorem nI_m1 {k : Nat} (h : k < 2 ^ 31) : ¬ nI k = -1 := fun q => nI_pos h (by rw [q]; decide)
theorem m_firstBlockedL {m : MS} {D : Nat} {B : TQ} (V : MVt m D B) : ∀ (f n k : Nat) (b : Option Nat), k + n = 4 → n < f → (∀ q, b = some q → q < 4 ∧ (B q).1 = 3) → x_X7_firstBlocked_L1 m f (nI k) (fbI b) = some (fbI (fbA B n k b)) := by
  intro f
  induction f with
  | zero => intro n k b h1 h2; omega
  | succ f ih =>
    intro n k b h1 h2 hb
    rw [x_X7_firstBlocked_L1]
    have z := kx_ge (n := k) (d := 4) (D := 4) rfl (by omega) (by omega)
    cases n with
    | zero => rw [if_pos (z.mpr (by omega))]; rfl
    | succ n =>
      have hk : k < 4 := by omega
      have hr : vR (nI k) 4 := nI_in hk (by omega)
      rw [if_neg (fun q => by have := z.mp q; omega)]
      simp only [if_pos hr, nI_clamp (show k < 2 ^ 31 by omega), (V.2 k hk).1]
      rw [fbA, nI_1]
      by_cases h3 : (B k).1 = 3
      · rw [if_pos h3]
        cases b with
        | none =>
          rw [if_pos (show fbI none = -1 from rfl), l0_inl, l0_inr, bd_some, if_pos ⟨h3, rfl⟩]
          exact ih n (k + 1) (some k) (by omega) (by omega) (fun q hq => by cases hq; exact ⟨hk, h3⟩)
        | some q =>
          obtain ⟨hq4, hq3⟩ := hb q rfl
          have hrq : vR (nI q) 4 := nI_in hq4 (by omega)
          have ho := ((V.2 k hk).2.2 h3).2 q hq4 hq3
          rw [if_neg (show ¬ fbI (some q) = -1 from nI_m1 (by omega))]
          simp only [fbI, if_pos hrq, nI_clamp (show q < 2 ^ 31 by omega)]
          by_cases hc : ga m 3 q ≤ ga m 3 k
          · have h9 : ¬ (B k).2.2 < (B q).2.2 := fun z => Int32.not_le.mpr (ho.mpr z) hc
            rw [if_pos hc, l0_inr, l0_inl, bd_some, if_neg (fun z => h9 (by simpa [fbB] using z.2))]
            exact ih n (k + 1) (some q) (by omega) (by omega) hb
          · have h9 : (B k).2.2 < (B q).2.2 := ho.mp (Int32.not_le.mp hc)
            rw [if_neg hc, l0_inl, l0_inr, bd_some, if_pos ⟨h3, by simpa [fbB] using h9⟩]
            exact ih n (k + 1) (some k) (by omega) (by omega) (fun q hq => by cases hq; exact ⟨hk, h3⟩)
      · rw [if_neg h3, l0_inl, bd_some, if_neg (fun z => h3 z.1)]
        exact ih n (k + 1) b (by omega) (by omega) hb
theorem m_firstBlocked {m : MS} {D : Nat} {B : TQ} (V : MVt m D B) : x_X7_firstBlocked m = some (fbI (fbA B 4 0 none)) := by
  unfold x_X7_firstBlocked
  have h := m_firstBlockedL V FU 4 0 none rfl (by show 4 < 1000; omega) (fun q hq => by cases hq)
  rw [nI_0] at h
  rw [show (-1 : Int32) = fbI none from rfl, h, bd_some]
theorem rng12 (c : Int32) : rng c 1 2 ↔ ¬ (c = 1 ∨ c = 2) := by
  unfold rng
  rw [Int32.lt_iff_toInt_lt, Int32.le_iff_toInt_le, ← Int32.toInt_inj, ← Int32.toInt_inj]
  show c.toInt < 1 ∨ ¬ c.toInt ≤ 2 ↔ ¬ (c.toInt = 1 ∨ c.toInt = 2)
  omega
theorem m_isBusyL {m : MS} {D : Nat} {B : TQ} (V : MVt m D B) (p : Int32) (x : Nat) (hp : ∀ j, j < 4 → (nI j = p ↔ j = x)) : ∀ (f j : Nat), j ≤ 4 → 4 < f + j → x_X7_isBusy_L1 p m f (nI j) (if ∃ q ∈ List.range j, q ≠ x ∧ insA B q then 1 else 0) = some (if busyX B x then 1 else 0) := by
  intro f
  induction f with
  | zero => intro j h1 h2; omega
  | succ f ih =>
    intro j h1 h2
    rw [x_X7_isBusy_L1]
    have z := kx_ge (n := j) (d := 4) (D := 4) rfl (by omega) (by omega)
    by_cases hj : j < 4
    · have hr : vR (nI j) 4 := nI_in hj (by omega)
      rw [if_neg (fun q => by have := z.mp q; omega), nI_1, ← ih (j + 1) (by omega) (by omega)]
      have e := exR (P := fun q => q ≠ x ∧ insA B q) j
      by_cases hQ : ∃ q ∈ List.range j, q ≠ x ∧ insA B q
      · rw [if_pos hQ, if_neg (by decide), l0_inl, bd_some, if_pos (e.mpr (Or.inl hQ))]
      · rw [if_neg hQ, if_pos rfl]
        by_cases hx : j = x
        · rw [if_pos ((hp j hj).mpr hx), l0_inl, l0_inr, bd_some, if_neg (fun q => (e.mp q).elim hQ (fun q => q.1 hx))]
        · rw [if_neg (fun q => hx ((hp j hj).mp q))]
          simp only [if_pos hr, nI_clamp (show j < 2 ^ 31 by omega), (V.2 j hj).1, m_isIn, bd_some]
          by_cases hi : insA B j
          · rw [if_neg (show ¬ rng (B j).1 1 2 from fun q => (rng12 _).mp q hi), if_neg (by decide), l0_inr, l0_inl, bd_some, if_pos (e.mpr (Or.inr ⟨hx, hi⟩))]
          · rw [if_pos (show rng (B j).1 1 2 from (rng12 _).mpr hi), if_pos rfl, l0_inl, l0_inr, bd_some, if_neg (fun q => (e.mp q).elim hQ (fun q => hi q.2))]
    · have : j = 4 := by omega
      subst this
      rw [if_pos (z.mpr (by omega))]
theorem m_isBusyP {m : MS} {D : Nat} {B : TQ} (V : MVt m D B) (p : Int32) (x : Nat) (hp : ∀ j, j < 4 → (nI j = p ↔ j = x)) : x_X7_isBusy p m = some (if busyX B x then 1 else 0) := by
  unfold x_X7_isBusy
  have h := m_isBusyL V p x hp FU 0 (by omega) (by show 4 < 1000 + 0; omega)
  rw [if_neg (by simp), nI_0] at h
  rw [h, bd_some]
  by_cases q : busyX B x
  · rw [if_pos q, if_pos isB1]
  · rw [if_neg q, if_pos isB0]
theorem m_isBusy {m : MS} {D : Nat} {B : TQ} (V : MVt m D B) {x : Nat} (hx : x < 4) : x_X7_isBusy (nI x) m = some (if busyX B x then 1 else 0) := m_isBusyP V _ x (fun j hj => nI_eq (by omega) (by omega))
theorem busyX_4 (B : TQ) : busyX B 4 ↔ busyA B := ⟨fun ⟨j, h1, h2, h3⟩ => ⟨j, h1, h3⟩, fun ⟨j, h1, h3⟩ => ⟨j, h1, by have := List.mem_range.mp h1; omega, h3⟩⟩
theorem m_isBusyN {m : MS} {D : Nat} {B : TQ} (V : MVt m D B) : x_X7_isBusy (-1) m = some (if busyA B then 1 else 0) := by
  rw [m_isBusyP V (-1) 4 (fun j hj => ⟨fun q => absurd q (nI_m1 (by omega)), fun q => by omega⟩)]
  by_cases q : busyA B
  · rw [if_pos q, if_pos ((busyX_4 B).mpr q)]
  · rw [if_neg q, if_neg (fun z => q ((busyX_4 B).mp z))]
theorem m_wouldBeginL {m : MS} {D : Nat} {B : TQ} (V : MVt m D B) {x : Nat} (hx : x < 4) : ∀ (f j : Nat), j ≤ 4 → 4 < f + j → x_X7_wouldBegin_L1 (nI x) m f (nI j) (if ∃ q ∈ List.range j, q ≠ x ∧ (B q).1 = 3 ∧ gs m 0 < (B q).2.1 then 1 else 0) = some (if folA (gs m 0) B x then 1 else 0) := by
  intro f
  induction f with
  | zero => intro j h1 h2; omega
  | succ f ih =>
    intro j h1 h2
    rw [x_X7_wouldBegin_L1]
    have z := kx_ge (n := j) (d := 4) (D := 4) rfl (by omega) (by omega)
    by_cases hj : j < 4
    · have hr : vR (nI j) 4 := nI_in hj (by omega)
      rw [if_neg (fun q => by have := z.mp q; omega), nI_1, ← ih (j + 1) (by omega) (by omega)]
      have e := exR (P := fun q => q ≠ x ∧ (B q).1 = 3 ∧ gs m 0 < (B q).2.1) j
      by_cases hQ : ∃ q ∈ List.range j, q ≠ x ∧ (B q).1 = 3 ∧ gs m 0 < (B q).2.1
      · rw [if_pos hQ, if_neg (by decide), l0_inl, bd_some, if_pos (e.mpr (Or.inl hQ))]
      · rw [if_neg hQ, if_pos rfl]
        by_cases hx2 : j = x
        · rw [if_pos (by rw [hx2]), l0_inl, l0_inr, bd_some, if_neg (fun q => (e.mp q).elim hQ (fun q => q.1 hx2))]
        · rw [if_neg (fun q => hx2 ((nI_eq (by omega) (by omega)).mp q))]
          simp only [if_pos hr, nI_clamp (show j < 2 ^ 31 by omega), (V.2 j hj).1]
          by_cases h3 : (B j).1 = 3
          · rw [if_pos h3, (V.2 j hj).2.1 (Or.inr h3)]
            by_cases h4 : (B j).2.1 ≤ gs m 0
            · rw [if_pos h4, l0_inl, l0_inr, bd_some, if_neg (fun q => (e.mp q).elim hQ (fun q => Int32.not_le.mpr q.2.2 h4))]
            · rw [if_neg h4, l0_inr, l0_inl, bd_some, if_pos (e.mpr (Or.inr ⟨hx2, h3, Int32.not_le.mp h4⟩))]
          · rw [if_neg h3, l0_inl, l0_inr, bd_some, if_neg (fun q => (e.mp q).elim hQ (fun q => h3 q.2.1))]
    · have : j = 4 := by omega
      subst this
      rw [if_pos (z.mpr (by omega))]
theorem m_wouldBegin {m : MS} {D : Nat} {B : TQ} (V : MVt m D B) {x : Nat} (hx : x < 4) : x_X7_wouldBegin (nI x) m = some (if folA (gs m 0) B x ∧ insA B x ∧ ¬ busyX B x then 1 else 0) := by
  unfold x_X7_wouldBegin
  have h := m_wouldBeginL V hx FU 0 (by omega) (by show 4 < 1000 + 0; omega)
  rw [if_neg (by simp), nI_0] at h
  have hr : vR (nI x) 4 := nI_in hx (by omega)
  rw [h, bd_some]
  simp only [if_pos hr, nI_clamp (show x < 2 ^ 31 by omega), (V.2 x hx).1, m_isIn, bd_some, m_isBusy V hx]
  by_cases h1 : folA (gs m 0) B x
  · rw [if_pos h1, if_neg (by decide)]
    by_cases h2 : insA B x
    · rw [if_neg (show ¬ rng (B x).1 1 2 from fun q => (rng12 _).mp q h2), if_neg (by decide)]
      by_cases h3 : busyX B x
      · rw [if_pos h3, if_neg (by decide), l0_inl, bd_some, if_pos isB0, if_neg (fun q => q.2.2 h3)]
      · rw [if_neg h3, if_pos rfl, l0_inr, bd_some, if_pos isB1, if_pos ⟨h1, h2, h3⟩]
    · rw [if_pos (show rng (B x).1 1 2 from (rng12 _).mpr h2), if_pos rfl, l0_inl, bd_some, if_pos isB0, if_neg (fun q => h2 q.2.1)]
  · rw [if_neg h1, if_pos rfl, l0_inl, bd_some, if_pos isB0, if_neg (fun q => h1 q.1)]
