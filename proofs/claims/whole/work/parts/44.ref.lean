/-! ===== PURE: the reference's memory shows an abstract store ===== -/
theorem isB0 : isB (0 : Int32) := by decide
theorem isB1 : isB (1 : Int32) := by decide
def MVg (m : MS) (g : Int32 × Int32 × Int32) : Prop := gs m 0 = g.1 ∧ gs m 5 = g.2.1
def MVt (m : MS) (D : Nat) (B : TQ) : Prop := gs m 4 = nI D ∧ ∀ j, j < 4 → ga m 1 j = (B j).1 ∧ ((B j).1 = 2 ∨ (B j).1 = 3 → ga m 2 j = (B j).2.1) ∧ ((B j).1 = 3 → ga m 3 j < nI D ∧ ∀ i, i < 4 → (B i).1 = 3 → (ga m 3 j < ga m 3 i ↔ (B j).2.2 < (B i).2.2))
def MVs (m : MS) (b k : Nat) (s : SA) : Prop := ga m b k = s.1 ∧ ga m (b + 2) k = nI s.2.2.2.length ∧ (¬ s.1 = 0 → ga m (b + 1) (2 * k) = s.2.1 ∧ ga m (b + 1) (2 * k + 1) = s.2.2.1) ∧ ∀ i, i < s.2.2.2.length → (ga m (b + 3) (40 * k + i), ga m (b + 4) (40 * k + i), ga m (b + 5) (2 * (40 * k + i)), ga m (b + 5) (2 * (40 * k + i) + 1)) = s.2.2.2.getD i (0, 0, 0, 0)
def MVx (m : MS) (ts : List TX) : Prop := gs m 18 = nI ts.length ∧ ∀ i, i < ts.length → (ga m 19 i = nI (txAt ts i).1 ∧ ga m 20 i = (txAt ts i).2.1 ∧ ga m 21 i = (txAt ts i).2.2.1 ∧ ga m 22 i = (txAt ts i).2.2.2)
def MVc (m : MS) (cs : List CU) : Prop := gs m 23 = nI cs.length ∧ (∀ i, i < cs.length → (ga m 24 i = nI (cuAt cs i).1 ∧ ga m 25 i = nI (cuAt cs i).2.1 ∧ ga m 26 i = (cuAt cs i).2.2.1 ∧ ga m 27 i = (cuAt cs i).2.2.2.1 ∧ ga m 28 i = (cuAt cs i).2.2.2.2.1 ∧ ga m 29 i = (cuAt cs i).2.2.2.2.2.1 ∧ ga m 30 i = (cuAt cs i).2.2.2.2.2.2)) ∧ ∀ i, cs.length ≤ i → ga m 29 i = 0 ∧ ga m 30 i = 0
def MVT (m : MS) (T : TS) : Prop := MVx m T.1 ∧ (∀ k, k < 3 → MVs m 6 k (T.2 k)) ∧ ∀ k, k < 3 → MVs m 12 k (T.2 (k + 3))
def MV (m : MS) (D : Nat) (a : AS) : Prop := MVg m a.1 ∧ MVt m D a.2.1 ∧ MVT m a.2.2.1 ∧ MVc m a.2.2.2
/-! what holds of every abstract store that comes to be -/
abbrev ixB (v : Int32) : Prop := v = 0 ∨ v = 1 ∨ v = 2
def SOK (s : SA) : Prop := (isB s.1 ∧ ixB s.2.1 ∧ ixB s.2.2.1) ∧ (s.1 = 0 → s = (0, 0, 0, [])) ∧ s.2.2.2.length ≤ 40 ∧ (s.2.2.2.map (fun r => r.1)).Nodup ∧ ∀ r ∈ s.2.2.2, kP r.1 ∧ ¬ rng r.2.2.1 (-1) 999 ∧ ¬ rng r.2.2.2 (-1) 999
def TOK (ts : List TX) : Prop := ts.length ≤ 60 ∧ ∀ t ∈ ts, t.1 < 4 ∧ isB t.2.2.1
def TSK (T : TS) : Prop := TOK T.1 ∧ ∀ k, k < 6 → SOK (T.2 k)
theorem txAt_mem {ts : List TX} {i : Nat} (h : i < ts.length) : txAt ts i ∈ ts := by
  unfold txAt
  rw [List.getD_eq_getElem?_getD, List.getElem?_eq_getElem h]
  exact List.getElem_mem h
/-! the reference's small methods -/
theorem m_isIn (v a b : Int32) : x_X7_isIn v a b = some (if rng v a b then 0 else 1) := by
  unfold x_X7_isIn
  by_cases h1 : v < a
  · rw [if_pos h1, l0_inl, bd_some, if_pos (by decide), if_pos (show rng v a b from Or.inl h1)]
  · rw [if_neg h1]
    by_cases h2 : b < v
    · rw [if_pos h2, l0_inl, bd_some, if_pos (by decide), if_pos (show rng v a b from Or.inr (Int32.not_le.mpr h2))]
    · rw [if_neg h2, l0_inr, bd_some, if_pos (by decide), if_neg (show ¬ rng v a b from fun q => q.elim h1 (fun q => q (Int32.not_lt.mp h2)))]
theorem m_fails (v : Int32) (m : MS) : x_X7_fails v m = some (if v ≤ 0 then 0 else 1, ss m 31 v) := by
  unfold x_X7_fails
  rw [bs_eq]
  by_cases h : v ≤ 0
  · rw [if_pos h, if_pos h, bd_some, if_pos isB0]
  · rw [if_neg h, if_neg h, bd_some, if_pos isB1]
theorem rng_oT {n : Nat} (v : Int32) (hn : n < 2 ^ 30) : rng v 0 (nI n - 1) ↔ oT v n := by
  have h1 : (nI n - 1).toInt = (n : Int) - 1 := pk_sub_toInt (b := 1) hn (by omega)
  have h2 : (nI n).toInt = n := nI_toInt (by omega)
  have e : ¬ v ≤ nI n - 1 ↔ nI n ≤ v := by
    rw [Int32.le_iff_toInt_le, Int32.le_iff_toInt_le, h1, h2]
    omega
  exact ⟨fun q => q.imp id e.mp, fun q => q.imp id e.mpr⟩
theorem m_isTab (v : Int32) : x_X7_isTab v = some (if oT v 4 then 0 else 1) := by
  unfold x_X7_isTab
  rw [m_isIn, bd_some]
  have h : rng v 0 3 ↔ oT v 4 := rng_oT (n := 4) v (by omega)
  by_cases q : oT v 4
  · rw [if_pos q, if_pos (h.mpr q), if_pos isB0]
  · rw [if_neg q, if_neg (fun z => q (h.mp z)), if_pos isB1]
theorem m_isTransaction {m : MS} {n : Nat} (V : gs m 18 = nI n) (hn : n ≤ 60) (v : Int32) : x_X7_isTransaction v m = some (if oT v n then 0 else 1) := by
  unfold x_X7_isTransaction
  rw [m_isIn, bd_some, V]
  have h := rng_oT (n := n) v (by omega)
  by_cases q : oT v n
  · rw [if_pos q, if_pos (h.mpr q), if_pos isB0]
  · rw [if_neg q, if_neg (fun z => q (h.mp z)), if_pos isB1]
theorem m_isCursor {m : MS} {n : Nat} (V : gs m 23 = nI n) (hn : n ≤ 40) (v : Int32) : x_X7_isCursor v m = some (if oT v n then 0 else 1) := by
  unfold x_X7_isCursor
  rw [m_isIn, bd_some, V]
  have h := rng_oT (n := n) v (by omega)
  by_cases q : oT v n
  · rw [if_pos q, if_pos (h.mpr q), if_pos isB0]
  · rw [if_neg q, if_neg (fun z => q (h.mp z)), if_pos isB1]
theorem oT_cases {n : Nat} (v : Int32) (hn : n < 2 ^ 31) : oT v n ∨ ∃ i, i < n ∧ v = nI i ∧ ¬ oT v n := by
  rcases pk_ix v hn with h | h | ⟨j, hj, rfl⟩
  · exact Or.inl (Or.inl h)
  · exact Or.inl (Or.inr h)
  · exact Or.inr ⟨j, hj, rfl, fun q => q.elim (nI_pos (by omega)) (nI_ge hj hn)⟩
theorem m_isStore {m : MS} {st : Nat → SA} (h : ∀ k, k < 3 → MVs m 6 k (st k)) (v : Int32) : x_X7_isStore v m = some (if oT v 3 ∨ (st v.toNatClampNeg).1 = 0 then 0 else 1) := by
  unfold x_X7_isStore
  rw [m_isIn, bd_some]
  have h9 := rng_oT (n := 3) v (by omega)
  rcases oT_cases (n := 3) v (by omega) with q | ⟨i, hi, rfl, q⟩
  · rw [if_pos (show rng v 0 2 from h9.mpr q), if_pos rfl, l0_inl, bd_some, if_pos isB0, if_pos (Or.inl q)]
  · rw [if_neg (show ¬ rng (nI i) 0 2 from fun z => q (h9.mp z)), if_neg (by decide), if_pos (show vR (nI i) 3 from nI_in hi (by omega)), nI_clamp (by omega), (h i hi).1]
    by_cases h0 : (st i).1 = 0
    · rw [if_pos h0, l0_inl, bd_some, if_pos isB0, if_pos (Or.inr h0)]
    · rw [if_neg h0, l0_inr, bd_some, if_pos isB1, if_neg (fun z => z.elim q h0)]
theorem m_keyL {n : Nat} (hn : n < 4000000) : ∀ (f x : Nat), x < 1000000 → n / 1000000 = 2 → (x = 0 → 0 < f) → (0 < x → x < 100 → 1 < f) → (99 < x → x < 10000 → 2 < f) → 3 < f ∨ x < 10000 → ∀ b : Bool, x_X7_isKey_L1 (nI n) f (nI x) (if b then 1 else 0) = some (if b = true ∧ (x = 0 ∨ ((1 ≤ x % 100 ∧ x % 100 ≤ 26) ∧ (x / 100 = 0 ∨ (1 ≤ x / 100 % 100 ∧ x / 100 % 100 ≤ 26) ∧ (x / 10000 = 0 ∨ (1 ≤ x / 10000 ∧ x / 10000 ≤ 26))))) then 1 else 0) := by
  intro f
  induction f with
  | zero => intro x h1 h2 h3 h4 h5 h6; omega
  | succ f ih =>
    intro x h1 h2 h3 h4 h5 h6 b
    rw [x_X7_isKey_L1]
    have z1 := kx_le (n := x) (d := 0) (D := 0) rfl (by omega) (by omega)
    by_cases h0 : x = 0
    · rw [if_pos (z1.mpr (by omega))]
      cases b <;> simp [h0]
    · rw [if_neg (fun q => h0 (by have := z1.mp q; omega))]
      have hd : nI n / 1000000 = nI (n / 1000000) := kx_div rfl (by omega) (by omega) (by omega)
      have hr : nI x - nI x / 100 * 100 = nI (x % 100) := kx_rem rfl (by omega) (by omega) (by omega)
      have hd2 : nI x / 100 = nI (x / 100) := kx_div rfl (by omega) (by omega) (by omega)
      rw [hd, h2, if_pos (show nI 2 = 2 from rfl), hr, m_isIn, bd_some, hd2]
      have e1 := kx_lt (n := x % 100) (d := 1) (D := 1) rfl (by omega) (by omega)
      have e2 := kx_le (n := x % 100) (d := 26) (D := 26) rfl (by omega) (by omega)
      have hR : rng (nI (x % 100)) 1 26 ↔ ¬ (1 ≤ x % 100 ∧ x % 100 ≤ 26) := by
        show (nI (x % 100) < 1 ∨ ¬ nI (x % 100) ≤ 26) ↔ _
        rw [e1, e2]; omega
      have nx := ih (x / 100) (by omega) h2 (by omega) (by omega) (by omega) (by omega)
      by_cases hb : b = true
      · subst hb
        by_cases hL : 1 ≤ x % 100 ∧ x % 100 ≤ 26
        · rw [if_neg (show ¬ rng (nI (x % 100)) 1 26 from fun q => hR.mp q hL)]
          have nx1 := nx true
          simp only [if_true, if_neg (show ¬ (1 : Int32) = 0 by decide), l0_inr, bd_some] at nx1 ⊢
          rw [nx1]
          have e9 : x / 100 / 100 = x / 10000 := by omega
          have e10 : x / 100 / 10000 = 0 := by omega
          refine congrArg some (ite_congr (propext ?_) (fun _ => rfl) (fun _ => rfl))
          rw [e9]
          constructor
          · rintro ⟨-, h⟩; exact ⟨trivial, by omega⟩
          · rintro ⟨-, h⟩; exact ⟨trivial, by omega⟩
        · rw [if_pos (show rng (nI (x % 100)) 1 26 from hR.mpr hL)]
          have nx1 := nx false
          simp only [if_true, if_neg (show ¬ (1 : Int32) = 0 by decide), l0_inl, bd_some, if_neg (show ¬ false = true by decide)] at nx1 ⊢
          rw [nx1]
          have q9 : ¬ (x = 0 ∨ ((1 ≤ x % 100 ∧ x % 100 ≤ 26) ∧ (x / 100 = 0 ∨ (1 ≤ x / 100 % 100 ∧ x / 100 % 100 ≤ 26) ∧ (x / 10000 = 0 ∨ (1 ≤ x / 10000 ∧ x / 10000 ≤ 26))))) := fun z => z.elim h0 fun z => hL z.1
          simp only [Bool.false_eq_true, false_and, q9, and_false, if_false]
      · have hb' : b = false := by cases b <;> simp_all
        subst hb'
        have nx1 := nx false
        simp only [if_true, if_neg (show ¬ false = true by decide), l0_inl, bd_some] at nx1 ⊢
        rw [nx1]
        simp
/-- the reference's test of a key is the class's -/
theorem m_isKey (v : Int32) : x_X7_isKey v = some (if kP v then 1 else 0) := by
  unfold x_X7_isKey
  rw [m_isIn, bd_some]
  have h9 := rng_oT (n := 4000000) v (by omega)
  rcases oT_cases (n := 4000000) v (by omega) with q | ⟨n, hn, rfl, q⟩
  · have hk : ¬ kP v := fun z => by
      obtain ⟨n, rfl, hn⟩ := (kP_iff v).mp z
      exact q.elim (nI_pos (by have := hn.1; omega)) (nI_ge hn.1 (by omega))
    rw [if_pos (show rng v 0 3999999 from h9.mpr q), if_pos rfl, l0_inl, m_isIn, bd_some]
    have h8 : rng v 0 1999999 := (rng_oT (n := 2000000) v (by omega)).mpr (q.imp id fun z => by
      rw [Int32.le_iff_toInt_le] at z ⊢
      rw [nI_toInt (by omega)] at z ⊢
      omega)
    rw [if_pos h8, if_pos rfl, l0_inl, bd_some, if_pos isB0, if_neg hk]
  · rw [if_neg (show ¬ rng (nI n) 0 3999999 from fun z => q (h9.mp z)), if_neg (by decide)]
    have hd : nI n / 1000000 = nI (n / 1000000) := kx_div rfl (by omega) (by omega) (by omega)
    have hr : nI n - nI n / 1000000 * 1000000 = nI (n % 1000000) := kx_rem rfl (by omega) (by omega) (by omega)
    have hkk : kP (nI n) ↔ kN n := by
      rw [kP_iff]
      exact ⟨fun ⟨x, e, hx⟩ => by rw [(nI_eq (by omega) (by have := hx.1; omega)).mp e]; exact hx, fun z => ⟨n, rfl, z⟩⟩
    rw [hr, hd]
    have g2 := kx_ge (n := n / 1000000) (d := 2) (D := 2) rfl (by omega) (by omega)
    have g3 := kx_eq (n := n / 1000000) (d := 3) (D := 3) rfl (by omega) (by omega)
    have g0 := kx_le (n := n % 1000000) (d := 0) (D := 0) rfl (by omega) (by omega)
    have g4 := kx_ge (n := n % 1000000) (d := 1000) (D := 1000) rfl (by omega) (by omega)
    by_cases h2 : 2 ≤ n / 1000000
    · rw [if_pos (g2.mpr h2)]
      by_cases h3 : n / 1000000 = 3
      · rw [if_pos (g3.mpr h3), l0_inl, bd_some]
        have e : x_X7_isKey_L1 (nI n) FU (nI (n % 1000000)) 1 = some 1 := by
          rw [show FU = 999 + 1 from rfl, x_X7_isKey_L1, hd, h3]
          by_cases h0 : n % 1000000 ≤ 0
          · rw [if_pos (g0.mpr h0)]
          · rw [if_neg (fun z => h0 (g0.mp z)), if_neg (by decide)]
        rw [e, bd_some, if_pos isB1, l0_inr, if_pos (hkk.mpr ⟨hn, Or.inl h3⟩)]
      · have h2' : n / 1000000 = 2 := by omega
        rw [if_neg (fun z => h3 (g3.mp z))]
        by_cases h0 : n % 1000000 ≤ 0
        · have e := m_keyL hn FU (n % 1000000) (by omega) h2' (by show _ → 0 < 1000; omega) (by show _ → _ → 1 < 1000; omega) (by show _ → _ → 2 < 1000; omega) (Or.inl (by show 3 < 1000; omega)) false
          rw [if_neg (show ¬ false = true by decide), if_neg (fun q => by have := q.1; simp at this)] at e
          rw [if_pos (g0.mpr h0), l0_inr, bd_some, e, bd_some]
          rw [if_pos isB0, l0_inr, if_neg (fun z => by have := hkk.mp z; unfold kN at this; omega)]
        · have e := m_keyL hn FU (n % 1000000) (by omega) h2' (by show _ → 0 < 1000; omega) (by show _ → _ → 1 < 1000; omega) (by show _ → _ → 2 < 1000; omega) (Or.inl (by show 3 < 1000; omega)) true
          rw [if_pos (show true = true from rfl)] at e
          rw [if_neg (fun z => h0 (g0.mp z)), l0_inl, bd_some]
          by_cases hK : kN n
          · rw [if_pos (⟨rfl, by unfold kN at hK; omega⟩)] at e
            rw [e, bd_some, if_pos isB1, l0_inr, if_pos (hkk.mpr hK)]
          · rw [if_neg (fun z => hK (by have := z.2; unfold kN; omega))] at e
            rw [e, bd_some, if_pos isB0, l0_inr, if_neg (fun z => hK (hkk.mp z))]
    · rw [if_neg (fun z => h2 (g2.mp z)), l0_inl, m_isIn, bd_some]
      have h8 := rng_oT (n := 2000000) (nI n) (by omega)
      have h7 : ¬ rng (nI n) 0 1999999 := fun z => (h8.mp z).elim (nI_pos (by omega)) (nI_ge (by omega) (by omega))
      rw [if_neg h7, if_neg (by decide)]
      by_cases h5 : 1000 ≤ n % 1000000
      · rw [if_pos (g4.mpr h5), l0_inl, bd_some, if_pos isB0, if_neg (fun z => by have := hkk.mp z; unfold kN at this; omega)]
      · rw [if_neg (fun z => h5 (g4.mp z)), l0_inr, bd_some, if_pos isB1, if_pos (hkk.mpr (by unfold kN; omega))]
theorem m_rank {v : Int32} (hk : kP v) : x_X7_rank v = some (rk v) := by
  obtain ⟨n, rfl, hn⟩ := (kP_iff v).mp hk
  have h4 := hn.1
  rw [rk_nI h4]
  unfold x_X7_rank
  have hd : nI n / 1000000 = nI (n / 1000000) := kx_div rfl (by omega) (by omega) (by omega)
  have hr : nI n - nI n / 1000000 * 1000000 = nI (n % 1000000) := kx_rem rfl (by omega) (by omega) (by omega)
  rw [hr]
  have hs : nI n - nI (n % 1000000) = nI (n - n % 1000000) := pk_sub (by omega)
  rw [hs]
  have s1 : ∀ f x, x < 1000000 → (¬ n / 1000000 = 2 ∨ 10000 ≤ x ∨ x = 0) → x_X7_rank_L1 (nI n) (f + 1) (nI x) = some (nI x) := by
    intro f x hx h
    rw [x_X7_rank_L1, hd]
    have z2 := kx_eq (n := n / 1000000) (d := 2) (D := 2) rfl (by omega) (by omega)
    have z3 := kx_ge (n := x) (d := 10000) (D := 10000) rfl (by omega) (by omega)
    have z4 := kx_le (n := x) (d := 0) (D := 0) rfl (by omega) (by omega)
    by_cases q2 : n / 1000000 = 2
    · rw [if_pos (z2.mpr q2)]
      by_cases q3 : 10000 ≤ x
      · rw [if_pos (z3.mpr q3)]
      · rw [if_neg (fun z => q3 (z3.mp z)), if_pos (z4.mpr (by omega))]
    · rw [if_neg (fun z => q2 (z2.mp z))]
  have s2 : ∀ f x, x < 10000 → 0 < x → n / 1000000 = 2 → x_X7_rank_L1 (nI n) (f + 1) (nI x) = x_X7_rank_L1 (nI n) f (nI (if 100 ≤ x then x * 100 else x * 10000)) := by
    intro f x hx h0 q2
    rw [x_X7_rank_L1, hd]
    have z2 := kx_eq (n := n / 1000000) (d := 2) (D := 2) rfl (by omega) (by omega)
    have z3 := kx_ge (n := x) (d := 10000) (D := 10000) rfl (by omega) (by omega)
    have z4 := kx_le (n := x) (d := 0) (D := 0) rfl (by omega) (by omega)
    have z5 := kx_ge (n := x) (d := 100) (D := 100) rfl (by omega) (by omega)
    rw [if_pos (z2.mpr q2), if_neg (fun z => by have := z3.mp z; omega), if_neg (fun z => by have := z4.mp z; omega)]
    by_cases q5 : 100 ≤ x
    · rw [if_pos (z5.mpr q5), bd_some, if_pos q5, show nI x * 100 = nI (x * 100) from pk_mul x 100]
    · rw [if_neg (fun z => q5 (z5.mp z)), bd_some, if_neg q5, show nI x * 10000 = nI (x * 10000) from pk_mul x 10000]
  by_cases q2 : n / 1000000 = 2
  · by_cases q3 : 10000 ≤ n % 1000000 ∨ n % 1000000 = 0
    · rw [show FU = 999 + 1 from rfl, s1 _ _ (by omega) (Or.inr q3), bd_some, nI_add]
      unfold rkN
      rw [if_pos q2]
      have e : n - n % 1000000 + n % 1000000 = 2000000 + (if n % 1000000 < 100 then n % 1000000 * 10000 else if n % 1000000 < 10000 then n % 1000000 * 100 else n % 1000000) := by
        rcases q3 with q | q
        · rw [if_neg (by omega), if_neg (by omega)]; omega
        · rw [if_pos (by omega)]; omega
      rw [e]
    · rw [show FU = 998 + 1 + 1 from rfl, s2 _ _ (by omega) (by omega) q2, s1 _ _ (by split <;> omega) (by split <;> omega), bd_some, nI_add]
      unfold rkN
      rw [if_pos q2]
      have e : n - n % 1000000 + (if 100 ≤ n % 1000000 then n % 1000000 * 100 else n % 1000000 * 10000) = 2000000 + (if n % 1000000 < 100 then n % 1000000 * 10000 else if n % 1000000 < 10000 then n % 1000000 * 100 else n % 1000000) := by
        by_cases q : 100 ≤ n % 1000000
        · rw [if_pos q, if_neg (by omega), if_pos (by omega)]; omega
        · rw [if_neg q, if_pos (by omega)]; omega
      rw [e]
  · rw [show FU = 999 + 1 from rfl, s1 _ _ (by omega) (Or.inl q2), bd_some, nI_add]
    unfold rkN
    rw [if_neg q2, show n - n % 1000000 + n % 1000000 = n by omega]
theorem m_isBetween {k a b : Int32} (hk : kP k) (ha : kP a) (hb : kP b) : x_X7_isBetween k a b = some (if rk a ≤ rk k ∧ rk k ≤ rk b then 1 else 0) := by
  unfold x_X7_isBetween
  simp only [m_rank hk, m_rank ha, m_rank hb, bd_some]
  by_cases h1 : rk a ≤ rk k
  · by_cases h2 : rk k ≤ rk b
    · rw [if_neg (Int32.not_lt.mpr h1), if_neg (Int32.not_lt.mpr h2), l0_inr, bd_some, if_pos isB1, if_pos ⟨h1, h2⟩]
    · rw [if_neg (Int32.not_lt.mpr h1), if_pos (Int32.not_le.mp h2), l0_inl, bd_some, if_pos isB0, if_neg (fun q => h2 q.2)]
  · rw [if_pos (Int32.not_le.mp h1), l0_inl, bd_some, if_pos isB0, if_neg (fun q => h1 q.1)]
