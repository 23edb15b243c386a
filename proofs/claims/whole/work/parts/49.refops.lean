/-! ===== PURE: what holds of every abstract store; the reference's calls ===== -/
theorem q10 : ¬ (1 : Int32) = 0 := by decide
theorem q20 : ¬ (2 : Int32) = 0 := by decide
theorem q30 : ¬ (3 : Int32) = 0 := by decide
theorem q00 : (0 : Int32) = 0 := rfl
theorem q11 : (1 : Int32) = 1 := rfl
theorem q01 : ¬ (0 : Int32) = 1 := by decide
def COK (ts : List TX) (c : CU) : Prop := c.1 < ts.length ∧ c.2.1 < 3 ∧ inS (txAt ts c.1).2.1 (nI c.2.1) ∧ (c.2.2.1 = -1 ∨ c.2.2.1 = 0 ∨ c.2.2.1 = 1) ∧ (c.2.2.2.1 = 0 ∨ c.2.2.2.1 = 1 ∨ c.2.2.2.1 = 2 ∨ c.2.2.2.1 = 3) ∧ (c.2.2.2.2.1 = 0 ∨ c.2.2.2.2.1 = 1 ∨ c.2.2.2.2.1 = 2) ∧ ¬ rng c.2.2.2.2.2.1 0 999 ∧ kP c.2.2.2.2.2.2
def IU (u : Int32) (B : TQ) (ts : List TX) : Prop := u = -1 ∧ (∀ j, j < 4 → ¬ (B j).1 = 2) ∨ ∃ i, i < ts.length ∧ u = nI i ∧ (txAt ts i).2.2.2 = 1 ∧ (B (txAt ts i).1).1 = 2 ∧ ∀ j, j < 4 → (B j).1 = 2 → j = (txAt ts i).1
def IB (n : Int32) (B : TQ) : Prop := (∀ j, j < 4 → (B j).1 = 0 ∨ (B j).1 = 1 ∨ (B j).1 = 2 ∨ (B j).1 = 3) ∧ ((∃ j, j < 4 ∧ (B j).1 = 3) → busyA B) ∧ ∀ j, j < 4 → (B j).1 = 3 → (B j).2.2 < n
def IV (a : AS) : Prop := IB a.1.2.2 a.2.1 ∧ IU a.1.2.1 a.2.1 a.2.2.1.1 ∧ TSK a.2.2.1 ∧ a.2.2.2.length ≤ 40 ∧ ∀ c ∈ a.2.2.2, COK a.2.2.1.1 c
def RO (x : Option (Int32 × MS)) (c : Nat → Int32) (D : Nat) (r : OUT) : Prop := ∃ b m' D', x = some (b, m') ∧ gs m' 31 = c r.1 ∧ MV m' D' r.2.2 ∧ (r.1 = 0 → b = r.2.1) ∧ D' ≤ D + 1
def RV (x : Option MS) (c : Nat → Int32) (D : Nat) (r : OUT) : Prop := ∃ m' D', x = some m' ∧ gs m' 31 = c r.1 ∧ MV m' D' r.2.2 ∧ D' ≤ D + 1
/-- the reference's numbers of the exceptions: where there are three, where there are two -/
def c3 (k : Nat) : Int32 := nI k
def c2 (k : Nat) : Int32 := if k = 3 then 2 else nI k
theorem MV.t {m : MS} {D : Nat} {a : AS} (V : MV m D a) (v : Int32) : MV (ss m 31 v) D a := by
  obtain ⟨v1, v2, v3, v4⟩ := V
  refine ⟨⟨v1.1, v1.2⟩, v2.off rfl (fun _ _ _ => rfl), v3.off rfl (fun _ _ _ _ => rfl), ?_⟩
  exact ⟨v4.1, v4.2.1, v4.2.2⟩
theorem RO.f {b : Int32} {m : MS} {D : Nat} {a : AS} {c : Nat → Int32} {k : Nat} {v w : Int32} (V : MV m D a) (hk : ¬ k = 0) (hv : v = c k) : RO (some (b, ss m 31 v)) c D (k, w, a) := ⟨b, _, D, rfl, by rw [gs_ss, if_pos rfl]; exact hv, V.t v, fun q => absurd q hk, Nat.le_succ _⟩
theorem RO.s {b : Int32} {m : MS} {D : Nat} {a : AS} {c : Nat → Int32} (V : MV m D a) (hv : c 0 = 0) : RO (some (b, ss m 31 0)) c D (0, b, a) := ⟨b, _, D, rfl, by rw [gs_ss, if_pos rfl]; exact hv.symm, V.t 0, fun _ => rfl, Nat.le_succ _⟩
theorem RV.f {m : MS} {D : Nat} {a : AS} {c : Nat → Int32} {k : Nat} {v w : Int32} (V : MV m D a) (hv : v = c k) : RV (some (ss m 31 v)) c D (k, w, a) := ⟨_, D, rfl, by rw [gs_ss, if_pos rfl]; exact hv, V.t v, Nat.le_succ _⟩
theorem f0 (m : MS) : x_X7_fails 0 m = some (0, ss m 31 0) := by rw [m_fails, if_pos (by decide)]
theorem f1 (m : MS) : x_X7_fails 1 m = some (1, ss m 31 1) := by rw [m_fails, if_neg (by decide)]
theorem f2 (m : MS) : x_X7_fails 2 m = some (1, ss m 31 2) := by rw [m_fails, if_neg (by decide)]
theorem f3 (m : MS) : x_X7_fails 3 m = some (1, ss m 31 3) := by rw [m_fails, if_neg (by decide)]
theorem oT_at {v : Int32} {n : Nat} (h : ¬ oT v n) (hn : n < 2 ^ 31) : ∃ i, i < n ∧ v = nI i ∧ v.toNatClampNeg = i := by
  rcases oT_cases v hn with q | ⟨i, hi, e, -⟩
  · exact absurd q h
  · exact ⟨i, hi, e, by rw [e]; exact nI_clamp (by omega)⟩
theorem r_state {m : MS} {D : Nat} {a : AS} (V : MV m D a) (p : Int32) : RO (x_X7_state p m) c3 D (statA p a) := by
  unfold x_X7_state statA
  rw [m_isTab, bd_some]
  by_cases h : oT p 4
  · simp only [if_pos h, bd_some, l0_inl, l0_inr, l1_inl, l1_inr, b2_some, bs_eq, if_neg q10, if_pos q00, if_neg q20, if_neg q30, if_pos q11, if_neg q01, if_pos isB0, if_pos isB1, if_true, if_false, f1]
    exact RO.f V (by decide) rfl
  · obtain ⟨i, hi, rfl, ei⟩ := oT_at h (by omega)
    simp only [if_neg h, bd_some, l0_inl, l0_inr, l1_inl, l1_inr, b2_some, bs_eq, if_neg q10, if_pos q00, if_neg q20, if_neg q30, if_pos q11, if_neg q01, if_pos isB0, if_pos isB1, if_true, if_false, f0, if_pos (show vR (nI i) 4 from nI_in hi (by omega)), ei, ga_ss, (V.2.1.2 i hi).1]
    exact RO.s (c := c3) V rfl
theorem r_version {m : MS} {D : Nat} {a : AS} (V : MV m D a) : x_X7_version m = some (a.1.1, ss m 31 0) := by
  unfold x_X7_version
  rw [bs_eq, gs_ss, if_neg (by omega), V.1.1]
theorem r_upgrade {m : MS} {D : Nat} {a : AS} (V : MV m D a) : x_X7_upgrade m = some (a.1.2.1, ss m 31 0) := by
  unfold x_X7_upgrade
  rw [bs_eq, gs_ss, if_neg (by omega), V.1.2]
theorem r_standing {m : MS} {D : Nat} {a : AS} (V : MV m D a) (I : IV a) (t : Int32) : RO (x_X7_standing t m) c3 D (staA t a) := by
  have hn : lenT a ≤ 60 := I.2.2.1.1.1
  unfold x_X7_standing staA
  rw [m_isTransaction V.2.2.1.1.1 hn, bd_some]
  by_cases h : oX a t
  · simp only [if_pos h, bd_some, l0_inl, l0_inr, l1_inl, l1_inr, b2_some, bs_eq, if_neg q10, if_pos q00, if_neg q20, if_neg q30, if_pos q11, if_neg q01, if_pos isB0, if_pos isB1, if_true, if_false, f1]
    exact RO.f V (by decide) rfl
  · obtain ⟨i, hi, rfl, ei⟩ := oT_at h (show lenT a < 2 ^ 31 by omega)
    have hx := V.2.2.1.1.2 i hi
    simp only [if_neg h, bd_some, l0_inl, l0_inr, l1_inl, l1_inr, b2_some, bs_eq, if_neg q10, if_pos q00, if_neg q20, if_neg q30, if_pos q11, if_neg q01, if_pos isB0, if_pos isB1, if_true, if_false, f0, if_pos (show vR (nI i) 60 from nI_in (by omega) (by omega)), ei, ga_ss, hx.2.2.2, txA]
    exact RO.s (c := c3) V rfl
theorem MVT.store {m : MS} {ts : List TX} {st : Nat → SA} {k : Nat} {s : SA} {m' : MS} (V : MVT m (ts, st)) (hk : k < 3) (h18 : gs m' 18 = gs m 18) (ho : ∀ j x, 12 ≤ j → j < 23 → ga m' j x = ga m j x) (hs : MVs m' 6 k s) (hn : ∀ i, i < 3 → i ≠ k → MVs m' 6 i (st i)) : MVT m' (ts, upn st k s) := by
  refine ⟨V.1.eqs h18 (fun j x h1 h2 => ho j x (by omega) h2), fun i hi => ?_, fun i hi => ?_⟩
  · show MVs m' 6 i (upn st k s i)
    by_cases hik : i = k
    · subst hik; rw [upn_s]; exact hs
    · rw [upn_n _ _ hik]; exact hn i hi hik
  · show MVs m' 12 i (upn st k s (i + 3))
    rw [upn_n _ _ (by omega)]
    exact (V.2.2 i hi).eqs (fun j x h1 h2 => ho j x h1 (by omega))
theorem r_makeStore {m : MS} {D : Nat} {a : AS} (V : MV m D a) (I : IV a) (t s : Int32) : RV (x_X7_makeStore t s m) c2 D (mkSA t s a) := by
  have hn : lenT a ≤ 60 := I.2.2.1.1.1
  unfold x_X7_makeStore mkSA
  rw [m_isTransaction V.2.2.1.1.1 hn, bd_some]
  by_cases h : oX a t
  · simp only [if_pos h, bd_some, l0_inl, l0_inr, l1_inl, l1_inr, b2_some, bs_eq, if_neg q10, if_pos q00, if_neg q20, if_neg q30, if_pos q11, if_neg q01, if_pos isB0, if_pos isB1, if_true, if_false, f1]
    exact RV.f V rfl
  · have hs9 : rng s 0 2 ↔ oT s 3 := rng_oT (n := 3) s (by omega)
    by_cases h2 : oT s 3
    · simp only [if_neg h, if_pos h2, m_isIn, if_pos (hs9.mpr h2), bd_some, l0_inl, l0_inr, l1_inl, l1_inr, b2_some, bs_eq, if_neg q10, if_pos q00, if_neg q20, if_neg q30, if_pos q11, if_neg q01, if_pos isB0, if_pos isB1, if_true, if_false, f1]
      exact RV.f V rfl
    · obtain ⟨k, hk, rfl, ek⟩ := oT_at h2 (by omega)
      have hr : vR (nI k) 3 := nI_in hk (by omega)
      simp only [if_neg h, if_neg h2, m_isIn, if_neg (show ¬ rng (nI k) 0 2 from fun q => h2 (hs9.mp q)), bd_some, l0_inl, l0_inr, l1_inl, l1_inr, b2_some, bs_eq, if_neg q10, if_pos q00, if_neg q20, if_neg q30, if_pos q11, if_neg q01, if_pos isB0, if_pos isB1, if_true, if_false, V.1.2, if_pos hr, nI_clamp (show k < 2 ^ 31 by omega), (V.2.2.1.2.1 k hk).1]
      by_cases h3 : t = a.1.2.1
      · by_cases h4 : (a.2.2.1.2 k).1 = 0
        · simp only [if_pos h3, if_pos h4, if_neg (show ¬ ¬ t = a.1.2.1 from fun q => q h3), if_neg (show ¬ ¬ (stA a (nI k)).1 = 0 by unfold stA; rw [ek]; exact fun q => q h4), bd_some, l0_inl, l0_inr, l1_inl, l1_inr, b2_some, bs_eq, if_neg q10, if_pos q00, if_neg q20, if_neg q30, if_pos q11, if_neg q01, if_pos isB0, if_pos isB1, if_true, if_false, f0]
          have e2 : (2 : Int32) * nI k = nI (2 * k) := pk_mul 2 k
          have hr2 : vR (nI (2 * k)) 6 := nI_in (by omega) (by omega)
          have hr3 : vR (nI (2 * k + 1)) 6 := nI_in (by omega) (by omega)
          simp only [e2, nI_1, if_pos hr2, if_pos hr3, nI_clamp (show 2 * k < 2 ^ 31 by omega), nI_clamp (show 2 * k + 1 < 2 ^ 31 by omega)]
          have hs := (I.2.2.1.2 k (by omega)).2.1 h4
          refine ⟨_, D, rfl, ?_, ⟨⟨V.1.1, V.1.2⟩, V.2.1.off rfl (fun j x h => ?_), ?_, ?_⟩, Nat.le_succ _⟩
          · simp only [gs_sa, gs_ss]; rfl
          · simp only [ga_sa2, ga_ss]
            rw [if_neg (by omega), if_neg (by omega), if_neg (by omega), if_neg (by omega)]
          · unfold setS
            show MVT _ (a.2.2.1.1, upn a.2.2.1.2 (nI k).toNatClampNeg (1, (stA a (nI k)).2))
            unfold stA
            rw [ek, hs]
            refine V.2.2.1.store hk rfl (fun j x h1 h2 => ?_) ⟨?_, ?_, fun _ => ⟨?_, ?_⟩, fun i hi => absurd hi (Nat.not_lt_zero _)⟩ (fun i hi hik => ?_)
            · simp only [ga_sa2, ga_ss]
              rw [if_neg (by omega), if_neg (by omega), if_neg (by omega), if_neg (by omega)]
            · simp [ga_sa2, ga_ss]
            · simp [ga_sa2, ga_ss]; exact nI_0.symm
            · simp [ga_sa2, ga_ss]
            · simp [ga_sa2, ga_ss]
            · obtain ⟨w1, w2, w3, w4⟩ := V.2.2.1.2.1 i hi
              refine ⟨?_, ?_, fun q => ?_, fun x hx => ?_⟩
              · simp [ga_sa2, ga_ss, hik, w1]
              · simp [ga_sa2, ga_ss, hik, w2]
              · have w := w3 q
                simp only [ga_sa2, ga_ss]
                rw [if_neg (by omega), if_neg (by omega), if_neg (by omega), if_neg (by omega), if_neg (by omega), if_neg (by omega), if_neg (by omega), if_neg (by omega)]
                exact w
              · rw [← w4 x hx]; simp [ga_sa2, ga_ss]
          · exact ⟨V.2.2.2.1, V.2.2.2.2.1, V.2.2.2.2.2⟩
        · simp only [if_pos h3, if_neg h4, if_neg (show ¬ ¬ t = a.1.2.1 from fun q => q h3), if_pos (show ¬ (stA a (nI k)).1 = 0 by unfold stA; rw [ek]; exact h4), bd_some, l0_inl, l0_inr, l1_inl, l1_inr, b2_some, bs_eq, if_neg q10, if_pos q00, if_neg q20, if_neg q30, if_pos q11, if_neg q01, if_pos isB0, if_pos isB1, if_true, if_false, f2]
          exact RV.f V rfl
      · simp only [if_neg h3, if_pos h3, bd_some, l0_inl, l0_inr, l1_inl, l1_inr, b2_some, bs_eq, if_neg q10, if_pos q00, if_neg q20, if_neg q30, if_pos q11, if_neg q01, if_pos isB0, if_pos isB1, if_true, if_false, f2]
        exact RV.f V rfl
theorem r_deleteStore {m : MS} {D : Nat} {a : AS} (V : MV m D a) (I : IV a) (t s : Int32) : RO (x_X7_deleteStore t s m) c2 D (delA t s a) := by
  have hn : lenT a ≤ 60 := I.2.2.1.1.1
  unfold x_X7_deleteStore delA
  rw [m_isTransaction V.2.2.1.1.1 hn, m_isStore V.2.2.1.2.1, bd_some]
  by_cases h : oX a t
  · simp only [if_pos h, bd_some, l0_inl, l0_inr, l1_inl, l1_inr, b2_some, bs_eq, if_neg q10, if_pos q00, if_neg q20, if_neg q30, if_pos q11, if_neg q01, if_pos isB0, if_pos isB1, if_true, if_false, f1]
    exact RO.f V (by decide) rfl
  · by_cases h2 : noS a s
    · simp only [if_neg h, if_pos h2, bd_some, l0_inl, l0_inr, l1_inl, l1_inr, b2_some, bs_eq, if_neg q10, if_pos q00, if_neg q20, if_neg q30, if_pos q11, if_neg q01, if_pos isB0, if_pos isB1, if_true, if_false, f1]
      exact RO.f V (by decide) rfl
    · obtain ⟨k, hk, rfl, ek⟩ := oT_at (fun q => h2 (Or.inl q)) (by omega)
      have hr : vR (nI k) 3 := nI_in hk (by omega)
      simp only [if_neg h, if_neg h2, bd_some, l0_inl, l0_inr, l1_inl, l1_inr, b2_some, bs_eq, if_neg q10, if_pos q00, if_neg q20, if_neg q30, if_pos q11, if_neg q01, if_pos isB0, if_pos isB1, if_true, if_false, V.1.2]
      by_cases h3 : t = a.1.2.1
      · simp only [if_pos h3, if_neg (show ¬ ¬ t = a.1.2.1 from fun q => q h3), bd_some, l0_inl, l0_inr, l1_inl, l1_inr, b2_some, bs_eq, if_neg q10, if_pos q00, if_neg q20, if_neg q30, if_pos q11, if_neg q01, if_pos isB0, if_pos isB1, if_true, if_false, f0, if_pos hr, nI_clamp (show k < 2 ^ 31 by omega), ga_ss, (V.2.2.1.2.1 k hk).2.1]
        refine ⟨_, _, D, rfl, ?_, ⟨⟨V.1.1, V.1.2⟩, V.2.1.off rfl (fun j x h => ?_), ?_, ?_⟩, fun _ => ?_, Nat.le_succ _⟩
        · simp only [gs_sa, gs_ss]; rfl
        · simp only [ga_sa2, ga_ss]
          rw [if_neg (by omega), if_neg (by omega)]
        · unfold setS
          show MVT _ (a.2.2.1.1, upn a.2.2.1.2 (nI k).toNatClampNeg (0, 0, 0, []))
          rw [ek]
          refine V.2.2.1.store hk rfl (fun j x h1 h2 => ?_) ⟨?_, ?_, fun q => absurd rfl q, fun i hi => absurd hi (Nat.not_lt_zero _)⟩ (fun i hi hik => ?_)
          · simp only [ga_sa2, ga_ss]
            rw [if_neg (by omega), if_neg (by omega)]
          · simp [ga_sa2, ga_ss]
          · simp [ga_sa2, ga_ss]; exact nI_0.symm
          · obtain ⟨w1, w2, w3, w4⟩ := V.2.2.1.2.1 i hi
            refine ⟨?_, ?_, fun q => ?_, fun x hx => ?_⟩
            · simp [ga_sa2, ga_ss, hik, w1]
            · simp [ga_sa2, ga_ss, hik, w2]
            · have w := w3 q
              simp only [ga_sa2, ga_ss]
              rw [if_neg (by omega), if_neg (by omega), if_neg (by omega), if_neg (by omega)]
              exact w
            · rw [← w4 x hx]; simp [ga_sa2, ga_ss]
        · exact ⟨V.2.2.2.1, V.2.2.2.2.1, V.2.2.2.2.2⟩
        · unfold stA; rw [ek]
      · simp only [if_neg h3, if_pos h3, bd_some, l0_inl, l0_inr, l1_inl, l1_inr, b2_some, bs_eq, if_neg q10, if_pos q00, if_neg q20, if_neg q30, if_pos q11, if_neg q01, if_pos isB0, if_pos isB1, if_true, if_false, f2]
        exact RO.f V (by decide) rfl
