/-! ===== PURE: a store's indexes and doubles ===== -/
/-- a number that another row holds too -/
abbrev tkn (w : CS) (xs : List Nat) (f : Int32) (p : Nat) : Prop := ¬ rn w f p = -1 ∧ ∃ x ∈ xs, ¬ wI w 40 x = wI w 40 p ∧ rn w f x = rn w f p
theorem s_taken {o : Nat} {w : CS} {R : Nat → List Nat} (S : SV o w R) {k : Nat} (hk : k < 6) (f : Int32) {p : Nat} (hp : wJ w 0 p = 1) : x_X3_isTaken (o + 10 + 3 * k) f p w = some (if tkn w (R k) f p then 1 else 0) := by
  rw [s_isTaken S hk f hp]
theorem s_doubL {o : Nat} {w : CS} {R : Nat → List Nat} (S : SV o w R) {k : Nat} (hk : k < 6) (f : Int32) : ∀ (n i : Nat), (R k).length < n + i → i ≤ (R k).length → x_X3_hasDoubles_L1 (o + 10 + 3 * k) f w n (nI i) = some (if ∃ x ∈ (R k).drop i, tkn w (R k) f x then .inr 1 else .inl ()) := by
  obtain ⟨h1, h2, h3, h4⟩ := s_rows S hk
  intro n
  induction n with
  | zero => intro i a b; omega
  | succ n ih =>
    intro i a b
    rw [x_X3_hasDoubles_L1, if_pos h1, if_pos h2, p_size h3, bd_some]
    by_cases hi : i < (R k).length
    · have hx := s_rowkind S hk hi
      rw [getD_get hi] at hx
      rw [if_neg (nI_ge hi (by omega)), p_get h3 hi, bd_some, getD_get hi, if_pos (Or.inr hx), s_taken S hk f hx, bd_some, List.drop_eq_getElem_cons hi]
      by_cases hT : tkn w (R k) f (R k)[i]
      · rw [if_pos hT, if_neg (by decide), if_pos (by decide), if_pos ⟨_, List.mem_cons_self, hT⟩]
      · rw [if_neg hT, if_pos rfl, nI_1, ih (i + 1) (by omega) (by omega)]
        exact congrArg some (ite_congr (propext (ex_cons (P := fun x => tkn w (R k) f x) hT).symm) (fun _ => rfl) (fun _ => rfl))
    · rw [if_pos (nI_le (by omega) (by omega)), List.drop_eq_nil_of_le (by omega)]
      simp
theorem s_hasDoubles {o : Nat} {w : CS} {R : Nat → List Nat} (S : SV o w R) {k : Nat} (hk : k < 6) (f : Int32) : x_X3_hasDoubles (o + 10 + 3 * k) f w = some (if ∃ x ∈ R k, tkn w (R k) f x then 1 else 0) := by
  have h4 := (S.rk k hk).1
  unfold x_X3_hasDoubles
  have h := s_doubL S hk f FU 0 (by show (R k).length < 1000 + 0; omega) (Nat.zero_le _)
  rw [show nI 0 = 0 from nI_0, List.drop_zero] at h
  rw [h]
  by_cases hE : ∃ x ∈ R k, tkn w (R k) f x
  · rw [if_pos hE, l0_inr, if_pos hE]
  · rw [if_neg hE, l0_inl, if_pos (by decide), if_neg hE]
theorem s_clashes {o : Nat} {w : CS} {R : Nat → List Nat} (S : SV o w R) {k : Nat} (hk : k < 6) {p : Nat} (hp : wJ w 0 p = 1) : x_X3_clashes (o + 10 + 3 * k) p w = some (if (wA w (o + 11 + 3 * k) 0 = 2 ∧ tkn w (R k) 0 p) ∨ (wA w (o + 11 + 3 * k) 1 = 2 ∧ tkn w (R k) 1 p) then 1 else 0) := by
  obtain ⟨a1, a2, a3, a4, a5⟩ := S.st k hk
  have z0 : (0 : Int32) = nI 0 := nI_0.symm
  have c0 : (0 : Int32).toNatClampNeg = 0 := by decide
  have c1 : (1 : Int32).toNatClampNeg = 1 := by decide
  have r0 : vR 0 2 := by decide
  have r1 : vR 1 2 := by decide
  have t0 := s_taken S hk 0 hp
  have t1 := s_taken S hk 1 hp
  have g0 : ¬ nI 2 ≤ (0 : Int32) := by decide +kernel
  have g1 : ¬ nI 2 ≤ (1 : Int32) := by decide +kernel
  have g2 : nI 2 ≤ (2 : Int32) := by decide +kernel
  have step2 : ∀ n, x_X3_clashes_L1 (o + 10 + 3 * k) p w (n + 1) 2 = some (.inl ()) := fun n => by
    rw [x_X3_clashes_L1, if_pos a1, a2, if_pos a4, a5, if_pos g2]
  have step1 : ∀ n, x_X3_clashes_L1 (o + 10 + 3 * k) p w (n + 2) 1 = some (if wA w (o + 11 + 3 * k) 1 = 2 ∧ tkn w (R k) 1 p then .inr 1 else .inl ()) := fun n => by
    rw [x_X3_clashes_L1, if_pos a1, a2, if_pos a4, a5, if_neg g1, if_pos r1, c1, t1, bd_some]
    by_cases h1 : wA w (o + 11 + 3 * k) 1 = 2
    · by_cases h2 : tkn w (R k) 1 p
      · rw [if_pos h1, if_pos h2, if_neg (by decide), if_pos (by decide), l0_inr, if_pos ⟨h1, h2⟩]
      · rw [if_pos h1, if_neg h2, if_pos rfl, l0_inl, show (1 : Int32) + 1 = 2 by decide, step2, if_neg (fun q => h2 q.2)]
    · rw [if_neg h1, l0_inl, show (1 : Int32) + 1 = 2 by decide, step2, if_neg (fun q => h1 q.1)]
  have step0 : ∀ n, x_X3_clashes_L1 (o + 10 + 3 * k) p w (n + 3) 0 = some (if (wA w (o + 11 + 3 * k) 0 = 2 ∧ tkn w (R k) 0 p) ∨ (wA w (o + 11 + 3 * k) 1 = 2 ∧ tkn w (R k) 1 p) then .inr 1 else .inl ()) := fun n => by
    rw [x_X3_clashes_L1, if_pos a1, a2, if_pos a4, a5, if_neg g0, if_pos r0, c0, t0, bd_some]
    have nxt : x_X3_clashes_L1 (o + 10 + 3 * k) p w (n + 2) (0 + 1) = _ := step1 n
    by_cases h1 : wA w (o + 11 + 3 * k) 0 = 2
    · by_cases h2 : tkn w (R k) 0 p
      · rw [if_pos h1, if_pos h2, if_neg (by decide), if_pos (by decide), l0_inr, if_pos (Or.inl ⟨h1, h2⟩)]
      · rw [if_pos h1, if_neg h2, if_pos rfl, l0_inl, nxt]
        exact congrArg some (ite_congr (propext ⟨fun q => Or.inr q, fun q => q.elim (fun z => absurd z.2 h2) id⟩) (fun _ => rfl) (fun _ => rfl))
    · rw [if_neg h1, l0_inl, nxt]
      exact congrArg some (ite_congr (propext ⟨fun q => Or.inr q, fun q => q.elim (fun z => absurd z.1 h1) id⟩) (fun _ => rfl) (fun _ => rfl))
  unfold x_X3_clashes
  rw [show FU = 997 + 3 from rfl, step0]
  by_cases hE : (wA w (o + 11 + 3 * k) 0 = 2 ∧ tkn w (R k) 0 p) ∨ (wA w (o + 11 + 3 * k) 1 = 2 ∧ tkn w (R k) 1 p)
  · rw [if_pos hE, l0_inr, if_pos hE]
  · rw [if_neg hE, l0_inl, if_pos (by decide), if_neg hE]
theorem s_hasIndex {o : Nat} {w : CS} {R : Nat → List Nat} (S : SV o w R) {k f : Nat} (hk : k < 6) (hf : f < 2) : x_X3_hasIndex (o + 10 + 3 * k) (nI f) w = some (if wA w (o + 11 + 3 * k) f = 0 then 0 else 1) := by
  obtain ⟨a1, a2, a3, a4, a5⟩ := S.st k hk
  unfold x_X3_hasIndex
  rw [if_neg (nI_pos (by omega)), if_pos a1, a2, if_pos a4, a5, if_neg (nI_ge hf (by omega)), if_pos (show vR (nI f) 2 from nI_in hf (by omega)), nI_clamp (by omega)]
  by_cases h : wA w (o + 11 + 3 * k) f = 0
  · rw [if_pos h, if_pos h, l0_inl, bd_some, if_pos (by decide)]
  · rw [if_neg h, if_neg h, l0_inr, bd_some, if_pos (by decide)]
