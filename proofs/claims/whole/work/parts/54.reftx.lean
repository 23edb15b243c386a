/-! ===== PURE: the reference's tabs and transactions, call by call ===== -/
theorem MVP.of {m : MS} {D : Nat} {a : AS} (V : MV m D a) : MVP m D (a.1, a.2.1, a.2.2.1) := ⟨V.1, V.2.1, V.2.2.1⟩
theorem MV.plus {m : MS} {D : Nat} {z : PA} {cs : List CU} (V : MVP m D z) (Vc : MVc m cs) : MV m D (plus z cs) := ⟨V.1, V.2.1, V.2.2, Vc⟩
theorem fb_none {B : TQ} (h : ¬ ∃ j, j < 4 ∧ (B j).1 = 3) : fbA B 4 0 none = none := fbA_none (fun j hj q => h ⟨j, hj, q⟩)
theorem looks_id {z : PA} {n : Int32} (h : IB n z.2.1) : ∀ k, looksA k z = z := by
  intro k
  by_cases hb : ∃ j, j < 4 ∧ (z.2.1 j).1 = 3
  · exact looks_busy (h.2.1 hb) k
  · exact looks_none (fb_none hb) k
theorem room_id {z : PA} {n : Int32} (h : IB n z.2.1) : roomA z := fun hb ⟨j, hj, q, _⟩ => absurd (h.2.1 ⟨j, hj, q⟩) hb
theorem late_ins {a : AS} (I : IV a) {p : Nat} (hp : p < 4) (h0 : ¬ (a.2.1 p).1 = 0) (hl : lateA a p) : insA a.2.1 p := by
  rcases I.1.1 p hp with q | q | q | q
  · exact absurd q h0
  · exact Or.inl q
  · exact Or.inr q
  · obtain ⟨j, hj, hj2⟩ := I.1.2.1 ⟨p, hp, q⟩
    refine absurd ⟨j, hj, fun e => ?_, hj2⟩ hl.2.1
    subst e
    rcases hj2 with z | z <;> rw [q] at z <;> exact absurd z (by decide)
theorem busy_up {B : TQ} {p : Nat} {v : Int32 × Int32 × Int32} (hv : ¬ (v.1 = 1 ∨ v.1 = 2)) : busyA (upn B p v) ↔ busyX B p := by
  constructor
  · rintro ⟨j, hj, h⟩
    by_cases e : j = p
    · subst e; unfold insA at h; rw [upn_s] at h; exact absurd h hv
    · unfold insA at h; rw [upn_n _ _ e] at h; exact ⟨j, hj, e, h⟩
  · rintro ⟨j, hj, e, h⟩
    exact ⟨j, hj, by unfold insA; rw [upn_n _ _ e]; exact h⟩
theorem busyX_of {B : TQ} {p : Nat} (h : ¬ insA B p) : busyX B p ↔ busyA B := by
  constructor
  · rintro ⟨j, hj, e, q⟩; exact ⟨j, hj, q⟩
  · rintro ⟨j, hj, q⟩; exact ⟨j, hj, fun e => h (e ▸ q), q⟩
theorem MVt.open1 {m : MS} {D : Nat} {B : TQ} {p : Nat} {v : Int32} (V : MVt m D B) (hD : D < 1000) (hp : p < 4) (hp3 : ¬ (B p).1 = 3) : MVt (ss (sa (sa (sa m 1 p 1) 2 p v) 3 p (nI D)) 4 (nI (D + 1))) (D + 1) (upn B p (1, (B p).2)) := by
  refine ⟨by rw [gs_ss, if_pos rfl], fun j hj => ?_⟩
  simp only [ga_ss, ga_sa2]
  obtain ⟨a1, a2, a3⟩ := V.2 j hj
  by_cases e : j = p
  · subst e
    rw [upn_s]
    refine ⟨by simp, fun q => ?_, fun q => absurd (show (1 : Int32) = 3 from q) (by decide)⟩
    rcases q with q | q
    · exact absurd (show (1 : Int32) = 2 from q) (by decide)
    · exact absurd (show (1 : Int32) = 3 from q) (by decide)
  · rw [upn_n _ _ e]
    simp only [e, and_false, if_false, show ¬ (1 : Nat) = 3 by omega, show ¬ (1 : Nat) = 2 by omega, show ¬ (2 : Nat) = 3 by omega, false_and]
    refine ⟨a1, a2, fun q => ⟨?_, fun i hi qi => ?_⟩⟩
    · exact Int32.lt_trans (a3 q).1 (nI_lt (Nat.lt_succ_self D) (by omega))
    · by_cases ei : i = p
      · subst ei; rw [upn_s] at qi; exact absurd (show (1 : Int32) = 3 from qi) (by decide)
      · rw [upn_n _ _ ei] at qi ⊢
        simp only [ei, and_false, if_false]
        exact (a3 q).2 i hi qi
theorem MVt.block {m : MS} {D : Nat} {B : TQ} {p : Nat} {v n : Int32} (V : MVt m D B) (hD : D < 1000) (hp : p < 4) (hp3 : ¬ (B p).1 = 3) (hn : ∀ j, j < 4 → (B j).1 = 3 → (B j).2.2 < n) : MVt (ss (sa (sa (sa m 1 p 3) 2 p v) 3 p (nI D)) 4 (nI (D + 1))) (D + 1) (upn B p (3, v, n)) := by
  refine ⟨by rw [gs_ss, if_pos rfl], fun j hj => ?_⟩
  simp only [ga_ss, ga_sa2]
  have hlt : nI D < nI (D + 1) := nI_lt (Nat.lt_succ_self D) (by omega)
  obtain ⟨a1, a2, a3⟩ := V.2 j hj
  by_cases e : j = p
  · subst e
    rw [upn_s]
    refine ⟨by simp, fun q => by simp, fun q => ⟨by simpa using hlt, fun i hi qi => ?_⟩⟩
    by_cases ei : i = j
    · subst ei
      rw [upn_s]
      simp [Int32.lt_irrefl]
    · rw [upn_n _ _ ei] at qi ⊢
      obtain ⟨b1, b2, b3⟩ := V.2 i hi
      have h1 := (b3 qi).1
      have h2 := hn i hi qi
      simp only [ei, and_false, if_false, and_self, if_true]
      exact ⟨fun z => absurd z (Int32.lt_asymm h1), fun z => absurd z (Int32.lt_asymm h2)⟩
  · rw [upn_n _ _ e]
    simp only [e, and_false, if_false, show ¬ (1 : Nat) = 3 by omega, show ¬ (1 : Nat) = 2 by omega, show ¬ (2 : Nat) = 3 by omega, false_and]
    refine ⟨a1, a2, fun q => ⟨?_, fun i hi qi => ?_⟩⟩
    · exact Int32.lt_trans (a3 q).1 hlt
    · by_cases ei : i = p
      · subst ei
        rw [upn_s]
        simp only [and_self, if_true]
        exact ⟨fun _ => hn j hj q, fun _ => (a3 q).1⟩
      · rw [upn_n _ _ ei] at qi ⊢
        simp only [ei, and_false, if_false]
        exact (a3 q).2 i hi qi
theorem n60 {n : Nat} (hn : n ≤ 60) : nI n = 60 ↔ n = 60 := nI_eq (b := 60) (by omega) (by omega)
theorem r_open {m : MS} {D : Nat} {a : AS} (V : MV m D a) (I : IV a) (hD : D < 1000) (p v : Int32) : RO (x_X7_open p v m) c3 D (openA p v a) := by
  have hn : lenT a ≤ 60 := I.2.2.1.1.1
  unfold x_X7_open openA
  rw [m_isTab, m_isIn, m_isBusyN V.2.1, bd_some, bd_some]
  by_cases h : oT p 4
  · simp only [if_pos h, bd_some, l0_inl, l0_inr, l1_inl, l1_inr, b2_some, bs_eq, if_neg q10, if_pos q00, if_neg q20, if_neg q30, if_pos q11, if_neg q01, if_pos isB0, if_pos isB1, if_true, if_false, f1]; exact RO.f V (by decide) rfl
  · obtain ⟨j, hj, rfl, ej⟩ := oT_at h (by omega)
    have hr : vR (nI j) 4 := nI_in hj (by omega)
    rw [if_neg h]
    simp only [if_neg h, if_neg q10, if_pos hr, nI_clamp (show j < 2 ^ 31 by omega), (V.2.1.2 j hj).1, V.1.1, V.1.2, V.2.2.1.1.1, bd_some]
    have hcan : (l0 (l0 (if (a.2.1 j).1 = 0 then if v < a.1.1 then some (.inl ()) else if v = a.1.1 then if a.1.2.1 = -1 then some (.inr (.inl ())) else some (.inl ()) else some (.inr (.inl ())) else some (.inl ())) (fun _ => some (.inr (1 : Int32)))) (fun _ => some (0 : Int32)) : Option Int32) = some (if ¬ (a.2.1 j).1 = 0 ∨ v < a.1.1 ∨ (v = a.1.1 ∧ ¬ a.1.2.1 = -1) then 1 else 0) := by
      by_cases h1 : (a.2.1 j).1 = 0
      · by_cases h2 : v < a.1.1
        · rw [if_pos h1, if_pos h2, l0_inl, l0_inr, if_pos (Or.inr (Or.inl h2))]
        · by_cases h3 : v = a.1.1
          · by_cases h4 : a.1.2.1 = -1
            · rw [if_pos h1, if_neg h2, if_pos h3, if_pos h4, l0_inr, l0_inl, if_neg (fun q => q.elim (fun q => q h1) (fun q => q.elim h2 (fun q => q.2 h4)))]
            · rw [if_pos h1, if_neg h2, if_pos h3, if_neg h4, l0_inl, l0_inr, if_pos (Or.inr (Or.inr ⟨h3, h4⟩))]
          · rw [if_pos h1, if_neg h2, if_neg h3, l0_inr, l0_inl, if_neg (fun q => q.elim (fun q => q h1) (fun q => q.elim h2 (fun q => h3 q.1)))]
      · rw [if_neg h1, l0_inl, l0_inr, if_pos (Or.inl h1)]
    have hlate : (l0 (if v ≤ a.1.1 then some (.inl ()) else if (if busyA a.2.1 then (1 : Int32) else 0) = 0 then if nI a.2.2.1.1.length = 60 then some (.inr (1 : Int32)) else some (.inl ()) else some (.inl ())) (fun _ => some (0 : Int32)) : Option Int32) = some (if a.1.1 < v ∧ ¬ busyA a.2.1 ∧ lenT a = 60 then 1 else 0) := by
      by_cases h1 : v ≤ a.1.1
      · rw [if_pos h1, l0_inl, if_neg (fun q => Int32.not_lt.mpr h1 q.1)]
      · by_cases h2 : busyA a.2.1
        · rw [if_neg h1, if_pos h2, if_neg q10, l0_inl, if_neg (fun q => q.2.1 h2)]
        · by_cases h3 : lenT a = 60
          · rw [if_neg h1, if_neg h2, if_pos q00, if_pos ((n60 hn).mpr h3), l0_inr, if_pos ⟨Int32.not_le.mp h1, h2, h3⟩]
          · rw [if_neg h1, if_neg h2, if_pos q00, if_neg (fun q => h3 ((n60 hn).mp q)), l0_inl, if_neg (fun q => h3 q.2.2)]
    have hcode : ∀ P Q : Prop, [Decidable P] → [Decidable Q] → (l0 (if (if P then (1 : Int32) else 0) = 0 then if (if Q then (1 : Int32) else 0) = 0 then some (.inr 0) else some (.inl ()) else some (.inl ())) (fun _ => some (3 : Int32)) : Option Int32) = some (if P ∨ Q then 3 else 0) := by
      intro P Q _ _
      by_cases hP : P
      · rw [if_pos hP, if_neg q10, l0_inl, if_pos (Or.inl hP)]
      · by_cases hQ : Q
        · rw [if_neg hP, if_pos q00, if_pos hQ, if_neg q10, l0_inl, if_pos (Or.inr hQ)]
        · rw [if_neg hP, if_pos q00, if_neg hQ, if_pos q00, l0_inr, if_neg (fun q => q.elim hP hQ)]
    rw [hcan, hlate, bd_some, bd_some, hcode]
    by_cases h2 : rng v 1 100
    · simp only [if_pos h2, bd_some, l0_inl, l0_inr, l1_inl, l1_inr, b2_some, bs_eq, if_neg q10, if_pos q00, if_neg q20, if_neg q30, if_pos q11, if_neg q01, if_pos isB0, if_pos isB1, if_true, if_false, f2]; exact RO.f V (by decide) rfl
    · simp only [if_neg h2, if_neg q10]
      by_cases h3 : ¬ (a.2.1 j).1 = 0 ∨ v < a.1.1 ∨ (v = a.1.1 ∧ ¬ a.1.2.1 = -1) ∨ (a.1.1 < v ∧ ¬ busyA a.2.1 ∧ lenT a = 60)
      · rw [if_pos h3, if_pos (show (¬ (a.2.1 j).1 = 0 ∨ v < a.1.1 ∨ (v = a.1.1 ∧ ¬ a.1.2.1 = -1)) ∨ (a.1.1 < v ∧ ¬ busyA a.2.1 ∧ lenT a = 60) from by
          rcases h3 with q | q | q | q
          · exact Or.inl (Or.inl q)
          · exact Or.inl (Or.inr (Or.inl q))
          · exact Or.inl (Or.inr (Or.inr q))
          · exact Or.inr q)]
        simp only [bd_some, l0_inl, l0_inr, l1_inl, l1_inr, b2_some, bs_eq, if_neg q10, if_pos q00, if_neg q20, if_neg q30, if_pos q11, if_neg q01, if_pos isB0, if_pos isB1, if_true, if_false, f3]; exact RO.f V (by decide) rfl
      · have h0 : (a.2.1 j).1 = 0 := Decidable.byContradiction fun q => h3 (Or.inl q)
        have h03 : ¬ (a.2.1 j).1 = 3 := by rw [h0]; decide
        have hni : ¬ insA a.2.1 j := by unfold insA; rw [h0]; decide
        rw [if_neg h3, if_neg (show ¬ ((¬ (a.2.1 j).1 = 0 ∨ v < a.1.1 ∨ (v = a.1.1 ∧ ¬ a.1.2.1 = -1)) ∨ (a.1.1 < v ∧ ¬ busyA a.2.1 ∧ lenT a = 60)) from fun q => h3 (by
          rcases q with (q | q | q) | q
          · exact Or.inl q
          · exact Or.inr (Or.inl q)
          · exact Or.inr (Or.inr (Or.inl q))
          · exact Or.inr (Or.inr (Or.inr q))))]
        have V2 := V.t 0
        have e0 : gs (ss m 31 0) 0 = a.1.1 := V2.1.1
        have e4 : ∀ c w, gs (sa (sa (ss m 31 0) 1 j c) 2 j w) 4 = nI D := fun c w => V2.2.1.1
        have e4' : ∀ c w u, gs (sa (sa (sa (ss m 31 0) 1 j c) 2 j w) 3 j u) 4 = nI D := fun c w u => V2.2.1.1
        simp only [bd_some, l0_inl, l0_inr, l1_inl, l1_inr, b2_some, bs_eq, if_neg q10, if_pos q00, if_neg q20, if_neg q30, if_pos q11, if_neg q01, if_pos isB0, if_pos isB1, if_true, if_false, f0, e0, e4, e4', nI_1]
        by_cases h4 : v = a.1.1
        · simp only [if_pos h4, bd_some]
          have Vt := V2.2.1.open1 (v := v) hD hj h03
          have VP : MVP (ss (sa (sa (sa (ss m 31 0) 1 j 1) 2 j v) 3 j (nI D)) 4 (nI (D + 1))) (D + 1) (a.1, upn a.2.1 j (1, (a.2.1 j).2), a.2.2.1) := by
            refine ⟨⟨?_, ?_⟩, Vt, V2.2.2.1.off ?_ (fun x y h1 h2 => ?_)⟩
            · rw [gs_ss, if_neg (by omega)]; exact V2.1.1
            · rw [gs_ss, if_neg (by omega)]; exact V2.1.2
            · rw [gs_ss, if_neg (by omega)]; rfl
            · simp only [ga_ss, ga_sa2]
              rw [if_neg (by omega), if_neg (by omega), if_neg (by omega)]
          have hb : busyA (upn a.2.1 j (1, (a.2.1 j).2)) := ⟨j, List.mem_range.mpr hj, Or.inl (by rw [upn_s])⟩
          obtain ⟨m', e, V', F⟩ := m_looks (fun q => absurd hb q) I.2.2.1 VP
          rw [looks_busy hb] at V'
          rw [e, bd_some]
          refine ⟨_, m', D + 1, rfl, ?_, ?_, fun _ => ?_, Nat.le_refl _⟩
          · rw [F.1 31 (by omega) (by omega), gs_ss, if_neg (by omega)]; rfl
          · refine ⟨V'.1, V'.2.1, V'.2.2, MVc.fl ?_ F⟩
            refine ⟨?_, fun x hx => ?_, fun x hx => ?_⟩
            · rw [gs_ss, if_neg (by omega)]; exact V2.2.2.2.1
            · simp only [ga_ss, ga_sa2]
              simp only [show ¬ (24 : Nat) = 3 by omega, show ¬ (24 : Nat) = 2 by omega, show ¬ (24 : Nat) = 1 by omega, show ¬ (25 : Nat) = 3 by omega, show ¬ (25 : Nat) = 2 by omega, show ¬ (25 : Nat) = 1 by omega, show ¬ (26 : Nat) = 3 by omega, show ¬ (26 : Nat) = 2 by omega, show ¬ (26 : Nat) = 1 by omega, show ¬ (27 : Nat) = 3 by omega, show ¬ (27 : Nat) = 2 by omega, show ¬ (27 : Nat) = 1 by omega, show ¬ (28 : Nat) = 3 by omega, show ¬ (28 : Nat) = 2 by omega, show ¬ (28 : Nat) = 1 by omega, show ¬ (29 : Nat) = 3 by omega, show ¬ (29 : Nat) = 2 by omega, show ¬ (29 : Nat) = 1 by omega, show ¬ (30 : Nat) = 3 by omega, show ¬ (30 : Nat) = 2 by omega, show ¬ (30 : Nat) = 1 by omega, false_and, if_false]
              exact V.2.2.2.2.1 x hx
            · simp only [ga_ss, ga_sa2]
              simp only [show ¬ (29 : Nat) = 3 by omega, show ¬ (29 : Nat) = 2 by omega, show ¬ (29 : Nat) = 1 by omega, show ¬ (30 : Nat) = 3 by omega, show ¬ (30 : Nat) = 2 by omega, show ¬ (30 : Nat) = 1 by omega, false_and, if_false]
              exact V.2.2.2.2.2 x hx
          · have := (V'.2.1.2 j hj).1
            rw [this]
            show (upn a.2.1 j (1, (a.2.1 j).2) j).1 = 1
            rw [upn_s]
        · simp only [if_neg h4, bd_some]
          have Vt := V2.2.1.block (v := v) (n := a.1.2.2) hD hj h03 I.1.2.2
          have VP : MVP (ss (sa (sa (sa (ss m 31 0) 1 j 3) 2 j v) 3 j (nI D)) 4 (nI (D + 1))) (D + 1) ((a.1.1, a.1.2.1, a.1.2.2 + 1), upn a.2.1 j (3, v, a.1.2.2), a.2.2.1) := by
            refine ⟨⟨?_, ?_⟩, Vt, V2.2.2.1.off ?_ (fun x y h1 h2 => ?_)⟩
            · rw [gs_ss, if_neg (by omega)]; exact V2.1.1
            · rw [gs_ss, if_neg (by omega)]; exact V2.1.2
            · rw [gs_ss, if_neg (by omega)]; rfl
            · simp only [ga_ss, ga_sa2]
              rw [if_neg (by omega), if_neg (by omega), if_neg (by omega)]
          have hroom : roomA ((a.1.1, a.1.2.1, a.1.2.2 + 1), upn a.2.1 j (3, v, a.1.2.2), a.2.2.1) := by
            intro hb _
            have hb2 : ¬ busyA a.2.1 := fun q => hb ((busy_up (show ¬ ((3 : Int32) = 1 ∨ (3 : Int32) = 2) by decide)).mpr ((busyX_of hni).mpr q))
            have hlt : a.1.1 < v := by
              rcases Int32.lt_or_le v a.1.1 with q | q
              · exact absurd (Or.inr (Or.inl q)) h3
              · exact Int32.lt_of_le_of_ne q (Ne.symm h4)
            have : ¬ lenT a = 60 := fun q => h3 (Or.inr (Or.inr (Or.inr ⟨hlt, hb2, q⟩)))
            show lenT a < 60
            omega
          obtain ⟨m', e, V', F⟩ := m_looks hroom I.2.2.1 VP
          rw [e, bd_some]
          refine ⟨_, m', D + 1, rfl, ?_, ?_, fun _ => ?_, Nat.le_refl _⟩
          · rw [F.1 31 (by omega) (by omega), gs_ss, if_neg (by omega)]; rfl
          · refine MV.plus V' (MVc.fl ?_ F)
            refine ⟨?_, fun x hx => ?_, fun x hx => ?_⟩
            · rw [gs_ss, if_neg (by omega)]; exact V2.2.2.2.1
            · simp only [ga_ss, ga_sa2]
              simp only [show ¬ (24 : Nat) = 3 by omega, show ¬ (24 : Nat) = 2 by omega, show ¬ (24 : Nat) = 1 by omega, show ¬ (25 : Nat) = 3 by omega, show ¬ (25 : Nat) = 2 by omega, show ¬ (25 : Nat) = 1 by omega, show ¬ (26 : Nat) = 3 by omega, show ¬ (26 : Nat) = 2 by omega, show ¬ (26 : Nat) = 1 by omega, show ¬ (27 : Nat) = 3 by omega, show ¬ (27 : Nat) = 2 by omega, show ¬ (27 : Nat) = 1 by omega, show ¬ (28 : Nat) = 3 by omega, show ¬ (28 : Nat) = 2 by omega, show ¬ (28 : Nat) = 1 by omega, show ¬ (29 : Nat) = 3 by omega, show ¬ (29 : Nat) = 2 by omega, show ¬ (29 : Nat) = 1 by omega, show ¬ (30 : Nat) = 3 by omega, show ¬ (30 : Nat) = 2 by omega, show ¬ (30 : Nat) = 1 by omega, false_and, if_false]
              exact V.2.2.2.2.1 x hx
            · simp only [ga_ss, ga_sa2]
              simp only [show ¬ (29 : Nat) = 3 by omega, show ¬ (29 : Nat) = 2 by omega, show ¬ (29 : Nat) = 1 by omega, show ¬ (30 : Nat) = 3 by omega, show ¬ (30 : Nat) = 2 by omega, show ¬ (30 : Nat) = 1 by omega, false_and, if_false]
              exact V.2.2.2.2.2 x hx
          · exact (V'.2.1.2 j hj).1
theorem bit01 (x : Int32) : x &&& 1 = 0 ↔ ¬ x &&& 1 = 1 := by
  obtain ⟨j, hj, e⟩ := pk_andE x (m := 1) 1 (by decide)
  rw [e]
  rcases (show j = 0 ∨ j = 1 by omega) with q | q <;> subst q <;> decide
theorem m_beginL {m : MS} {sc : Int32} {st : Nat → SA} (V : ∀ k, k < 3 → MVs m 6 k (st k)) : ∀ (n k : Nat) (b : Prop) [Decidable b], k ≤ 3 → 3 < n + k → x_X7_begin_L1 sc m 1 n (nI k) (if b ∧ ¬ ∃ q ∈ List.range k, inS sc (nI q) ∧ (st q).1 = 0 then 1 else 0) = some (if b ∧ ¬ ∃ q ∈ List.range 3, inS sc (nI q) ∧ (st q).1 = 0 then 1 else 0) := by
  intro n
  induction n with
  | zero => intro k b _ h1 h2; omega
  | succ n ih =>
    intro k b _ h1 h2
    rw [x_X7_begin_L1]
    have z := kx_ge (n := k) (d := 3) (D := 3) rfl (by omega) (by omega)
    by_cases hk : k < 3
    · have hr : vR (nI k) 3 := nI_in hk (by omega)
      rw [if_neg (fun q => by have := z.mp q; omega), if_neg q10, nI_1, ← ih (k + 1) b (by omega) (by omega)]
      simp only [if_pos hr, nI_clamp (show k < 2 ^ 31 by omega), (V k hk).1]
      have e := exR (P := fun q => inS sc (nI q) ∧ (st q).1 = 0) k
      by_cases hQ : b ∧ ¬ ∃ q ∈ List.range k, inS sc (nI q) ∧ (st q).1 = 0
      · rw [if_pos hQ, if_neg q10]
        by_cases c1 : inS sc (nI k)
        · rw [if_neg (fun q => (bit01 _).mp q c1)]
          by_cases c2 : (st k).1 = 0
          · rw [if_pos c2, l0_inr, l0_inl, bd_some, if_neg (fun q => q.2 (e.mpr (Or.inr ⟨c1, c2⟩)))]
          · rw [if_neg c2, l0_inl, l0_inr, bd_some, if_pos ⟨hQ.1, fun q => (e.mp q).elim hQ.2 (fun q => c2 q.2)⟩]
        · rw [if_pos ((bit01 _).mpr c1), l0_inl, l0_inr, bd_some, if_pos ⟨hQ.1, fun q => (e.mp q).elim hQ.2 (fun q => c1 q.1)⟩]
      · rw [if_neg hQ, if_pos q00, l0_inl, bd_some, if_neg (fun q => hQ ⟨q.1, fun z => q.2 (e.mpr (Or.inl z))⟩)]
    · have : k = 3 := by omega
      subst this
      rw [if_pos (z.mpr (by omega))]
theorem r_begin {m : MS} {D : Nat} {a : AS} (V : MV m D a) (I : IV a) (p sc u : Int32) (hu : isB u) : RO (x_X7_begin p sc u m) c3 D (begA p sc u a) := by
  have hn : lenT a ≤ 60 := I.2.2.1.1.1
  unfold x_X7_begin begA
  rw [m_isTab, m_isIn, bd_some, bd_some]
  by_cases h : oT p 4
  · by_cases h2 : rng sc 1 7
    · have e : x_X7_begin_L1 sc m 0 FU 0 0 = some 0 := by
        rw [show FU = 999 + 1 from rfl, x_X7_begin_L1, if_neg (by decide), if_pos q00]
      simp only [if_pos h, if_pos h2, e, bd_some, l0_inl, l0_inr, l1_inl, l1_inr, b2_some, bs_eq, if_neg q10, if_pos q00, if_neg q20, if_neg q30, if_pos q11, if_neg q01, if_pos isB0, if_pos isB1, if_true, if_false, f1]; exact RO.f V (by decide) rfl
    · have e := m_beginL (sc := sc) V.2.2.1.2.1 FU 0 False (by omega) (by show 3 < 1000 + 0; omega)
      rw [if_neg (fun q => q.1), if_neg (fun q => q.1), nI_0] at e
      simp only [if_pos h, if_neg h2, e, bd_some, l0_inl, l0_inr, l1_inl, l1_inr, b2_some, bs_eq, if_neg q10, if_pos q00, if_neg q20, if_neg q30, if_pos q11, if_neg q01, if_pos isB0, if_pos isB1, if_true, if_false, f1]; exact RO.f V (by decide) rfl
  · obtain ⟨j, hj, rfl, ej⟩ := oT_at h (by omega)
    have hr : vR (nI j) 4 := nI_in hj (by omega)
    by_cases h2 : rng sc 1 7
    · have e : x_X7_begin_L1 sc m 0 FU 0 1 = some 1 := by
        rw [show FU = 999 + 1 from rfl, x_X7_begin_L1, if_neg (by decide), if_pos q00]
      simp only [if_neg h, if_pos h2, e, bd_some, l0_inl, l0_inr, l1_inl, l1_inr, b2_some, bs_eq, if_neg q10, if_pos q00, if_neg q20, if_neg q30, if_pos q11, if_neg q01, if_pos isB0, if_pos isB1, if_true, if_false, f2]
      rw [if_neg (show ¬ (¬ rng sc 1 7 ∧ ∃ k ∈ List.range 3, inS sc (nI k) ∧ (a.2.2.1.2 k).1 = 0) from fun q => q.1 h2)]
      exact RO.f V (by decide) rfl
    · have e := m_beginL (sc := sc) V.2.2.1.2.1 FU 0 True (by omega) (by show 3 < 1000 + 0; omega)
      rw [if_pos ⟨trivial, by simp⟩, nI_0] at e
      by_cases h3 : ∃ k ∈ List.range 3, inS sc (nI k) ∧ (a.2.2.1.2 k).1 = 0
      · rw [if_neg (fun q => q.2 h3)] at e
        simp only [if_neg h, if_neg h2, e, bd_some, l0_inl, l0_inr, l1_inl, l1_inr, b2_some, bs_eq, if_neg q10, if_pos q00, if_neg q20, if_neg q30, if_pos q11, if_neg q01, if_pos isB0, if_pos isB1, if_true, if_false, f1]
        rw [if_pos (show (¬ rng sc 1 7 ∧ ∃ k ∈ List.range 3, inS sc (nI k) ∧ (a.2.2.1.2 k).1 = 0) from ⟨h2, h3⟩)]
        exact RO.f V (by decide) rfl
      · rw [if_pos ⟨trivial, h3⟩] at e
        have hno : ¬ (¬ rng sc 1 7 ∧ ∃ k ∈ List.range 3, inS sc (nI k) ∧ (a.2.2.1.2 k).1 = 0) := fun q => h3 q.2
        rw [if_neg h, if_neg hno]
        simp only [if_neg h, if_neg h2, e, bd_some, l0_inl, l0_inr, l1_inl, l1_inr, b2_some, bs_eq, if_neg q10, if_pos q00, if_neg q20, if_neg q30, if_pos q11, if_neg q01, if_pos isB0, if_pos isB1, if_true, if_false, if_pos hr, nI_clamp (show j < 2 ^ 31 by omega), (V.2.1.2 j hj).1, V.2.2.1.1.1]
        by_cases h4 : (a.2.1 j).1 = 1
        · by_cases h5 : lenT a = 60
          · rw [if_pos h4, if_pos ((n60 hn).mpr h5), if_pos (show (¬ (a.2.1 j).1 = 1 ∨ ¬ lenT a < 60) from Or.inr (by omega))]
            simp only [bd_some, l0_inl, l0_inr, l1_inl, l1_inr, b2_some, bs_eq, if_neg q10, if_pos q00, if_neg q20, if_neg q30, if_pos q11, if_neg q01, if_pos isB0, if_pos isB1, if_true, if_false, f3]; exact RO.f V (by decide) rfl
          · rw [if_pos h4, if_neg (fun q => h5 ((n60 hn).mp q)), if_neg (show ¬ (¬ (a.2.1 j).1 = 1 ∨ ¬ lenT a < 60) from fun q => q.elim (fun q => q h4) (fun q => q (by omega)))]
            simp only [bd_some, l0_inl, l0_inr, l1_inl, l1_inr, b2_some, bs_eq, if_neg q10, if_pos q00, if_neg q20, if_neg q30, if_pos q11, if_neg q01, if_pos isB0, if_pos isB1, if_true, if_false, f0]
            have V2 := V.t 0
            obtain ⟨m1, e1, V1, F1, k1⟩ := m_adds (show lenT a < 60 by omega) V2.2.2.1 j sc u hu
            rw [e1, b2_some]
            have hT : TSK (a.2.2.1.1 ++ [(j, sc, u, 0)], a.2.2.1.2) := I.2.2.1.add (show lenT a < 60 by omega) ⟨hj, hu⟩
            obtain ⟨m2, e2, V3, F2⟩ := m_goesOn hT V1
            rw [e2, b2_some]
            have F := F1.tr F2
            exact ⟨_, m2, D, rfl, by rw [F.1 31 (by omega)]; rfl, ⟨V2.1.fm F, V2.2.1.fm F, V3, V2.2.2.2.fm F⟩, fun _ => rfl, Nat.le_succ _⟩
        · rw [if_neg h4, if_pos (show (¬ (a.2.1 j).1 = 1 ∨ ¬ lenT a < 60) from Or.inl h4)]
          simp only [bd_some, l0_inl, l0_inr, l1_inl, l1_inr, b2_some, bs_eq, if_neg q10, if_pos q00, if_neg q20, if_neg q30, if_pos q11, if_neg q01, if_pos isB0, if_pos isB1, if_true, if_false, f3]; exact RO.f V (by decide) rfl
theorem r_commit {m : MS} {D : Nat} {a : AS} (V : MV m D a) (I : IV a) (t : Int32) : RO (x_X7_commit t m) c2 D (comA t a) := by
  have hn : lenT a ≤ 60 := I.2.2.1.1.1
  unfold x_X7_commit comA
  rw [m_isTransaction V.2.2.1.1.1 hn, bd_some]
  by_cases h : oX a t
  · simp only [if_pos h, bd_some, l0_inl, l0_inr, l1_inl, l1_inr, b2_some, bs_eq, if_neg q10, if_pos q00, if_neg q20, if_neg q30, if_pos q11, if_neg q01, if_pos isB0, if_pos isB1, if_true, if_false, f1]; exact RO.f V (by decide) rfl
  · obtain ⟨i, hi, rfl, ei⟩ := oT_at h (show lenT a < 2 ^ 31 by omega)
    have hr : vR (nI i) 60 := nI_in (by omega) (by omega)
    have et : txA a (nI i) = txAt a.2.2.1.1 i := by unfold txA; rw [ei]
    have x := V.2.2.1.1.2 i hi
    rw [if_neg h, et]
    simp only [if_neg h, if_neg q10, if_pos hr, nI_clamp (show i < 2 ^ 31 by omega), x]
    by_cases h1 : (txAt a.2.2.1.1 i).2.2.2 = 1
    · rw [if_neg (show ¬ ¬ (txAt a.2.2.1.1 i).2.2.2 = 1 from fun q => q h1)]
      simp only [if_pos h1, bd_some, l0_inl, l0_inr, l1_inl, l1_inr, b2_some, bs_eq, if_neg q10, if_pos q00, if_neg q20, if_neg q30, if_pos q11, if_neg q01, if_pos isB0, if_pos isB1, if_true, if_false, f0]
      have V2 := V.t 0
      have e5 : gs (sa (ss m 31 0) 22 i 2) 5 = a.1.2.1 := V2.1.2
      have VT := V2.2.2.1.setP 2 hi
      have hT : TSK (setP a.2.2.1.1 i 2, a.2.2.1.2) := ⟨I.2.2.1.1.setP 2 hi, I.2.2.1.2⟩
      have F0 : FM (ss m 31 0) (sa (ss m 31 0) 22 i 2) := FM.p
      rw [e5]
      by_cases h2 : nI i = a.1.2.1
      · have h4 := (I.2.2.1.1.2 _ (txAt_mem hi)).1
        have hr4 : vR (nI (txAt a.2.2.1.1 i).1) 4 := nI_in h4 (by omega)
        have hB : (a.2.1 (txAt a.2.2.1.1 i).1).1 = 2 := by
          rcases I.2.1 with ⟨q, _⟩ | ⟨u, hu, q, _, q2, _⟩
          · rw [q] at h2; exact absurd h2 (nI_m1 (by omega))
          · have hu2 : u < lenT a := hu
            rw [q] at h2
            have := (nI_eq (by omega) (by omega)).mp h2
            rw [this]; exact q2
        rw [if_pos h2, if_pos h2]
        have e19 : ga (ss (sa (ss m 31 0) 22 i 2) 5 (-1)) 19 i = nI (txAt a.2.2.1.1 i).1 := by rw [ga_ss, ga_sa2, if_neg (by omega)]; exact x.1
        have e2 : ga (ss (sa (ss m 31 0) 22 i 2) 5 (-1)) 2 (txAt a.2.2.1.1 i).1 = (a.2.1 (txAt a.2.2.1.1 i).1).2.1 := by rw [ga_ss, ga_sa2, if_neg (by omega)]; exact (V.2.1.2 _ h4).2.1 (Or.inl hB)
        simp only [e19, if_pos hr4, nI_clamp (show (txAt a.2.2.1.1 i).1 < 2 ^ 31 by omega), e2, ga_ss, bs_eq, bd_some]
        have Vt : MVt (sa (ss (ss (sa (ss m 31 0) 22 i 2) 5 (-1)) 0 (a.2.1 (txAt a.2.2.1.1 i).1).2.1) 1 (txAt a.2.2.1.1 i).1 1) D (upn a.2.1 (txAt a.2.2.1.1 i).1 (1, (a.2.1 (txAt a.2.2.1.1 i).1).2)) := MVt.cond ((V2.2.1.fm F0).off rfl (fun _ _ _ => rfl)) h4 (by decide) (fun q => absurd q (by decide))
        have VT1 : MVT (sa (ss (ss (sa (ss m 31 0) 22 i 2) 5 (-1)) 0 (a.2.1 (txAt a.2.2.1.1 i).1).2.1) 1 (txAt a.2.2.1.1 i).1 1) (setP a.2.2.1.1 i 2, a.2.2.1.2) := VT.off rfl (fun j y h1 h2 => by rw [ga_sa2, if_neg (by omega)]; rfl)
        obtain ⟨m2, e9, V3, F2⟩ := m_goesOn hT VT1
        rw [e9, b2_some]
        refine ⟨_, m2, D, rfl, ?_, ⟨?_, ?_, ?_, ?_⟩, fun _ => ?_, Nat.le_succ _⟩
        · rw [F2.1 31 (by omega)]; rfl
        · refine MVg.fm ⟨?_, ?_⟩ F2
          · rw [gs_sa, gs_ss, if_pos rfl]
          · rw [gs_sa, gs_ss, if_neg (by omega), gs_ss, if_pos rfl]
        · exact Vt.fm F2
        · exact V3
        · refine MVc.fm ?_ F2
          have Vc := V2.2.2.2.fm F0
          refine ⟨Vc.1, fun y hy => ?_, fun y hy => ?_⟩
          · exact Vc.2.1 y hy
          · exact Vc.2.2 y hy
        · rfl
      · rw [if_neg h2, if_neg h2, bd_some]
        obtain ⟨m2, e9, V3, F2⟩ := m_goesOn hT VT
        rw [e9, b2_some]
        have F := F0.tr F2
        refine ⟨_, m2, D, rfl, by rw [F.1 31 (by omega)]; rfl, ⟨V2.1.fm F, V2.2.1.fm F, ?_, V2.2.2.2.fm F⟩, fun _ => rfl, Nat.le_succ _⟩
        exact V3
    · rw [if_pos (show ¬ (txAt a.2.2.1.1 i).2.2.2 = 1 from h1)]
      simp only [if_neg h1, bd_some, l0_inl, l0_inr, l1_inl, l1_inr, b2_some, bs_eq, if_neg q10, if_pos q00, if_neg q20, if_neg q30, if_pos q11, if_neg q01, if_pos isB0, if_pos isB1, if_true, if_false, f2]; exact RO.f V (by decide) rfl
theorem r_abort {m : MS} {D : Nat} {a : AS} (V : MV m D a) (I : IV a) (t : Int32) : RO (x_X7_abort t m) c2 D (aboA t a) := by
  have hn : lenT a ≤ 60 := I.2.2.1.1.1
  unfold x_X7_abort aboA
  rw [m_isTransaction V.2.2.1.1.1 hn, bd_some]
  by_cases h : oX a t
  · simp only [if_pos h, bd_some, l0_inl, l0_inr, l1_inl, l1_inr, b2_some, bs_eq, if_neg q10, if_pos q00, if_neg q20, if_neg q30, if_pos q11, if_neg q01, if_pos isB0, if_pos isB1, if_true, if_false, f1]; exact RO.f V (by decide) rfl
  · obtain ⟨i, hi, rfl, ei⟩ := oT_at h (show lenT a < 2 ^ 31 by omega)
    have hr : vR (nI i) 60 := nI_in (by omega) (by omega)
    have et : txA a (nI i) = txAt a.2.2.1.1 i := by unfold txA; rw [ei]
    have x := V.2.2.1.1.2 i hi
    have h4 := (I.2.2.1.1.2 _ (txAt_mem hi)).1
    have hB : nI i = a.1.2.1 → (a.2.1 (txAt a.2.2.1.1 i).1).1 = 2 := by
      intro h2
      rcases I.2.1 with ⟨q, _⟩ | ⟨u, hu, q, _, q2, _⟩
      · rw [q] at h2; exact absurd h2 (nI_m1 (by omega))
      · have hu2 : u < lenT a := hu
        rw [q] at h2
        have := (nI_eq (by omega) (by omega)).mp h2
        rw [this]; exact q2
    rw [if_neg h, et]
    simp only [if_neg h, if_neg q10, m_isAlive hi hn V.2.2.1.1, bd_some, V.1.2, if_pos hr, nI_clamp (show i < 2 ^ 31 by omega), x.1, m_wouldBegin V.2.1 h4, V.1.1, V.2.2.1.1.1]
    have hlast : (l0 (if nI i = a.1.2.1 then if (if folA a.1.1 a.2.1 (txAt a.2.2.1.1 i).1 ∧ insA a.2.1 (txAt a.2.2.1.1 i).1 ∧ ¬ busyX a.2.1 (txAt a.2.2.1.1 i).1 then (1 : Int32) else 0) = 0 then some (.inl ()) else if nI a.2.2.1.1.length = 60 then some (.inr (.inl ())) else some (.inl ()) else some (.inl ())) (fun _ => some (.inr (1 : Int32))) : Option (Unit ⊕ Int32)) = some (if nI i = a.1.2.1 ∧ lateA a (txAt a.2.2.1.1 i).1 then .inl () else .inr 1) := by
      by_cases h2 : nI i = a.1.2.1
      · have hI : insA a.2.1 (txAt a.2.2.1.1 i).1 := Or.inr (hB h2)
        by_cases h3 : folA a.1.1 a.2.1 (txAt a.2.2.1.1 i).1 ∧ insA a.2.1 (txAt a.2.2.1.1 i).1 ∧ ¬ busyX a.2.1 (txAt a.2.2.1.1 i).1
        · by_cases h5 : lenT a = 60
          · rw [if_pos h2, if_pos h3, if_neg q10, if_pos ((n60 hn).mpr h5), l0_inr, if_pos ⟨h2, h5, h3.2.2, h3.1⟩]
          · rw [if_pos h2, if_pos h3, if_neg q10, if_neg (fun q => h5 ((n60 hn).mp q)), l0_inl, if_neg (fun q => h5 q.2.1)]
        · rw [if_pos h2, if_neg h3, if_pos q00, l0_inl, if_neg (fun q => h3 ⟨q.2.2.2, hI, q.2.2.1⟩)]
      · rw [if_neg h2, l0_inl, if_neg (fun q => h2 q.1)]
    rw [hlast]
    by_cases h1 : pendT (txAt a.2.2.1.1 i)
    · by_cases h2 : nI i = a.1.2.1 ∧ lateA a (txAt a.2.2.1.1 i).1
      · rw [if_pos (show ¬ pendT (txAt a.2.2.1.1 i) ∨ (nI i = a.1.2.1 ∧ lateA a (txAt a.2.2.1.1 i).1) from Or.inr h2)]
        simp only [if_pos h1, if_pos h2, bd_some, l0_inl, l0_inr, l1_inl, l1_inr, b2_some, bs_eq, if_neg q10, if_pos q00, if_neg q20, if_neg q30, if_pos q11, if_neg q01, if_pos isB0, if_pos isB1, if_true, if_false, f2]; exact RO.f V (by decide) rfl
      · rw [if_neg (show ¬ (¬ pendT (txAt a.2.2.1.1 i) ∨ (nI i = a.1.2.1 ∧ lateA a (txAt a.2.2.1.1 i).1)) from fun q => q.elim (fun q => q h1) h2)]
        simp only [if_pos h1, if_neg h2, bd_some, l0_inl, l0_inr, l1_inl, l1_inr, b2_some, bs_eq, if_neg q10, if_pos q00, if_neg q20, if_neg q30, if_pos q11, if_neg q01, if_pos isB0, if_pos isB1, if_true, if_false, f0]
        have V2 := V.t 0
        obtain ⟨m1, V3, F1, e1⟩ := m_aborts hi I.2.2.1 V2.2.2.1
        have e5 : gs (ss m 31 0) 5 = a.1.2.1 := V2.1.2
        rw [e5] at e1
        have hT := I.2.2.1.give hi
        have hT2 : TSK (goesA (giveA i a.2.2.1)).2 := TSK.go _ _ _ _ (by rw [Nat.zero_add]; exact Nat.le_refl _) hT
        by_cases h3 : nI i = a.1.2.1
        · rw [if_pos h3] at e1
          have VT1 : MVT (sa (ss m1 5 (-1)) 1 (txAt a.2.2.1.1 i).1 0) (giveA i a.2.2.1) := V3.off rfl (fun j y h1 h2 => by rw [ga_sa2, if_neg (by omega)]; rfl)
          have Vt1 : MVt (sa (ss m1 5 (-1)) 1 (txAt a.2.2.1.1 i).1 0) D (upn a.2.1 (txAt a.2.2.1.1 i).1 (0, (a.2.1 (txAt a.2.2.1.1 i).1).2)) := MVt.cond ((V2.2.1.fm F1).off rfl (fun _ _ _ => rfl)) h4 (by decide) (fun q => absurd q (by decide))
          have Vg1 : MVg (sa (ss m1 5 (-1)) 1 (txAt a.2.2.1.1 i).1 0) (a.1.1, -1, a.1.2.2) := ⟨(F1.1 0 (by omega)).trans V2.1.1, by rw [gs_sa, gs_ss, if_pos rfl]⟩
          obtain ⟨m2, e2, VT2, F2⟩ := m_goesOn hT VT1
          have VP : MVP m2 D ((a.1.1, -1, a.1.2.2), upn a.2.1 (txAt a.2.2.1.1 i).1 (0, (a.2.1 (txAt a.2.2.1.1 i).1).2), (goesA (giveA i a.2.2.1)).2) := ⟨Vg1.fm F2, Vt1.fm F2, VT2⟩
          have hroom : roomA ((a.1.1, -1, a.1.2.2), upn a.2.1 (txAt a.2.2.1.1 i).1 (0, (a.2.1 (txAt a.2.2.1.1 i).1).2), (goesA (giveA i a.2.2.1)).2) := by
            intro hb hf
            have hb2 : ¬ busyX a.2.1 (txAt a.2.2.1.1 i).1 := fun q => hb ((busy_up (show ¬ ((0 : Int32) = 1 ∨ (0 : Int32) = 2) by decide)).mpr q)
            obtain ⟨j, hj, j3, jw⟩ := hf
            have j3' : (upn a.2.1 (txAt a.2.2.1.1 i).1 (0, (a.2.1 (txAt a.2.2.1.1 i).1).2) j).1 = 3 := j3
            have jw' : a.1.1 < (upn a.2.1 (txAt a.2.2.1.1 i).1 (0, (a.2.1 (txAt a.2.2.1.1 i).1).2) j).2.1 := jw
            have hje : j ≠ (txAt a.2.2.1.1 i).1 := by
              intro e
              rw [e, upn_s] at j3'
              exact absurd (show (0 : Int32) = 3 from j3') (by decide)
            rw [upn_n _ _ hje] at j3' jw'
            have hf2 : folA a.1.1 a.2.1 (txAt a.2.2.1.1 i).1 := ⟨j, List.mem_range.mpr hj, hje, j3', jw'⟩
            have : ¬ lenT a = 60 := fun q => h2 ⟨h3, q, hb2, hf2⟩
            show (goA _ _ _ _).2.1.length < 60
            rw [go_len, give_len]
            show lenT a < 60
            omega
          obtain ⟨m3, e3, VP3, F3⟩ := m_looks hroom hT2 VP
          rw [e1, bd_some, e2, b2_some, e3, bd_some, if_pos h3]
          refine ⟨_, m3, D, rfl, ?_, MV.plus VP3 (MVc.fl (MVc.fm ?_ F2) F3), fun _ => rfl, Nat.le_succ _⟩
          · rw [F3.1 31 (by omega) (by omega), F2.1 31 (by omega)]
            rw [gs_sa, gs_ss, if_neg (by omega), F1.1 31 (by omega)]; rfl
          · have Vc := V2.2.2.2.fm F1
            exact ⟨Vc.1, fun y hy => Vc.2.1 y hy, fun y hy => Vc.2.2 y hy⟩
        · rw [if_neg h3] at e1
          obtain ⟨m2, e2, VT2, F2⟩ := m_goesOn hT V3
          have F := F1.tr F2
          have VP : MVP m2 D (a.1, a.2.1, (goesA (giveA i a.2.2.1)).2) := ⟨V2.1.fm F, V2.2.1.fm F, VT2⟩
          obtain ⟨m3, e3, VP3, F3⟩ := m_looks (room_id (n := a.1.2.2) I.1) hT2 VP
          rw [looks_id (n := a.1.2.2) I.1] at VP3
          rw [e1, bd_some, e2, b2_some, e3, bd_some, if_neg h3]
          refine ⟨_, m3, D, rfl, ?_, ⟨VP3.1, VP3.2.1, VP3.2.2, MVc.fl (MVc.fm V2.2.2.2 F) F3⟩, fun _ => rfl, Nat.le_succ _⟩
          rw [F3.1 31 (by omega) (by omega), F.1 31 (by omega)]; rfl
    · rw [if_pos (show ¬ pendT (txAt a.2.2.1.1 i) ∨ (nI i = a.1.2.1 ∧ lateA a (txAt a.2.2.1.1 i).1) from Or.inl h1)]
      simp only [if_neg h1, bd_some, l0_inl, l0_inr, l1_inl, l1_inr, b2_some, bs_eq, if_neg q10, if_pos q00, if_neg q20, if_neg q30, if_pos q11, if_neg q01, if_pos isB0, if_pos isB1, if_true, if_false, f2]; exact RO.f V (by decide) rfl
/-- the closing tab's transactions, from the last one on: u is the upgrade, if it is one of them -/
def clS (m : MS) (D : Nat) (g : Int32 × Int32 × Int32) (B : TQ) (p k : Nat) (ts : List TX) : Prop :=
  (MVg m g ∧ MVt m D B ∧ ∀ i, g.2.1 = nI i → i < ts.length → (txAt ts i).1 = p → i < k) ∨ ((B p).1 = 2 ∧ MVg m (g.1, -1, g.2.2) ∧ MVt m D (upn B p (0, (B p).2)))
theorem give_at {i j : Nat} {T : TS} (h : j ≠ i) : txAt (giveA i T).1 j = txAt T.1 j := setP_n 3 h
theorem give_tab {i j : Nat} {T : TS} (hi : i < T.1.length) : (txAt (giveA i T).1 j).1 = (txAt T.1 j).1 := by
  by_cases h : j = i
  · subst h; show (txAt (setP T.1 j 3) j).1 = _; rw [setP_s 3 hi]
  · rw [give_at h]
theorem close_len (p : Nat) : ∀ (k : Nat) (T : TS), (closeA p k T).1.length = T.1.length := by
  intro k
  induction k with
  | zero => intro T; rfl
  | succ k ih =>
    intro T
    rw [closeA, ih]
    split
    · exact give_len _ _
    · rfl
theorem TSK.close (p : Nat) : ∀ (k : Nat) (T : TS), k ≤ T.1.length → TSK T → TSK (closeA p k T) := by
  intro k
  induction k with
  | zero => intro T _ h; exact h
  | succ k ih =>
    intro T hk h
    rw [closeA]
    split
    · exact ih _ (by rw [give_len]; omega) (h.give (by omega))
    · exact ih _ (by omega) h
theorem m_closeL {p : Nat} (hp : p < 4) {g : Int32 × Int32 × Int32} {B : TQ} {D : Nat} : ∀ (n k : Nat) (T : TS) (m : MS), k < n → k ≤ T.1.length → TSK T → MVT m T → clS m D g B p k T.1 → (∀ i, g.2.1 = nI i → i < T.1.length → (txAt T.1 i).1 = p → i < k → pendT (txAt T.1 i) ∧ (B p).1 = 2) →
    ∃ m', x_X7_close_L1 (nI p) n (nI k + (-1)) m = some m' ∧ MVT m' (closeA p k T) ∧ clS m' D g B p 0 T.1 ∧ (∀ j, j ≠ 18 → j ≠ 5 → gs m' j = gs m j) ∧ ∀ j x, 23 ≤ j → ga m' j x = ga m j x := by
  intro n
  induction n with
  | zero => intro k T m h; omega
  | succ n ih =>
    intro k T m hn hk hT V hc hu
    rw [x_X7_close_L1]
    have h60 := hT.1.1
    cases k with
    | zero =>
      exact ⟨m, by rw [if_pos (show nI 0 + (-1) < 0 by decide)], V, hc, fun _ _ _ => rfl, fun _ _ _ => rfl⟩
    | succ k =>
      have hr : vR (nI k) 60 := nI_in (by omega) (by omega)
      have hkl : k < T.1.length := by omega
      have x := V.1.2 k hkl
      have h4 := (hT.1.2 _ (txAt_mem hkl)).1
      rw [pk_m1, if_neg (nI_pos (by omega))]
      simp only [if_pos hr, nI_clamp (show k < 2 ^ 31 by omega), x.1, m_isAlive hkl h60 V.1, bd_some]
      rw [closeA]
      by_cases c1 : (txAt T.1 k).1 = p
      · by_cases c2 : pendT (txAt T.1 k)
        · obtain ⟨m1, V1, F1, e1⟩ := m_aborts hkl hT V
          rw [if_pos (by rw [c1]), if_pos c2, if_neg q10, if_pos (show (txAt T.1 k).1 = p ∧ pendT (txAt T.1 k) from ⟨c1, c2⟩)]
          by_cases c3 : nI k = gs m 5
          · rw [if_pos c3, c1] at e1
            have VT1 : MVT (sa (ss m1 5 (-1)) 1 p 0) (giveA k T) := V1.off rfl (fun j y h1 h2 => by rw [ga_sa2, if_neg (by omega)]; rfl)
            have hm1 : MVg m g ∧ MVt m D B := by
              rcases hc with q | ⟨_, q, _⟩
              · exact ⟨q.1, q.2.1⟩
              · have : gs m 5 = -1 := q.2
                rw [this] at c3; exact absurd c3 (nI_m1 (by omega))
            have hg : g.2.1 = nI k := by rw [← hm1.1.2]; exact c3.symm
            have hB := (hu k hg hkl c1 (Nat.lt_succ_self k)).2
            have hc1 : clS (sa (ss m1 5 (-1)) 1 p 0) D g B p k (giveA k T).1 := Or.inr ⟨hB, ⟨(F1.1 0 (by omega)).trans hm1.1.1, by rw [gs_sa, gs_ss, if_pos rfl]⟩, MVt.cond ((hm1.2.fm F1).off rfl (fun _ _ _ => rfl)) hp (by decide) (fun q => absurd q (by decide))⟩
            obtain ⟨m2, e2, V2, C2, G2, A2⟩ := ih k (giveA k T) _ (by omega) (by rw [give_len]; omega) (hT.give hkl) VT1 hc1 (fun i q1 q2 q3 q4 => by
              have : nI i = nI k := q1.symm.trans hg
              have := (nI_eq (by omega) (by omega)).mp this
              omega)
            refine ⟨m2, by rw [e1, bd_some, bd_some]; exact e2, V2, ?_, fun j h1 h2 => ?_, fun j y h1 => ?_⟩
            · rcases C2 with q | q
              · refine Or.inl ⟨q.1, q.2.1, fun i q1 q2 q3 => q.2.2 i q1 (by rw [give_len]; exact q2) (by rw [give_tab hkl]; exact q3)⟩
              · exact Or.inr q
            · rw [G2 j h1 h2]
              rw [gs_sa, gs_ss, if_neg h2, F1.1 j h1]
            · rw [A2 j y h1, ga_sa2, if_neg (by omega)]
              exact F1.2 j y (by omega)
          · rw [if_neg c3] at e1
            have hc1 : clS m1 D g B p k (giveA k T).1 := by
              rcases hc with q | q
              · refine Or.inl ⟨q.1.fm F1, q.2.1.fm F1, fun i q1 q2 q3 => ?_⟩
                rw [give_len] at q2
                rw [give_tab hkl] at q3
                have h9 := q.2.2 i q1 q2 q3
                have : i ≠ k := fun e => c3 (by rw [q.1.2, q1, e])
                omega
              · exact Or.inr ⟨q.1, q.2.1.fm F1, q.2.2.fm F1⟩
            obtain ⟨m2, e2, V2, C2, G2, A2⟩ := ih k (giveA k T) m1 (by omega) (by rw [give_len]; omega) (hT.give hkl) V1 hc1 (fun i q1 q2 q3 q4 => by
              rw [give_len] at q2
              rw [give_tab hkl] at q3
              rw [give_at (by omega)]
              exact hu i q1 q2 q3 (by omega))
            refine ⟨m2, by rw [e1, bd_some, bd_some]; exact e2, V2, ?_, fun j h1 h2 => (G2 j h1 h2).trans (F1.1 j h1), fun j y h1 => (A2 j y h1).trans (F1.2 j y (by omega))⟩
            rcases C2 with q | q
            · exact Or.inl ⟨q.1, q.2.1, fun i q1 q2 q3 => q.2.2 i q1 (by rw [give_len]; exact q2) (by rw [give_tab hkl]; exact q3)⟩
            · exact Or.inr q
        · rw [if_pos (by rw [c1]), if_neg c2, if_pos q00, bd_some, if_neg (show ¬ ((txAt T.1 k).1 = p ∧ pendT (txAt T.1 k)) from fun q => c2 q.2)]
          refine ih k T m (by omega) (by omega) hT V ?_ (fun i q1 q2 q3 q4 => hu i q1 q2 q3 (by omega))
          rcases hc with q | q
          · refine Or.inl ⟨q.1, q.2.1, fun i q1 q2 q3 => ?_⟩
            have h9 := q.2.2 i q1 q2 q3
            have : i ≠ k := fun e => c2 (e ▸ (hu i q1 q2 q3 h9).1)
            omega
          · exact Or.inr q
      · have hne : ¬ nI (txAt T.1 k).1 = nI p := fun q => c1 ((nI_eq (by omega) (by omega)).mp q)
        rw [if_neg hne, bd_some, if_neg (show ¬ ((txAt T.1 k).1 = p ∧ pendT (txAt T.1 k)) from fun q => c1 q.1)]
        refine ih k T m (by omega) (by omega) hT V ?_ (fun i q1 q2 q3 q4 => hu i q1 q2 q3 (by omega))
        rcases hc with q | q
        · refine Or.inl ⟨q.1, q.2.1, fun i q1 q2 q3 => ?_⟩
          have h9 := q.2.2 i q1 q2 q3
          have : i ≠ k := fun e => c1 (e ▸ q3)
          omega
        · exact Or.inr q
theorem r_close {m : MS} {D : Nat} {a : AS} (V : MV m D a) (I : IV a) (p : Int32) : RO (x_X7_close p m) c2 D (closA p a) := by
  have hn : lenT a ≤ 60 := I.2.2.1.1.1
  unfold x_X7_close closA
  rw [m_isTab, bd_some]
  by_cases h : oT p 4
  · simp only [if_pos h, bd_some, l0_inl, l0_inr, l1_inl, l1_inr, b2_some, bs_eq, if_neg q10, if_pos q00, if_neg q20, if_neg q30, if_pos q11, if_neg q01, if_pos isB0, if_pos isB1, if_true, if_false, f1]; exact RO.f V (by decide) rfl
  · obtain ⟨j, hj, rfl, ej⟩ := oT_at h (by omega)
    have hr : vR (nI j) 4 := nI_in hj (by omega)
    rw [if_neg h]
    simp only [if_neg h, if_neg q10, if_pos hr, nI_clamp (show j < 2 ^ 31 by omega), (V.2.1.2 j hj).1, m_wouldBegin V.2.1 hj, bd_some, V.1.1, V.2.2.1.1.1]
    have hcode : (l0 (if (a.2.1 j).1 = 0 then some (.inl ()) else l0 (if (if folA a.1.1 a.2.1 j ∧ insA a.2.1 j ∧ ¬ busyX a.2.1 j then (1 : Int32) else 0) = 0 then some (.inl ()) else if nI a.2.2.1.1.length = 60 then some (.inr (.inl ())) else some (.inl ())) (fun _ => some (.inr (0 : Int32)))) (fun _ => some (2 : Int32)) : Option Int32) = some (if (a.2.1 j).1 = 0 ∨ lateA a j then 2 else 0) := by
      by_cases h1 : (a.2.1 j).1 = 0
      · rw [if_pos h1, l0_inl, if_pos (Or.inl h1)]
      · by_cases h3 : folA a.1.1 a.2.1 j ∧ insA a.2.1 j ∧ ¬ busyX a.2.1 j
        · by_cases h5 : lenT a = 60
          · rw [if_neg h1, if_pos h3, if_neg q10, if_pos ((n60 hn).mpr h5), l0_inr, l0_inl, if_pos (Or.inr ⟨h5, h3.2.2, h3.1⟩)]
          · rw [if_neg h1, if_pos h3, if_neg q10, if_neg (fun q => h5 ((n60 hn).mp q)), l0_inl, l0_inr, if_neg (fun q => q.elim h1 (fun q => h5 q.1))]
        · rw [if_neg h1, if_neg h3, if_pos q00, l0_inl, l0_inr, if_neg (fun q => q.elim h1 (fun q => h3 ⟨q.2.2, late_ins I hj h1 q, q.2.1⟩))]
    rw [hcode]
    by_cases h1 : (a.2.1 j).1 = 0 ∨ lateA a j
    · simp only [if_pos h1, bd_some, l0_inl, l0_inr, l1_inl, l1_inr, b2_some, bs_eq, if_neg q10, if_pos q00, if_neg q20, if_neg q30, if_pos q11, if_neg q01, if_pos isB0, if_pos isB1, if_true, if_false, f2]; exact RO.f V (by decide) rfl
    · rw [if_neg h1, if_neg h1]
      simp only [bd_some, l0_inl, l0_inr, l1_inl, l1_inr, b2_some, bs_eq, if_neg q10, if_pos q00, if_neg q20, if_neg q30, if_pos q11, if_neg q01, if_pos isB0, if_pos isB1, if_true, if_false, f0]
      have V2 := V.t 0
      have e18 : gs (ss m 31 0) 18 = nI (lenT a) := V2.2.2.1.1.1
      have e1j : ga (ss m 31 0) 1 j = (a.2.1 j).1 := (V2.2.1.2 j hj).1
      rw [e18, Int32.sub_eq_add_neg, e1j]
      have hC : clS (ss m 31 0) D a.1 a.2.1 j (lenT a) a.2.2.1.1 := Or.inl ⟨V2.1, V2.2.1, fun i _ q _ => q⟩
      have hU : ∀ i, a.1.2.1 = nI i → i < a.2.2.1.1.length → (txAt a.2.2.1.1 i).1 = j → i < lenT a → pendT (txAt a.2.2.1.1 i) ∧ (a.2.1 j).1 = 2 := by
        intro i q1 q2 q3 q4
        rcases I.2.1 with ⟨q, _⟩ | ⟨u, hu, q, qp, q5, _⟩
        · rw [q1] at q; exact absurd q (nI_m1 (by omega))
        · have hu2 : u < lenT a := hu
          rw [q1] at q
          have e := (nI_eq (by omega) (by omega)).mp q
          subst e
          exact ⟨Or.inr qp, by rw [← q3]; exact q5⟩
      obtain ⟨m1, e1, V3, C3, G3, A3⟩ := m_closeL hj FU (lenT a) a.2.2.1 (ss m 31 0) (by show lenT a < 1000; omega) (Nat.le_refl _) I.2.2.1 V2.2.2.1 hC hU
      rw [show -(1 : Int32) = (-1) from rfl, e1, bd_some]
      have hT := TSK.close j (lenT a) a.2.2.1 (Nat.le_refl _) I.2.2.1
      have hT2 : TSK (goesA (closeA j (lenT a) a.2.2.1)).2 := TSK.go _ _ _ _ (by rw [Nat.zero_add]; exact Nat.le_refl _) hT
      have VT1 : MVT (sa m1 1 j 0) (closeA j (lenT a) a.2.2.1) := V3.off rfl (fun x y h1 h2 => by rw [ga_sa2, if_neg (by omega)])
      have hgt : MVg (sa m1 1 j 0) (a.1.1, (if (a.2.1 j).1 = 2 then -1 else a.1.2.1), a.1.2.2) ∧ MVt (sa m1 1 j 0) D (upn a.2.1 j (0, (a.2.1 j).2)) := by
        rcases C3 with ⟨q1, q2, q3⟩ | ⟨q1, q2, q3⟩
        · have hn2 : ¬ (a.2.1 j).1 = 2 := by
            intro q
            rcases I.2.1 with ⟨_, z⟩ | ⟨u, hu, z, _, _, z2⟩
            · exact z j hj q
            · exact absurd (q3 u z hu (z2 j hj q).symm) (Nat.not_lt_zero u)
          rw [if_neg hn2]
          exact ⟨⟨q1.1, q1.2⟩, q2.cond hj (by decide) (fun q => absurd q (by decide))⟩
        · rw [if_pos q1]
          refine ⟨⟨q2.1, q2.2⟩, ?_⟩
          have := q3.cond hj (v := 0) (by decide) (fun q => absurd q (by decide))
          have e : upn (upn a.2.1 j (0, (a.2.1 j).2)) j (0, (upn a.2.1 j (0, (a.2.1 j).2) j).2) = upn a.2.1 j (0, (a.2.1 j).2) := by
            funext y
            by_cases hy : y = j
            · subst hy; rw [upn_s, upn_s]
            · rw [upn_n _ _ hy]
          rw [e] at this
          exact this
      obtain ⟨m2, e2, VT2, F2⟩ := m_goesOn hT VT1
      have VP : MVP m2 D ((a.1.1, (if (a.2.1 j).1 = 2 then -1 else a.1.2.1), a.1.2.2), upn a.2.1 j (0, (a.2.1 j).2), (goesA (closeA j (lenT a) a.2.2.1)).2) := ⟨hgt.1.fm F2, hgt.2.fm F2, VT2⟩
      have hroom : roomA ((a.1.1, (if (a.2.1 j).1 = 2 then -1 else a.1.2.1), a.1.2.2), upn a.2.1 j (0, (a.2.1 j).2), (goesA (closeA j (lenT a) a.2.2.1)).2) := by
        intro hb hf
        have hb2 : ¬ busyX a.2.1 j := fun q => hb ((busy_up (show ¬ ((0 : Int32) = 1 ∨ (0 : Int32) = 2) by decide)).mpr q)
        obtain ⟨i, hi, j3, jw⟩ := hf
        have j3' : (upn a.2.1 j (0, (a.2.1 j).2) i).1 = 3 := j3
        have jw' : a.1.1 < (upn a.2.1 j (0, (a.2.1 j).2) i).2.1 := jw
        have hje : i ≠ j := by
          intro e
          rw [e, upn_s] at j3'
          exact absurd (show (0 : Int32) = 3 from j3') (by decide)
        rw [upn_n _ _ hje] at j3' jw'
        have : ¬ lenT a = 60 := fun q => h1 (Or.inr ⟨q, hb2, i, List.mem_range.mpr hi, hje, j3', jw'⟩)
        show (goA _ _ _ _).2.1.length < 60
        rw [go_len, close_len]
        show lenT a < 60
        omega
      obtain ⟨m3, e3, VP3, F3⟩ := m_looks hroom hT2 VP
      rw [e2, b2_some, e3, bd_some]
      refine ⟨_, m3, D, rfl, ?_, MV.plus VP3 (MVc.fl (MVc.fm ?_ F2) F3), fun _ => rfl, Nat.le_succ _⟩
      · rw [F3.1 31 (by omega) (by omega), F2.1 31 (by omega)]
        show gs m1 31 = _
        rw [G3 31 (by omega) (by omega)]; rfl
      · have Vc := V2.2.2.2
        refine ⟨(G3 23 (by omega) (by omega)).trans Vc.1, fun y hy => ?_, fun y hy => ?_⟩
        · have k9 : ∀ x y, 23 ≤ x → ga (sa m1 1 j 0) x y = ga (ss m 31 0) x y := fun x y hx => by rw [ga_sa2, if_neg (by omega)]; exact A3 x y hx
          rw [k9 24 y (by omega), k9 25 y (by omega), k9 26 y (by omega), k9 27 y (by omega), k9 28 y (by omega), k9 29 y (by omega), k9 30 y (by omega)]
          exact Vc.2.1 y hy
        · have k9 : ∀ x y, 23 ≤ x → ga (sa m1 1 j 0) x y = ga (ss m 31 0) x y := fun x y hx => by rw [ga_sa2, if_neg (by omega)]; exact A3 x y hx
          rw [k9 29 y (by omega), k9 30 y (by omega)]
          exact Vc.2.2 y hy
