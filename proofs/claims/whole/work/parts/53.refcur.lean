/-! ===== PURE: the reference's cursors step and update ===== -/
def bestI (k : Nat) (xs : List RW) (b : Option RW) (v : Int32) : Prop := (b = none ∧ v = -1) ∨ ∃ p, p < xs.length ∧ b = some (rwD xs p) ∧ v = nI (40 * k + p)
theorem bF_n {P : RW → Bool} {lt : RW → RW → Bool} {r : RW} (h : P r = true) : bestF P lt none r = some r := if_pos h
theorem bF_s {P : RW → Bool} {lt : RW → RW → Bool} {r q : RW} (h : P r = true) (h2 : lt r q = true) : bestF P lt (some q) r = some r := if_pos (by rw [h, h2]; rfl)
theorem bF_o {P : RW → Bool} {lt : RW → RW → Bool} {r q : RW} (h2 : ¬ lt r q = true) : bestF P lt (some q) r = some q := if_neg (fun z => h2 (by rw [Bool.and_eq_true] at z; exact z.2))
theorem bF_z {P : RW → Bool} {lt : RW → RW → Bool} {r : RW} {b : Option RW} (h : ¬ P r = true) : bestF P lt b r = b := by
  cases b with
  | none => exact if_neg h
  | some q => exact if_neg (fun z => h (by rw [Bool.and_eq_true] at z; exact z.1))
theorem m_stepL {m : MS} {cs : List CU} {ts : List TX} {ci k : Nat} {s : SA} (hk : k < 3) (hn : cs.length ≤ 40) (hS : SOK s) (Vc : MVc m cs) (hi : ci < cs.length) (hc : COK ts (cuAt cs ci)) (ek : (cuAt cs ci).2.1 = k) (V : MVs m 6 k s) : ∀ (n i : Nat) (b : Option RW) (v : Int32), s.2.2.2.length < n + i → i ≤ s.2.2.2.length → bestI k s.2.2.2 b v → ∃ v', x_X7_step_L1 (nI ci) m n (nI (40 * k + i)) v = some v' ∧ bestI k s.2.2.2 ((s.2.2.2.drop i).foldl (bestF (behR (cuAt cs ci)) (sooR (cuAt cs ci))) b) v' := by
  have hl := hS.2.2.1
  intro n
  induction n with
  | zero => intro i b v h1 h2; omega
  | succ n ih =>
    intro i b v h1 h2 hb
    have hr : vR (nI ci) 40 := nI_in (by omega) (by omega)
    have hr3 : vR (nI k) 3 := nI_in hk (by omega)
    have e25 : ga m 25 ci = nI k := by rw [(Vc.2.1 ci hi).2.1, ek]
    rw [x_X7_step_L1]
    simp only [if_pos hr, nI_clamp (show ci < 2 ^ 31 by omega), e25, if_pos hr3, nI_clamp (show k < 2 ^ 31 by omega), V.2.1, n40, nI_add]
    by_cases hp : i < s.2.2.2.length
    · rw [if_neg (nI_ge (by omega) (by omega)), m_isBehind hk hn hS Vc hi hc V hp, bd_some, nI_1, Nat.add_assoc, List.drop_eq_getElem_cons hp, List.foldl_cons, ← rwD_get hp]
      by_cases h3 : behR (cuAt cs ci) (rwD s.2.2.2 i) = true
      · rw [if_pos h3, if_neg q10]
        rcases hb with ⟨rfl, rfl⟩ | ⟨p, hp2, rfl, rfl⟩
        · rw [if_pos rfl, l0_inl, l0_inr, bd_some]
          refine ih (i + 1) _ _ (by omega) (by omega) (Or.inr ⟨i, hp, ?_, rfl⟩)
          exact bF_n h3
        · rw [if_neg (show ¬ nI (40 * k + p) = -1 from nI_m1 (by omega)), m_isSooner hk hn hS Vc hi hc V hp hp2, bd_some]
          by_cases h4 : sooR (cuAt cs ci) (rwD s.2.2.2 i) (rwD s.2.2.2 p) = true
          · rw [if_pos h4, if_neg q10, l0_inl, l0_inr, bd_some]
            refine ih (i + 1) _ _ (by omega) (by omega) (Or.inr ⟨i, hp, ?_, rfl⟩)
            exact bF_s h3 h4
          · rw [if_neg h4, if_pos q00, l0_inr, l0_inl, bd_some]
            refine ih (i + 1) _ _ (by omega) (by omega) (Or.inr ⟨p, hp2, ?_, rfl⟩)
            exact bF_o h4
      · rw [if_neg h3, if_pos q00, l0_inl, bd_some]
        refine ih (i + 1) _ _ (by omega) (by omega) ?_
        rcases hb with ⟨rfl, rfl⟩ | ⟨p, hp2, rfl, rfl⟩
        · exact Or.inl ⟨bF_z h3, rfl⟩
        · exact Or.inr ⟨p, hp2, bF_z h3, rfl⟩
    · rw [if_pos (nI_le (by omega) (by omega)), List.drop_eq_nil_of_le (by omega)]
      exact ⟨v, rfl, hb⟩
theorem MVc.set {m m' : MS} {cs : List CU} {i : Nat} {c : CU} (V : MVc m cs) (hi : i < cs.length) (h23 : gs m' 23 = gs m 23) (ho : ∀ j x, 24 ≤ j → j ≤ 30 → x ≠ i → ga m' j x = ga m j x) (hc : ga m' 24 i = nI c.1 ∧ ga m' 25 i = nI c.2.1 ∧ ga m' 26 i = c.2.2.1 ∧ ga m' 27 i = c.2.2.2.1 ∧ ga m' 28 i = c.2.2.2.2.1 ∧ ga m' 29 i = c.2.2.2.2.2.1 ∧ ga m' 30 i = c.2.2.2.2.2.2) : MVc m' (cs.set i c) := by
  refine ⟨by rw [List.length_set]; exact h23.trans V.1, fun j hj => ?_, fun j hj => ?_⟩
  · rw [List.length_set] at hj
    rw [cuAt_set c hi j]
    by_cases e : j = i
    · subst e; rw [if_pos rfl]; exact hc
    · rw [if_neg e, ho 24 j (by omega) (by omega) e, ho 25 j (by omega) (by omega) e, ho 26 j (by omega) (by omega) e, ho 27 j (by omega) (by omega) e, ho 28 j (by omega) (by omega) e, ho 29 j (by omega) (by omega) e, ho 30 j (by omega) (by omega) e]
      exact V.2.1 j hj
  · rw [List.length_set] at hj
    rw [ho 29 j (by omega) (by omega) (by omega), ho 30 j (by omega) (by omega) (by omega)]
    exact V.2.2 j hj
theorem r_step {m : MS} {D : Nat} {a : AS} (V : MV m D a) (I : IV a) (ci : Int32) : RO (x_X7_step ci m) c2 D (steA ci a) := by
  have hn : lenT a ≤ 60 := I.2.2.1.1.1
  have hnc := I.2.2.2.1
  have Vc := V.2.2.2
  unfold x_X7_step steA
  rw [m_isCursor Vc.1 hnc, bd_some]
  by_cases h : oT ci a.2.2.2.length
  · simp only [if_pos h, bd_some, l0_inl, l0_inr, l1_inl, l1_inr, b2_some, bs_eq, if_neg q10, if_pos q00, if_neg q20, if_neg q30, if_pos q11, if_neg q01, if_pos isB0, if_pos isB1, if_true, if_false, f1]; exact RO.f V (by decide) rfl
  · obtain ⟨i, hi, rfl, ei⟩ := oT_at h (by omega)
    have hc := I.2.2.2.2 _ (cuAt_mem hi)
    rw [if_neg h]
    simp only [if_neg h, ei]
    have x := Vc.2.1 i hi
    have hcc := id hc
    obtain ⟨c1, c2', c3', cf, cd, cph, cnum, ckey⟩ := hcc
    have c1z : (cuAt a.2.2.2 i).1 < lenT a := c1
    have hr : vR (nI i) 40 := nI_in (by omega) (by omega)
    have hrt : vR (nI (cuAt a.2.2.2 i).1) 60 := nI_in (by omega) (by omega)
    have hrk : vR (nI (cuAt a.2.2.2 i).2.1) 3 := nI_in c2' (by omega)
    have y := V.2.2.1.1.2 _ c1
    have z := V.2.2.1.2.1 _ c2'
    simp only [if_neg q10, if_pos hr, nI_clamp (show i < 2 ^ 31 by omega), x, if_pos hrt, if_pos hrk, nI_clamp (show (cuAt a.2.2.2 i).1 < 2 ^ 31 by omega), nI_clamp (show (cuAt a.2.2.2 i).2.1 < 2 ^ 31 by omega), y, z.1]
    have hph2 : (2 : Int32) ≤ (cuAt a.2.2.2 i).2.2.2.2.1 ↔ (cuAt a.2.2.2 i).2.2.2.2.1 = 2 := by
      rcases cph with q | q | q <;> rw [q] <;> decide
    by_cases h1 : (txAt a.2.2.1.1 (cuAt a.2.2.2 i).1).2.2.2 = 1
    · by_cases h2 : (a.2.2.1.2 (cuAt a.2.2.2 i).2.1).1 = 0
      · simp only [if_pos h1, if_pos h2, bd_some, l0_inl, l0_inr, l1_inl, l1_inr, b2_some, bs_eq, if_neg q10, if_pos q00, if_neg q20, if_neg q30, if_pos q11, if_neg q01, if_pos isB0, if_pos isB1, if_true, if_false, f2]
        rw [if_pos (Or.inr (Or.inl h2))]
        exact RO.f V (by decide) rfl
      · by_cases h3 : (cuAt a.2.2.2 i).2.2.2.2.1 = 2
        · simp only [if_pos h1, if_neg h2, if_pos (hph2.mpr h3), bd_some, l0_inl, l0_inr, l1_inl, l1_inr, b2_some, bs_eq, if_neg q10, if_pos q00, if_neg q20, if_neg q30, if_pos q11, if_neg q01, if_pos isB0, if_pos isB1, if_true, if_false, f2]
          rw [if_pos (Or.inr (Or.inr h3))]
          exact RO.f V (by decide) rfl
        · simp only [if_pos h1, if_neg h2, if_neg (show ¬ (2 : Int32) ≤ (cuAt a.2.2.2 i).2.2.2.2.1 from fun q => h3 (hph2.mp q)), bd_some, l0_inl, l0_inr, l1_inl, l1_inr, b2_some, bs_eq, if_neg q10, if_pos q00, if_neg q20, if_neg q30, if_pos q11, if_neg q01, if_pos isB0, if_pos isB1, if_true, if_false, f0]
          rw [if_neg (show ¬ (¬ (txAt a.2.2.1.1 (cuAt a.2.2.2 i).1).2.2.2 = 1 ∨ (a.2.2.1.2 (cuAt a.2.2.2 i).2.1).1 = 0 ∨ (cuAt a.2.2.2 i).2.2.2.2.1 = 2) from fun q => q.elim (fun q => q h1) (fun q => q.elim h2 h3))]
          have V2 := V.t 0
          have Vc2 := V2.2.2.2
          have hS := SOK.of I c2'
          have hl := hS.2.2.1
          generalize hk9 : (cuAt a.2.2.2 i).2.1 = k at *
          have Vk := V2.2.2.1.2.1 k c2'
          have e25 : ga (ss m 31 0) 25 i = nI k := by rw [(Vc2.2.1 i hi).2.1, hk9]
          obtain ⟨v, ev, hb⟩ := m_stepL c2' hnc hS Vc2 hi hc hk9 Vk FU 0 none (-1) (by show _ < 1000 + 0; omega) (Nat.zero_le _) (Or.inl ⟨rfl, rfl⟩)
          rw [Nat.add_zero] at ev
          rw [List.drop_zero] at hb
          rw [e25, n40, ev, bd_some]
          have hnx : (a.2.2.1.2 k).2.2.2.foldl (bestF (behR (cuAt a.2.2.2 i)) (sooR (cuAt a.2.2.2 i))) none = nextR (cuAt a.2.2.2 i) (a.2.2.1.2 k).2.2.2 := rfl
          rw [hnx] at hb
          rcases hb with ⟨hb, rfl⟩ | ⟨p, hp, hb, rfl⟩
          · rw [hb]
            simp only [if_true, bd_some, bs_eq]
            refine ⟨_, _, D, rfl, rfl, V2.cur (fun j h1 h2 => rfl) (fun j y hj => by rw [ga_sa2, if_neg (by omega)]) (Vc2.set hi rfl (fun j y h1 h2 h3 => by rw [ga_sa2, if_neg (by omega)]) ?_), fun _ => rfl, Nat.le_succ _⟩
            simp only [ga_sa2]
            have x2 := Vc2.2.1 i hi
            rw [hk9] at x2
            simp [x2, hk9]
          · rw [hb]
            have hne : ¬ nI (40 * k + p) = -1 := nI_m1 (by omega)
            have hrp : vR (nI (40 * k + p)) 120 := nI_in (by omega) (by omega)
            rw [if_neg hne, bd_some, if_neg hne]
            have Vc3 : MVc (sa (ss m 31 0) 28 i 1) (a.2.2.2.set i ((cuAt a.2.2.2 i).1, (cuAt a.2.2.2 i).2.1, (cuAt a.2.2.2 i).2.2.1, (cuAt a.2.2.2 i).2.2.2.1, 1, (cuAt a.2.2.2 i).2.2.2.2.2)) := Vc2.set hi rfl (fun j y h1 h2 h3 => by rw [ga_sa2, if_neg (by omega)]) (by
              have x2 := Vc2.2.1 i hi
              simp only [ga_sa2]
              simp [x2])
            have Vk3 : MVs (sa (ss m 31 0) 28 i 1) 6 k (a.2.2.1.2 k) := Vk.eqs (fun j y h1 h2 => by rw [ga_sa2, if_neg (by omega)])
            have hent := m_entry c2' (by rw [List.length_set]; exact hnc) hl Vc3 (i := i) (by rw [List.length_set]; exact hi) (by rw [cuAt_set _ hi, if_pos rfl]; exact cf) Vk3 hp
            rw [cuAt_set _ hi, if_pos rfl] at hent
            rw [hent, bd_some]
            simp only [bs_eq, if_pos hrp, nI_clamp (show 40 * k + p < 2 ^ 31 by omega)]
            have e9 : ∀ w, ga (sa (sa (ss m 31 0) 28 i 1) 29 i w) 9 (40 * k + p) = (rwD (a.2.2.1.2 k).2.2.2 p).1 := fun w => by rw [ga_sa2, if_neg (by omega), ga_sa2, if_neg (by omega)]; exact (Vk.at hp).1
            rw [e9]
            have e10 : ∀ w w', ga (sa (sa (sa (ss m 31 0) 28 i 1) 29 i w) 30 i w') 9 (40 * k + p) = (rwD (a.2.2.1.2 k).2.2.2 p).1 := fun w w' => by rw [ga_sa2, if_neg (by omega)]; exact e9 w
            rw [e10]
            refine ⟨_, _, D, rfl, rfl, V2.cur (fun j h1 h2 => rfl) (fun j y hj => ?_) (Vc2.set hi rfl (fun j y h1 h2 h3 => ?_) ?_), fun _ => rfl, Nat.le_succ _⟩
            · simp only [ga_sa2]
              rw [if_neg (by omega), if_neg (by omega), if_neg (by omega)]
            · simp only [ga_sa2]
              rw [if_neg (by omega), if_neg (by omega), if_neg (by omega)]
            · have x2 := Vc2.2.1 i hi
              rw [hk9] at x2
              simp only [ga_sa2]
              simp [x2, hk9]
    · simp only [if_neg h1, bd_some, l0_inl, l0_inr, l1_inl, l1_inr, b2_some, bs_eq, if_neg q10, if_pos q00, if_neg q20, if_neg q30, if_pos q11, if_neg q01, if_pos isB0, if_pos isB1, if_true, if_false, f2]
      rw [if_pos (Or.inl h1)]
      exact RO.f V (by decide) rfl
theorem r_update {m : MS} {D : Nat} {a : AS} (V : MV m D a) (I : IV a) (ci v : Int32) : RO (x_X7_update ci v m) c3 D (updA ci v a) := by
  have hn : lenT a ≤ 60 := I.2.2.1.1.1
  have hnc := I.2.2.2.1
  have Vc := V.2.2.2
  unfold x_X7_update updA
  rw [m_isCursor Vc.1 hnc, bd_some]
  by_cases h : oT ci a.2.2.2.length
  · simp only [if_pos h, bd_some, l0_inl, l0_inr, l1_inl, l1_inr, b2_some, bs_eq, if_neg q10, if_pos q00, if_neg q20, if_neg q30, if_pos q11, if_neg q01, if_pos isB0, if_pos isB1, if_true, if_false, f1]; exact RO.f V (by decide) rfl
  · obtain ⟨i, hi, rfl, ei⟩ := oT_at h (by omega)
    have hc := I.2.2.2.2 _ (cuAt_mem hi)
    rw [if_neg h]
    simp only [if_neg h, ei]
    have x := Vc.2.1 i hi
    obtain ⟨c1, c2', c3', cf, cd, cph, cnum, ckey⟩ := hc
    have c1z : (cuAt a.2.2.2 i).1 < lenT a := c1
    have hr : vR (nI i) 40 := nI_in (by omega) (by omega)
    have hrk : vR (nI (cuAt a.2.2.2 i).2.1) 3 := nI_in c2' (by omega)
    have z := V.2.2.1.2.1 _ c2'
    simp only [if_neg q10, if_pos hr, nI_clamp (show i < 2 ^ 31 by omega), x, if_pos hrk, nI_clamp (show (cuAt a.2.2.2 i).2.1 < 2 ^ 31 by omega), z.1, m_canW c1 hn V.2.2.1.1, m_isIn, bd_some]
    generalize hk9 : (cuAt a.2.2.2 i).2.1 = k at *
    have hS := SOK.of I c2'
    have hl := hS.2.2.1
    have hw : wrA a (nI (cuAt a.2.2.2 i).1) (nI k) ↔ (txAt a.2.2.1.1 (cuAt a.2.2.2 i).1).2.2.2 = 1 ∧ ¬ (txAt a.2.2.1.1 (cuAt a.2.2.2 i).1).2.2.1 = 0 := by
      unfold wrA reA txA
      rw [nI_clamp (by omega)]
      exact ⟨fun q => ⟨q.1.1, q.2⟩, fun q => ⟨⟨q.1, c3'⟩, q.2⟩⟩
    have hfind : ∃ b, x_X7_find (nI k) (cuAt a.2.2.2 i).2.2.2.2.2.2 m = some b ∧ ((∃ p, p < (a.2.2.1.2 k).2.2.2.length ∧ (rwD (a.2.2.1.2 k).2.2.2 p).1 = (cuAt a.2.2.2 i).2.2.2.2.2.2 ∧ (∀ q, q < p → ¬ (rwD (a.2.2.1.2 k).2.2.2 q).1 = (cuAt a.2.2.2 i).2.2.2.2.2.2) ∧ b = nI (40 * k + p)) ∨ (findR (a.2.2.1.2 k).2.2.2 (cuAt a.2.2.2 i).2.2.2.2.2.2 = none ∧ b = -1)) := by
      rcases m_find c2' hl z (cuAt a.2.2.2 i).2.2.2.2.2.2 with ⟨p, i1, i2, i3, e⟩ | ⟨i1, e⟩
      · exact ⟨_, e, Or.inl ⟨p, i1, i2, i3, rfl⟩⟩
      · exact ⟨_, e, Or.inr ⟨find_no _ i1, rfl⟩⟩
    obtain ⟨b, eb, hb⟩ := hfind
    rw [eb]
    have bad : ∀ X : Option Int32, X = some (-1) → ∀ r : OUT, r = (if rng v 0 9999 then (2, 0, a) else (3, 0, a)) → RO (bd X (fun v21 => bd (if (if rng v 0 9999 then (0 : Int32) else 1) = 0 then some 2 else if v21 = -1 then some 3 else some 0) (fun v27 => b2 (x_X7_fails v27 m) (fun v29 t30 => if v29 = 0 then (if vR v21 120 then if vR v21 120 then bs (sa t30 10 v21.toNatClampNeg v) (fun t34 => some (ga t30 10 v21.toNatClampNeg, t34)) else none else none) else some (0, t30))))) c3 D r := by
      rintro X rfl r rfl
      by_cases h4 : rng v 0 9999
      · simp only [if_pos h4, bd_some, l0_inl, l0_inr, l1_inl, l1_inr, b2_some, bs_eq, if_neg q10, if_pos q00, if_neg q20, if_neg q30, if_pos q11, if_neg q01, if_pos isB0, if_pos isB1, if_true, if_false, f2]; exact RO.f V (by decide) rfl
      · simp only [if_neg h4, bd_some, l0_inl, l0_inr, l1_inl, l1_inr, b2_some, bs_eq, if_neg q10, if_pos q00, if_neg q20, if_neg q30, if_pos q11, if_neg q01, if_pos isB0, if_pos isB1, if_true, if_false, f3]; exact RO.f V (by decide) rfl
    by_cases h1 : wrA a (nI (cuAt a.2.2.2 i).1) (nI k)
    · obtain ⟨h1a, h1b⟩ := hw.mp h1
      by_cases h2 : (cuAt a.2.2.2 i).2.2.2.2.1 = 1
      · have hn3 : ¬ (¬ (txAt a.2.2.1.1 (cuAt a.2.2.2 i).1).2.2.2 = 1 ∨ (txAt a.2.2.1.1 (cuAt a.2.2.2 i).1).2.2.1 = 0 ∨ ¬ (cuAt a.2.2.2 i).2.2.2.2.1 = 1) := fun q => q.elim (fun q => q h1a) (fun q => q.elim h1b (fun q => q h2))
        by_cases h3 : (a.2.2.1.2 k).1 = 0
        · have he : findR (a.2.2.1.2 k).2.2.2 (cuAt a.2.2.2 i).2.2.2.2.2.2 = none := by rw [hS.2.1 h3]; rfl
          rw [if_neg hn3, he]
          simp only [if_pos h1, if_pos h2, if_pos h3, if_neg q10, l0_inl, bd_some, if_pos q00]
          exact bad _ rfl _ rfl
        · rw [if_neg hn3]
          simp only [if_pos h1, if_pos h2, if_neg h3, if_neg q10, l0_inr, bd_some]
          rcases hb with ⟨p, i1, i2, i3, rfl⟩ | ⟨he, rfl⟩
          · rw [find_at _ p i1 i2 i3]
            by_cases h4 : rng v 0 9999
            · simp only [if_pos h4, bd_some, l0_inl, l0_inr, l1_inl, l1_inr, b2_some, bs_eq, if_neg q10, if_pos q00, if_neg q20, if_neg q30, if_pos q11, if_neg q01, if_pos isB0, if_pos isB1, if_true, if_false, f2]; exact RO.f V (by decide) rfl
            · have hne : ¬ nI (40 * k + p) = -1 := nI_m1 (by omega)
              have hrp : vR (nI (40 * k + p)) 120 := nI_in (by omega) (by omega)
              simp only [if_neg h4, if_neg hne, bd_some, l0_inl, l0_inr, l1_inl, l1_inr, b2_some, bs_eq, if_neg q10, if_pos q00, if_neg q20, if_neg q30, if_pos q11, if_neg q01, if_pos isB0, if_pos isB1, if_true, if_false, f0, if_pos hrp, nI_clamp (show 40 * k + p < 2 ^ 31 by omega)]
              have V2 := V.t 0
              have Vk := V2.2.2.1.2.1 k c2'
              have e10 : ga (ss m 31 0) 10 (40 * k + p) = (rwD (a.2.2.1.2 k).2.2.2 p).2.1 := (Vk.at i1).2.1
              rw [e10]
              refine ⟨_, _, D, rfl, rfl, V2.rows c2' (fun j hj => rfl) (fun j y hj => by rw [ga_sa2, if_neg (by omega)]) ?_ (fun j hj hjk => ?_), fun _ => rfl, Nat.le_succ _⟩
              · rw [put_at (r := ((rwD (a.2.2.1.2 k).2.2.2 p).1, v, (rwD (a.2.2.1.2 k).2.2.2 p).2.2)) _ p i1 rfl (fun q hq e => i3 q hq (e.trans i2))]
                obtain ⟨w1, w2, w3, w4⟩ := Vk
                refine ⟨?_, ?_, fun q => ?_, fun y hy => ?_⟩
                · rw [ga_sa2, if_neg (by omega)]; exact w1
                · rw [ga_sa2, if_neg (by omega), w2]; show _ = nI (List.set _ _ _).length; rw [List.length_set]
                · rw [ga_sa2, ga_sa2, if_neg (by omega), if_neg (by omega)]; exact w3 q
                · have hy2 : y < (a.2.2.1.2 k).2.2.2.length := by
                    have : y < (List.set (a.2.2.1.2 k).2.2.2 _ _).length := hy
                    rw [List.length_set] at this; exact this
                  have w := w4 y hy2
                  show _ = (List.set _ _ _).getD y _
                  have k1 : ∀ z x, z ≠ 10 → ga (sa (ss m 31 0) 10 (40 * k + p) v) z x = ga (ss m 31 0) z x := fun z x hz => by rw [ga_sa2, if_neg (by omega)]
                  rw [k1 (6 + 3) _ (by omega), k1 (6 + 5) _ (by omega), k1 (6 + 5) _ (by omega)]
                  by_cases e : y = p
                  · subst e
                    rw [show ga (sa (ss m 31 0) 10 (40 * k + y) v) (6 + 4) (40 * k + y) = v from if_pos ⟨rfl, rfl⟩, List.getD_eq_getElem?_getD, List.getElem?_set_self hy2]
                    show _ = ((rwD (a.2.2.1.2 k).2.2.2 y).1, v, (rwD (a.2.2.1.2 k).2.2.2 y).2.2)
                    unfold rwD
                    rw [← w]
                  · rw [show ga (sa (ss m 31 0) 10 (40 * k + p) v) (6 + 4) (40 * k + y) = ga (ss m 31 0) (6 + 4) (40 * k + y) from if_neg (fun q => by have := q.2; omega), w, List.getD_eq_getElem?_getD, List.getD_eq_getElem?_getD, List.getElem?_set_ne (Ne.symm e)]
              · obtain ⟨w1, w2, w3, w4⟩ := V2.2.2.1.2.1 j hj
                have hlj := (SOK.of I hj).2.2.1
                refine ⟨?_, ?_, fun q => ?_, fun y hy => ?_⟩
                · rw [ga_sa2, if_neg (by omega)]; exact w1
                · rw [ga_sa2, if_neg (by omega)]; exact w2
                · rw [ga_sa2, ga_sa2, if_neg (by omega), if_neg (by omega)]; exact w3 q
                · simp only [ga_sa2]
                  rw [if_neg (by omega), if_neg (by omega), if_neg (by omega), if_neg (by omega)]
                  exact w4 y hy
          · rw [he]; exact bad _ rfl _ rfl
      · rw [if_pos (show (¬ (txAt a.2.2.1.1 (cuAt a.2.2.2 i).1).2.2.2 = 1 ∨ (txAt a.2.2.1.1 (cuAt a.2.2.2 i).1).2.2.1 = 0 ∨ ¬ (cuAt a.2.2.2 i).2.2.2.2.1 = 1) from Or.inr (Or.inr h2))]
        simp only [if_pos h1, if_neg h2, if_neg q10, l0_inl, bd_some, if_pos q00]
        exact bad _ rfl _ rfl
    · have h3 : (¬ (txAt a.2.2.1.1 (cuAt a.2.2.2 i).1).2.2.2 = 1 ∨ (txAt a.2.2.1.1 (cuAt a.2.2.2 i).1).2.2.1 = 0 ∨ ¬ (cuAt a.2.2.2 i).2.2.2.2.1 = 1) := by
        by_cases q : (txAt a.2.2.1.1 (cuAt a.2.2.2 i).1).2.2.2 = 1
        · by_cases q2 : (txAt a.2.2.1.1 (cuAt a.2.2.2 i).1).2.2.1 = 0
          · exact Or.inr (Or.inl q2)
          · exact absurd (hw.mpr ⟨q, q2⟩) h1
        · exact Or.inl q
      rw [if_pos h3]
      simp only [if_neg h1, l0_inl, bd_some, if_pos q00]
      exact bad _ rfl _ rfl
