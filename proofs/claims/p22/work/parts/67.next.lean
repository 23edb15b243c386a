/-! ===== PURE: a cursor's next row ===== -/
def IsB (P : RW → Prop) (κ : RW → Nat) (xs : List RW) (A : Option RW) : Prop := (A = none ∧ ∀ x ∈ xs, ¬ P x) ∨ ∃ r, r ∈ xs ∧ A = some r ∧ P r ∧ ∀ x ∈ xs, P x → κ r ≤ κ x
theorem IsB.uniq {P : RW → Prop} {κ : RW → Nat} {xs : List RW} {A B : Option RW} (h1 : IsB P κ xs A) (h2 : IsB P κ xs B) (hk : ∀ x ∈ xs, ∀ y ∈ xs, P x → P y → κ x = κ y → x = y) : A = B := by
  rcases h1 with ⟨a1, a2⟩ | ⟨r, r1, r2, r3, r4⟩
  · rcases h2 with ⟨b1, b2⟩ | ⟨s, s1, s2, s3, s4⟩
    · rw [a1, b1]
    · exact absurd s3 (a2 s s1)
  · rcases h2 with ⟨b1, b2⟩ | ⟨s, s1, s2, s3, s4⟩
    · exact absurd r3 (b2 r r1)
    · rw [r2, s2, hk r r1 s s1 r3 s3 (Nat.le_antisymm (r4 s s1 s3) (s4 r r1 r3))]
theorem best_spec {P lt} (κ : RW → Nat) (U : List RW) (hlt : ∀ x ∈ U, ∀ y ∈ U, P x = true → P y = true → (lt x y = true ↔ κ x < κ y)) : ∀ (xs : List RW) (b : Option RW), (∀ x ∈ xs, x ∈ U) → (∀ q, b = some q → q ∈ U ∧ P q = true) →
    (xs.foldl (bestF P lt) b = none ∧ b = none ∧ ∀ x ∈ xs, ¬ P x = true) ∨ ∃ r, r ∈ U ∧ xs.foldl (bestF P lt) b = some r ∧ P r = true ∧ (∀ x ∈ xs, P x = true → κ r ≤ κ x) ∧ (∀ q, b = some q → κ r ≤ κ q) ∧ (r ∈ xs ∨ b = some r) := by
  intro xs
  induction xs with
  | nil =>
    intro b _ hb
    cases b with
    | none => exact Or.inl ⟨rfl, rfl, fun x hx => absurd hx List.not_mem_nil⟩
    | some q => exact Or.inr ⟨q, (hb q rfl).1, rfl, (hb q rfl).2, fun x hx => absurd hx List.not_mem_nil, fun y hy => by cases hy; exact Nat.le_refl _, Or.inr rfl⟩
  | cons x xs ih =>
    intro b hU hb
    have hx := hU x List.mem_cons_self
    have hU' : ∀ y ∈ xs, y ∈ U := fun y hy => hU y (List.mem_cons_of_mem _ hy)
    rw [List.foldl_cons]
    by_cases hP : P x = true
    · cases b with
      | none =>
        rw [bF_n hP]
        rcases ih (some x) hU' (fun q hq => by cases hq; exact ⟨hx, hP⟩) with ⟨_, z, _⟩ | ⟨r, r1, r2, r3, r4, r5, r6⟩
        · cases z
        · refine Or.inr ⟨r, r1, r2, r3, fun y hy hy2 => ?_, fun q hq => (by cases hq), ?_⟩
          · rcases List.mem_cons.mp hy with z | z
            · rw [z]; exact r5 x rfl
            · exact r4 y z hy2
          · rcases r6 with z | z
            · exact Or.inl (List.mem_cons_of_mem _ z)
            · cases z; exact Or.inl List.mem_cons_self
      | some q =>
        obtain ⟨hq1, hq2⟩ := hb q rfl
        have hl := hlt x hx q hq1 hP hq2
        by_cases hc : lt x q = true
        · rw [bF_s hP hc]
          have hc' := hl.mp hc
          rcases ih (some x) hU' (fun q hq => by cases hq; exact ⟨hx, hP⟩) with ⟨_, z, _⟩ | ⟨r, r1, r2, r3, r4, r5, r6⟩
          · cases z
          · have := r5 x rfl
            refine Or.inr ⟨r, r1, r2, r3, fun y hy hy2 => ?_, fun y hy => by cases hy; omega, ?_⟩
            · rcases List.mem_cons.mp hy with z | z
              · rw [z]; exact this
              · exact r4 y z hy2
            · rcases r6 with z | z
              · exact Or.inl (List.mem_cons_of_mem _ z)
              · cases z; exact Or.inl List.mem_cons_self
        · rw [bF_o hc]
          have hc' : ¬ κ x < κ q := fun z => hc (hl.mpr z)
          rcases ih (some q) hU' hb with ⟨_, z, _⟩ | ⟨r, r1, r2, r3, r4, r5, r6⟩
          · cases z
          · have := r5 q rfl
            refine Or.inr ⟨r, r1, r2, r3, fun y hy hy2 => ?_, r5, ?_⟩
            · rcases List.mem_cons.mp hy with z | z
              · rw [z]; omega
              · exact r4 y z hy2
            · rcases r6 with z | z
              · exact Or.inl (List.mem_cons_of_mem _ z)
              · exact Or.inr z
    · rw [bF_z hP]
      rcases ih b hU' hb with ⟨z1, z2, z3⟩ | ⟨r, r1, r2, r3, r4, r5, r6⟩
      · refine Or.inl ⟨z1, z2, fun y hy => ?_⟩
        rcases List.mem_cons.mp hy with z | z
        · rw [z]; exact hP
        · exact z3 y z
      · refine Or.inr ⟨r, r1, r2, r3, fun y hy hy2 => ?_, r5, ?_⟩
        · rcases List.mem_cons.mp hy with z | z
          · rw [z] at hy2; exact absurd hy2 hP
          · exact r4 y z hy2
        · rcases r6 with z | z
          · exact Or.inl (List.mem_cons_of_mem _ z)
          · exact Or.inr z
theorem best_is {P : RW → Bool} {lt : RW → RW → Bool} (κ : RW → Nat) (xs : List RW) (hlt : ∀ x ∈ xs, ∀ y ∈ xs, P x = true → P y = true → (lt x y = true ↔ κ x < κ y)) : IsB (fun r => P r = true) κ xs (xs.foldl (bestF P lt) none) := by
  rcases best_spec κ xs hlt xs none (fun _ h => h) (fun q h => by cases h) with ⟨z1, _, z3⟩ | ⟨r, r1, r2, r3, r4, _, r6⟩
  · exact Or.inl ⟨z1, z3⟩
  · exact Or.inr ⟨r, r1, r2, r3, r4⟩
def plR (f : Int32) (r : RW) : Int64 := if f = -1 then (rk r.1).toInt64 else if rNum f r = -1 then -1 else (rNum f r).toInt64 * 4000000 + (rk r.1).toInt64
def eN (f : Int32) (r : RW) : Nat := (entR f r).toNatClampNeg
def mN (r : RW) : Nat := (rk r.1).toNatClampNeg
def posN (f : Int32) (r : RW) : Nat := eN f r * 4000000 + mN r
theorem s_place {w : CS} {x : Nat} (hx : wJ w 0 x = 1) (f : Int32) : x_X2_place x f w = some (plR f (rwv w x)) := by
  unfold x_X2_place plR
  have hr : x_X1_rank (wI w 40 x) = some (rk (rwv w x).1) := rk_some _
  have hn : x_X2_number x f w = some (rNum f (rwv w x)) := s_number hx f
  by_cases h : f = -1
  · rw [if_pos h, if_pos h, if_pos hx, hr, bd_some]
  · rw [if_neg h, if_neg h, if_pos hx, hn, bd_some]
    by_cases h2 : rNum f (rwv w x) = -1
    · rw [if_pos h2, if_pos h2, bd_some]
    · rw [if_neg h2, if_neg h2, hr, bd_some, bd_some]
/-- a row of a store as numbers -/
theorem ent_N {f : Int32} {r : RW} (hf : f = -1 ∨ f = 0 ∨ f = 1) (hk : kP r.1) (h1 : ¬ rng r.2.2.1 (-1) 999) (h2 : ¬ rng r.2.2.2 (-1) 999) : rk r.1 = nI (mN r) ∧ mN r < 4000000 ∧ ((entR f r = -1 ∧ plR f r = -1) ∨ (¬ entR f r = -1 ∧ entR f r = nI (eN f r) ∧ eN f r ≤ 999 ∧ plR f r = lN (posN f r))) := by
  obtain ⟨m, hm, em⟩ := rk_of hk
  have eM : mN r = m := by unfold mN; rw [em, nI_clamp (by omega)]
  refine ⟨by rw [eM, em], by rw [eM]; exact hm, ?_⟩
  have num : ∀ v : Int32, ¬ rng v (-1) 999 → v = -1 ∨ ∃ n, n ≤ 999 ∧ v = nI n := by
    intro v hv
    have h1 : ¬ v < -1 := fun z => hv (Or.inl z)
    have h2 : v ≤ 999 := Decidable.byContradiction fun z => hv (Or.inr z)
    by_cases z : v < 0
    · left
      rw [Int32.lt_iff_toInt_lt] at h1 z
      rw [← Int32.toInt_inj]
      have e1 : (-1 : Int32).toInt = -1 := rfl
      have e0 : (0 : Int32).toInt = 0 := rfl
      rw [e1] at h1 ⊢
      rw [e0] at z
      omega
    · right
      obtain ⟨n, hn, e⟩ := nI_of z
      exact ⟨n, (nI_leI (b := 999) hn (by omega)).mp (by rw [← e]; exact h2), e⟩
  by_cases hf1 : f = -1
  · right
    have e0 : entR f r = 0 := if_pos hf1
    have eE : eN f r = 0 := by unfold eN; rw [e0]; rfl
    refine ⟨by rw [e0]; decide, by rw [e0, eE]; rfl, by omega, ?_⟩
    unfold plR posN
    rw [if_pos hf1, eE, eM, em, nI_l (by omega), Nat.zero_mul, Nat.zero_add]
  · have e0 : entR f r = rNum f r := if_neg hf1
    have hv : rNum f r = -1 ∨ ∃ n, n ≤ 999 ∧ rNum f r = nI n := by
      unfold rNum
      split
      · exact num _ h1
      · exact num _ h2
    rcases hv with z | ⟨n, hn, z⟩
    · left
      refine ⟨e0.trans z, ?_⟩
      unfold plR
      rw [if_neg hf1, if_pos z]
    · right
      have zn : ¬ rNum f r = -1 := by rw [z]; exact nI_m1 (by omega)
      have eE : eN f r = n := by unfold eN; rw [e0, z, nI_clamp (by omega)]
      refine ⟨by rw [e0]; exact zn, by rw [e0, z, eE], by omega, ?_⟩
      unfold plR posN
      rw [if_neg hf1, if_neg zn, z, eE, eM, em, nI_l (by omega), nI_l (by omega), show (4000000 : Int64) = lN 4000000 from rfl, lN_mul, lN_add]
theorem pos_lt {f : Int32} {r : RW} (h : eN f r ≤ 999) (h2 : mN r < 4000000) : posN f r < 4000000000 := by unfold posN; omega
theorem ent_inj {xs : List RW} {f : Int32} (hd : (xs.map (fun r => r.1)).Nodup) (hk : ∀ r ∈ xs, kP r.1 ∧ rk r.1 = nI (mN r) ∧ mN r < 4000000) {x y : RW} (hx : x ∈ xs) (hy : y ∈ xs) (h : mN x = mN y) : x = y := by
  have e : x.1 = y.1 := rk_inj (hk x hx).1 (hk y hy).1 (by rw [(hk x hx).2.1, (hk y hy).2.1, h])
  obtain ⟨i, hi, ei⟩ := List.mem_iff_getElem.mp hx
  obtain ⟨j, hj, ej⟩ := List.mem_iff_getElem.mp hy
  have : i = j := key_inj hd hi hj (by rw [rwD_get hi, rwD_get hj, ei, ej]; exact e)
  subst this
  rw [← ei, ← ej]
def opt (w : CS) (v : Nat) : Option RW := if v = 0 then none else some (rwv w v)
def pFF (f : Int32) (lim : Int64) (r : RW) : Bool := decide (¬ plR f r < lim)
def ltFF (f : Int32) (r b : RW) : Bool := decide (plR f r < plR f b)
def pLB (f : Int32) (lim : Int64) (r : RW) : Bool := decide (¬ plR f r < 0 ∧ plR f r < lim)
def ltLB (f : Int32) (r b : RW) : Bool := decide (plR f b < plR f r)
theorem c_ffL {o k : Nat} {w : CS} {R : Nat → List Nat} (S : SV o w R) (hk : k < 6) (f : Int32) (lim : Int64) : ∀ (n i v : Nat), (R k).length < n + i → i ≤ (R k).length → (v = 0 ∨ v ∈ R k) → ∃ v', x_X3_firstFrom_L1 (o + 10 + 3 * k) f lim w n (nI i) v = some v' ∧ (v' = 0 ∨ v' ∈ R k) ∧ opt w v' = (((R k).drop i).map (rwv w)).foldl (bestF (pFF f lim) (ltFF f)) (opt w v) := by
  obtain ⟨h1, h2, h3, h4⟩ := s_rows S hk
  intro n
  induction n with
  | zero => intro i v a b; omega
  | succ n ih =>
    intro i v a b hv
    rw [x_X3_firstFrom_L1, if_pos h1, if_pos h2, p_size h3, bd_some]
    by_cases hi : i < (R k).length
    · have hx := s_rowkind S hk hi
      have hm : (R k).getD i 0 ∈ R k := getD_mem hi
      have hx0 : (R k).getD i 0 ≠ 0 := fun z => by rw [z, S.wf.1] at hx; omega
      rw [if_neg (nI_ge hi (by omega)), p_get h3 hi, bd_some, if_pos (Or.inr hx), if_pos hx, s_place hx, bd_some, List.drop_eq_getElem_cons hi, List.map_cons, List.foldl_cons, nI_1, ← getD_get hi]
      by_cases c1 : plR f (rwv w ((R k).getD i 0)) < lim
      · rw [if_pos ((lg_cmp_lt _ _).mpr c1), bd_some, bF_z (fun z => (of_decide_eq_true z) c1)]
        exact ih (i + 1) v (by omega) (by omega) hv
      · have hP : pFF f lim (rwv w ((R k).getD i 0)) = true := decide_eq_true c1
        rw [if_neg (fun z => c1 ((lg_cmp_lt _ _).mp z))]
        by_cases c2 : v = 0
        · rw [if_pos c2, l0_inl, bd_some]
          have e : opt w v = none := if_pos c2
          rw [e, bF_n hP]
          have e2 : opt w ((R k).getD i 0) = some (rwv w ((R k).getD i 0)) := if_neg hx0
          rw [← e2]
          exact ih (i + 1) _ (by omega) (by omega) (Or.inr hm)
        · have hvk := (S.rk k hk).2 v (hv.elim (fun z => absurd z c2) id)
          have e : opt w v = some (rwv w v) := if_neg c2
          rw [if_neg c2, if_pos hvk, s_place hvk, bd_some]
          by_cases c3 : plR f (rwv w v) ≤ plR f (rwv w ((R k).getD i 0))
          · have hnl : ¬ ltFF f (rwv w ((R k).getD i 0)) (rwv w v) = true := fun z => Int64.not_lt.mpr c3 (of_decide_eq_true z)
            rw [if_pos ((lg_cmp_ge _ _).mpr c3), l0_inr, bd_some, e, bF_o hnl, ← e]
            exact ih (i + 1) v (by omega) (by omega) hv
          · have hl : ltFF f (rwv w ((R k).getD i 0)) (rwv w v) = true := decide_eq_true (Int64.not_le.mp c3)
            rw [if_neg (fun z => c3 ((lg_cmp_ge _ _).mp z)), l0_inl, bd_some, e, bF_s hP hl]
            have e2 : opt w ((R k).getD i 0) = some (rwv w ((R k).getD i 0)) := if_neg hx0
            rw [← e2]
            exact ih (i + 1) _ (by omega) (by omega) (Or.inr hm)
    · rw [if_pos (nI_le (by omega) (by omega)), List.drop_eq_nil_of_le (by omega)]
      exact ⟨v, rfl, hv, rfl⟩
theorem c_ff {o k : Nat} {w : CS} {R : Nat → List Nat} (S : SV o w R) (hk : k < 6) (f : Int32) (lim : Int64) : ∃ v', x_X3_firstFrom (o + 10 + 3 * k) f lim w = some v' ∧ (v' = 0 ∨ v' ∈ R k) ∧ opt w v' = ((R k).map (rwv w)).foldl (bestF (pFF f lim) (ltFF f)) none := by
  have h4 := (S.rk k hk).1
  obtain ⟨v', e, h1, h2⟩ := c_ffL S hk f lim FU 0 0 (by show _ < 1000 + 0; omega) (Nat.zero_le _) (Or.inl rfl)
  rw [nI_0] at e
  rw [List.drop_zero] at h2
  exact ⟨v', by unfold x_X3_firstFrom; rw [e, bd_some], h1, h2⟩
theorem c_lbL {o k : Nat} {w : CS} {R : Nat → List Nat} (S : SV o w R) (hk : k < 6) (f : Int32) (lim : Int64) : ∀ (n i v : Nat), (R k).length < n + i → i ≤ (R k).length → (v = 0 ∨ v ∈ R k) → ∃ v', x_X3_lastBelow_L1 (o + 10 + 3 * k) f lim w n (nI i) v = some v' ∧ (v' = 0 ∨ v' ∈ R k) ∧ opt w v' = (((R k).drop i).map (rwv w)).foldl (bestF (pLB f lim) (ltLB f)) (opt w v) := by
  obtain ⟨h1, h2, h3, h4⟩ := s_rows S hk
  intro n
  induction n with
  | zero => intro i v a b; omega
  | succ n ih =>
    intro i v a b hv
    rw [x_X3_lastBelow_L1, if_pos h1, if_pos h2, p_size h3, bd_some]
    by_cases hi : i < (R k).length
    · have hx := s_rowkind S hk hi
      have hm : (R k).getD i 0 ∈ R k := getD_mem hi
      have hx0 : (R k).getD i 0 ≠ 0 := fun z => by rw [z, S.wf.1] at hx; omega
      rw [if_neg (nI_ge hi (by omega)), p_get h3 hi, bd_some, if_pos (Or.inr hx), if_pos hx, s_place hx, bd_some, List.drop_eq_getElem_cons hi, List.map_cons, List.foldl_cons, nI_1, ← getD_get hi]
      by_cases c1 : plR f (rwv w ((R k).getD i 0)) < 0
      · rw [if_pos ((lg_cmp_lt _ _).mpr c1), bd_some, bF_z (fun z => (of_decide_eq_true z).1 c1)]
        exact ih (i + 1) v (by omega) (by omega) hv
      · rw [if_neg (fun z => c1 ((lg_cmp_lt _ _).mp z))]
        by_cases c4 : lim ≤ plR f (rwv w ((R k).getD i 0))
        · rw [if_pos ((lg_cmp_ge _ _).mpr c4), bd_some, bF_z (fun z => Int64.not_lt.mpr c4 (of_decide_eq_true z).2)]
          exact ih (i + 1) v (by omega) (by omega) hv
        · have hP : pLB f lim (rwv w ((R k).getD i 0)) = true := decide_eq_true ⟨c1, Int64.not_le.mp c4⟩
          rw [if_neg (fun z => c4 ((lg_cmp_ge _ _).mp z))]
          by_cases c2 : v = 0
          · rw [if_pos c2, l0_inl, bd_some]
            have e : opt w v = none := if_pos c2
            rw [e, bF_n hP]
            have e2 : opt w ((R k).getD i 0) = some (rwv w ((R k).getD i 0)) := if_neg hx0
            rw [← e2]
            exact ih (i + 1) _ (by omega) (by omega) (Or.inr hm)
          · have hvk := (S.rk k hk).2 v (hv.elim (fun z => absurd z c2) id)
            have e : opt w v = some (rwv w v) := if_neg c2
            rw [if_neg c2, if_pos hvk, s_place hvk, bd_some]
            by_cases c3 : plR f (rwv w ((R k).getD i 0)) ≤ plR f (rwv w v)
            · have hnl : ¬ ltLB f (rwv w ((R k).getD i 0)) (rwv w v) = true := fun z => Int64.not_lt.mpr c3 (of_decide_eq_true z)
              rw [if_pos ((lg_cmp_le _ _).mpr c3), l0_inr, bd_some, e, bF_o hnl, ← e]
              exact ih (i + 1) v (by omega) (by omega) hv
            · have hl : ltLB f (rwv w ((R k).getD i 0)) (rwv w v) = true := decide_eq_true (Int64.not_le.mp c3)
              rw [if_neg (fun z => c3 ((lg_cmp_le _ _).mp z)), l0_inl, bd_some, e, bF_s hP hl]
              have e2 : opt w ((R k).getD i 0) = some (rwv w ((R k).getD i 0)) := if_neg hx0
              rw [← e2]
              exact ih (i + 1) _ (by omega) (by omega) (Or.inr hm)
    · rw [if_pos (nI_le (by omega) (by omega)), List.drop_eq_nil_of_le (by omega)]
      exact ⟨v, rfl, hv, rfl⟩
theorem c_lb {o k : Nat} {w : CS} {R : Nat → List Nat} (S : SV o w R) (hk : k < 6) (f : Int32) (lim : Int64) : ∃ v', x_X3_lastBelow (o + 10 + 3 * k) f lim w = some v' ∧ (v' = 0 ∨ v' ∈ R k) ∧ opt w v' = ((R k).map (rwv w)).foldl (bestF (pLB f lim) (ltLB f)) none := by
  have h4 := (S.rk k hk).1
  obtain ⟨v', e, h1, h2⟩ := c_lbL S hk f lim FU 0 0 (by show _ < 1000 + 0; omega) (Nat.zero_le _) (Or.inl rfl)
  rw [nI_0] at e
  rw [List.drop_zero] at h2
  exact ⟨v', by unfold x_X3_lastBelow; rw [e, bd_some], h1, h2⟩
def EN (f : Int32) (xs : List RW) : Prop := ∀ r ∈ xs, kP r.1 ∧ rk r.1 = nI (mN r) ∧ mN r < 4000000 ∧ ((entR f r = -1 ∧ plR f r = -1) ∨ (¬ entR f r = -1 ∧ entR f r = nI (eN f r) ∧ eN f r ≤ 999 ∧ plR f r = lN (posN f r)))
theorem EN.of {f : Int32} {s : SA} (h : SOK s) (hf : f = -1 ∨ f = 0 ∨ f = 1) : EN f s.2.2.2 := fun r hr => ⟨(h.2.2.2.2 r hr).1, ent_N hf (h.2.2.2.2 r hr).1 (h.2.2.2.2 r hr).2.1 (h.2.2.2.2 r hr).2.2⟩
theorem m1_lt (L : Nat) (h : L < 2 ^ 62) : (-1 : Int64) < lN L := by
  rw [Int64.lt_iff_toInt_lt, pk_lT (by omega)]
  show (-1 : Int) < _
  omega
theorem lN0 : (0 : Int64) = lN 0 := rfl
theorem pFF_iff {f : Int32} {xs : List RW} {L : Nat} (h : EN f xs) (hL : L < 2 ^ 40) {r : RW} (hr : r ∈ xs) : pFF f (lN L) r = true ↔ ¬ entR f r = -1 ∧ L ≤ posN f r := by
  obtain ⟨-, -, h3, h4 | ⟨h4, h5, h6, h7⟩⟩ := h r hr
  · constructor
    · intro z
      refine absurd (m1_lt L (by omega)) ?_
      rw [← h4.2]; exact of_decide_eq_true z
    · intro z; exact absurd h4.1 z.1
  · have hp := pos_lt h6 h3
    constructor
    · intro z
      refine ⟨h4, ?_⟩
      have := of_decide_eq_true z
      rw [h7, pk_lLT (by omega) (by omega)] at this
      omega
    · intro z
      refine decide_eq_true ?_
      rw [h7, pk_lLT (by omega) (by omega)]
      omega
theorem pLB_iff {f : Int32} {xs : List RW} {L : Nat} (h : EN f xs) (hL : L < 2 ^ 40) {r : RW} (hr : r ∈ xs) : pLB f (lN L) r = true ↔ ¬ entR f r = -1 ∧ posN f r < L := by
  obtain ⟨-, -, h3, h4 | ⟨h4, h5, h6, h7⟩⟩ := h r hr
  · constructor
    · intro z
      refine absurd (m1_lt 0 (by omega)) ?_
      rw [← h4.2]; exact (of_decide_eq_true z).1
    · intro z; exact absurd h4.1 z.1
  · have hp := pos_lt h6 h3
    constructor
    · intro z
      refine ⟨h4, ?_⟩
      have := (of_decide_eq_true z).2
      rw [h7, pk_lLT (by omega) (by omega)] at this
      exact this
    · intro z
      refine decide_eq_true ⟨?_, ?_⟩
      · rw [h7, lN0, pk_lLT (by omega) (by omega)]; omega
      · rw [h7, pk_lLT (by omega) (by omega)]; exact z.2
theorem lt_pos {f : Int32} {xs : List RW} (h : EN f xs) {x y : RW} (hx : x ∈ xs) (hy : y ∈ xs) (ex : ¬ entR f x = -1) (ey : ¬ entR f y = -1) : plR f x < plR f y ↔ posN f x < posN f y := by
  obtain ⟨-, -, h3, h4 | ⟨h4, h5, h6, h7⟩⟩ := h x hx
  · exact absurd h4.1 ex
  · obtain ⟨-, -, g3, g4 | ⟨g4, g5, g6, g7⟩⟩ := h y hy
    · exact absurd g4.1 ey
    · have hp := pos_lt h6 h3
      have gp := pos_lt g6 g3
      rw [h7, g7, pk_lLT (by omega) (by omega)]
theorem IsB.cg {P P' : RW → Prop} {κ : RW → Nat} {xs : List RW} {A : Option RW} (h : IsB P κ xs A) (e : ∀ r ∈ xs, P r ↔ P' r) : IsB P' κ xs A := by
  rcases h with ⟨a1, a2⟩ | ⟨r, r1, r2, r3, r4⟩
  · exact Or.inl ⟨a1, fun x hx z => a2 x hx ((e x hx).mpr z)⟩
  · exact Or.inr ⟨r, r1, r2, (e r r1).mp r3, fun x hx z => r4 x hx ((e x hx).mpr z)⟩
theorem ff_is {f : Int32} {xs : List RW} {L : Nat} (h : EN f xs) (hL : L < 2 ^ 40) : IsB (fun r => ¬ entR f r = -1 ∧ L ≤ posN f r) (posN f) xs (xs.foldl (bestF (pFF f (lN L)) (ltFF f)) none) :=
  (best_is (posN f) xs (fun x hx y hy p1 p2 => ⟨fun z => (lt_pos h hx hy ((pFF_iff h hL hx).mp p1).1 ((pFF_iff h hL hy).mp p2).1).mp (of_decide_eq_true z), fun z => decide_eq_true ((lt_pos h hx hy ((pFF_iff h hL hx).mp p1).1 ((pFF_iff h hL hy).mp p2).1).mpr z)⟩)).cg (fun r hr => pFF_iff h hL hr)
theorem lb_is {f : Int32} {xs : List RW} {L : Nat} (h : EN f xs) (hL : L < 2 ^ 40) : IsB (fun r => ¬ entR f r = -1 ∧ posN f r < L) (fun r => 4000000000 - posN f r) xs (xs.foldl (bestF (pLB f (lN L)) (ltLB f)) none) := by
  have hp : ∀ r ∈ xs, ¬ entR f r = -1 → posN f r < 4000000000 := by
    intro r hr he
    obtain ⟨-, -, h3, h4 | ⟨h4, h5, h6, h7⟩⟩ := h r hr
    · exact absurd h4.1 he
    · exact pos_lt h6 h3
  refine (best_is (fun r => 4000000000 - posN f r) xs (fun x hx y hy p1 p2 => ?_)).cg (fun r hr => pLB_iff h hL hr)
  have q1 := ((pLB_iff h hL hx).mp p1).1
  have q2 := ((pLB_iff h hL hy).mp p2).1
  have := hp x hx q1
  have := hp y hy q2
  have e := lt_pos h hy hx q2 q1
  constructor
  · intro z
    have := e.mp (of_decide_eq_true z)
    show 4000000000 - posN f x < 4000000000 - posN f y
    omega
  · intro z
    refine decide_eq_true (e.mpr ?_)
    have z' : 4000000000 - posN f x < 4000000000 - posN f y := z
    omega
abbrev skipC (c : CU) : Prop := ¬ c.2.2.2.1 ≤ 1 ∧ ¬ c.2.2.1 = -1
abbrev backC (c : CU) : Prop := c.2.2.2.1 = 1 ∨ c.2.2.2.1 = 3
/-- the entries behind the place, as numbers -/
theorem beh_iff {c : CU} {xs : List RW} {cn cm : Nat} (h : EN c.2.2.1 xs) (hcn : cn ≤ 999) (hcm : cm < 4000000) (e1 : c.2.2.2.2.2.1 = nI cn) (e2 : rk c.2.2.2.2.2.2 = nI cm) (hd : c.2.2.2.1 = 0 ∨ c.2.2.2.1 = 1 ∨ c.2.2.2.1 = 2 ∨ c.2.2.2.1 = 3) {r : RW} (hr : r ∈ xs) : behR c r = true ↔ ¬ entR c.2.2.1 r = -1 ∧ (c.2.2.2.2.1 = 0 ∨ (skipC c ∧ ((backC c ∧ posN c.2.2.1 r < cn * 4000000) ∨ (¬ backC c ∧ (cn + 1) * 4000000 ≤ posN c.2.2.1 r))) ∨ (¬ skipC c ∧ ((backC c ∧ posN c.2.2.1 r < cn * 4000000 + cm) ∨ (¬ backC c ∧ cn * 4000000 + cm + 1 ≤ posN c.2.2.1 r)))) := by
  obtain ⟨-, h2, h3, h4⟩ := h r hr
  unfold behR
  rcases h4 with ⟨h4, -⟩ | ⟨h4, h5, h6, -⟩
  · rw [if_pos h4]
    exact ⟨fun z => (by cases z), fun z => absurd h4 z.1⟩
  · rw [if_neg h4]
    by_cases p0 : c.2.2.2.2.1 = 0
    · rw [if_pos p0]
      exact ⟨fun _ => ⟨h4, Or.inl p0⟩, fun _ => rfl⟩
    · rw [if_neg p0, e1, e2, h5, h2]
      have l1 := nI_ltI (a := eN c.2.2.1 r) (b := cn) (by omega) (by omega)
      have l2 := nI_ltI (a := cn) (b := eN c.2.2.1 r) (by omega) (by omega)
      have l3 := nI_eq (a := eN c.2.2.1 r) (b := cn) (by omega) (by omega)
      have l4 := nI_ltI (a := mN r) (b := cm) (by omega) (by omega)
      have l5 := nI_ltI (a := cm) (b := mN r) (by omega) (by omega)
      have hpos : posN c.2.2.1 r = eN c.2.2.1 r * 4000000 + mN r := rfl
      by_cases sk : skipC c
      · have sk' : ¬ c.2.2.2.1 ≤ 1 ∧ ¬ c.2.2.1 = -1 := sk
        rw [if_pos sk']
        by_cases d3 : c.2.2.2.1 = 3
        · have bk : backC c := Or.inr d3
          rw [if_pos d3]
          constructor
          · intro z
            have := l1.mp (of_decide_eq_true z)
            exact ⟨nI_m1 (by omega), Or.inr (Or.inl ⟨sk, Or.inl ⟨bk, by omega⟩⟩)⟩
          · rintro ⟨-, z | ⟨-, ⟨-, z⟩ | ⟨z, -⟩⟩ | ⟨z, -⟩⟩
            · exact absurd z p0
            · exact decide_eq_true (l1.mpr (by omega))
            · exact absurd bk z
            · exact absurd sk z
        · have nbk : ¬ backC c := fun z => z.elim (fun z => sk'.1 (by rw [z]; decide)) d3
          rw [if_neg d3]
          constructor
          · intro z
            have := l2.mp (of_decide_eq_true z)
            exact ⟨nI_m1 (by omega), Or.inr (Or.inl ⟨sk, Or.inr ⟨nbk, by omega⟩⟩)⟩
          · rintro ⟨-, z | ⟨-, ⟨z, -⟩ | ⟨-, z⟩⟩ | ⟨z, -⟩⟩
            · exact absurd z p0
            · exact absurd z nbk
            · exact decide_eq_true (l2.mpr (by omega))
            · exact absurd sk z
      · have sk' : ¬ (¬ c.2.2.2.1 ≤ 1 ∧ ¬ c.2.2.1 = -1) := sk
        rw [if_neg sk']
        by_cases bk : backC c
        · have bk' : c.2.2.2.1 = 1 ∨ c.2.2.2.1 = 3 := bk
          rw [if_pos bk']
          constructor
          · intro z
            have y : eN c.2.2.1 r < cn ∨ eN c.2.2.1 r = cn ∧ mN r < cm := (of_decide_eq_true z).imp l1.mp (fun y => ⟨l3.mp y.1, l4.mp y.2⟩)
            exact ⟨nI_m1 (by omega), Or.inr (Or.inr ⟨sk, Or.inl ⟨bk, by omega⟩⟩)⟩
          · rintro ⟨-, z | ⟨z, -⟩ | ⟨-, ⟨-, z⟩ | ⟨z, -⟩⟩⟩
            · exact absurd z p0
            · exact absurd z sk
            · have y : eN c.2.2.1 r < cn ∨ eN c.2.2.1 r = cn ∧ mN r < cm := by omega
              exact decide_eq_true (y.imp l1.mpr (fun y => ⟨l3.mpr y.1, l4.mpr y.2⟩))
            · exact absurd bk z
        · have bk' : ¬ (c.2.2.2.1 = 1 ∨ c.2.2.2.1 = 3) := bk
          rw [if_neg bk']
          constructor
          · intro z
            have y : cn < eN c.2.2.1 r ∨ eN c.2.2.1 r = cn ∧ cm < mN r := (of_decide_eq_true z).imp l2.mp (fun y => ⟨l3.mp y.1, l5.mp y.2⟩)
            exact ⟨nI_m1 (by omega), Or.inr (Or.inr ⟨sk, Or.inr ⟨bk, by omega⟩⟩)⟩
          · rintro ⟨-, z | ⟨z, -⟩ | ⟨-, ⟨z, -⟩ | ⟨-, z⟩⟩⟩
            · exact absurd z p0
            · exact absurd z sk
            · exact absurd z bk
            · have y : cn < eN c.2.2.1 r ∨ eN c.2.2.1 r = cn ∧ cm < mN r := by omega
              exact decide_eq_true (y.imp l2.mpr (fun y => ⟨l3.mpr y.1, l5.mpr y.2⟩))
def kap (c : CU) (r : RW) : Nat := if backC c then (if skipC c then (999 - eN c.2.2.1 r) * 4000000 + mN r else 4000000000 - posN c.2.2.1 r) else posN c.2.2.1 r
theorem next_is {c : CU} {xs : List RW} (h : EN c.2.2.1 xs) (hb : ∀ r ∈ xs, behR c r = true → ¬ entR c.2.2.1 r = -1) : IsB (fun r => behR c r = true) (kap c) xs (nextR c xs) := by
  refine best_is (kap c) xs (fun x hx y hy p1 p2 => ?_)
  obtain ⟨-, x2, x3, x4 | ⟨x4, x5, x6, -⟩⟩ := h x hx
  · exact absurd x4.1 (hb x hx p1)
  obtain ⟨-, y2, y3, y4 | ⟨y4, y5, y6, -⟩⟩ := h y hy
  · exact absurd y4.1 (hb y hy p2)
  have hpx : posN c.2.2.1 x = eN c.2.2.1 x * 4000000 + mN x := rfl
  have hpy : posN c.2.2.1 y = eN c.2.2.1 y * 4000000 + mN y := rfl
  have l1 := nI_ltI (a := eN c.2.2.1 x) (b := eN c.2.2.1 y) (by omega) (by omega)
  have l2 := nI_ltI (a := eN c.2.2.1 y) (b := eN c.2.2.1 x) (by omega) (by omega)
  have l3 := nI_eq (a := eN c.2.2.1 x) (b := eN c.2.2.1 y) (by omega) (by omega)
  have l4 := nI_ltI (a := mN x) (b := mN y) (by omega) (by omega)
  have l5 := nI_ltI (a := mN y) (b := mN x) (by omega) (by omega)
  unfold sooR kap
  rw [x5, y5, x2, y2]
  by_cases bk : backC c
  · have bk' : c.2.2.2.1 = 1 ∨ c.2.2.2.1 = 3 := bk
    rw [if_pos bk', if_pos bk, if_pos bk]
    by_cases sk : skipC c
    · rw [if_pos sk, if_pos sk]
      by_cases eq : eN c.2.2.1 x = eN c.2.2.1 y
      · rw [if_pos (⟨sk, l3.mpr eq⟩ : (¬ c.2.2.2.1 ≤ 1 ∧ ¬ c.2.2.1 = -1) ∧ nI (eN c.2.2.1 x) = nI (eN c.2.2.1 y))]
        constructor
        · intro z
          have := l4.mp (of_decide_eq_true z)
          rw [eq]; omega
        · intro z
          rw [eq] at z
          exact decide_eq_true (l4.mpr (by omega))
      · rw [if_neg (show ¬ ((¬ c.2.2.2.1 ≤ 1 ∧ ¬ c.2.2.1 = -1) ∧ nI (eN c.2.2.1 x) = nI (eN c.2.2.1 y)) from fun z => eq (l3.mp z.2))]
        constructor
        · intro z
          have y : eN c.2.2.1 y < eN c.2.2.1 x := (of_decide_eq_true z).elim l2.mp (fun y => absurd (l3.mp y.1) eq)
          omega
        · intro z
          exact decide_eq_true (Or.inl (l2.mpr (by omega)))
    · rw [if_neg sk, if_neg sk, if_neg (show ¬ ((¬ c.2.2.2.1 ≤ 1 ∧ ¬ c.2.2.1 = -1) ∧ nI (eN c.2.2.1 x) = nI (eN c.2.2.1 y)) from fun z => sk z.1)]
      constructor
      · intro z
        have y : eN c.2.2.1 y < eN c.2.2.1 x ∨ eN c.2.2.1 x = eN c.2.2.1 y ∧ mN y < mN x := (of_decide_eq_true z).imp l2.mp (fun y => ⟨l3.mp y.1, l5.mp y.2⟩)
        omega
      · intro z
        have y : eN c.2.2.1 y < eN c.2.2.1 x ∨ eN c.2.2.1 x = eN c.2.2.1 y ∧ mN y < mN x := by omega
        exact decide_eq_true (y.imp l2.mpr (fun y => ⟨l3.mpr y.1, l5.mpr y.2⟩))
  · have bk' : ¬ (c.2.2.2.1 = 1 ∨ c.2.2.2.1 = 3) := bk
    rw [if_neg bk', if_neg bk, if_neg bk]
    by_cases eq : (¬ c.2.2.2.1 ≤ 1 ∧ ¬ c.2.2.1 = -1) ∧ nI (eN c.2.2.1 x) = nI (eN c.2.2.1 y)
    · rw [if_pos eq]
      have e9 := l3.mp eq.2
      constructor
      · intro z
        have := l4.mp (of_decide_eq_true z)
        omega
      · intro z
        exact decide_eq_true (l4.mpr (by omega))
    · rw [if_neg eq]
      constructor
      · intro z
        have y : eN c.2.2.1 x < eN c.2.2.1 y ∨ eN c.2.2.1 x = eN c.2.2.1 y ∧ mN x < mN y := (of_decide_eq_true z).imp l1.mp (fun y => ⟨l3.mp y.1, l4.mp y.2⟩)
        omega
      · intro z
        have y : eN c.2.2.1 x < eN c.2.2.1 y ∨ eN c.2.2.1 x = eN c.2.2.1 y ∧ mN x < mN y := by omega
        exact decide_eq_true (y.imp l1.mpr (fun y => ⟨l3.mpr y.1, l4.mpr y.2⟩))
theorem start_N {p : Nat} (h : p < 2 ^ 40) : x_X2_startOfNumber (lN p) = some (lN (p - p % 4000000)) := by
  unfold x_X2_startOfNumber
  have e : lN p - lN p / 4000000 * 4000000 = lN (p % 4000000) := pk_lRem (b := 4000000) (by omega) (by omega) (by omega)
  rw [e, lN_sub (by have := Nat.mod_le p 4000000; omega)]
theorem rng999 {v : Int32} (h : ¬ rng v 0 999) : ∃ n, n ≤ 999 ∧ v = nI n := by
  rcases oT_cases (n := 1000) v (by omega) with q | ⟨i, hi, rfl, -⟩
  · exact absurd ((rng_oT (n := 1000) v (by omega)).mpr q) h
  · exact ⟨i, by omega, rfl⟩
theorem opt_cases {w : CS} {v : Nat} {A : Option RW} (h : opt w v = A) : (v = 0 ∧ A = none) ∨ (v ≠ 0 ∧ A = some (rwv w v)) := by
  unfold opt at h
  by_cases z : v = 0
  · rw [if_pos z] at h; exact Or.inl ⟨z, h.symm⟩
  · rw [if_neg z] at h; exact Or.inr ⟨z, h.symm⟩
/-- the class finds the reference's next row -/
theorem c_next {o q i : Nat} {w : CS} {R : Nat → List Nat} {a : AS} (V : VC o q w R a) (I : IV a) (hi : i < a.2.2.2.length) : ∃ v, x_X0_nextRow ((R 7).getD i 0) w = some v ∧ (v = 0 ∨ v ∈ R (cuAt a.2.2.2 i).2.1) ∧ opt w v = nextR (cuAt a.2.2.2 i) (a.2.2.1.2 (cuAt a.2.2.2 i).2.1).2.2.2 := by
  have hl7 : (R 7).length = a.2.2.2.length := V.2.2.2.2.2.1.1
  have hcu := V.2.2.2.2.2.1.2 i hi
  have hck := I.2.2.2.2 _ (cuAt_mem hi)
  have hkx := (V.1.ck _ (getD_mem (show i < (R 7).length by omega))).1
  generalize cuAt a.2.2.2 i = c at *
  obtain ⟨z1, z2, z3, z4, z5, z6, z7, z8, z9⟩ := hcu
  obtain ⟨k1, k2, k3, hf, hd, hph, hnum, hkey⟩ := hck
  have hk6 : c.2.1 < 6 := by omega
  have hS := SOK.of I k2
  have hE := EN.of hS hf
  have hrows := c_rows V hk6
  obtain ⟨cn, hcn, ecn⟩ := rng999 hnum
  obtain ⟨cm, hcm, ecm⟩ := rk_of hkey
  have hplc : wL w 127 ((R 7).getD i 0) = lN (cn * 4000000 + cm) := by
    rw [z9]
    unfold plc
    rw [ecn, ecm, nI_l (by omega), nI_l (by omega), show (4000000 : Int64) = lN 4000000 from rfl, lN_mul, lN_add]
  have hbe : ∀ r ∈ (a.2.2.1.2 c.2.1).2.2.2, _ := fun r hr => beh_iff hE hcn hcm ecn ecm hd hr
  have hnx := next_is hE (fun r hr z => ((hbe r hr).mp z).1)
  have hinj : ∀ x ∈ (a.2.2.1.2 c.2.1).2.2.2, ∀ y ∈ (a.2.2.1.2 c.2.1).2.2.2, behR c x = true → behR c y = true → kap c x = kap c y → x = y := by
    intro x hx y hy p1 p2 hk
    refine ent_inj (f := c.2.2.1) hS.2.2.2.1 (fun r hr => ⟨(hE r hr).1, (hE r hr).2.1, (hE r hr).2.2.1⟩) hx hy ?_
    obtain ⟨-, -, x3, x4 | ⟨x4, x5, x6, -⟩⟩ := hE x hx
    · exact absurd x4.1 ((hbe x hx).mp p1).1
    obtain ⟨-, -, y3, y4 | ⟨y4, y5, y6, -⟩⟩ := hE y hy
    · exact absurd y4.1 ((hbe y hy).mp p2).1
    have hpx : posN c.2.2.1 x = eN c.2.2.1 x * 4000000 + mN x := rfl
    have hpy : posN c.2.2.1 y = eN c.2.2.1 y * 4000000 + mN y := rfl
    unfold kap at hk
    split at hk
    · split at hk <;> omega
    · omega
  have hst := V.1.st c.2.1 hk6
  have h124 : wI w 124 ((R 7).getD i 0) = 0 ↔ ¬ skipC c := by
    rw [z6]
    have e2 : c.2.2.2.1 < 2 ↔ c.2.2.2.1 ≤ 1 := by
      rcases hd with q | q | q | q <;> rw [q] <;> decide
    by_cases z : c.2.2.2.1 < 2 ∨ c.2.2.1 = -1
    · rw [if_pos z]
      exact ⟨fun _ y => z.elim (fun z => y.1 (e2.mp z)) y.2, fun _ => rfl⟩
    · rw [if_neg z]
      exact ⟨fun y => absurd y q10, fun y => absurd ⟨fun u => z (Or.inl (e2.mpr u)), fun u => z (Or.inr u)⟩ y⟩
  unfold x_X0_nextRow
  rw [if_pos hkx, z5]
  by_cases bk : backC c
  · -- backward
    have bk' : c.2.2.2.1 = 1 ∨ c.2.2.2.1 = 3 := bk
    rw [if_pos bk', if_neg q10]
    have hlim : ∃ L, L ≤ 4000000000 ∧ (bd (if wI w 125 ((R 7).getD i 0) = 0 then some (4000000000 : Int64) else bd (if wI w 124 ((R 7).getD i 0) = 0 then some (wL w 127 ((R 7).getD i 0)) else bd (x_X2_startOfNumber (wL w 127 ((R 7).getD i 0))) (fun v5 => some v5)) (fun v6 => some v6)) (fun v => some v) : Option Int64) = some (lN L) ∧ ∀ r ∈ (a.2.2.1.2 c.2.1).2.2.2, (¬ entR c.2.2.1 r = -1 ∧ posN c.2.2.1 r < L) ↔ behR c r = true := by
      rw [z7, hplc]
      by_cases p0 : c.2.2.2.2.1 = 0
      · refine ⟨4000000000, Nat.le_refl _, by rw [if_pos p0, bd_some]; rfl, fun r hr => ?_⟩
        rw [hbe r hr]
        refine ⟨fun z => ⟨z.1, Or.inl p0⟩, fun z => ⟨z.1, ?_⟩⟩
        obtain ⟨-, -, x3, x4 | ⟨x4, x5, x6, -⟩⟩ := hE r hr
        · exact absurd x4.1 z.1
        · exact pos_lt x6 x3
      · by_cases sk : skipC c
        · refine ⟨cn * 4000000, by omega, ?_, fun r hr => ?_⟩
          · rw [if_neg p0, if_neg (fun z => h124.mp z sk), start_N (by omega), bd_some, bd_some, bd_some]
            rw [show cn * 4000000 + cm - (cn * 4000000 + cm) % 4000000 = cn * 4000000 by omega]
          · rw [hbe r hr]
            refine ⟨fun z => ⟨z.1, Or.inr (Or.inl ⟨sk, Or.inl ⟨bk, z.2⟩⟩)⟩, ?_⟩
            rintro ⟨u, z | ⟨-, ⟨-, z⟩ | ⟨z, -⟩⟩ | ⟨z, -⟩⟩
            · exact absurd z p0
            · exact ⟨u, z⟩
            · exact absurd bk z
            · exact absurd sk z
        · refine ⟨cn * 4000000 + cm, by omega, by rw [if_neg p0, if_pos (h124.mpr sk), bd_some, bd_some], fun r hr => ?_⟩
          rw [hbe r hr]
          refine ⟨fun z => ⟨z.1, Or.inr (Or.inr ⟨sk, Or.inl ⟨bk, z.2⟩⟩)⟩, ?_⟩
          rintro ⟨u, z | ⟨z, -⟩ | ⟨-, ⟨-, z⟩ | ⟨z, -⟩⟩⟩
          · exact absurd z p0
          · exact absurd z sk
          · exact ⟨u, z⟩
          · exact absurd bk z
    obtain ⟨L, hL, eL, hP⟩ := hlim
    have eL2 : ∀ {β : Type} (F : Int64 → Option β), bd (if wI w 125 ((R 7).getD i 0) = 0 then some (4000000000 : Int64) else bd (if wI w 124 ((R 7).getD i 0) = 0 then some (wL w 127 ((R 7).getD i 0)) else bd (x_X2_startOfNumber (wL w 127 ((R 7).getD i 0))) (fun v5 => some v5)) (fun v6 => some v6)) F = F (lN L) := by
      intro β F
      cases hx : (if wI w 125 ((R 7).getD i 0) = 0 then some (4000000000 : Int64) else bd (if wI w 124 ((R 7).getD i 0) = 0 then some (wL w 127 ((R 7).getD i 0)) else bd (x_X2_startOfNumber (wL w 127 ((R 7).getD i 0))) (fun v5 => some v5)) (fun v6 => some v6)) with
      | none => rw [hx] at eL; cases eL
      | some z => rw [hx] at eL; rw [bd_some]; rw [bd_some] at eL; rw [Option.some.inj eL]
    obtain ⟨v, ev, hv, ov⟩ := c_lb V.1 hk6 c.2.2.1 (lN L)
    rw [hrows] at ov
    have hlb := (lb_is (L := L) hE (by omega)).cg hP
    unfold x_X0_nextBackward
    rw [if_pos hkx, eL2, z3, if_pos hst.1, z4, ev, bd_some]
    by_cases sk : skipC c
    · rcases opt_cases ov with ⟨v0, en⟩ | ⟨v0, en⟩
      · rw [if_pos v0, l0_inl, bd_some, bd_some]
        refine ⟨v, rfl, hv, ?_⟩
        rw [show opt w v = none from if_pos v0]
        rw [en] at hlb
        rcases hlb with ⟨-, y⟩ | ⟨r, -, y, -⟩
        · rcases hnx with ⟨u, -⟩ | ⟨s, s1, -, s3, -⟩
          · exact u.symm
          · exact absurd s3 (y s s1)
        · cases y
      · have hvk := (V.1.rk c.2.1 hk6).2 v (hv.elim (fun z => absurd z v0) id)
        rw [en] at hlb
        rcases hlb with ⟨y, -⟩ | ⟨r, r1, r2, r3, r4⟩
        · cases y
        have er : r = rwv w v := (Option.some.inj r2).symm
        obtain ⟨-, -, x3, x4 | ⟨x4, x5, x6, x7⟩⟩ := hE r r1
        · exact absurd x4.1 ((hbe r r1).mp r3).1
        have hpr := pos_lt x6 x3
        obtain ⟨v', ev', hv', ov'⟩ := c_ff V.1 hk6 c.2.2.1 (lN (posN c.2.2.1 r - posN c.2.2.1 r % 4000000))
        rw [hrows] at ov'
        rw [if_neg v0, if_neg (fun z => h124.mp z sk), if_pos hvk, s_place hvk, bd_some, ← er, x7, start_N (by omega), bd_some, ev', bd_some, l0_inr, bd_some, bd_some]
        refine ⟨v', rfl, hv', ?_⟩
        have hff := ff_is (L := posN c.2.2.1 r - posN c.2.2.1 r % 4000000) hE (by omega)
        rw [← ov'] at hff
        refine IsB.uniq ?_ hnx hinj
        have hpr2 : posN c.2.2.1 r = eN c.2.2.1 r * 4000000 + mN r := rfl
        rcases hff with ⟨-, y⟩ | ⟨t, t1, t2, t3, t4⟩
        · exact absurd ⟨x4, by omega⟩ (y r r1)
        · obtain ⟨-, -, y3, y4 | ⟨y4, y5, y6, y7⟩⟩ := hE t t1
          · exact absurd y4.1 t3.1
          have htr := t4 r r1 ⟨x4, by omega⟩
          have hpt : posN c.2.2.1 t = eN c.2.2.1 t * 4000000 + mN t := rfl
          have het : eN c.2.2.1 t = eN c.2.2.1 r := by have := t3.2; omega
          have hbt : behR c t = true := by
            refine (hP t t1).mp ⟨y4, ?_⟩
            have := ((hP r r1).mpr r3).2
            omega
          refine Or.inr ⟨t, t1, t2, hbt, fun x hx hxb => ?_⟩
          obtain ⟨-, -, u3, u4 | ⟨u4, u5, u6, u7⟩⟩ := hE x hx
          · exact absurd u4.1 ((hbe x hx).mp hxb).1
          have hpx : posN c.2.2.1 x = eN c.2.2.1 x * 4000000 + mN x := rfl
          have hrx := r4 x hx hxb
          have hrx' : 4000000000 - posN c.2.2.1 r ≤ 4000000000 - posN c.2.2.1 x := hrx
          have hux := pos_lt u6 u3
          unfold kap
          rw [if_pos bk, if_pos sk, if_pos bk, if_pos sk]
          by_cases ee : eN c.2.2.1 x = eN c.2.2.1 r
          · have := t4 x hx ⟨u4, by omega⟩
            omega
          · omega
    · have ns : opt w v = nextR c (a.2.2.1.2 c.2.1).2.2.2 := by
        rw [← ov] at hlb
        refine IsB.uniq ?_ hnx hinj
        rcases hlb with ⟨y1, y2⟩ | ⟨t, t1, t2, t3, t4⟩
        · exact Or.inl ⟨y1, y2⟩
        · refine Or.inr ⟨t, t1, t2, t3, fun x hx hxb => ?_⟩
          unfold kap
          rw [if_pos bk, if_neg sk, if_pos bk, if_neg sk]
          exact t4 x hx hxb
      by_cases v0 : v = 0
      · rw [if_pos v0, l0_inl, bd_some, bd_some]; exact ⟨v, rfl, hv, ns⟩
      · rw [if_neg v0, if_pos (h124.mpr sk), l0_inl, bd_some, bd_some]; exact ⟨v, rfl, hv, ns⟩
  · -- forward
    have bk' : ¬ (c.2.2.2.1 = 1 ∨ c.2.2.2.1 = 3) := bk
    rw [if_neg bk', if_pos q00]
    have fin : ∀ L, L < 2 ^ 40 → (∀ r ∈ (a.2.2.1.2 c.2.1).2.2.2, (¬ entR c.2.2.1 r = -1 ∧ L ≤ posN c.2.2.1 r) ↔ behR c r = true) → ∃ v, x_X3_firstFrom (o + 10 + 3 * c.2.1) c.2.2.1 (lN L) w = some v ∧ (v = 0 ∨ v ∈ R c.2.1) ∧ opt w v = nextR c (a.2.2.1.2 c.2.1).2.2.2 := by
      intro L hL hP
      obtain ⟨v, ev, hv, ov⟩ := c_ff V.1 hk6 c.2.2.1 (lN L)
      rw [hrows] at ov
      refine ⟨v, ev, hv, ?_⟩
      have hff := (ff_is (L := L) hE hL).cg hP
      rw [← ov] at hff
      refine IsB.uniq ?_ hnx hinj
      rcases hff with ⟨y1, y2⟩ | ⟨t, t1, t2, t3, t4⟩
      · exact Or.inl ⟨y1, y2⟩
      · refine Or.inr ⟨t, t1, t2, t3, fun x hx hxb => ?_⟩
        unfold kap
        rw [if_neg bk, if_neg bk]
        exact t4 x hx hxb
    unfold x_X0_nextForward
    rw [if_pos hkx, z7, z3, z4]
    by_cases p0 : c.2.2.2.2.1 = 0
    · obtain ⟨v, ev, hv, ov⟩ := fin 0 (by omega) (fun r hr => by
        rw [hbe r hr]
        exact ⟨fun z => ⟨z.1, Or.inl p0⟩, fun z => ⟨z.1, Nat.zero_le _⟩⟩)
      rw [if_pos p0, if_pos hst.1, lN0, ev, bd_some, bd_some, bd_some]
      exact ⟨v, rfl, hv, ov⟩
    · rw [if_neg p0, hplc]
      by_cases sk : skipC c
      · obtain ⟨v, ev, hv, ov⟩ := fin ((cn + 1) * 4000000) (by omega) (fun r hr => by
          rw [hbe r hr]
          refine ⟨fun z => ⟨z.1, Or.inr (Or.inl ⟨sk, Or.inr ⟨bk, z.2⟩⟩)⟩, ?_⟩
          rintro ⟨u, z | ⟨-, ⟨z, -⟩ | ⟨-, z⟩⟩ | ⟨z, -⟩⟩
          · exact absurd z p0
          · exact absurd z bk
          · exact ⟨u, z⟩
          · exact absurd sk z)
        rw [if_neg (fun z => h124.mp z sk), start_N (by omega), bd_some, bd_some, if_pos hst.1, show (4000000 : Int64) = lN 4000000 from rfl, lN_add, show cn * 4000000 + cm - (cn * 4000000 + cm) % 4000000 + 4000000 = (cn + 1) * 4000000 by omega, ev, bd_some, bd_some, bd_some]
        exact ⟨v, rfl, hv, ov⟩
      · obtain ⟨v, ev, hv, ov⟩ := fin (cn * 4000000 + cm + 1) (by omega) (fun r hr => by
          rw [hbe r hr]
          refine ⟨fun z => ⟨z.1, Or.inr (Or.inr ⟨sk, Or.inr ⟨bk, z.2⟩⟩)⟩, ?_⟩
          rintro ⟨u, z | ⟨z, -⟩ | ⟨-, ⟨z, -⟩ | ⟨-, z⟩⟩⟩
          · exact absurd z p0
          · exact absurd z sk
          · exact absurd z bk
          · exact ⟨u, z⟩)
        rw [if_pos (h124.mpr sk), lN_1, bd_some, if_pos hst.1, ev, bd_some, bd_some, bd_some]
        exact ⟨v, rfl, hv, ov⟩
