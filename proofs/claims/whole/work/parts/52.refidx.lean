/-! ===== PURE: the reference's indexes and cursors ===== -/
theorem m_dblL2 {m : MS} {k f : Nat} {s : SA} (hk : k < 3) (hf : f < 2) (hl : s.2.2.2.length ≤ 40) (V : MVs m 6 k s) {i : Nat} (hi : i < s.2.2.2.length) (b : Prop) [Decidable b] : ∀ (n j : Nat), i < n + j → j ≤ i → x_X7_hasDoubles_L2 (nI f) m (nI (40 * k + i)) n (nI (40 * k + j)) (if b ∨ ∃ q ∈ List.range j, ¬ rNum (nI f) (rwD s.2.2.2 i) = -1 ∧ rNum (nI f) (rwD s.2.2.2 i) = rNum (nI f) (rwD s.2.2.2 q) then 1 else 0) = some (if b ∨ ∃ q ∈ List.range i, ¬ rNum (nI f) (rwD s.2.2.2 i) = -1 ∧ rNum (nI f) (rwD s.2.2.2 i) = rNum (nI f) (rwD s.2.2.2 q) then 1 else 0) := by
  intro n
  induction n with
  | zero => intro j h1 h2; omega
  | succ n ih =>
    intro j h1 h2
    rw [x_X7_hasDoubles_L2]
    by_cases hj : j < i
    · have hr2 : vR (nI (2 * (40 * k + i) + f)) 240 := nI_in (by omega) (by omega)
      have hr3 : vR (nI (2 * (40 * k + j) + f)) 240 := nI_in (by omega) (by omega)
      rw [if_neg (nI_ge (by omega) (by omega)), nI_1, Nat.add_assoc, ← ih (j + 1) (by omega) (by omega)]
      simp only [n2, nI_add, if_pos hr2, if_pos hr3, nI_clamp (show 2 * (40 * k + i) + f < 2 ^ 31 by omega), nI_clamp (show 2 * (40 * k + j) + f < 2 ^ 31 by omega)]
      rw [show ga m 11 (2 * (40 * k + i) + f) = _ from rN_f hf V hi, show ga m 11 (2 * (40 * k + j) + f) = _ from rN_f hf V (by omega)]
      have e := exR (P := fun q => ¬ rNum (nI f) (rwD s.2.2.2 i) = -1 ∧ rNum (nI f) (rwD s.2.2.2 i) = rNum (nI f) (rwD s.2.2.2 q)) j
      by_cases hQ : b ∨ ∃ q ∈ List.range j, ¬ rNum (nI f) (rwD s.2.2.2 i) = -1 ∧ rNum (nI f) (rwD s.2.2.2 i) = rNum (nI f) (rwD s.2.2.2 q)
      · rw [if_pos hQ, if_neg q10, l0_inl, bd_some, if_pos (hQ.imp id (fun z => e.mpr (Or.inl z)))]
      · have hb : ¬ b := fun z => hQ (Or.inl z)
        have hE : ¬ ∃ q ∈ List.range j, ¬ rNum (nI f) (rwD s.2.2.2 i) = -1 ∧ rNum (nI f) (rwD s.2.2.2 i) = rNum (nI f) (rwD s.2.2.2 q) := fun z => hQ (Or.inr z)
        rw [if_neg hQ, if_pos rfl]
        by_cases hv : rNum (nI f) (rwD s.2.2.2 i) = -1
        · rw [if_pos hv, l0_inl, l0_inr, bd_some, if_neg (fun q => q.elim hb (fun q => (e.mp q).elim hE (fun q => q.1 hv)))]
        · by_cases hn : rNum (nI f) (rwD s.2.2.2 i) = rNum (nI f) (rwD s.2.2.2 j)
          · rw [if_neg hv, if_pos hn, l0_inr, l0_inl, bd_some, if_pos (Or.inr (e.mpr (Or.inr ⟨hv, hn⟩)))]
          · rw [if_neg hv, if_neg hn, l0_inl, l0_inr, bd_some, if_neg (fun q => q.elim hb (fun q => (e.mp q).elim hE (fun q => hn q.2)))]
    · have : j = i := by omega
      subst this
      rw [if_pos (nI_le (Nat.le_refl _) (by omega))]
abbrev dblQ (f : Nat) (xs : List RW) (i : Nat) : Prop := ∃ q ∈ List.range i, ¬ rNum (nI f) (rwD xs i) = -1 ∧ rNum (nI f) (rwD xs i) = rNum (nI f) (rwD xs q)
theorem m_dblL1 {m : MS} {k f : Nat} {s : SA} (hk : k < 3) (hf : f < 2) (hl : s.2.2.2.length ≤ 40) (V : MVs m 6 k s) : ∀ (n i : Nat), s.2.2.2.length < n + i → i ≤ s.2.2.2.length → x_X7_hasDoubles_L1 (nI k) (nI f) m n (nI (40 * k + i)) (if ∃ p ∈ List.range i, dblQ f s.2.2.2 p then 1 else 0) = some (if ∃ p ∈ List.range s.2.2.2.length, dblQ f s.2.2.2 p then 1 else 0) := by
  intro n
  induction n with
  | zero => intro i h1 h2; omega
  | succ n ih =>
    intro i h1 h2
    have hr : vR (nI k) 3 := nI_in hk (by omega)
    rw [x_X7_hasDoubles_L1]
    simp only [if_pos hr, nI_clamp (show k < 2 ^ 31 by omega), V.2.1, n40, nI_add]
    by_cases hi : i < s.2.2.2.length
    · rw [if_neg (nI_ge (by omega) (by omega)), nI_1, Nat.add_assoc, ← ih (i + 1) (by omega) (by omega)]
      have h := m_dblL2 hk hf hl V hi (∃ p ∈ List.range i, dblQ f s.2.2.2 p) FU 0 (by show i < 1000 + 0; omega) (Nat.zero_le _)
      have e0 : (if (∃ p ∈ List.range i, dblQ f s.2.2.2 p) ∨ ∃ q ∈ List.range 0, ¬ rNum (nI f) (rwD s.2.2.2 i) = -1 ∧ rNum (nI f) (rwD s.2.2.2 i) = rNum (nI f) (rwD s.2.2.2 q) then (1 : Int32) else 0) = if ∃ p ∈ List.range i, dblQ f s.2.2.2 p then 1 else 0 := ite_congr (propext ⟨fun q => q.elim id (fun ⟨x, hx, _⟩ => absurd hx (by simp)), Or.inl⟩) (fun _ => rfl) (fun _ => rfl)
      rw [e0, Nat.add_zero] at h
      rw [h, bd_some]
      have e := exR (P := fun p => dblQ f s.2.2.2 p) i
      by_cases q : (∃ p ∈ List.range i, dblQ f s.2.2.2 p) ∨ dblQ f s.2.2.2 i
      · rw [if_pos q, if_pos (e.mpr q)]
      · rw [if_neg q, if_neg (fun z => q (e.mp z))]
    · have : i = s.2.2.2.length := by omega
      subst this
      rw [if_pos (nI_le (by omega) (by omega))]
theorem key_inj {xs : List RW} (h : (xs.map (fun r => r.1)).Nodup) {i j : Nat} (hi : i < xs.length) (hj : j < xs.length) (e : (rwD xs i).1 = (rwD xs j).1) : i = j := by
  rw [rwD_get hi, rwD_get hj] at e
  have h1 : i < (xs.map (fun r => r.1)).length := by rw [List.length_map]; exact hi
  have h2 : j < (xs.map (fun r => r.1)).length := by rw [List.length_map]; exact hj
  have P := List.pairwise_iff_getElem.mp h
  rcases Nat.lt_trichotomy i j with z | z | z
  · exact absurd (show (xs.map (fun r => r.1))[i] = (xs.map (fun r => r.1))[j] by rw [List.getElem_map, List.getElem_map]; exact e) (P i j h1 h2 z)
  · exact z
  · exact absurd (show (xs.map (fun r => r.1))[j] = (xs.map (fun r => r.1))[i] by rw [List.getElem_map, List.getElem_map]; exact e.symm) (P j i h2 h1 z)
theorem dbl_iff {xs : List RW} (h : (xs.map (fun r => r.1)).Nodup) (f : Nat) : (∃ p ∈ List.range xs.length, dblQ f xs p) ↔ dblR xs (nI f) := by
  constructor
  · rintro ⟨p, hp, q, hq, h1, h2⟩
    have hp' := List.mem_range.mp hp
    have hq' := List.mem_range.mp hq
    exact ⟨_, rwD_mem hp', h1, _, rwD_mem (show q < xs.length by omega), fun e => by have := key_inj h (by omega) hp' e; omega, h2.symm⟩
  · rintro ⟨x, hx, h1, y, hy, h2, h3⟩
    obtain ⟨i, hi, ei⟩ := List.mem_iff_getElem.mp hx
    obtain ⟨j, hj, ej⟩ := List.mem_iff_getElem.mp hy
    have ei' : rwD xs i = x := by rw [rwD_get hi]; exact ei
    have ej' : rwD xs j = y := by rw [rwD_get hj]; exact ej
    have hij : i ≠ j := fun e => h2 (by rw [← ei', ← ej', e])
    rcases Nat.lt_or_ge i j with z | z
    · refine ⟨j, List.mem_range.mpr hj, i, List.mem_range.mpr z, ?_, ?_⟩
      · rw [ej', h3]; exact h1
      · rw [ei', ej']; exact h3
    · refine ⟨i, List.mem_range.mpr hi, j, List.mem_range.mpr (by omega), ?_, ?_⟩
      · rw [ei']; exact h1
      · rw [ei', ej']; exact h3.symm
theorem m_hasDoubles {m : MS} {k f : Nat} {s : SA} (hk : k < 3) (hf : f < 2) (hS : SOK s) (V : MVs m 6 k s) : x_X7_hasDoubles (nI k) (nI f) m = some (if dblR s.2.2.2 (nI f) then 1 else 0) := by
  unfold x_X7_hasDoubles
  have h := m_dblL1 hk hf hS.2.2.1 V FU 0 (by have := hS.2.2.1; show _ < 1000 + 0; omega) (Nat.zero_le _)
  rw [if_neg (by simp), Nat.add_zero] at h
  rw [n40, h, bd_some]
  have e := dbl_iff hS.2.2.2.1 f
  by_cases q : dblR s.2.2.2 (nI f)
  · rw [if_pos (e.mpr q), if_pos isB1, if_pos q]
  · rw [if_neg (fun z => q (e.mp z)), if_pos isB0, if_neg q]
theorem r_makeIndex {m : MS} {D : Nat} {a : AS} (V : MV m D a) (I : IV a) (t s f u : Int32) : RV (x_X7_makeIndex t s f u m) c2 D (mkIA t s f u a) := by
  have hn : lenT a ≤ 60 := I.2.2.1.1.1
  unfold x_X7_makeIndex mkIA
  rw [m_isTransaction V.2.2.1.1.1 hn, m_isStore V.2.2.1.2.1, bd_some]
  by_cases h : oX a t
  · simp only [if_pos h, bd_some, l0_inl, l0_inr, l1_inl, l1_inr, b2_some, bs_eq, if_neg q10, if_pos q00, if_neg q20, if_neg q30, if_pos q11, if_neg q01, if_pos isB0, if_pos isB1, if_true, if_false, f1]; exact RV.f V rfl
  · by_cases h2 : noS a s
    · simp only [if_neg h, if_pos h2, bd_some, l0_inl, l0_inr, l1_inl, l1_inr, b2_some, bs_eq, if_neg q10, if_pos q00, if_neg q20, if_neg q30, if_pos q11, if_neg q01, if_pos isB0, if_pos isB1, if_true, if_false, f1]; exact RV.f V rfl
    · have hs9 : rng f 0 1 ↔ oT f 2 := rng_oT (n := 2) f (by omega)
      by_cases h3 : oT f 2
      · simp only [if_neg h, if_neg h2, m_isIn, if_pos (hs9.mpr h3), if_pos h3, bd_some, l0_inl, l0_inr, l1_inl, l1_inr, b2_some, bs_eq, if_neg q10, if_pos q00, if_neg q20, if_neg q30, if_pos q11, if_neg q01, if_pos isB0, if_pos isB1, if_true, if_false, f1]; exact RV.f V rfl
      · obtain ⟨k, hk, rfl, ek⟩ := oT_at (fun q => h2 (Or.inl q)) (by omega)
        obtain ⟨x, hx, rfl, ex⟩ := oT_at h3 (by omega)
        have hS := SOK.of I hk
        have V1 := V.2.2.1.2.1 k hk
        have ht : ¬ (a.2.2.1.2 k).1 = 0 := fun q => h2 (Or.inr (by rw [ek]; exact q))
        have es : stA a (nI k) = a.2.2.1.2 k := by unfold stA; rw [ek]
        have hr : vR (nI (2 * k + x)) 6 := nI_in (by omega) (by omega)
        simp only [if_neg h, if_neg h2, if_neg h3, m_isIn, if_neg (show ¬ rng (nI x) 0 1 from fun q => h3 (hs9.mp q)), bd_some, l0_inl, l0_inr, l1_inl, l1_inr, b2_some, bs_eq, if_neg q10, if_pos q00, if_neg q20, if_neg q30, if_pos q11, if_neg q01, if_pos isB0, if_pos isB1, if_true, if_false]
        simp only [V.1.2, es, ex]
        by_cases h4 : t = a.1.2.1
        · simp only [if_pos h4, if_neg (show ¬ ¬ t = a.1.2.1 from fun q => q h4), n2, nI_add, if_pos hr, nI_clamp (show 2 * k + x < 2 ^ 31 by omega), sIx_at hx V1 ht, m_hasDoubles hk hx hS V1]
          by_cases h5 : sIx x (a.2.2.1.2 k) = 0
          · by_cases h6 : ¬ u = 0 ∧ dblR (a.2.2.1.2 k).2.2.2 (nI x)
            · rw [if_pos h5, if_neg h6.1, bd_some, if_pos h6.2, if_neg q10, l0_inr, l0_inl, bd_some, if_pos q00, bd_some, f2, b2_some, if_neg q10, bd_some, if_pos (Or.inr h6)]
              exact RV.f V rfl
            · have e7 : (l0 (if u = 0 then some (.inl ()) else bd (some (if dblR (a.2.2.1.2 k).2.2.2 (nI x) then (1 : Int32) else 0)) (fun v18 => if v18 = 0 then some (.inl ()) else some (.inr (.inl ())))) (fun _ => some (.inr (1 : Int32))) : Option (Unit ⊕ Int32)) = some (.inr 1) := by
                by_cases hu : u = 0
                · rw [if_pos hu, l0_inl]
                · rw [if_neg hu, bd_some, if_neg (fun q => h6 ⟨hu, q⟩), if_pos q00, l0_inl]
              rw [if_pos h5, e7, l0_inr, bd_some, if_neg q10, bd_some, f0, b2_some, if_pos q00, if_neg (show ¬ (¬ sIx x (a.2.2.1.2 k) = 0 ∨ ¬ u = 0 ∧ dblR (a.2.2.1.2 k).2.2.2 (nI x)) from fun q => q.elim (fun z => z h5) h6)]
              have eu : (if u = 0 then some (1 : Int32) else some 2) = some (if u = 0 then 1 else 2) := by split <;> rfl
              rw [eu, bd_some, bd_some]
              generalize (if u = 0 then (1 : Int32) else 2) = v
              refine ⟨_, D, rfl, rfl, ?_, Nat.le_succ _⟩
              unfold setS
              rw [ek]
              refine (V.t 0).rows hk (fun q _ => rfl) (fun q z hq => by rw [ga_sa2, if_neg (by omega)]) ?_ (fun i hi hik => ?_)
              · obtain ⟨w1, w2, w3, w4⟩ := (V.t 0).2.2.1.2.1 k hk
                rcases (show x = 0 ∨ x = 1 by omega) with q | q <;> subst q
                · rw [if_pos (show nI 0 = 0 from rfl)]
                  refine ⟨?_, ?_, fun q => ⟨?_, ?_⟩, fun z hz => ?_⟩
                  · rw [ga_sa2, if_neg (by omega)]; exact w1
                  · rw [ga_sa2, if_neg (by omega)]; exact w2
                  · rw [ga_sa2, if_pos ⟨rfl, rfl⟩]
                  · rw [ga_sa2, if_neg (by omega)]; exact (w3 q).2
                  · simp only [ga_sa2]
                    rw [if_neg (by omega), if_neg (by omega), if_neg (by omega), if_neg (by omega)]; exact w4 z hz
                · rw [if_neg (show ¬ nI 1 = 0 by decide)]
                  refine ⟨?_, ?_, fun q => ⟨?_, ?_⟩, fun z hz => ?_⟩
                  · rw [ga_sa2, if_neg (by omega)]; exact w1
                  · rw [ga_sa2, if_neg (by omega)]; exact w2
                  · rw [ga_sa2, if_neg (by omega)]; exact (w3 q).1
                  · rw [ga_sa2, if_pos ⟨rfl, rfl⟩]
                  · simp only [ga_sa2]
                    rw [if_neg (by omega), if_neg (by omega), if_neg (by omega), if_neg (by omega)]; exact w4 z hz
              · obtain ⟨w1, w2, w3, w4⟩ := (V.t 0).2.2.1.2.1 i hi
                refine ⟨?_, ?_, fun q => ⟨?_, ?_⟩, fun z hz => ?_⟩
                · rw [ga_sa2, if_neg (by omega)]; exact w1
                · rw [ga_sa2, if_neg (by omega)]; exact w2
                · rw [ga_sa2, if_neg (by omega)]; exact (w3 q).1
                · rw [ga_sa2, if_neg (by omega)]; exact (w3 q).2
                · simp only [ga_sa2]
                  rw [if_neg (by omega), if_neg (by omega), if_neg (by omega), if_neg (by omega)]; exact w4 z hz
          · rw [if_neg h5, l0_inl, bd_some, if_pos q00, bd_some, f2, b2_some, if_neg q10, bd_some, if_pos (Or.inl h5)]
            exact RV.f V rfl
        · simp only [if_neg h4, if_pos h4, bd_some, l0_inl, l0_inr, l1_inl, l1_inr, b2_some, bs_eq, if_neg q10, if_pos q00, if_neg q20, if_neg q30, if_pos q11, if_neg q01, if_pos isB0, if_pos isB1, if_true, if_false, f2]; exact RV.f V rfl
theorem cuAt_mem {cs : List CU} {i : Nat} (h : i < cs.length) : cuAt cs i ∈ cs := by
  unfold cuAt
  rw [List.getD_eq_getElem?_getD, List.getElem?_eq_getElem h]
  exact List.getElem_mem h
theorem m_entry {m : MS} {cs : List CU} {i k p : Nat} {s : SA} (hk : k < 3) (hn : cs.length ≤ 40) (hl : s.2.2.2.length ≤ 40) (Vc : MVc m cs) (hi : i < cs.length) (hf : (cuAt cs i).2.2.1 = -1 ∨ (cuAt cs i).2.2.1 = 0 ∨ (cuAt cs i).2.2.1 = 1) (V : MVs m 6 k s) (hp : p < s.2.2.2.length) : x_X7_entry (nI i) (nI (40 * k + p)) m = some (entR (cuAt cs i).2.2.1 (rwD s.2.2.2 p)) := by
  unfold x_X7_entry entR
  have hr : vR (nI i) 40 := nI_in (by omega) (by omega)
  simp only [if_pos hr, nI_clamp (show i < 2 ^ 31 by omega), (Vc.2.1 i hi).2.2.1]
  by_cases h1 : (cuAt cs i).2.2.1 = -1
  · rw [if_pos h1, if_pos h1, bd_some]
  · rw [if_neg h1, if_neg h1]
    obtain ⟨f, hf2, ef⟩ : ∃ f, f < 2 ∧ (cuAt cs i).2.2.1 = nI f := by
      rcases hf with q | q | q
      · exact absurd q h1
      · exact ⟨0, by omega, q⟩
      · exact ⟨1, by omega, q⟩
    have hr2 : vR (nI (2 * (40 * k + p) + f)) 240 := nI_in (by omega) (by omega)
    rw [ef, n2, nI_add]
    simp only [if_pos hr2, bd_some, nI_clamp (show 2 * (40 * k + p) + f < 2 ^ 31 by omega)]
    rw [show ga m 11 (2 * (40 * k + p) + f) = _ from rN_f hf2 V hp]
theorem m_apart {x a y b : Int32} (ha : kP a) (hb : kP b) : x_X7_apart x a y b = some (if x < y ∨ x = y ∧ rk a < rk b then -1 else if y < x ∨ x = y ∧ rk b < rk a then 1 else 0) := by
  unfold x_X7_apart
  simp only [m_rank ha, m_rank hb, bd_some]
  by_cases h1 : x = y
  · subst h1
    rw [if_pos rfl]
    have n1 : ¬ x < x := Int32.lt_irrefl
    by_cases h2 : rk b ≤ rk a
    · have n2' : ¬ (x < x ∨ x = x ∧ rk a < rk b) := fun q => q.elim n1 (fun z => Int32.not_lt.mpr h2 z.2)
      rw [if_pos h2, if_neg n2']
      by_cases h3 : a = b
      · subst h3
        rw [if_pos rfl, bd_some, if_neg (show ¬ (x < x ∨ x = x ∧ rk a < rk a) from fun q => q.elim n1 (fun z => Int32.lt_irrefl z.2))]
      · have h4 : rk b < rk a := Int32.lt_of_le_of_ne h2 (fun q => h3 (rk_inj ha hb q.symm))
        rw [if_neg h3, bd_some, if_pos (Or.inr ⟨rfl, h4⟩)]
    · rw [if_neg h2, bd_some, if_pos (Or.inr ⟨rfl, Int32.not_le.mp h2⟩)]
  · rw [if_neg h1]
    by_cases h2 : y ≤ x
    · have h3 : y < x := Int32.lt_of_le_of_ne h2 (Ne.symm h1)
      rw [if_pos h2, bd_some, if_neg (fun q => q.elim (Int32.not_lt.mpr h2) (fun z => h1 z.1)), if_pos (Or.inl h3)]
    · rw [if_neg h2, bd_some, if_pos (Or.inl (Int32.not_le.mp h2))]
theorem dirB {d : Int32} (h : d = 0 ∨ d = 1 ∨ d = 2 ∨ d = 3) : d - d / 2 * 2 = 1 ↔ d = 1 ∨ d = 3 := by
  rcases h with q | q | q | q <;> subst q <;> decide
theorem m_isBehind {m : MS} {cs : List CU} {ts : List TX} {i k p : Nat} {s : SA} (hk : k < 3) (hn : cs.length ≤ 40) (hS : SOK s) (Vc : MVc m cs) (hi : i < cs.length) (hc : COK ts (cuAt cs i)) (V : MVs m 6 k s) (hp : p < s.2.2.2.length) : x_X7_isBehind (nI i) (nI (40 * k + p)) m = some (if behR (cuAt cs i) (rwD s.2.2.2 p) = true then 1 else 0) := by
  have hl := hS.2.2.1
  obtain ⟨-, -, -, hf, hd, hph, hnum, hkey⟩ := hc
  have x := Vc.2.1 i hi
  unfold x_X7_isBehind
  rw [m_entry hk hn hl Vc hi hf V hp, bd_some]
  have hr : vR (nI i) 40 := nI_in (by omega) (by omega)
  have hr2 : vR (nI (40 * k + p)) 120 := nI_in (by omega) (by omega)
  simp only [if_pos hr, if_pos hr2, nI_clamp (show i < 2 ^ 31 by omega), nI_clamp (show 40 * k + p < 2 ^ 31 by omega), x]
  rw [show ga m 9 (40 * k + p) = _ from (V.at hp).1, m_apart (hS.2.2.2.2 _ (rwD_mem hp)).1 hkey]
  unfold behR
  generalize hc9 : cuAt cs i = c at *
  generalize hr9 : rwD s.2.2.2 p = r at *
  generalize he9 : entR c.2.2.1 r = e at *
  have hdir := dirB hd
  have bk : (if c.2.2.2.1 - c.2.2.2.1 / 2 * 2 = 1 then some (1 : Int32) else some 0) = some (if c.2.2.2.1 = 1 ∨ c.2.2.2.1 = 3 then 1 else 0) := by
    by_cases q : c.2.2.2.1 = 1 ∨ c.2.2.2.1 = 3
    · rw [if_pos (hdir.mpr q), if_pos q]
    · rw [if_neg (fun z => q (hdir.mp z)), if_neg q]
  rw [bk, bd_some]
  by_cases h1 : e = -1
  · simp only [if_pos h1, bd_some, l0_inl, l0_inr, l1_inl, l1_inr, b2_some, bs_eq, if_neg q10, if_pos q00, if_neg q20, if_neg q30, if_pos q11, if_neg q01, if_pos isB0, if_pos isB1, if_true, if_false]
    rfl
  · by_cases h2 : c.2.2.2.2.1 = 0
    · simp only [if_neg h1, if_pos h2, bd_some, l0_inl, l0_inr, l1_inl, l1_inr, b2_some, bs_eq, if_neg q10, if_pos q00, if_neg q20, if_neg q30, if_pos q11, if_neg q01, if_pos isB0, if_pos isB1, if_true, if_false]
    · simp only [if_neg h1, if_neg h2]
      by_cases h3 : c.2.2.2.1 ≤ 1
      · rw [if_pos h3, l0_inl, bd_some]
        have h4 : ¬ (¬ c.2.2.2.1 ≤ 1 ∧ ¬ c.2.2.1 = -1) := fun q => q.1 h3
        rw [if_neg h4]
        by_cases hb : c.2.2.2.1 = 1 ∨ c.2.2.2.1 = 3
        · rw [if_pos hb, if_neg q10, if_pos hb]
          by_cases z1 : e < c.2.2.2.2.2.1 ∨ e = c.2.2.2.2.2.1 ∧ rk r.1 < rk c.2.2.2.2.2.2
          · rw [if_pos z1, if_neg (show ¬ (0 : Int32) ≤ -1 by decide), bd_some, if_pos isB1, l0_inr, if_pos (decide_eq_true z1)]
          · rw [if_neg z1]
            by_cases z2 : c.2.2.2.2.2.1 < e ∨ e = c.2.2.2.2.2.1 ∧ rk c.2.2.2.2.2.2 < rk r.1
            · rw [if_pos z2, if_pos (show (0 : Int32) ≤ 1 by decide), bd_some, if_pos isB0, l0_inr, if_neg (fun q => z1 (of_decide_eq_true q))]
            · rw [if_neg z2, if_pos (show (0 : Int32) ≤ 0 by decide), bd_some, if_pos isB0, l0_inr, if_neg (fun q => z1 (of_decide_eq_true q))]
        · rw [if_neg hb, if_pos q00, if_neg hb]
          by_cases z1 : e < c.2.2.2.2.2.1 ∨ e = c.2.2.2.2.2.1 ∧ rk r.1 < rk c.2.2.2.2.2.2
          · have z2 : ¬ (c.2.2.2.2.2.1 < e ∨ e = c.2.2.2.2.2.1 ∧ rk c.2.2.2.2.2.2 < rk r.1) := by
              rcases z1 with z | ⟨z, z'⟩
              · exact fun q => q.elim (fun q => Int32.lt_asymm z q) (fun q => Int32.lt_irrefl (q.1 ▸ z))
              · exact fun q => q.elim (fun q => Int32.lt_irrefl (z ▸ q)) (fun q => Int32.lt_asymm z' q.2)
            rw [if_pos z1, if_pos (show (-1 : Int32) ≤ 0 by decide), bd_some, if_pos isB0, l0_inr, if_neg (fun q => z2 (of_decide_eq_true q))]
          · rw [if_neg z1]
            by_cases z2 : c.2.2.2.2.2.1 < e ∨ e = c.2.2.2.2.2.1 ∧ rk c.2.2.2.2.2.2 < rk r.1
            · rw [if_pos z2, if_neg (show ¬ (1 : Int32) ≤ 0 by decide), bd_some, if_pos isB1, l0_inr, if_pos (decide_eq_true z2)]
            · rw [if_neg z2, if_pos (show (0 : Int32) ≤ 0 by decide), bd_some, if_pos isB0, l0_inr, if_neg (fun q => z2 (of_decide_eq_true q))]
      · by_cases h4 : c.2.2.1 = -1
        · rw [if_neg h3, if_pos h4, l0_inl, bd_some, if_neg (show ¬ (¬ c.2.2.2.1 ≤ 1 ∧ ¬ c.2.2.1 = -1) from fun q => q.2 h4)]
          by_cases hb : c.2.2.2.1 = 1 ∨ c.2.2.2.1 = 3
          · rw [if_pos hb, if_neg q10, if_pos hb]
            by_cases z1 : e < c.2.2.2.2.2.1 ∨ e = c.2.2.2.2.2.1 ∧ rk r.1 < rk c.2.2.2.2.2.2
            · rw [if_pos z1, if_neg (show ¬ (0 : Int32) ≤ -1 by decide), bd_some, if_pos isB1, l0_inr, if_pos (decide_eq_true z1)]
            · rw [if_neg z1]
              by_cases z2 : c.2.2.2.2.2.1 < e ∨ e = c.2.2.2.2.2.1 ∧ rk c.2.2.2.2.2.2 < rk r.1
              · rw [if_pos z2, if_pos (show (0 : Int32) ≤ 1 by decide), bd_some, if_pos isB0, l0_inr, if_neg (fun q => z1 (of_decide_eq_true q))]
              · rw [if_neg z2, if_pos (show (0 : Int32) ≤ 0 by decide), bd_some, if_pos isB0, l0_inr, if_neg (fun q => z1 (of_decide_eq_true q))]
          · rw [if_neg hb, if_pos q00, if_neg hb]
            by_cases z1 : e < c.2.2.2.2.2.1 ∨ e = c.2.2.2.2.2.1 ∧ rk r.1 < rk c.2.2.2.2.2.2
            · have z2 : ¬ (c.2.2.2.2.2.1 < e ∨ e = c.2.2.2.2.2.1 ∧ rk c.2.2.2.2.2.2 < rk r.1) := by
                rcases z1 with z | ⟨z, z'⟩
                · exact fun q => q.elim (fun q => Int32.lt_asymm z q) (fun q => Int32.lt_irrefl (q.1 ▸ z))
                · exact fun q => q.elim (fun q => Int32.lt_irrefl (z ▸ q)) (fun q => Int32.lt_asymm z' q.2)
              rw [if_pos z1, if_pos (show (-1 : Int32) ≤ 0 by decide), bd_some, if_pos isB0, l0_inr, if_neg (fun q => z2 (of_decide_eq_true q))]
            · rw [if_neg z1]
              by_cases z2 : c.2.2.2.2.2.1 < e ∨ e = c.2.2.2.2.2.1 ∧ rk c.2.2.2.2.2.2 < rk r.1
              · rw [if_pos z2, if_neg (show ¬ (1 : Int32) ≤ 0 by decide), bd_some, if_pos isB1, l0_inr, if_pos (decide_eq_true z2)]
              · rw [if_neg z2, if_pos (show (0 : Int32) ≤ 0 by decide), bd_some, if_pos isB0, l0_inr, if_neg (fun q => z2 (of_decide_eq_true q))]
        · rw [if_neg h3, if_neg h4, if_pos (show ¬ c.2.2.2.1 ≤ 1 ∧ ¬ c.2.2.1 = -1 from ⟨h3, h4⟩)]
          have hd23 : c.2.2.2.1 = 2 ∨ c.2.2.2.1 = 3 := by
            rcases hd with q | q | q | q
            · exact absurd (by rw [q]; decide) h3
            · exact absurd (by rw [q]; decide) h3
            · exact Or.inl q
            · exact Or.inr q
          rcases hd23 with q | q
          · have hb : ¬ (c.2.2.2.1 = 1 ∨ c.2.2.2.1 = 3) := by rw [q]; decide
            have h33 : ¬ c.2.2.2.1 = 3 := by rw [q]; decide
            rw [if_neg hb, if_pos q00, if_neg h33]
            by_cases z : e ≤ c.2.2.2.2.2.1
            · rw [if_pos z, bd_some, if_pos isB0, l0_inr, l0_inr, if_neg (fun q => Int32.not_lt.mpr z (of_decide_eq_true q))]
            · rw [if_neg z, bd_some, if_pos isB1, l0_inr, l0_inr, if_pos (decide_eq_true (Int32.not_le.mp z))]
          · have hb : c.2.2.2.1 = 1 ∨ c.2.2.2.1 = 3 := Or.inr q
            rw [if_pos hb, if_neg q10, if_pos q]
            by_cases z : c.2.2.2.2.2.1 ≤ e
            · rw [if_pos z, bd_some, if_pos isB0, l0_inr, l0_inr, if_neg (fun q => Int32.not_lt.mpr z (of_decide_eq_true q))]
            · rw [if_neg z, bd_some, if_pos isB1, l0_inr, l0_inr, if_pos (decide_eq_true (Int32.not_le.mp z))]
theorem m_isSooner {m : MS} {cs : List CU} {ts : List TX} {i k p q : Nat} {s : SA} (hk : k < 3) (hn : cs.length ≤ 40) (hS : SOK s) (Vc : MVc m cs) (hi : i < cs.length) (hc : COK ts (cuAt cs i)) (V : MVs m 6 k s) (hp : p < s.2.2.2.length) (hq : q < s.2.2.2.length) : x_X7_isSooner (nI i) (nI (40 * k + p)) (nI (40 * k + q)) m = some (if sooR (cuAt cs i) (rwD s.2.2.2 p) (rwD s.2.2.2 q) = true then 1 else 0) := by
  have hl := hS.2.2.1
  obtain ⟨-, -, -, hf, hd, hph, hnum, hkey⟩ := hc
  have x := Vc.2.1 i hi
  unfold x_X7_isSooner
  rw [m_entry hk hn hl Vc hi hf V hp, m_entry hk hn hl Vc hi hf V hq, bd_some, bd_some]
  have hr : vR (nI i) 40 := nI_in (by omega) (by omega)
  have hr2 : vR (nI (40 * k + p)) 120 := nI_in (by omega) (by omega)
  have hr3 : vR (nI (40 * k + q)) 120 := nI_in (by omega) (by omega)
  simp only [if_pos hr, if_pos hr2, if_pos hr3, nI_clamp (show i < 2 ^ 31 by omega), nI_clamp (show 40 * k + p < 2 ^ 31 by omega), nI_clamp (show 40 * k + q < 2 ^ 31 by omega), x]
  rw [show ga m 9 (40 * k + p) = _ from (V.at hp).1, show ga m 9 (40 * k + q) = _ from (V.at hq).1, m_apart (hS.2.2.2.2 _ (rwD_mem hp)).1 (hS.2.2.2.2 _ (rwD_mem hq)).1, m_rank (hS.2.2.2.2 _ (rwD_mem hp)).1, m_rank (hS.2.2.2.2 _ (rwD_mem hq)).1]
  unfold sooR
  generalize hc9 : cuAt cs i = c at *
  generalize hr9 : rwD s.2.2.2 p = r at *
  generalize hb9 : rwD s.2.2.2 q = b at *
  generalize he9 : entR c.2.2.1 r = e at *
  generalize hg9 : entR c.2.2.1 b = g at *
  have hdir := dirB hd
  have bk : (if c.2.2.2.1 - c.2.2.2.1 / 2 * 2 = 1 then some (1 : Int32) else some 0) = some (if c.2.2.2.1 = 1 ∨ c.2.2.2.1 = 3 then 1 else 0) := by
    by_cases q : c.2.2.2.1 = 1 ∨ c.2.2.2.1 = 3
    · rw [if_pos (hdir.mpr q), if_pos q]
    · rw [if_neg (fun z => q (hdir.mp z)), if_neg q]
  rw [bk, bd_some]
  simp only [bd_some]
  have tail : ∀ (hb : Bool) (F : Option Int32) (W : Bool), hb = decide (c.2.2.2.1 = 1 ∨ c.2.2.2.1 = 3) → True := fun _ _ _ _ => trivial
  have fin : (bd (if (if c.2.2.2.1 = 1 ∨ c.2.2.2.1 = 3 then (1 : Int32) else 0) = 0 then if (0 : Int32) ≤ (if e < g ∨ e = g ∧ rk r.1 < rk b.1 then -1 else if g < e ∨ e = g ∧ rk b.1 < rk r.1 then 1 else 0) then some (0 : Int32) else some 1 else if (if e < g ∨ e = g ∧ rk r.1 < rk b.1 then (-1 : Int32) else if g < e ∨ e = g ∧ rk b.1 < rk r.1 then 1 else 0) ≤ 0 then some 0 else some 1) (fun v30 => if isB v30 then some v30 else none) : Option Int32) = some (if (if c.2.2.2.1 = 1 ∨ c.2.2.2.1 = 3 then decide (g < e ∨ e = g ∧ rk b.1 < rk r.1) else decide (e < g ∨ e = g ∧ rk r.1 < rk b.1)) = true then 1 else 0) := by
    by_cases hb : c.2.2.2.1 = 1 ∨ c.2.2.2.1 = 3
    · rw [if_pos hb, if_neg q10, if_pos hb]
      by_cases z1 : e < g ∨ e = g ∧ rk r.1 < rk b.1
      · have z2 : ¬ (g < e ∨ e = g ∧ rk b.1 < rk r.1) := by
          rcases z1 with z | ⟨z, z'⟩
          · exact fun q => q.elim (fun q => Int32.lt_asymm z q) (fun q => Int32.lt_irrefl (q.1 ▸ z))
          · exact fun q => q.elim (fun q => Int32.lt_irrefl (z ▸ q)) (fun q => Int32.lt_asymm z' q.2)
        rw [if_pos z1, if_pos (show (-1 : Int32) ≤ 0 by decide), bd_some, if_pos isB0, if_neg (fun q => z2 (of_decide_eq_true q))]
      · rw [if_neg z1]
        by_cases z2 : g < e ∨ e = g ∧ rk b.1 < rk r.1
        · rw [if_pos z2, if_neg (show ¬ (1 : Int32) ≤ 0 by decide), bd_some, if_pos isB1, if_pos (decide_eq_true z2)]
        · rw [if_neg z2, if_pos (show (0 : Int32) ≤ 0 by decide), bd_some, if_pos isB0, if_neg (fun q => z2 (of_decide_eq_true q))]
    · rw [if_neg hb, if_pos q00, if_neg hb]
      by_cases z1 : e < g ∨ e = g ∧ rk r.1 < rk b.1
      · rw [if_pos z1, if_neg (show ¬ (0 : Int32) ≤ -1 by decide), bd_some, if_pos isB1, if_pos (decide_eq_true z1)]
      · rw [if_neg z1]
        by_cases z2 : g < e ∨ e = g ∧ rk b.1 < rk r.1
        · rw [if_pos z2, if_pos (show (0 : Int32) ≤ 1 by decide), bd_some, if_pos isB0, if_neg (fun q => z1 (of_decide_eq_true q))]
        · rw [if_neg z2, if_pos (show (0 : Int32) ≤ 0 by decide), bd_some, if_pos isB0, if_neg (fun q => z1 (of_decide_eq_true q))]
  by_cases h3 : c.2.2.2.1 ≤ 1
  · rw [if_pos h3, l0_inl, if_neg (show ¬ ((¬ c.2.2.2.1 ≤ 1 ∧ ¬ c.2.2.1 = -1) ∧ e = g) from fun q => q.1.1 h3)]
    exact fin
  · by_cases h4 : c.2.2.1 = -1
    · rw [if_neg h3, if_pos h4, l0_inl, if_neg (show ¬ ((¬ c.2.2.2.1 ≤ 1 ∧ ¬ c.2.2.1 = -1) ∧ e = g) from fun q => q.1.2 h4)]
      exact fin
    · by_cases h5 : e = g
      · rw [if_neg h3, if_neg h4, if_pos h5, if_pos (show (¬ c.2.2.2.1 ≤ 1 ∧ ¬ c.2.2.1 = -1) ∧ e = g from ⟨⟨h3, h4⟩, h5⟩)]
        by_cases z : rk b.1 ≤ rk r.1
        · rw [if_pos z, bd_some, if_pos isB0, l0_inr, if_neg (fun q => Int32.not_lt.mpr z (of_decide_eq_true q))]
        · rw [if_neg z, bd_some, if_pos isB1, l0_inr, if_pos (decide_eq_true (Int32.not_le.mp z))]
      · rw [if_neg h3, if_neg h4, if_neg h5, l0_inl, if_neg (show ¬ ((¬ c.2.2.2.1 ≤ 1 ∧ ¬ c.2.2.1 = -1) ∧ e = g) from fun q => h5 q.2)]
        exact fin
theorem MV.cur {m m' : MS} {D : Nat} {a : AS} {cs : List CU} (V : MV m D a) (hg : ∀ j, j ≠ 31 → j ≠ 23 → gs m' j = gs m j) (ho : ∀ j x, j < 23 → ga m' j x = ga m j x) (hc : MVc m' cs) : MV m' D (a.1, a.2.1, a.2.2.1, cs) := by
  obtain ⟨v1, v2, v3, v4⟩ := V
  exact ⟨⟨(hg 0 (by omega) (by omega)).trans v1.1, (hg 5 (by omega) (by omega)).trans v1.2⟩, v2.off (hg 4 (by omega) (by omega)) (fun j x h => ho j x (by omega)), v3.off (hg 18 (by omega) (by omega)) (fun j x h1 h2 => ho j x (by omega)), hc⟩
theorem cuAt_set {cs : List CU} {i : Nat} (c : CU) (hi : i < cs.length) (j : Nat) : cuAt (cs.set i c) j = if j = i then c else cuAt cs j := by
  unfold cuAt
  by_cases e : j = i
  · subst e
    rw [if_pos rfl, List.getD_eq_getElem?_getD, List.getElem?_set_self hi]; rfl
  · rw [if_neg e, List.getD_eq_getElem?_getD, List.getD_eq_getElem?_getD, List.getElem?_set_ne (Ne.symm e)]
theorem SOK.ix {s : SA} (h : SOK s) {x : Nat} (hx : x < 2) : sIx x s ≤ 0 ↔ sIx x s = 0 := by
  have key : ∀ v : Int32, ixB v → (v ≤ 0 ↔ v = 0) := by
    rintro v (q | q | q) <;> subst q <;> decide
  unfold sIx
  rcases (show x = 0 ∨ x = 1 by omega) with q | q <;> subst q
  · exact key _ h.1.2.1
  · exact key _ h.1.2.2
theorem m_canR {m : MS} {i : Nat} {a : AS} (hi : i < lenT a) (hn : lenT a ≤ 60) (V : MVx m a.2.2.1.1) (s : Int32) : x_X7_can (nI i) s 0 m = some (if reA a (nI i) s then 1 else 0) := by
  rw [m_can hi hn V]
  have e : txA a (nI i) = txAt a.2.2.1.1 i := by unfold txA; rw [nI_clamp (by omega)]
  unfold reA
  rw [e]
  refine congrArg some (ite_congr (propext ⟨fun q => q.1, fun q => ⟨q, Or.inr rfl⟩⟩) (fun _ => rfl) (fun _ => rfl))
theorem m_canW {m : MS} {i : Nat} {a : AS} (hi : i < lenT a) (hn : lenT a ≤ 60) (V : MVx m a.2.2.1.1) (s : Int32) : x_X7_can (nI i) s 1 m = some (if wrA a (nI i) s then 1 else 0) := by
  rw [m_can hi hn V]
  have e : txA a (nI i) = txAt a.2.2.1.1 i := by unfold txA; rw [nI_clamp (by omega)]
  unfold wrA reA
  rw [e]
  refine congrArg some (ite_congr (propext ⟨fun q => ⟨q.1, q.2.elim id (fun z => absurd z q10)⟩, fun q => ⟨q.1, Or.inl q.2⟩⟩) (fun _ => rfl) (fun _ => rfl))
theorem r_cursor {m : MS} {D : Nat} {a : AS} (V : MV m D a) (I : IV a) (t s f d : Int32) : RO (x_X7_cursor t s f d m) c3 D (curA t s f d a) := by
  have hn : lenT a ≤ 60 := I.2.2.1.1.1
  have hnc := I.2.2.2.1
  have Vc := V.2.2.2
  unfold x_X7_cursor curA
  rw [m_isTransaction V.2.2.1.1.1 hn, m_isStore V.2.2.1.2.1, bd_some]
  by_cases h : oX a t
  · simp only [if_pos h, bd_some, l0_inl, l0_inr, l1_inl, l1_inr, b2_some, bs_eq, if_neg q10, if_pos q00, if_neg q20, if_neg q30, if_pos q11, if_neg q01, if_pos isB0, if_pos isB1, if_true, if_false, f1]; exact RO.f V (by decide) rfl
  · by_cases h2 : noS a s
    · simp only [if_neg h, if_pos h2, bd_some, l0_inl, l0_inr, l1_inl, l1_inr, b2_some, bs_eq, if_neg q10, if_pos q00, if_neg q20, if_neg q30, if_pos q11, if_neg q01, if_pos isB0, if_pos isB1, if_true, if_false, f1]; exact RO.f V (by decide) rfl
    · have hf9 : rng f (-1) 1 ↔ ¬ f = -1 ∧ oT f 2 := by
        unfold rng oT
        rw [Int32.lt_iff_toInt_lt, Int32.le_iff_toInt_le, Int32.lt_iff_toInt_lt, Int32.le_iff_toInt_le, ← Int32.toInt_inj]
        show f.toInt < -1 ∨ ¬ f.toInt ≤ 1 ↔ ¬ f.toInt = -1 ∧ (f.toInt < 0 ∨ 2 ≤ f.toInt)
        omega
      by_cases h3 : ¬ f = -1 ∧ oT f 2
      · simp only [if_neg h, if_neg h2, m_isIn, if_pos (hf9.mpr h3), if_pos h3, bd_some, l0_inl, l0_inr, l1_inl, l1_inr, b2_some, bs_eq, if_neg q10, if_pos q00, if_neg q20, if_neg q30, if_pos q11, if_neg q01, if_pos isB0, if_pos isB1, if_true, if_false, f1]; exact RO.f V (by decide) rfl
      · obtain ⟨k, hk, rfl, ek⟩ := oT_at (fun q => h2 (Or.inl q)) (by omega)
        obtain ⟨ti, hti, rfl, eti⟩ := oT_at h (show lenT a < 2 ^ 31 by omega)
        have V1 := V.2.2.1.2.1 k hk
        have ht : ¬ (a.2.2.1.2 k).1 = 0 := fun q => h2 (Or.inr (by rw [ek]; exact q))
        have es : stA a (nI k) = a.2.2.1.2 k := by unfold stA; rw [ek]
        have g9 := kx_ge (n := a.2.2.2.length) (d := 40) (D := 40) rfl (by omega) (by omega)
        have hidx : (l0 (if f = -1 then some (.inl ()) else if vR (2 * nI k + f) 6 then if ga m 7 (2 * nI k + f).toNatClampNeg ≤ 0 then some (.inr (.inl ())) else some (.inl ()) else none) (fun _ => if (40 : Int32) ≤ gs m 23 then some (.inl ()) else some (.inr (1 : Int32))) : Option (Unit ⊕ Int32)) = some (if (¬ f = -1 ∧ sIx f.toNatClampNeg (a.2.2.1.2 k) = 0) ∨ ¬ a.2.2.2.length < 40 then .inl () else .inr 1) := by
          rw [Vc.1]
          have fin : ∀ P : Prop, [Decidable P] → ¬ P → (if (40 : Int32) ≤ nI a.2.2.2.length then some (.inl ()) else some (.inr (1 : Int32)) : Option (Unit ⊕ Int32)) = some (if P ∨ ¬ a.2.2.2.length < 40 then .inl () else .inr 1) := by
            intro P _ hP
            by_cases q : a.2.2.2.length < 40
            · rw [if_neg (fun z => by have := g9.mp z; omega), if_neg (fun z => z.elim hP (fun z => z q))]
            · rw [if_pos (g9.mpr (by omega)), if_pos (Or.inr q)]
          by_cases h5 : f = -1
          · rw [if_pos h5, l0_inl]; exact fin _ (fun q => q.1 h5)
          · obtain ⟨x, hx, rfl, ex⟩ := oT_at (fun q => h3 ⟨h5, q⟩) (by omega)
            have hr : vR (nI (2 * k + x)) 6 := nI_in (by omega) (by omega)
            simp only [n2, nI_add, if_neg h5, if_pos hr, nI_clamp (show 2 * k + x < 2 ^ 31 by omega), sIx_at hx V1 ht, ex]
            have h7 := (SOK.of I hk).ix hx
            by_cases h6 : sIx x (a.2.2.1.2 k) = 0
            · rw [if_pos (h7.mpr h6), l0_inr, if_pos (Or.inl ⟨h5, h6⟩)]
            · rw [if_neg (fun q => h6 (h7.mp q)), l0_inl]; exact fin _ (fun q => h6 q.2)
        simp only [if_neg h, if_neg h2, if_neg h3, m_isIn, if_neg (show ¬ rng f (-1) 1 from fun q => h3 (hf9.mp q)), bd_some, l0_inl, l0_inr, l1_inl, l1_inr, b2_some, bs_eq, if_neg q10, if_pos q00, if_neg q20, if_neg q30, if_pos q11, if_neg q01, if_pos isB0, if_pos isB1, if_true, if_false, m_canR hti hn V.2.2.1.1]
        rw [es, hidx]
        by_cases h4 : rng d 0 3
        · have hv : ∀ v : Option Int32, (∃ z, v = some z) → bd v (fun v22 => bd (if (if rng d 0 3 then (0 : Int32) else 1) = 0 then some 2 else if v22 = 0 then some 3 else some 0) (fun v28 => some v28)) = some (2 : Int32) := by
            rintro v ⟨z, rfl⟩
            rw [bd_some, if_pos h4, if_pos q00, bd_some]
          by_cases h5 : reA a (nI ti) (nI k)
          · by_cases h6 : (¬ f = -1 ∧ sIx f.toNatClampNeg (a.2.2.1.2 k) = 0) ∨ ¬ a.2.2.2.length < 40
            · simp only [if_pos h4, if_pos h5, if_pos h6, bd_some, l0_inl, l0_inr, l1_inl, l1_inr, b2_some, bs_eq, if_neg q10, if_pos q00, if_neg q20, if_neg q30, if_pos q11, if_neg q01, if_pos isB0, if_pos isB1, if_true, if_false, f2]; exact RO.f V (by decide) rfl
            · simp only [if_pos h4, if_pos h5, if_neg h6, bd_some, l0_inl, l0_inr, l1_inl, l1_inr, b2_some, bs_eq, if_neg q10, if_pos q00, if_neg q20, if_neg q30, if_pos q11, if_neg q01, if_pos isB0, if_pos isB1, if_true, if_false, f2]; exact RO.f V (by decide) rfl
          · simp only [if_pos h4, if_neg h5, bd_some, l0_inl, l0_inr, l1_inl, l1_inr, b2_some, bs_eq, if_neg q10, if_pos q00, if_neg q20, if_neg q30, if_pos q11, if_neg q01, if_pos isB0, if_pos isB1, if_true, if_false, f2]; exact RO.f V (by decide) rfl
        · by_cases h5 : reA a (nI ti) (nI k)
          · by_cases h6 : (¬ f = -1 ∧ sIx f.toNatClampNeg (a.2.2.1.2 k) = 0) ∨ ¬ a.2.2.2.length < 40
            · simp only [if_neg h4, if_pos h5, if_pos h6, if_neg (show ¬ ¬ reA a (nI ti) (nI k) from fun q => q h5), bd_some, l0_inl, l0_inr, l1_inl, l1_inr, b2_some, bs_eq, if_neg q10, if_pos q00, if_neg q20, if_neg q30, if_pos q11, if_neg q01, if_pos isB0, if_pos isB1, if_true, if_false, f3]; exact RO.f V (by decide) rfl
            · have hl : a.2.2.2.length < 40 := Decidable.byContradiction fun q => h6 (Or.inr q)
              have hr : vR (nI a.2.2.2.length) 40 := nI_in hl (by omega)
              have e23 : gs (ss m 31 0) 23 = nI a.2.2.2.length := Vc.1
              simp only [if_neg h4, if_pos h5, if_neg h6, if_neg (show ¬ ¬ reA a (nI ti) (nI k) from fun q => q h5), bd_some, l0_inl, l0_inr, l1_inl, l1_inr, b2_some, bs_eq, if_neg q10, if_pos q00, if_neg q20, if_neg q30, if_pos q11, if_neg q01, if_pos isB0, if_pos isB1, if_true, if_false, f0]
              simp only [gs_sa, e23, if_pos hr, nI_clamp (show a.2.2.2.length < 2 ^ 31 by omega), nI_1, gs_ss, if_true]
              rw [nI_pred, ek, eti]
              refine ⟨_, _, D, rfl, ?_, (V.t 0).cur (fun j h1 h2 => ?_) (fun j x hj => ?_) ⟨?_, fun i hi => ?_, fun i hi => ?_⟩, fun _ => rfl, Nat.le_succ _⟩
              · rw [gs_ss, if_neg (by omega)]; rfl
              · rw [gs_ss, if_neg h2]; rfl
              · simp only [ga_ss, ga_sa2]
                rw [if_neg (by omega), if_neg (by omega), if_neg (by omega), if_neg (by omega), if_neg (by omega)]
              · rw [gs_ss, if_pos rfl, List.length_append]; rfl
              · rw [List.length_append] at hi
                have hi2 : i < a.2.2.2.length + 1 := hi
                simp only [ga_ss, ga_sa2]
                by_cases e : i = a.2.2.2.length
                · have hc : cuAt (a.2.2.2 ++ [(ti, k, f, d, 0, 0, 0)]) i = (ti, k, f, d, 0, 0, 0) := by
                    unfold cuAt
                    rw [List.getD_eq_getElem?_getD, e, List.getElem?_append_right (Nat.le_refl _), Nat.sub_self]; rfl
                  rw [hc]
                  have hz := Vc.2.2 i (by omega)
                  simp [e, hz]
                  rw [← e]; exact hz
                · have hc : cuAt (a.2.2.2 ++ [(ti, k, f, d, 0, 0, 0)]) i = cuAt a.2.2.2 i := by
                    unfold cuAt
                    rw [List.getD_eq_getElem?_getD, List.getElem?_append_left (by omega), ← List.getD_eq_getElem?_getD]
                  rw [hc]
                  have x := Vc.2.1 i (by omega)
                  simp [e, x]
              · rw [List.length_append] at hi
                have hi2 : a.2.2.2.length + 1 ≤ i := hi
                simp only [ga_ss, ga_sa2]
                rw [if_neg (by omega), if_neg (by omega), if_neg (by omega), if_neg (by omega), if_neg (by omega), if_neg (by omega), if_neg (by omega), if_neg (by omega), if_neg (by omega), if_neg (by omega)]
                exact Vc.2.2 i (by omega)
          · simp only [if_neg h4, if_neg h5, if_pos h5, bd_some, l0_inl, l0_inr, l1_inl, l1_inr, b2_some, bs_eq, if_neg q10, if_pos q00, if_neg q20, if_neg q30, if_pos q11, if_neg q01, if_pos isB0, if_pos isB1, if_true, if_false, f3]; exact RO.f V (by decide) rfl
