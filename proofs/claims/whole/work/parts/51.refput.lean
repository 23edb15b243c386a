/-! ===== PURE: the reference's rows change ===== -/
/-- a row written at its place -/
def wr4 (m : MS) (p : Nat) (r : RW) : MS := sa (sa (sa (sa m 9 p r.1) 10 p r.2.1) 11 (2 * p) r.2.2.1) 11 (2 * p + 1) r.2.2.2
theorem wr4_gs (m : MS) (p : Nat) (r : RW) (j : Nat) : gs (wr4 m p r) j = gs m j := rfl
theorem wr4_o (m : MS) (p : Nat) (r : RW) (j x : Nat) (h : ¬ (j = 9 ∧ x = p ∨ j = 10 ∧ x = p ∨ j = 11 ∧ (x = 2 * p ∨ x = 2 * p + 1))) : ga (wr4 m p r) j x = ga m j x := by
  unfold wr4
  simp only [ga_sa2]
  rw [if_neg (by omega), if_neg (by omega), if_neg (by omega), if_neg (by omega)]
theorem wr4_s (m : MS) (p : Nat) (r : RW) : ga (wr4 m p r) 9 p = r.1 ∧ ga (wr4 m p r) 10 p = r.2.1 ∧ ga (wr4 m p r) 11 (2 * p) = r.2.2.1 ∧ ga (wr4 m p r) 11 (2 * p + 1) = r.2.2.2 := by
  unfold wr4
  simp [ga_sa2]
theorem MVs.wr {m : MS} {k i : Nat} {s : SA} {r : RW} (hk : k < 3) (hl : s.2.2.2.length ≤ 40) (V : MVs m 6 k s) (hi : i < s.2.2.2.length) : MVs (wr4 m (40 * k + i) r) 6 k (s.1, s.2.1, s.2.2.1, s.2.2.2.set i r) := by
  obtain ⟨v1, v2, v3, v4⟩ := V
  refine ⟨?_, ?_, fun q => ?_, fun x hx => ?_⟩
  · rw [wr4_o _ _ _ _ _ (by omega)]; exact v1
  · rw [wr4_o _ _ _ _ _ (by omega)]; rw [v2]; show _ = nI (s.2.2.2.set i r).length; rw [List.length_set]
  · rw [wr4_o _ _ _ _ _ (by omega), wr4_o _ _ _ _ _ (by omega)]; exact v3 q
  · have hx2 : x < s.2.2.2.length := by
      have : x < (s.2.2.2.set i r).length := hx
      rw [List.length_set] at this; exact this
    show _ = (s.2.2.2.set i r).getD x (0, 0, 0, 0)
    by_cases e : x = i
    · subst e
      obtain ⟨w1, w2, w3, w4⟩ := wr4_s m (40 * k + x) r
      rw [show ga (wr4 m (40 * k + x) r) (6 + 3) (40 * k + x) = _ from w1, show ga (wr4 m (40 * k + x) r) (6 + 4) (40 * k + x) = _ from w2, show ga (wr4 m (40 * k + x) r) (6 + 5) (2 * (40 * k + x)) = _ from w3, show ga (wr4 m (40 * k + x) r) (6 + 5) (2 * (40 * k + x) + 1) = _ from w4]
      rw [List.getD_eq_getElem?_getD, List.getElem?_set_self hx2]; rfl
    · rw [wr4_o _ _ _ _ _ (by omega), wr4_o _ _ _ _ _ (by omega), wr4_o _ _ _ _ _ (by omega), wr4_o _ _ _ _ _ (by omega), v4 x hx2, List.getD_eq_getElem?_getD, List.getD_eq_getElem?_getD, List.getElem?_set_ne (Ne.symm e)]
theorem MVs.wrO {m : MS} {k i j : Nat} {s : SA} {r : RW} (hl : s.2.2.2.length ≤ 40) (hi : i < 40) (hjk : j ≠ k) (V : MVs m 6 j s) : MVs (wr4 m (40 * k + i) r) 6 j s := by
  obtain ⟨v1, v2, v3, v4⟩ := V
  refine ⟨?_, ?_, fun q => ?_, fun x hx => ?_⟩
  · rw [wr4_o _ _ _ _ _ (by omega)]; exact v1
  · rw [wr4_o _ _ _ _ _ (by omega)]; exact v2
  · rw [wr4_o _ _ _ _ _ (by omega), wr4_o _ _ _ _ _ (by omega)]; exact v3 q
  · rw [wr4_o _ _ _ _ _ (by omega), wr4_o _ _ _ _ _ (by omega), wr4_o _ _ _ _ _ (by omega), wr4_o _ _ _ _ _ (by omega)]; exact v4 x hx
/-- a row more: its place is behind the others -/
theorem MVs.grow {m : MS} {k : Nat} {s : SA} {r : RW} (hk : k < 3) (hl : s.2.2.2.length < 40) (V : MVs m 6 k s) : MVs (wr4 (sa m 8 k (nI (s.2.2.2.length + 1))) (40 * k + s.2.2.2.length) r) 6 k (s.1, s.2.1, s.2.2.1, s.2.2.2 ++ [r]) := by
  obtain ⟨v1, v2, v3, v4⟩ := V
  refine ⟨?_, ?_, fun q => ?_, fun x hx => ?_⟩
  · rw [wr4_o _ _ _ _ _ (by omega), ga_sa2, if_neg (by omega)]; exact v1
  · rw [wr4_o _ _ _ _ _ (by omega), ga_sa2, if_pos ⟨rfl, rfl⟩]; show _ = nI (s.2.2.2 ++ [r]).length; rw [List.length_append]; rfl
  · rw [wr4_o _ _ _ _ _ (by omega), wr4_o _ _ _ _ _ (by omega), ga_sa2, ga_sa2, if_neg (by omega), if_neg (by omega)]; exact v3 q
  · have hx2 : x < s.2.2.2.length + 1 := by
      have : x < (s.2.2.2 ++ [r]).length := hx
      rw [List.length_append] at this; exact this
    show _ = (s.2.2.2 ++ [r]).getD x (0, 0, 0, 0)
    by_cases e : x = s.2.2.2.length
    · subst e
      obtain ⟨w1, w2, w3, w4⟩ := wr4_s (sa m 8 k (nI (s.2.2.2.length + 1))) (40 * k + s.2.2.2.length) r
      rw [show ga (wr4 _ (40 * k + s.2.2.2.length) r) (6 + 3) (40 * k + s.2.2.2.length) = _ from w1, show ga (wr4 _ (40 * k + s.2.2.2.length) r) (6 + 4) (40 * k + s.2.2.2.length) = _ from w2, show ga (wr4 _ (40 * k + s.2.2.2.length) r) (6 + 5) (2 * (40 * k + s.2.2.2.length)) = _ from w3, show ga (wr4 _ (40 * k + s.2.2.2.length) r) (6 + 5) (2 * (40 * k + s.2.2.2.length) + 1) = _ from w4]
      rw [List.getD_eq_getElem?_getD, List.getElem?_append_right (Nat.le_refl _), Nat.sub_self]; rfl
    · rw [wr4_o _ _ _ _ _ (by omega), wr4_o _ _ _ _ _ (by omega), wr4_o _ _ _ _ _ (by omega), wr4_o _ _ _ _ _ (by omega)]
      simp only [ga_sa2]
      rw [if_neg (by omega), if_neg (by omega), if_neg (by omega), if_neg (by omega), v4 x (by omega), List.getD_eq_getElem?_getD, List.getD_eq_getElem?_getD, List.getElem?_append_left (by omega)]
theorem MV.rows {m m' : MS} {D : Nat} {a : AS} {k : Nat} {s : SA} (V : MV m D a) (hk : k < 3) (hg : ∀ j, j ≠ 31 → gs m' j = gs m j) (ho : ∀ j x, ¬ (6 ≤ j ∧ j < 12) → ga m' j x = ga m j x) (hs : MVs m' 6 k s) (hn : ∀ i, i < 3 → i ≠ k → MVs m' 6 i (a.2.2.1.2 i)) : MV m' D (a.1, a.2.1, (a.2.2.1.1, upn a.2.2.1.2 k s), a.2.2.2) := by
  obtain ⟨v1, v2, v3, v4⟩ := V
  refine ⟨⟨(hg 0 (by omega)).trans v1.1, (hg 5 (by omega)).trans v1.2⟩, v2.off (hg 4 (by omega)) (fun j x h => ho j x (by omega)), MVT.store v3 hk (hg 18 (by omega)) (fun j x h1 h2 => ho j x (by omega)) hs hn, ⟨(hg 23 (by omega)).trans v4.1, fun i hi => ?_, fun i hi => ?_⟩⟩
  · rw [ho 24 i (by omega), ho 25 i (by omega), ho 26 i (by omega), ho 27 i (by omega), ho 28 i (by omega), ho 29 i (by omega), ho 30 i (by omega)]
    exact v4.2.1 i hi
  · rw [ho 29 i (by omega), ho 30 i (by omega)]
    exact v4.2.2 i hi
theorem tkn_eq (xs : List RW) (f : Int32) (r : RW) (v : Int32) (hv : rNum f r = v) (P : Prop) : (P ∧ tknR xs f r) ↔ (P ∧ ¬ v = -1 ∧ ∃ x ∈ xs, ¬ x.1 = r.1 ∧ rNum f x = v) := by
  unfold tknR
  rw [hv]
theorem len_sum {a b c : Nat} (ha : a ≤ 40) (hb : b ≤ 40) (hc : c ≤ 40) : nI a + nI b + nI c < 40 ↔ a + b + c < 40 := by
  rw [nI_add, nI_add]
  exact nI_ltI (b := 40) (by omega) (by omega)
theorem r_put {m : MS} {D : Nat} {a : AS} (V : MV m D a) (I : IV a) (t s k c f g : Int32) : RO (x_X7_put t s k c f g m) c3 D (putA t s k c f g a) := by
  have hn : lenT a ≤ 60 := I.2.2.1.1.1
  unfold x_X7_put putA
  rw [m_isTransaction V.2.2.1.1.1 hn, m_isStore V.2.2.1.2.1, m_isKey, bd_some]
  have hfull : ∀ b : Int32, (bd (l0 (if b = -1 then if vR 0 3 then if vR 1 3 then if vR 2 3 then if (((ga m 8 (0 : Int32).toNatClampNeg) + (ga m 8 (1 : Int32).toNatClampNeg)) + (ga m 8 (2 : Int32).toNatClampNeg)) < 40 then some (.inl ()) else some (.inr (1 : Int32)) else none else none else none else some (.inl ())) (fun _ => some (0 : Int32))) (fun v => some v) : Option Int32) = some (if b = -1 ∧ ¬ allR a < 40 then 1 else 0) := by
    intro b
    have l0' := (SOK.of I (show 0 < 3 by omega)).2.2.1
    have l1' := (SOK.of I (show 1 < 3 by omega)).2.2.1
    have l2' := (SOK.of I (show 2 < 3 by omega)).2.2.1
    have e := len_sum l0' l1' l2'
    rw [if_pos (show vR 0 3 by decide), if_pos (show vR 1 3 by decide), if_pos (show vR 2 3 by decide)]
    rw [show (0 : Int32).toNatClampNeg = 0 from rfl, show (1 : Int32).toNatClampNeg = 1 from rfl, show (2 : Int32).toNatClampNeg = 2 from rfl]
    rw [show ga m 8 0 = _ from (V.2.2.1.2.1 0 (by omega)).2.1, show ga m 8 1 = _ from (V.2.2.1.2.1 1 (by omega)).2.1, show ga m 8 2 = _ from (V.2.2.1.2.1 2 (by omega)).2.1]
    by_cases h1 : b = -1
    · by_cases h2 : allR a < 40
      · rw [if_pos h1, if_pos (e.mpr h2), l0_inl, bd_some, if_neg (fun q => q.2 h2)]
      · rw [if_pos h1, if_neg (fun q => h2 (e.mp q)), l0_inr, bd_some, if_pos ⟨h1, h2⟩]
    · rw [if_neg h1, l0_inl, bd_some, if_neg (fun q => h1 q.1)]
  have hfull2 : ∀ (b : Int32) {β : Type} (F : Int32 → Option β), bd (l0 (if b = -1 then if vR 0 3 then if vR 1 3 then if vR 2 3 then if (((ga m 8 (0 : Int32).toNatClampNeg) + (ga m 8 (1 : Int32).toNatClampNeg)) + (ga m 8 (2 : Int32).toNatClampNeg)) < 40 then some (.inl ()) else some (.inr (1 : Int32)) else none else none else none else some (.inl ())) (fun _ => some (0 : Int32))) F = F (if b = -1 ∧ ¬ allR a < 40 then 1 else 0) := by
    intro b β F
    have h := hfull b
    cases hx : (l0 (if b = -1 then if vR 0 3 then if vR 1 3 then if vR 2 3 then if (((ga m 8 (0 : Int32).toNatClampNeg) + (ga m 8 (1 : Int32).toNatClampNeg)) + (ga m 8 (2 : Int32).toNatClampNeg)) < 40 then some (.inl ()) else some (.inr (1 : Int32)) else none else none else none else some (.inl ())) (fun _ => some (0 : Int32)) : Option Int32) with
    | none => rw [hx] at h; cases h
    | some z => rw [hx] at h; rw [bd_some]; rw [bd_some] at h; rw [Option.some.inj h]
  simp only [m_isIn, hfull2, bd_some]
  by_cases h : oX a t
  · simp only [if_pos h, bd_some, l0_inl, l0_inr, l1_inl, l1_inr, b2_some, bs_eq, if_neg q10, if_pos q00, if_neg q20, if_neg q30, if_pos q11, if_neg q01, if_pos isB0, if_pos isB1, if_true, if_false]
    rcases Classical.propComplete (kP k) with hk | hk <;> rcases Classical.propComplete (rng c 0 9999) with hc | hc <;> rcases Classical.propComplete (rng f (-1) 999) with hf | hf <;> rcases Classical.propComplete (rng g (-1) 999) with hg | hg <;> simp only [hk, hc, hf, hg, bd_some, l0_inl, l0_inr, l1_inl, l1_inr, b2_some, bs_eq, if_neg q10, if_pos q00, if_neg q20, if_neg q30, if_pos q11, if_neg q01, if_pos isB0, if_pos isB1, if_true, if_false, f1] <;> exact RO.f V (by decide) rfl
  · obtain ⟨ti, hti, rfl, eti⟩ := oT_at h (show lenT a < 2 ^ 31 by omega)
    by_cases h2 : noS a s
    · simp only [if_neg h, if_pos h2, bd_some, l0_inl, l0_inr, l1_inl, l1_inr, b2_some, bs_eq, if_neg q10, if_pos q00, if_neg q20, if_neg q30, if_pos q11, if_neg q01, if_pos isB0, if_pos isB1, if_true, if_false]
      rcases Classical.propComplete (kP k) with hk | hk <;> rcases Classical.propComplete (rng c 0 9999) with hc | hc <;> rcases Classical.propComplete (rng f (-1) 999) with hf | hf <;> rcases Classical.propComplete (rng g (-1) 999) with hg | hg <;> simp only [hk, hc, hf, hg, bd_some, l0_inl, l0_inr, l1_inl, l1_inr, b2_some, bs_eq, if_neg q10, if_pos q00, if_neg q20, if_neg q30, if_pos q11, if_neg q01, if_pos isB0, if_pos isB1, if_true, if_false, f1] <;> exact RO.f V (by decide) rfl
    · obtain ⟨j, hj, rfl, ej⟩ := oT_at (fun q => h2 (Or.inl q)) (by omega)
      have V1 := V.2.2.1.2.1 j hj
      have hS := SOK.of I hj
      have hl := hS.2.2.1
      have ht : ¬ (a.2.2.1.2 j).1 = 0 := fun q => h2 (Or.inr (by rw [ej]; exact q))
      obtain ⟨b, eb, hb⟩ : ∃ b, x_X7_find (nI j) k m = some b ∧ ((∃ i, i < (a.2.2.1.2 j).2.2.2.length ∧ (rwD (a.2.2.1.2 j).2.2.2 i).1 = k ∧ (∀ q, q < i → ¬ (rwD (a.2.2.1.2 j).2.2.2 q).1 = k) ∧ b = nI (40 * j + i)) ∨ ((∀ i, i < (a.2.2.1.2 j).2.2.2.length → ¬ (rwD (a.2.2.1.2 j).2.2.2 i).1 = k) ∧ b = -1)) := by
        rcases m_find hj hl V1 k with ⟨i, i1, i2, i3, e⟩ | ⟨i1, e⟩
        · exact ⟨_, e, Or.inl ⟨i, i1, i2, i3, rfl⟩⟩
        · exact ⟨_, e, Or.inr ⟨i1, rfl⟩⟩
      have hbf : b = -1 ↔ findR (stA a (nI j)).2.2.2 k = none := by
        unfold stA
        rw [ej]
        rcases hb with ⟨i, i1, i2, i3, rfl⟩ | ⟨i1, rfl⟩
        · rw [find_at _ i i1 i2 i3]
          exact ⟨fun q => absurd q (nI_m1 (by omega)), fun q => by cases q⟩
        · exact ⟨fun _ => find_no _ i1, fun _ => rfl⟩
      have t0 : x_X7_isTaken (nI j) k 0 f m = some (if (a.2.2.1.2 j).2.1 = 2 ∧ tknR (a.2.2.1.2 j).2.2.2 0 (k, c, f, g) then 1 else 0) := (m_isTaken hj (show 0 < 2 by omega) hl ht V1 k f).trans (congrArg some (ite_congr (propext (tkn_eq (a.2.2.1.2 j).2.2.2 0 (k, c, f, g) f rfl ((a.2.2.1.2 j).2.1 = 2)).symm) (fun _ => rfl) (fun _ => rfl)))
      have t1 : x_X7_isTaken (nI j) k 1 g m = some (if (a.2.2.1.2 j).2.2.1 = 2 ∧ tknR (a.2.2.1.2 j).2.2.2 1 (k, c, f, g) then 1 else 0) := (m_isTaken hj (show 1 < 2 by omega) hl ht V1 k g).trans (congrArg some (ite_congr (propext (tkn_eq (a.2.2.1.2 j).2.2.2 1 (k, c, f, g) g rfl ((a.2.2.1.2 j).2.2.1 = 2)).symm) (fun _ => rfl) (fun _ => rfl)))
      simp only [if_neg h, if_neg h2, bd_some, l0_inl, l0_inr, l1_inl, l1_inr, b2_some, bs_eq, if_neg q10, if_pos q00, if_neg q20, if_neg q30, if_pos q11, if_neg q01, if_pos isB0, if_pos isB1, if_true, if_false, eb, m_can hti hn V.2.2.1.1, t0, t1]
      have ew : wrA a (nI ti) (nI j) ↔ ((txAt a.2.2.1.1 ti).2.2.2 = 1 ∧ inS (txAt a.2.2.1.1 ti).2.1 (nI j)) ∧ (¬ (txAt a.2.2.1.1 ti).2.2.1 = 0 ∨ (1 : Int32) = 0) := by
        unfold wrA reA txA
        rw [eti]
        exact ⟨fun q => ⟨q.1, Or.inl q.2⟩, fun q => ⟨q.1, q.2.elim id (fun z => absurd z q10)⟩⟩
      by_cases hk : kP k
      · by_cases hc : rng c 0 9999
        · simp only [if_pos hk, if_pos hc, if_neg (show ¬ ¬ kP k from fun q => q hk), bd_some, l0_inl, l0_inr, l1_inl, l1_inr, b2_some, bs_eq, if_neg q10, if_pos q00, if_neg q20, if_neg q30, if_pos q11, if_neg q01, if_pos isB0, if_pos isB1, if_true, if_false, f2]; exact RO.f V (by decide) rfl
        · by_cases hf : rng f (-1) 999
          · simp only [if_pos hk, if_neg hc, if_pos hf, if_neg (show ¬ ¬ kP k from fun q => q hk), bd_some, l0_inl, l0_inr, l1_inl, l1_inr, b2_some, bs_eq, if_neg q10, if_pos q00, if_neg q20, if_neg q30, if_pos q11, if_neg q01, if_pos isB0, if_pos isB1, if_true, if_false, f2]; exact RO.f V (by decide) rfl
          · by_cases hg : rng g (-1) 999
            · simp only [if_pos hk, if_neg hc, if_neg hf, if_pos hg, if_neg (show ¬ ¬ kP k from fun q => q hk), bd_some, l0_inl, l0_inr, l1_inl, l1_inr, b2_some, bs_eq, if_neg q10, if_pos q00, if_neg q20, if_neg q30, if_pos q11, if_neg q01, if_pos isB0, if_pos isB1, if_true, if_false, f2]; exact RO.f V (by decide) rfl
            · simp only [if_pos hk, if_neg hc, if_neg hf, if_neg hg, if_neg (show ¬ ¬ kP k from fun q => q hk), bd_some, l0_inl, l0_inr, l1_inl, l1_inr, b2_some, bs_eq, if_neg q10, if_pos q00, if_neg q20, if_neg q30, if_pos q11, if_neg q01, if_pos isB0, if_pos isB1, if_true, if_false]
              by_cases hw : wrA a (nI ti) (nI j)
              · rw [if_pos (ew.mp hw), if_neg (show ¬ ¬ wrA a (nI ti) (nI j) from fun q => q hw)]
                simp only [bd_some, l0_inl, l0_inr, l1_inl, l1_inr, b2_some, bs_eq, if_neg q10, if_pos q00, if_neg q20, if_neg q30, if_pos q11, if_neg q01, if_pos isB0, if_pos isB1, if_true, if_false]
                have es : stA a (nI j) = a.2.2.1.2 j := by unfold stA; rw [ej]
                rw [es] at hbf ⊢
                have hbad : ∀ X : Prop, [Decidable X] → X → ¬ X → False := fun _ _ p q => q p
                by_cases A0 : (a.2.2.1.2 j).2.1 = 2 ∧ tknR (a.2.2.1.2 j).2.2.2 0 (k, c, f, g)
                · rw [if_pos A0, if_neg q10, l0_inl, bd_some, if_pos q00, bd_some, f3, b2_some, if_neg q10, if_pos (Or.inl (Or.inl A0))]
                  exact RO.f V (by decide) rfl
                · by_cases A1 : (a.2.2.1.2 j).2.2.1 = 2 ∧ tknR (a.2.2.1.2 j).2.2.2 1 (k, c, f, g)
                  · rw [if_neg A0, if_pos A1, if_pos q00, if_neg q10, l0_inl, bd_some, if_pos q00, bd_some, f3, b2_some, if_neg q10, if_pos (Or.inl (Or.inr A1))]
                    exact RO.f V (by decide) rfl
                  · by_cases A2 : b = -1 ∧ ¬ allR a < 40
                    · rw [if_neg A0, if_neg A1, if_pos q00, if_pos q00, if_pos A2, if_neg q10, l0_inl, bd_some, if_pos q00, bd_some, f3, b2_some, if_neg q10, if_pos (Or.inr ⟨hbf.mp A2.1, A2.2⟩)]
                      exact RO.f V (by decide) rfl
                    · rw [if_neg A0, if_neg A1, if_pos q00, if_pos q00, if_neg A2, if_pos q00, l0_inr, bd_some, if_neg q10, bd_some, f0, b2_some, if_pos q00, if_neg (show ¬ (((a.2.2.1.2 j).2.1 = 2 ∧ tknR (a.2.2.1.2 j).2.2.2 0 (k, c, f, g) ∨ (a.2.2.1.2 j).2.2.1 = 2 ∧ tknR (a.2.2.1.2 j).2.2.2 1 (k, c, f, g)) ∨ findR (a.2.2.1.2 j).2.2.2 k = none ∧ ¬ allR a < 40) from fun q => q.elim (fun q => q.elim A0 A1) (fun q => A2 ⟨hbf.mpr q.1, q.2⟩))]
                      have hr : vR (nI j) 3 := nI_in hj (by omega)
                      have V2 := V.t 0
                      have W1 := V2.2.2.1.2.1 j hj
                      rcases hb with ⟨i, i1, i2, i3, rfl⟩ | ⟨i1, rfl⟩
                      · have hr2 : vR (nI (40 * j + i)) 120 := nI_in (by omega) (by omega)
                        have hr3 : vR (nI (2 * (40 * j + i))) 240 := nI_in (by omega) (by omega)
                        have hr4 : vR (nI (2 * (40 * j + i) + 1)) 240 := nI_in (by omega) (by omega)
                        have hne : ¬ findR (a.2.2.1.2 j).2.2.2 k = none := fun q => nI_m1 (by omega) (hbf.mpr q)
                        simp only [if_neg (show ¬ nI (40 * j + i) = -1 from nI_m1 (by omega)), b2_some, if_pos hr2, n2, nI_1, if_pos hr3, if_pos hr4, bs_eq, bd_some, if_pos isB0, nI_clamp (show 40 * j + i < 2 ^ 31 by omega), nI_clamp (show 2 * (40 * j + i) < 2 ^ 31 by omega), nI_clamp (show 2 * (40 * j + i) + 1 < 2 ^ 31 by omega), if_neg hne]
                        refine ⟨_, wr4 (ss m 31 0) (40 * j + i) (k, c, f, g), D, rfl, rfl, ?_, fun _ => rfl, Nat.le_succ _⟩
                        unfold setS
                        rw [ej, put_at (r := (k, c, f, g)) _ i i1 i2 i3]
                        exact V2.rows hj (fun x hx => rfl) (fun x y hx => wr4_o _ _ _ _ _ (by omega)) (W1.wr hj hl i1) (fun x hx hxk => MVs.wrO (SOK.of I hx).2.2.1 (by omega) hxk (V2.2.2.1.2.1 x hx))
                      · have hne : findR (a.2.2.1.2 j).2.2.2 k = none := hbf.mp rfl
                        have hsz : ga (ss m 31 0) 8 j = nI (a.2.2.1.2 j).2.2.2.length := W1.2.1
                        have hlt : allR a < 40 := Decidable.byContradiction fun q => A2 ⟨rfl, q⟩
                        have hl40 : (a.2.2.1.2 j).2.2.2.length < 40 := by
                          unfold allR at hlt
                          rcases (show j = 0 ∨ j = 1 ∨ j = 2 by omega) with q | q | q <;> subst q <;> omega
                        have hr2 : vR (nI (40 * j + (a.2.2.1.2 j).2.2.2.length)) 120 := nI_in (by omega) (by omega)
                        have hr3 : vR (nI (2 * (40 * j + (a.2.2.1.2 j).2.2.2.length))) 240 := nI_in (by omega) (by omega)
                        have hr4 : vR (nI (2 * (40 * j + (a.2.2.1.2 j).2.2.2.length) + 1)) 240 := nI_in (by omega) (by omega)
                        simp only [if_true, if_pos hr, n40, nI_clamp (show j < 2 ^ 31 by omega), hsz, nI_add, nI_1, b2_some, if_pos hr2, n2, if_pos hr3, if_pos hr4, bs_eq, bd_some, if_pos isB1, nI_clamp (show 40 * j + (a.2.2.1.2 j).2.2.2.length < 2 ^ 31 by omega), nI_clamp (show 2 * (40 * j + (a.2.2.1.2 j).2.2.2.length) < 2 ^ 31 by omega), nI_clamp (show 2 * (40 * j + (a.2.2.1.2 j).2.2.2.length) + 1 < 2 ^ 31 by omega), if_pos hne]
                        refine ⟨_, wr4 (sa (ss m 31 0) 8 j (nI ((a.2.2.1.2 j).2.2.2.length + 1))) (40 * j + (a.2.2.1.2 j).2.2.2.length) (k, c, f, g), D, rfl, rfl, ?_, fun _ => rfl, Nat.le_succ _⟩
                        unfold setS
                        rw [ej, put_no (r := (k, c, f, g)) _ i1]
                        refine V2.rows hj (fun x hx => rfl) (fun x y hx => (wr4_o _ _ _ _ _ (by omega)).trans ?_) (W1.grow hj hl40) (fun x hx hxk => MVs.wrO (SOK.of I hx).2.2.1 (by omega) hxk ?_)
                        · rw [ga_sa2, if_neg (by omega)]
                        · obtain ⟨w1, w2, w3, w4⟩ := V2.2.2.1.2.1 x hx
                          refine ⟨?_, ?_, fun q => ?_, fun y hy => ?_⟩
                          · rw [ga_sa2, if_neg (by omega)]; exact w1
                          · rw [ga_sa2, if_neg (by omega)]; exact w2
                          · rw [ga_sa2, ga_sa2, if_neg (by omega), if_neg (by omega)]; exact w3 q
                          · simp only [ga_sa2]
                            rw [if_neg (by omega), if_neg (by omega), if_neg (by omega), if_neg (by omega)]; exact w4 y hy
              · rw [if_neg (fun q => hw (ew.mpr q)), if_pos hw]
                simp only [bd_some, l0_inl, l0_inr, l1_inl, l1_inr, b2_some, bs_eq, if_neg q10, if_pos q00, if_neg q20, if_neg q30, if_pos q11, if_neg q01, if_pos isB0, if_pos isB1, if_true, if_false, f3]; exact RO.f V (by decide) rfl
      · simp only [if_neg hk, if_pos hk, bd_some, l0_inl, l0_inr, l1_inl, l1_inr, b2_some, bs_eq, if_neg q10, if_pos q00, if_neg q20, if_neg q30, if_pos q11, if_neg q01, if_pos isB0, if_pos isB1, if_true, if_false, f2]; exact RO.f V (by decide) rfl
theorem m_removeL {k : Nat} {s : SA} (hk : k < 3) (hS : SOK s) {x y : Int32} (hx : kP x) (hy : kP y) : ∀ (n i : Nat) (m : MS), s.2.2.2.length < n + i → i ≤ s.2.2.2.length → MVs m 6 k (s.1, s.2.1, s.2.2.1, remR (s.2.2.2.take i) x y ++ s.2.2.2.drop (remR (s.2.2.2.take i) x y).length) →
    ∃ m', x_X7_remove_L1 (nI k) x y n (nI (40 * k + i)) (nI (40 * k + (remR (s.2.2.2.take i) x y).length)) m = some (nI (40 * k + (remR s.2.2.2 x y).length), m') ∧ MVs m' 6 k (s.1, s.2.1, s.2.2.1, remR s.2.2.2 x y ++ s.2.2.2.drop (remR s.2.2.2 x y).length) ∧ (∀ j, gs m' j = gs m j) ∧ (∀ j z, ¬ (9 ≤ j ∧ j < 12) → ga m' j z = ga m j z) ∧ ∀ i', i' < 3 → i' ≠ k → ∀ s', s'.2.2.2.length ≤ 40 → MVs m 6 i' s' → MVs m' 6 i' s' := by
  have hl := hS.2.2.1
  intro n
  induction n with
  | zero => intro i m h1 h2; omega
  | succ n ih =>
    intro i m h1 h2 V
    have hr : vR (nI k) 3 := nI_in hk (by omega)
    have hfl : (remR (s.2.2.2.take i) x y).length ≤ i := Nat.le_trans (List.length_filter_le _ _) (by rw [List.length_take]; omega)
    have hlen : (remR (s.2.2.2.take i) x y ++ s.2.2.2.drop (remR (s.2.2.2.take i) x y).length).length = s.2.2.2.length := by rw [List.length_append, List.length_drop]; omega
    rw [x_X7_remove_L1]
    have hsz : ga m 8 k = nI s.2.2.2.length := by rw [show ga m 8 k = _ from V.2.1]; show nI (_ : List RW).length = _; rw [hlen]
    simp only [if_pos hr, nI_clamp (show k < 2 ^ 31 by omega), hsz, n40, nI_add]
    by_cases hi : i < s.2.2.2.length
    · generalize hF : remR (s.2.2.2.take i) x y = F at *
      have hr2 : vR (nI (40 * k + i)) 120 := nI_in (by omega) (by omega)
      have hat := V.at (i := i) (by show i < (_ : List RW).length; rw [hlen]; exact hi)
      have hrow : rwD (F ++ s.2.2.2.drop F.length) i = s.2.2.2[i] := by
        unfold rwD
        rw [List.getD_eq_getElem?_getD, List.getElem?_append_right hfl, List.getElem?_drop, show F.length + (i - F.length) = i by omega, List.getElem?_eq_getElem hi]; rfl
      rw [if_neg (nI_ge (by omega) (by omega))]
      simp only [if_pos hr2, nI_clamp (show 40 * k + i < 2 ^ 31 by omega)]
      have a9 : ga m 9 (40 * k + i) = s.2.2.2[i].1 := by rw [← hrow]; exact hat.1
      have a10 : ga m 10 (40 * k + i) = s.2.2.2[i].2.1 := by rw [← hrow]; exact hat.2.1
      have a11 : ga m 11 (2 * (40 * k + i)) = s.2.2.2[i].2.2.1 := by rw [← hrow]; exact hat.2.2.1
      have a12 : ga m 11 (2 * (40 * k + i) + 1) = s.2.2.2[i].2.2.2 := by rw [← hrow]; exact hat.2.2.2
      have hkey : kP s.2.2.2[i].1 := (hS.2.2.2.2 _ (List.getElem_mem hi)).1
      rw [a9, m_isBetween hkey hx hy, bd_some]
      have htk : s.2.2.2.take (i + 1) = s.2.2.2.take i ++ [s.2.2.2[i]] := List.take_succ_eq_append_getElem hi
      by_cases hb : btwR x y s.2.2.2[i]
      · have hF2 : remR (s.2.2.2.take (i + 1)) x y = F := by
          rw [htk]; unfold remR at hF ⊢
          rw [List.filter_append, hF, List.filter_cons_of_neg (p := fun r => decide (¬ btwR x y r)) (fun q => (of_decide_eq_true q) hb)]; simp
        rw [if_pos hb, if_neg q10, b2_some, nI_1, Nat.add_assoc]
        have h := ih (i + 1) m (by omega) (by omega) (by rw [hF2]; exact V)
        rw [hF2] at h
        exact h
      · have hF2 : remR (s.2.2.2.take (i + 1)) x y = F ++ [s.2.2.2[i]] := by
          rw [htk]; unfold remR at hF ⊢
          rw [List.filter_append, hF, List.filter_cons_of_pos (p := fun r => decide (¬ btwR x y r)) (decide_eq_true hb)]; rfl
        have hc : F.length < 40 := by omega
        have hr3 : vR (nI (40 * k + F.length)) 120 := nI_in (by omega) (by omega)
        have hr4 : vR (nI (2 * (40 * k + i))) 240 := nI_in (by omega) (by omega)
        have hr5 : vR (nI (2 * (40 * k + i) + 1)) 240 := nI_in (by omega) (by omega)
        have hr6 : vR (nI (2 * (40 * k + F.length))) 240 := nI_in (by omega) (by omega)
        have hr7 : vR (nI (2 * (40 * k + F.length) + 1)) 240 := nI_in (by omega) (by omega)
        rw [if_neg hb, if_pos q00]
        simp only [if_pos hr3, n2, nI_1, if_pos hr4, if_pos hr5, if_pos hr6, if_pos hr7, bs_eq, b2_some, nI_clamp (show 40 * k + F.length < 2 ^ 31 by omega), nI_clamp (show 2 * (40 * k + i) < 2 ^ 31 by omega), nI_clamp (show 2 * (40 * k + i) + 1 < 2 ^ 31 by omega), nI_clamp (show 2 * (40 * k + F.length) < 2 ^ 31 by omega), nI_clamp (show 2 * (40 * k + F.length) + 1 < 2 ^ 31 by omega)]
        have e10 : ga (sa m 9 (40 * k + F.length) s.2.2.2[i].1) 10 (40 * k + i) = s.2.2.2[i].2.1 := by rw [ga_sa2, if_neg (by omega)]; exact a10
        rw [e10]
        have e11 : ga (sa (sa m 9 (40 * k + F.length) s.2.2.2[i].1) 10 (40 * k + F.length) s.2.2.2[i].2.1) 11 (2 * (40 * k + i)) = s.2.2.2[i].2.2.1 := by rw [ga_sa2, if_neg (by omega), ga_sa2, if_neg (by omega)]; exact a11
        rw [e11]
        have e12 : ga (sa (sa (sa m 9 (40 * k + F.length) s.2.2.2[i].1) 10 (40 * k + F.length) s.2.2.2[i].2.1) 11 (2 * (40 * k + F.length)) s.2.2.2[i].2.2.1) 11 (2 * (40 * k + i) + 1) = s.2.2.2[i].2.2.2 := by rw [ga_sa2, if_neg (by omega), ga_sa2, if_neg (by omega), ga_sa2, if_neg (by omega)]; exact a12
        rw [e12]
        have hm : sa (sa (sa (sa m 9 (40 * k + F.length) s.2.2.2[i].1) 10 (40 * k + F.length) s.2.2.2[i].2.1) 11 (2 * (40 * k + F.length)) s.2.2.2[i].2.2.1) 11 (2 * (40 * k + F.length) + 1) s.2.2.2[i].2.2.2 = wr4 m (40 * k + F.length) s.2.2.2[i] := rfl
        rw [hm]
        have hd : s.2.2.2.drop F.length = s.2.2.2[F.length] :: s.2.2.2.drop (F.length + 1) := List.drop_eq_getElem_cons (by omega)
        have V2 := V.wr (i := F.length) (r := s.2.2.2[i]) hk (by show (_ : List RW).length ≤ 40; rw [hlen]; exact hl) (by show _ < (_ : List RW).length; rw [hlen]; omega)
        have hset : (F ++ s.2.2.2.drop F.length).set F.length s.2.2.2[i] = F ++ [s.2.2.2[i]] ++ s.2.2.2.drop (F ++ [s.2.2.2[i]]).length := by
          rw [hd, List.set_append_right _ _ (Nat.le_refl _), Nat.sub_self, List.set_cons_zero, List.length_append, List.append_assoc]; rfl
        have V3 : MVs (wr4 m (40 * k + F.length) s.2.2.2[i]) 6 k (s.1, s.2.1, s.2.2.1, remR (s.2.2.2.take (i + 1)) x y ++ s.2.2.2.drop (remR (s.2.2.2.take (i + 1)) x y).length) := by
          rw [hF2, ← hset]; exact V2
        obtain ⟨m', e, r1, r2, r3, r4⟩ := ih (i + 1) _ (by omega) (by omega) V3
        rw [hF2] at e
        refine ⟨m', ?_, r1, fun j => r2 j, fun j z hj => (r3 j z hj).trans (wr4_o _ _ _ _ _ (by omega)), fun i' h1' h2' s' h3' h4' => r4 i' h1' h2' s' h3' (MVs.wrO h3' (by omega) h2' h4')⟩
        rw [Nat.add_assoc, ← e, List.length_append]; rfl
    · have e : i = s.2.2.2.length := by omega
      subst e
      rw [List.take_length] at V ⊢
      exact ⟨m, by rw [if_pos (nI_le (by omega) (by omega))], V, fun _ => rfl, fun _ _ _ => rfl, fun _ _ _ _ _ h => h⟩
theorem r_remove {m : MS} {D : Nat} {a : AS} (V : MV m D a) (I : IV a) (t s x y : Int32) : RO (x_X7_remove t s x y m) c3 D (rmvA t s x y a) := by
  unfold x_X7_remove rmvA
  rw [m_missW V I, bd_some]
  by_cases h : oX a t
  · simp only [if_pos h, bd_some, l0_inl, l0_inr, l1_inl, l1_inr, b2_some, bs_eq, if_neg q10, if_pos q00, if_neg q20, if_neg q30, if_pos q11, if_neg q01, if_pos isB0, if_pos isB1, if_true, if_false, f1]; exact RO.f V (by decide) rfl
  · by_cases h2 : noS a s
    · simp only [if_neg h, if_pos h2, bd_some, l0_inl, l0_inr, l1_inl, l1_inr, b2_some, bs_eq, if_neg q10, if_pos q00, if_neg q20, if_neg q30, if_pos q11, if_neg q01, if_pos isB0, if_pos isB1, if_true, if_false, f1]; exact RO.f V (by decide) rfl
    · by_cases h3 : kP x
      · by_cases h4 : kP y
        · by_cases h5 : wrA a t s
          · simp only [if_neg h, if_neg h2, if_neg (show ¬ ¬ kP x from fun q => q h3), if_neg (show ¬ ¬ kP y from fun q => q h4), if_pos h5, if_neg (show ¬ ¬ wrA a t s from fun q => q h5), f0, bd_some, l0_inl, l0_inr, l1_inl, l1_inr, b2_some, bs_eq, if_neg q10, if_pos q00, if_neg q20, if_neg q30, if_pos q11, if_neg q01, if_pos isB0, if_pos isB1, if_true, if_false]
            obtain ⟨j, hj, rfl, ej⟩ := oT_at (fun q => h2 (Or.inl q)) (by omega)
            have V2 := V.t 0
            have V1 := V2.2.2.1.2.1 j hj
            have hS := SOK.of I hj
            have hl := hS.2.2.1
            obtain ⟨m', e, r1, r2, r3, r4⟩ := m_removeL hj hS h3 h4 FU 0 (ss m 31 0) (by show _ < 1000 + 0; omega) (Nat.zero_le _) (by simpa [remR] using V1)
            have hz : (remR ((a.2.2.1.2 j).2.2.2.take 0) x y).length = 0 := rfl
            rw [hz, Nat.add_zero] at e
            have hle : (remR (a.2.2.1.2 j).2.2.2 x y).length ≤ (a.2.2.1.2 j).2.2.2.length := List.length_filter_le _ _
            have hsz : ga m' 8 j = nI (a.2.2.1.2 j).2.2.2.length := (r3 8 j (by omega)).trans V1.2.1
            have hr : vR (nI j) 3 := nI_in hj (by omega)
            have es : stA a (nI j) = a.2.2.1.2 j := by unfold stA; rw [ej]
            rw [n40, e, b2_some]
            simp only [if_pos hr, bs_eq, nI_clamp (show j < 2 ^ 31 by omega), hsz, nI_add, es]
            rw [pk_sub (by omega), pk_sub (by omega), show 40 * j + (a.2.2.1.2 j).2.2.2.length - (40 * j + (remR (a.2.2.1.2 j).2.2.2 x y).length) = (a.2.2.1.2 j).2.2.2.length - (remR (a.2.2.1.2 j).2.2.2 x y).length by omega, show (a.2.2.1.2 j).2.2.2.length - ((a.2.2.1.2 j).2.2.2.length - (remR (a.2.2.1.2 j).2.2.2 x y).length) = (remR (a.2.2.1.2 j).2.2.2 x y).length by omega]
            have hcnt : (a.2.2.1.2 j).2.2.2.length - (remR (a.2.2.1.2 j).2.2.2 x y).length = (a.2.2.1.2 j).2.2.2.countP (fun r => decide (btwR x y r)) := by
              have h9 := List.length_eq_countP_add_countP (fun r => decide (btwR x y r)) (l := (a.2.2.1.2 j).2.2.2)
              have h10 : (remR (a.2.2.1.2 j).2.2.2 x y).length = (a.2.2.1.2 j).2.2.2.countP (fun r => decide (¬ decide (btwR x y r) = true)) := by
                unfold remR
                rw [List.countP_eq_length_filter]
                simp
              omega
            rw [hcnt]
            refine ⟨_, _, D, rfl, ?_, ?_, fun _ => rfl, Nat.le_succ _⟩
            · show gs m' 31 = _; rw [r2]; rfl
            · unfold setS
              rw [ej]
              refine V2.rows hj (fun q hq => r2 q) (fun q z hq => ?_) ⟨?_, ?_, fun q => ?_, fun i hi => ?_⟩ (fun i hi hij => ?_)
              · rw [ga_sa2, if_neg (by omega)]; exact r3 q z (by omega)
              · rw [ga_sa2, if_neg (by omega)]; exact r1.1
              · rw [ga_sa2, if_pos ⟨rfl, rfl⟩]
              · rw [ga_sa2, ga_sa2, if_neg (by omega), if_neg (by omega)]; exact r1.2.2.1 q
              · have hi2 : i < (remR (a.2.2.1.2 j).2.2.2 x y).length := hi
                simp only [ga_sa2]
                rw [if_neg (by omega), if_neg (by omega), if_neg (by omega), if_neg (by omega), r1.2.2.2 i (by show i < (_ : List RW).length; rw [List.length_append]; omega)]
                show (_ : List RW).getD i _ = (_ : List RW).getD i _
                rw [List.getD_eq_getElem?_getD, List.getElem?_append_left hi2, ← List.getD_eq_getElem?_getD]
              · have w := r4 i hi hij _ (SOK.of I hi).2.2.1 (V2.2.2.1.2.1 i hi)
                obtain ⟨w1, w2, w3, w4⟩ := w
                refine ⟨?_, ?_, fun q => ?_, fun z hz => ?_⟩
                · rw [ga_sa2, if_neg (by omega)]; exact w1
                · rw [ga_sa2, if_neg (by omega)]; exact w2
                · rw [ga_sa2, ga_sa2, if_neg (by omega), if_neg (by omega)]; exact w3 q
                · simp only [ga_sa2]
                  rw [if_neg (by omega), if_neg (by omega), if_neg (by omega), if_neg (by omega)]; exact w4 z hz
          · simp only [if_neg h, if_neg h2, if_neg (show ¬ ¬ kP x from fun q => q h3), if_neg (show ¬ ¬ kP y from fun q => q h4), if_neg h5, if_pos h5, f3, bd_some, l0_inl, l0_inr, l1_inl, l1_inr, b2_some, bs_eq, if_neg q10, if_pos q00, if_neg q20, if_neg q30, if_pos q11, if_neg q01, if_pos isB0, if_pos isB1, if_true, if_false]
            exact RO.f V (by decide) rfl
        · simp only [if_neg h, if_neg h2, if_neg (show ¬ ¬ kP x from fun q => q h3), if_pos h4, f2, bd_some, l0_inl, l0_inr, l1_inl, l1_inr, b2_some, bs_eq, if_neg q10, if_pos q00, if_neg q20, if_neg q30, if_pos q11, if_neg q01, if_pos isB0, if_pos isB1, if_true, if_false]; exact RO.f V (by decide) rfl
      · simp only [if_neg h, if_neg h2, if_pos h3, f2, bd_some, l0_inl, l0_inr, l1_inl, l1_inr, b2_some, bs_eq, if_neg q10, if_pos q00, if_neg q20, if_neg q30, if_pos q11, if_neg q01, if_pos isB0, if_pos isB1, if_true, if_false]; exact RO.f V (by decide) rfl
