/-! ===== PURE: the class's small methods on its structure ===== -/
theorem SV.keep {o : Nat} {w w' : CS} {R : Nat → List Nat} (S : SV o w R) (hw' : WF w') (hz : wz w ≤ wz w') (hJ : ∀ f y, y ≤ wz w → wJ w' f y = wJ w f y) (hB : ∀ y i, y ≤ wz w → wB w' y i = wB w y i) (hI : ∀ y, y ≤ wz w → wJ w 0 y = 7 → wI w' 282 y = wI w 282 y) : SV o w' R := by
  have hw := S.wf
  have e : ∀ y k f, wJ w 0 y = k + 1 → wJ w' f y = wJ w f y := fun y k f h => hJ f y (hw.le h).2
  have eB : ∀ y k i, wJ w 0 y = k + 1 → wB w' y i = wB w y i := fun y k i h => hB y i (hw.le h).2
  have dz : ∀ j, j < 8 → wJ w 281 (LL o j) ≤ wz w := fun j hj => by
    rcases (S.ls j hj).2.1 with q | q
    · exact (hw.le q.1).2
    · exact q.2.2.2.2
  have el : ∀ j, j < 8 → ∀ f, wJ w' f (LL o j) = wJ w f (LL o j) := fun j hj f => e _ 6 f (S.ls j hj).1
  have ed : ∀ j, j < 8 → ∀ f, wJ w' f (wJ w 281 (LL o j)) = wJ w f (wJ w 281 (LL o j)) := fun j hj f => hJ f _ (dz j hj)
  refine ⟨?_, ?_, ?_, ?_, ?_, ?_, ?_, ?_, ?_, ?_, ?_, ?_, ?_, ?_, ?_⟩
  · exact hw'
  · rw [e _ 5 _ S.ko]; exact S.ko
  · simp only [e _ 5 _ S.ko]; exact S.fo
  · simp only [e _ 10 _ S.ta.1, eB _ 10 _ S.ta.1]; exact S.ta
  · simp only [e _ 9 _ S.sa.1, eB _ 9 _ S.sa.1]; exact S.sa
  · simp only [e _ 9 _ S.ca.1, eB _ 9 _ S.ca.1]; exact S.ca
  · intro i hi; rw [e _ 3 _ (S.tb i hi)]; exact S.tb i hi
  · intro k hk
    obtain ⟨a1, a2, a3, a4, a5⟩ := S.st k hk
    simp only [e _ 4 _ a1, e _ 7 _ a4]; exact ⟨a1, a2, a3, a4, a5⟩
  · intro j hj
    obtain ⟨h1, h2, h3, h4, h5, h6, h7⟩ := S.ls j hj
    refine ⟨?_, ?_, ?_, ?_, ?_, fun i hi => ?_, fun i hi => ?_⟩
    · rw [el j hj]; exact h1
    · rw [el j hj, ed j hj, ed j hj, hJ 2 0 (Nat.zero_le _)]
      exact h2.imp id fun q => ⟨q.1, q.2.1, q.2.2.1, q.2.2.2.1, Nat.le_trans q.2.2.2.2 hz⟩
    · rw [hI _ (hw.le h1).2 h1]; exact h3
    · rw [el j hj, ed j hj]; exact h4
    · rw [el j hj, ed j hj]; exact h5
    · rw [el j hj, hB _ _ (dz j hj)]; exact h6 i hi
    · have := h7 i hi
      rw [hJ 0 _ (hw.oK this).2]; exact this
  · intro i j hi hj hij hk
    rw [el i hi] at hk ⊢
    rw [ed i hi] at hk
    rw [el j hj]
    exact S.ap i j hi hj hij hk
  · intro j hj
    have := S.rk j hj
    exact ⟨this.1, fun x hx => by rw [e _ 0 _ (this.2 x hx)]; exact this.2 x hx⟩
  · intro x hx
    have := S.tk x hx
    simp only [e _ 1 _ this.1]; exact this
  · exact S.tn
  · intro x hx
    have := S.ck x hx
    simp only [e _ 2 _ this.1]; exact this
  · exact S.cn
theorem SV.bump {o : Nat} {w : CS} {R : Nat → List Nat} (S : SV o w R) : SV o (bump w) R := S.keep ⟨S.wf.1, fun y hy => S.wf.2 y (Nat.lt_of_succ_lt hy)⟩ (Nat.le_succ _) (fun _ _ _ => rfl) (fun _ _ _ => rfl) (fun _ _ _ => rfl)
theorem SV.new {o k l n : Nat} {w : CS} {R : Nat → List Nat} (S : SV o w R) : SV o (nw w k l n) R := by
  refine S.keep ⟨?_, fun y hy => ?_⟩ (Nat.le_succ _) (fun f y hy => ?_) (fun y i hy => ?_) (fun y hy _ => ?_)
  · rw [wJ_nw, if_neg (by omega)]; exact S.wf.1
  · have hy2 : wz w + 1 < y := hy
    rw [wJ_nw, if_neg (by omega)]; exact S.wf.2 y (by omega)
  · rw [wJ_nw, if_neg (by omega)]
  · rw [wB_nw, if_neg (by omega)]
  · rw [wI_nw, if_neg (by omega)]
theorem SV.sI {o f x : Nat} {v : Int32} {w : CS} {R : Nat → List Nat} (S : SV o w R) (hf : f ≠ 282) : SV o (sI w f x v) R := S.keep ⟨S.wf.1, fun y hy => S.wf.2 y hy⟩ (Nat.le_refl _) (fun _ _ _ => rfl) (fun _ _ _ => rfl) (fun y _ _ => by rw [wI_sI, if_neg (fun q => hf q.1.symm)])
theorem SV.sA {o x i : Nat} {v : Int32} {w : CS} {R : Nat → List Nat} (S : SV o w R) : SV o (sA w x i v) R := S.keep ⟨S.wf.1, fun y hy => S.wf.2 y hy⟩ (Nat.le_refl _) (fun _ _ _ => rfl) (fun _ _ _ => rfl) (fun _ _ _ => rfl)
theorem SV.sL {o f x : Nat} {v : Int64} {w : CS} {R : Nat → List Nat} (S : SV o w R) : SV o (sL w f x v) R := S.keep ⟨S.wf.1, fun y hy => S.wf.2 y hy⟩ (Nat.le_refl _) (fun _ _ _ => rfl) (fun _ _ _ => rfl) (fun _ _ _ => rfl)
/-- room for one exception -/
abbrev RE (w : CS) : Prop := 1 ≤ wl w ∧ 6 ≤ wk w
theorem s_tabAt {o : Nat} {w : CS} {R : Nat → List Nat} (S : SV o w R) (B : RE w) (v : Int32) : (∃ i, i < 4 ∧ v = nI i ∧ x_X6_tabAt o v w = some (.inr (o + 6 + i))) ∨ ((v < 0 ∨ nI 4 ≤ v) ∧ x_X6_tabAt o v w = some (.inl (1, bump w))) := by
  unfold x_X6_tabAt
  rcases pk_ix v (n := 4) (by omega) with h | h | ⟨j, hj, rfl⟩
  · right
    refine ⟨Or.inl h, ?_⟩
    rw [if_pos h, l0_inl, if_pos B]
  · right
    refine ⟨Or.inr h, ?_⟩
    by_cases h0 : v < 0
    · rw [if_pos h0, l0_inl, if_pos B]
    · rw [if_neg h0, if_pos S.ko, S.fo.1, if_pos S.ta.1, S.ta.2.1, if_neg (Int32.not_lt.mpr h), l0_inl, if_pos B]
  · left
    refine ⟨j, hj, rfl, ?_⟩
    rw [if_neg (nI_pos (by omega)), if_pos S.ko, S.fo.1, if_pos S.ta.1, S.ta.2.1, if_pos (nI_lt hj (by omega)), if_pos (show vR (nI j) 4 from nI_in hj (by omega)), l0_inr, nI_clamp (by omega), S.ta.2.2 j hj]
theorem s_transactionAt {o : Nat} {w : CS} {R : Nat → List Nat} (S : SV o w R) (B : RE w) (v : Int32) : (∃ i, i < (R 6).length ∧ v = nI i ∧ x_X6_transactionAt o v w = some (.inr ((R 6).getD i 0))) ∨ ((v < 0 ∨ nI (R 6).length ≤ v) ∧ x_X6_transactionAt o v w = some (.inl (1, bump w))) := by
  unfold x_X6_transactionAt
  have hL := S.ls 6 (by omega)
  rw [LL6] at hL
  have hn := S.tn.2
  have hk : wJ w 0 (o + 4) = 7 := hL.1
  rcases pk_ix v (n := (R 6).length) (by omega) with h | h | ⟨j, hj, rfl⟩
  · right
    refine ⟨Or.inl h, ?_⟩
    rw [if_pos h, l0_inl, if_pos B]
  · right
    refine ⟨Or.inr h, ?_⟩
    by_cases h0 : v < 0
    · rw [if_pos h0, l0_inl, if_pos B]
    · rw [if_neg h0, if_pos S.ko, S.fo.2.2.2.1, if_pos hk, p_size hL, bd_some, if_neg (Int32.not_lt.mpr h), l0_inl, if_pos B]
  · left
    refine ⟨j, hj, rfl, ?_⟩
    have hx := S.tk ((R 6).getD j 0) (by rw [List.getD_eq_getElem?_getD, List.getElem?_eq_getElem hj]; exact List.getElem_mem hj)
    rw [if_neg (nI_pos (by omega)), if_pos S.ko, S.fo.2.2.2.1, if_pos hk, p_size hL, bd_some, if_pos (nI_lt hj (by omega)), p_get hL hj, bd_some, if_pos (Or.inr hx.1), l0_inr]
theorem s_cursorAt {o : Nat} {w : CS} {R : Nat → List Nat} (S : SV o w R) (B : RE w) (v : Int32) : (∃ i, i < (R 7).length ∧ v = nI i ∧ x_X6_cursorAt o v w = some (.inr ((R 7).getD i 0))) ∨ ((v < 0 ∨ nI (R 7).length ≤ v) ∧ x_X6_cursorAt o v w = some (.inl (1, bump w))) := by
  unfold x_X6_cursorAt
  have hL := S.ls 7 (by omega)
  rw [LL7] at hL
  have hn := S.cn.2
  have hk : wJ w 0 (o + 5) = 7 := hL.1
  rcases pk_ix v (n := (R 7).length) (by omega) with h | h | ⟨j, hj, rfl⟩
  · right
    refine ⟨Or.inl h, ?_⟩
    rw [if_pos h, l0_inl, if_pos B]
  · right
    refine ⟨Or.inr h, ?_⟩
    by_cases h0 : v < 0
    · rw [if_pos h0, l0_inl, if_pos B]
    · rw [if_neg h0, if_pos S.ko, S.fo.2.2.2.2, if_pos hk, p_size hL, bd_some, if_neg (Int32.not_lt.mpr h), l0_inl, if_pos B]
  · left
    refine ⟨j, hj, rfl, ?_⟩
    have hx := S.ck ((R 7).getD j 0) (by rw [List.getD_eq_getElem?_getD, List.getElem?_eq_getElem hj]; exact List.getElem_mem hj)
    rw [if_neg (nI_pos (by omega)), if_pos S.ko, S.fo.2.2.2.2, if_pos hk, p_size hL, bd_some, if_pos (nI_lt hj (by omega)), p_get hL hj, bd_some, if_pos (Or.inr hx.1), l0_inr]
theorem s_storeAt {o : Nat} {w : CS} {R : Nat → List Nat} (S : SV o w R) (B : RE w) (v : Int32) : (∃ i, i < 3 ∧ v = nI i ∧ ¬ wI w 200 (o + 10 + 3 * i) = 0 ∧ x_X6_storeAt o v w = some (.inr (o + 10 + 3 * i))) ∨ ((∀ i, i < 3 → v = nI i → wI w 200 (o + 10 + 3 * i) = 0) ∧ x_X6_storeAt o v w = some (.inl (1, bump w))) := by
  unfold x_X6_storeAt
  rcases pk_ix v (n := 3) (by omega) with h | h | ⟨j, hj, rfl⟩
  · right
    refine ⟨fun i hi q => absurd h (by rw [q]; exact nI_pos (by omega)), ?_⟩
    rw [if_pos h, l0_inl, if_pos B]
  · right
    refine ⟨fun i hi q => absurd h (by rw [q]; exact nI_ge hi (by omega)), ?_⟩
    by_cases h0 : v < 0
    · rw [if_pos h0, l0_inl, if_pos B]
    · rw [if_neg h0, if_pos S.ko, S.fo.2.1, if_pos S.sa.1, S.sa.2.1, if_pos h, l0_inl, if_pos B]
  · have hr : vR (nI j) 3 := nI_in hj (by omega)
    have h5 := (S.st j (by omega)).1
    have hB : wB w (o + 2) (nI j).toNatClampNeg = o + 10 + 3 * j := by rw [nI_clamp (by omega)]; exact S.sa.2.2 j hj
    by_cases h0 : wI w 200 (o + 10 + 3 * j) = 0
    · right
      refine ⟨fun i hi q => by rw [(nI_eq (by omega) (by omega)).mp q] at h0; exact h0, ?_⟩
      rw [if_neg (nI_pos (by omega)), if_pos S.ko, S.fo.2.1, if_pos S.sa.1, S.sa.2.1, if_neg (nI_ge hj (by omega)), if_pos hr, hB, if_pos h5, if_pos h0, l0_inl, if_pos B]
    · left
      refine ⟨j, hj, rfl, h0, ?_⟩
      rw [if_neg (nI_pos (by omega)), if_pos S.ko, S.fo.2.1, if_pos S.sa.1, S.sa.2.1, if_neg (nI_ge hj (by omega)), if_pos hr, hB, if_pos h5, if_neg h0, if_pos hr, l0_inr]
theorem s_requireInRange {w : CS} (B : RE w) (v a b : Int32) : x_X6_requireInRange v a b w = some (if v < a ∨ ¬ v ≤ b then .inl (2, bump w) else .inr ()) := by
  unfold x_X6_requireInRange
  by_cases h1 : v < a
  · rw [if_pos h1, l0_inl, if_pos B, if_pos (Or.inl h1)]
  · rw [if_neg h1]
    by_cases h2 : v ≤ b
    · rw [if_pos h2, l0_inr, if_neg (fun q => q.elim h1 (fun q => q h2))]
    · rw [if_neg h2, l0_inl, if_pos B, if_pos (Or.inr h2)]
theorem s_requireUpgrade {o : Nat} {w : CS} {R : Nat → List Nat} (S : SV o w R) (B : RE w) (v : Int32) : x_X6_requireUpgrade o v w = some (if v = wI w 246 o then .inr () else .inl (3, bump w)) := by
  unfold x_X6_requireUpgrade
  rw [if_pos S.ko]
  by_cases h : v = wI w 246 o
  · rw [if_pos h, if_pos h]
  · rw [if_neg h, if_neg h, if_pos B]
theorem s_requireRunning {w : CS} (B : RE w) {x : Nat} (hx : wJ w 0 x = 2) : x_X6_requireRunning x w = some (if wI w 83 x = 1 then .inr () else .inl (3, bump w)) := by
  unfold x_X6_requireRunning
  rw [if_pos hx]
  by_cases h : wI w 83 x = 1
  · rw [if_pos h, if_pos h]
  · rw [if_neg h, if_neg h, if_pos B]
/-- the entry of a store's list of rows -/
def rowK (w : CS) (x : Nat) : Int32 := wI w 40 x
theorem s_rows {o : Nat} {w : CS} {R : Nat → List Nat} (S : SV o w R) {k : Nat} (hk : k < 6) : wJ w 0 (o + 10 + 3 * k) = 5 ∧ wJ w 0 (wJ w 202 (o + 10 + 3 * k)) = 7 ∧ LOK w (wJ w 202 (o + 10 + 3 * k)) (R k) ∧ (R k).length ≤ 40 := by
  obtain ⟨a1, a2, a3, -⟩ := S.st k hk
  have h := S.ls k (by omega)
  rw [LLr hk] at h
  rw [a3]
  exact ⟨a1, h.1, h, (S.rk k hk).1⟩
theorem s_rowkind {o : Nat} {w : CS} {R : Nat → List Nat} (S : SV o w R) {k i : Nat} (hk : k < 6) (hi : i < (R k).length) : wJ w 0 ((R k).getD i 0) = 1 := (S.rk k hk).2 _ (by rw [List.getD_eq_getElem?_getD, List.getElem?_eq_getElem hi]; exact List.getElem_mem hi)
theorem s_size {o : Nat} {w : CS} {R : Nat → List Nat} (S : SV o w R) {k : Nat} (hk : k < 6) : x_X3_size (o + 10 + 3 * k) w = some (nI (R k).length) := by
  obtain ⟨h1, h2, h3, h4⟩ := s_rows S hk
  unfold x_X3_size
  rw [if_pos h1, if_pos h2, p_size h3, bd_some]
theorem s_findL {o : Nat} {w : CS} {R : Nat → List Nat} (S : SV o w R) {k : Nat} (hk : k < 6) (key : Int32) : ∀ (n i : Nat), (R k).length < n + i → i ≤ (R k).length → x_X3_find_L1 (o + 10 + 3 * k) key w n (nI i) = some (match ((R k).drop i).find? (fun x => decide (wI w 40 x = key)) with
    | some x => .inr x
    | none => .inl ()) := by
  obtain ⟨h1, h2, h3, h4⟩ := s_rows S hk
  intro n
  induction n with
  | zero => intro i a b; omega
  | succ n ih =>
    intro i a b
    rw [x_X3_find_L1, if_pos h1, if_pos h2, p_size h3, bd_some]
    by_cases hi : i < (R k).length
    · have hx := s_rowkind S hk hi
      have hg : (R k).getD i 0 = (R k)[i] := by rw [List.getD_eq_getElem?_getD, List.getElem?_eq_getElem hi]; rfl
      rw [if_neg (nI_ge hi (by omega)), p_get h3 hi, bd_some, if_pos (Or.inr hx), if_pos hx, List.drop_eq_getElem_cons hi, List.find?_cons, hg]
      by_cases hK : wI w 40 (R k)[i] = key
      · rw [if_pos hK]; simp [hK]
      · rw [if_neg hK, nI_1, ih (i + 1) (by omega) (by omega)]; simp [hK]
    · rw [if_pos (nI_le (by omega) (by omega)), List.drop_eq_nil_of_le (by omega)]
      rfl
theorem s_find {o : Nat} {w : CS} {R : Nat → List Nat} (S : SV o w R) {k : Nat} (hk : k < 6) (key : Int32) : x_X3_find (o + 10 + 3 * k) key w = some (((R k).find? (fun x => decide (wI w 40 x = key))).getD 0) := by
  have h4 := (S.rk k hk).1
  unfold x_X3_find
  have h := s_findL S hk key FU 0 (by show (R k).length < 1000 + 0; omega) (Nat.zero_le _)
  rw [show nI 0 = 0 from nI_0, List.drop_zero] at h
  rw [h]
  cases (R k).find? (fun x => decide (wI w 40 x = key)) with
  | none => rw [l0_inl]; rfl
  | some x => rw [l0_inr]; rfl
