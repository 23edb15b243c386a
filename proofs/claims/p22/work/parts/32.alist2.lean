/-! ===== PURE: set, clear, remove ===== -/
/-- a change of the list l that makes no cell: neither cost nor a new array -/
def LCF (w w' : CS) (l : Nat) : Prop := LCH w w' l ∧ cap w' l = cap w l ∧ wJ w' 281 l = wJ w 281 l ∧ (wz w' = wz w ∧ wl w' = wl w ∧ wk w' = wk w)
theorem LCF.flat {w w' : CS} {l : Nat} (hw : WF w) (hd : ∀ f y, wJ w' f y = wJ w f y) (hI : ∀ f y, ¬ y = l → wI w' f y = wI w f y) (hA : ∀ y i, wA w' y i = wA w y i) (hB : ∀ y i, ¬ y = wJ w 281 l → wB w' y i = wB w y i) (hL : ∀ f y, wL w' f y = wL w f y) (hM : ∀ y i, wM w' y i = wM w y i) (hz : wz w' = wz w ∧ wl w' = wl w ∧ wk w' = wk w) : LCF w w' l := by
  have hc : cap w' l = cap w l := by unfold cap; rw [hd, hd]
  refine ⟨⟨⟨by omega, fun y _ => ⟨hd _ _, hd _ _⟩, fun y hy hn => ⟨fun f => hI f y fun q => hn (Or.inl q), fun i => hA y i, fun f => hd f y, fun i => hB y i fun q => hn (Or.inr q), fun f => hL f y, fun i => hM y i⟩⟩, ⟨by rw [hd]; exact hw.1, fun y hy => by rw [hd]; exact hw.2 y (by omega)⟩, by omega, Or.inl (hd _ _), by omega, by omega, Or.inr (hd _ _)⟩, hc, hd _ _, hz⟩
theorem LOK.k12 {w : CS} {l : Nat} {xs : List Nat} (h : LOK w l xs) (hx : 0 < xs.length) : wJ w 0 (wJ w 281 l) = 12 := by
  rcases h.2.1 with q | q
  · exact q.1
  · have := h.2.2.2.1; omega
theorem p_set {w : CS} {l i x : Nat} {xs : List Nat} (hw : WF w) (h : LOK w l xs) (hi : i < xs.length) (hx : oK (wJ w 0 x)) : ∃ w', x_Jx4a65c_set_bcc79 l (nI i) x w = some (xs.getD i 0, w') ∧ LOK w' l (xs.set i x) ∧ LCF w w' l := by
  have hk := h.k12 (by omega)
  obtain ⟨h1, h2, h3, h4, h5, h6, h7⟩ := h
  have hr : vR (nI i) (wJ w 1 (wJ w 281 l)) := nI_in (by omega) (by omega)
  have hcl : (nI i).toNatClampNeg = i := nI_clamp (by omega)
  refine ⟨sB w (wJ w 281 l) i x, ?_, ⟨h1, h2, ?_, ?_, h5, ?_, ?_⟩, LCF.flat hw (fun _ _ => rfl) (fun _ _ _ => rfl) (fun _ _ => rfl) (fun y j hy => by rw [wB_sB, if_neg (fun q => hy q.1)]) (fun _ _ => rfl) (fun _ _ => rfl) ⟨rfl, rfl, rfl⟩⟩
  · unfold x_Jx4a65c_set_bcc79 x_Jx4a65c_elementData_915e3
    simp only [h1, h3, p_cj hi (by omega : xs.length < 2 ^ 31), if_true, if_pos hr, hcl, h6 i hi, hk, if_pos (Or.inr hx : x = 0 ∨ oK (wJ w 0 x)), true_or, wI_sI, wA_sI, wJ_sI, wB_sI, wL_sI, wM_sI, wz_sI, wl_sI, wk_sI, wI_sA, wA_sA, wJ_sA, wB_sA, wL_sA, wM_sA, wz_sA, wl_sA, wk_sA, wI_sJ, wA_sJ, wJ_sJ, wB_sJ, wL_sJ, wM_sJ, wz_sJ, wl_sJ, wk_sJ, wI_sB, wA_sB, wJ_sB, wB_sB, wL_sB, wM_sB, wz_sB, wl_sB, wk_sB, wI_sL, wA_sL, wJ_sL, wB_sL, wL_sL, wM_sL, wz_sL, wl_sL, wk_sL, wI_sM, wA_sM, wJ_sM, wB_sM, wL_sM, wM_sM, wz_sM, wl_sM, wk_sM, wI_nw, wI_bump, wI_cpB, wA_nw, wA_bump, wA_cpB, wJ_nw, wJ_bump, wJ_cpB, wB_nw, wB_bump, wB_cpB, wL_nw, wL_bump, wL_cpB, wM_nw, wM_bump, wM_cpB, wz_nw, wz_bump, wz_cpB, wl_nw, wl_bump, wl_cpB, wk_nw, wk_bump, wk_cpB, bs_eq, bd_some, b2_some, b0_some, l0_inl, l0_inr, l1_inl, l1_inr, bx1_inl, bx1_inr, bx2_inl, bx2_inr]
  · rw [List.length_set]; exact h3
  · rw [List.length_set]; exact h4
  · intro j hj
    rw [List.length_set] at hj
    show wB (sB w (wJ w 281 l) i x) (wJ w 281 l) j = _
    rw [wB_sB]
    by_cases hji : j = i
    · subst hji
      rw [if_pos ⟨rfl, rfl⟩, List.getD_eq_getElem?_getD, List.getElem?_set_self hj]; rfl
    · rw [if_neg (fun q => hji q.2), h6 j hj, List.getD_eq_getElem?_getD, List.getD_eq_getElem?_getD, List.getElem?_set_ne (Ne.symm hji)]
  · intro j hj
    rw [List.length_set] at hj
    show oK (wJ w 0 _)
    by_cases hji : j = i
    · subst hji
      rw [List.getD_eq_getElem?_getD, List.getElem?_set_self hj]; exact hx
    · have := h7 j hj
      rw [List.getD_eq_getElem?_getD, List.getElem?_set_ne (Ne.symm hji)]
      rwa [List.getD_eq_getElem?_getD] at this
theorem p_clearL {l d m : Nat} {w2 : CS} (hm : wI w2 282 l = nI m) (hm9 : m ≤ 100) (hd2 : wJ w2 281 l = d) : ∀ (n i : Nat) (w6 : CS), m < n + i → i ≤ m → (i < m → wJ w6 0 d = 12 ∧ m ≤ wJ w6 1 d ∧ wJ w6 1 d ≤ 100) → ∃ w', x_Jx4a65c_clear_da8c8_L1 l w2 n (nI i) w6 = some w' ∧ (∀ f y, wJ w' f y = wJ w6 f y) ∧ (∀ f y, wI w' f y = wI w6 f y) ∧ (∀ y i, wA w' y i = wA w6 y i) ∧ (∀ y i, ¬ y = d → wB w' y i = wB w6 y i) ∧ (∀ f y, wL w' f y = wL w6 f y) ∧ (∀ y i, wM w' y i = wM w6 y i) ∧ (wz w' = wz w6 ∧ wl w' = wl w6 ∧ wk w' = wk w6) := by
  intro n
  induction n with
  | zero => intro i w6 h1 h2; omega
  | succ n ih =>
    intro i w6 h1 h2 h3
    rw [x_Jx4a65c_clear_da8c8_L1, hm, hd2]
    by_cases hi : m ≤ i
    · rw [if_pos (nI_le hi (by omega))]
      exact ⟨w6, rfl, fun _ _ => rfl, fun _ _ => rfl, fun _ _ => rfl, fun _ _ _ => rfl, fun _ _ => rfl, fun _ _ => rfl, rfl, rfl, rfl⟩
    · obtain ⟨h4, h5, h8⟩ := h3 (by omega)
      rw [if_neg (nI_ge (by omega) (by omega)), if_pos h4, if_pos (show vR (nI i) (wJ w6 1 d) from nI_in (by omega) (by omega)), bs_eq, nI_1, nI_clamp (by omega)]
      obtain ⟨w', e, a1, a2, a3, a4, a5, a6, a7⟩ := ih (i + 1) (sB w6 d i 0) (by omega) (by omega) (fun _ => ⟨h4, h5, h8⟩)
      exact ⟨w', e, a1, a2, a3, fun y j hy => by rw [a4 y j hy, wB_sB, if_neg (fun q => hy q.1)], a5, a6, a7⟩
theorem p_clear {w : CS} {l : Nat} {xs : List Nat} (hw : WF w) (h : LOK w l xs) : ∃ w', x_Jx4a65c_clear_da8c8 l w = some w' ∧ LOK w' l [] ∧ LCF w w' l := by
  obtain ⟨h1, h2, h3, h4, h5, h6, h7⟩ := id h
  have hlz := hw.le h1
  unfold x_Jx4a65c_clear_da8c8
  rw [if_pos h1, bs_eq, if_pos (show wJ (sI w 280 l (wI w 280 l + 1)) 0 l = 7 from h1), bs_eq]
  obtain ⟨w', e, a1, a2, a3, a4, a5, a6, a7⟩ := p_clearL (l := l) (d := wJ w 281 l) (m := xs.length) (w2 := sI w 280 l (wI w 280 l + 1)) (by rw [wI_sI, if_neg (by omega)]; exact h3) (by omega) rfl FU 0 (sI (sI w 280 l (wI w 280 l + 1)) 282 l 0) (by show xs.length < 1000 + 0; omega) (Nat.zero_le _) (fun hp => ⟨h.k12 hp, h4, h5⟩)
  rw [show nI 0 = 0 from nI_0] at e
  rw [e, bd_some]
  have aJ : ∀ f y, wJ w' f y = wJ w f y := fun f y => a1 f y
  refine ⟨w', rfl, ⟨by rw [aJ]; exact h1, by simp only [aJ, (a7.1 : wz w' = wz w)]; exact h2, ?_, Nat.zero_le _, by rw [aJ, aJ]; exact h5, fun i hi => absurd hi (Nat.not_lt_zero i), fun i hi => absurd hi (Nat.not_lt_zero i)⟩, LCF.flat hw aJ (fun f y hy => ?_) (fun y i => a3 y i) (fun y i hy => a4 y i hy) (fun f y => a5 f y) (fun y i => a6 y i) a7⟩
  · rw [a2, wI_sI, if_pos ⟨rfl, rfl⟩]; exact nI_0.symm
  · rw [a2, wI_sI, if_neg (fun q => hy q.2), wI_sI, if_neg (fun q => hy q.2)]
theorem p_remove {w : CS} {l i : Nat} {xs : List Nat} (hw : WF w) (h : LOK w l xs) (hi : i < xs.length) : ∃ w', x_Jx4a65c_remove_915e3 l (nI i) w = some (xs.getD i 0, w') ∧ LOK w' l (xs.eraseIdx i) ∧ LCF w w' l := by
  have hk := h.k12 (by omega)
  obtain ⟨h1, h2, h3, h4, h5, h6, h7⟩ := id h
  have hlz := hw.le h1
  have hr : vR (nI i) (wJ w 1 (wJ w 281 l)) := nI_in (by omega) (by omega)
  have hcl : (nI i).toNatClampNeg = i := nI_clamp (by omega)
  obtain ⟨n, hn⟩ : ∃ n, xs.length = n + 1 := ⟨xs.length - 1, by omega⟩
  have hsz : wI (sI w 280 l (wI w 280 l + 1)) 282 l - 1 = nI n := by
    rw [wI_sI, if_neg (by omega), h3, hn]; exact nI_pred n
  -- the shift
  have key : ∃ w14, (if ((wI (sI w 280 l (wI w 280 l + 1)) 282 l - 1) : Int32) ≤ nI i then some (sI w 280 l (wI w 280 l + 1)) else
      if wJ (sI w 280 l (wI w 280 l + 1)) 0 (wJ w 281 l) = 12 then
      if ¬ (nI i + 1) < 0 then
      if ¬ nI i < 0 then
      if ¬ ((wI (sI w 280 l (wI w 280 l + 1)) 282 l - 1) - nI i) < 0 then
      if (nI i + 1).toNatClampNeg + ((wI (sI w 280 l (wI w 280 l + 1)) 282 l - 1) - nI i).toNatClampNeg ≤ wJ (sI w 280 l (wI w 280 l + 1)) 1 (wJ w 281 l) then
      if (nI i).toNatClampNeg + ((wI (sI w 280 l (wI w 280 l + 1)) 282 l - 1) - nI i).toNatClampNeg ≤ wJ (sI w 280 l (wI w 280 l + 1)) 1 (wJ w 281 l) then
      if ∀ k, k < ((wI (sI w 280 l (wI w 280 l + 1)) 282 l - 1) - nI i).toNatClampNeg → wB (sI w 280 l (wI w 280 l + 1)) (wJ w 281 l) ((nI i + 1).toNatClampNeg + k) = 0 ∨ oK (wJ (sI w 280 l (wI w 280 l + 1)) 0 (wB (sI w 280 l (wI w 280 l + 1)) (wJ w 281 l) ((nI i + 1).toNatClampNeg + k))) then
      bs (cpB (sI w 280 l (wI w 280 l + 1)) (wJ w 281 l) (wJ w 281 l) (nI i + 1).toNatClampNeg (nI i).toNatClampNeg ((wI (sI w 280 l (wI w 280 l + 1)) 282 l - 1) - nI i).toNatClampNeg) (fun (w13 : CS) => some w13)
      else none else none else none else none else none else none else none) = some w14 ∧ (∀ f y, wJ w14 f y = wJ w f y) ∧ (∀ f y, wI w14 f y = wI (sI w 280 l (wI w 280 l + 1)) f y) ∧ (∀ y i, wA w14 y i = wA w y i) ∧ (∀ y i, ¬ y = wJ w 281 l → wB w14 y i = wB w y i) ∧ (∀ f y, wL w14 f y = wL w f y) ∧ (∀ y i, wM w14 y i = wM w y i) ∧ (wz w14 = wz w ∧ wl w14 = wl w ∧ wk w14 = wk w) ∧ ∀ j, j < n → wB w14 (wJ w 281 l) j = (xs.eraseIdx i).getD j 0 := by
    rw [hsz]
    have eB : ∀ j, j < xs.length → wB (sI w 280 l (wI w 280 l + 1)) (wJ w 281 l) j = xs.getD j 0 := fun j hj => h6 j hj
    by_cases hni : n ≤ i
    · rw [if_pos (nI_le hni (by omega))]
      refine ⟨_, rfl, fun _ _ => rfl, fun _ _ => rfl, fun _ _ => rfl, fun _ _ _ => rfl, fun _ _ => rfl, fun _ _ => rfl, ⟨rfl, rfl, rfl⟩, fun j hj => ?_⟩
      rw [eB j (by omega), List.getD_eq_getElem?_getD, List.getD_eq_getElem?_getD, List.getElem?_eraseIdx, if_pos (by omega)]
    · have e3 : nI n - nI i = nI (n - i) := pk_sub (by omega)
      have e4 : (nI i + 1).toNatClampNeg = i + 1 := by rw [nI_1]; exact nI_clamp (by omega)
      have e5 : (nI (n - i)).toNatClampNeg = n - i := nI_clamp (by omega)
      rw [if_neg (nI_ge (by omega) (by omega)), e3, e4, e5, hcl, if_pos (show wJ (sI w 280 l (wI w 280 l + 1)) 0 (wJ w 281 l) = 12 from hk), if_pos (by rw [nI_1]; exact nI_pos (by omega)), if_pos (nI_pos (by omega)), if_pos (nI_pos (by omega)), if_pos (show i + 1 + (n - i) ≤ wJ (sI w 280 l (wI w 280 l + 1)) 1 (wJ w 281 l) by rw [wJ_sI]; omega), if_pos (show i + (n - i) ≤ wJ (sI w 280 l (wI w 280 l + 1)) 1 (wJ w 281 l) by rw [wJ_sI]; omega), if_pos (fun k hk2 => by
        right
        rw [eB _ (by omega)]
        exact h7 _ (by omega)), bs_eq]
      refine ⟨_, rfl, fun _ _ => rfl, fun _ _ => rfl, fun _ _ => rfl, fun y j hy => ?_, fun _ _ => rfl, fun _ _ => rfl, ⟨rfl, rfl, rfl⟩, fun j hj => ?_⟩
      · rw [wB_cpB, if_neg (fun q => hy q.1)]; rfl
      · rw [wB_cpB]
        by_cases hji : i ≤ j
        · rw [if_pos ⟨rfl, hji, by omega⟩, eB _ (by omega), List.getD_eq_getElem?_getD, List.getD_eq_getElem?_getD, List.getElem?_eraseIdx, if_neg (by omega)]
          congr 2
          omega
        · rw [if_neg (by omega), eB j (by omega), List.getD_eq_getElem?_getD, List.getD_eq_getElem?_getD, List.getElem?_eraseIdx, if_pos (by omega)]
  obtain ⟨w14, e14, a1, a2, a3, a4, a5, a6, a7, a8⟩ := key
  have hlen : (xs.eraseIdx i).length = n := by rw [List.length_eraseIdx, if_pos hi]; omega
  unfold x_Jx4a65c_remove_915e3
  rw [if_pos h1, h3, p_cj hi (by omega), bd_some, if_pos hk, if_pos hr]
  unfold x_Jx4a65c_fastRemove_b59b0
  rw [if_pos h1, bs_eq, if_pos (show wJ (sI w 280 l (wI w 280 l + 1)) 0 l = 7 from h1), e14, bd_some, if_pos (by rw [a1]; exact h1), bs_eq, hsz, if_pos (by rw [wJ_sI, a1]; exact hk), if_pos (show vR (nI n) (wJ (sI w14 282 l (nI n)) 1 (wJ w 281 l)) by rw [wJ_sI, a1]; exact nI_in (by omega) (by omega)), bs_eq, bd_some, hcl, h6 i hi, nI_clamp (by omega)]
  refine ⟨_, rfl, ⟨?_, ?_, ?_, ?_, ?_, ?_, ?_⟩, LCF.flat hw (fun f y => a1 f y) (fun f y hy => ?_) (fun y i => a3 y i) (fun y i hy => ?_) (fun f y => a5 f y) (fun y i => a6 y i) a7⟩
  · show wJ w14 0 l = 7; rw [a1]; exact h1
  · show wJ w14 0 (wJ w14 281 l) = 12 ∧ 10 ≤ wJ w14 1 (wJ w14 281 l) ∨ _
    rw [a1, a1, a1]
    rcases h2 with q | q
    · exact Or.inl q
    · exact absurd q.2.2.1 (by rw [hk]; omega)
  · rw [wI_sB, wI_sI, if_pos ⟨rfl, rfl⟩, hlen]
  · rw [hlen]; show n ≤ wJ w14 1 (wJ w14 281 l); rw [a1, a1]; omega
  · show wJ w14 1 (wJ w14 281 l) ≤ 100; rw [a1, a1]; exact h5
  · intro j hj
    rw [hlen] at hj
    show wB (sB (sI w14 282 l (nI n)) (wJ w 281 l) n 0) (wJ w14 281 l) j = _
    rw [a1, wB_sB, if_neg (by omega), wB_sI]
    exact a8 j hj
  · intro j hj
    rw [hlen] at hj
    show oK (wJ w14 0 _)
    rw [a1]
    rw [List.getD_eq_getElem?_getD, List.getElem?_eraseIdx]
    by_cases hji : j < i
    · have := h7 j (by omega)
      rw [List.getD_eq_getElem?_getD] at this
      rwa [if_pos hji]
    · have := h7 (j + 1) (by omega)
      rw [List.getD_eq_getElem?_getD] at this
      rwa [if_neg hji]
  · rw [wI_sB, wI_sI, if_neg (fun q => hy q.2), a2, wI_sI, if_neg (fun q => hy q.2)]
  · rw [wB_sB, if_neg (fun q => hy q.1), wB_sI]; exact a4 y i hy
