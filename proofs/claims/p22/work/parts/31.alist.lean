/-! ===== PURE: the lists ===== -/
theorem t1m {a b : Nat} (ha : a < 2 ^ 31) : (nI a).toNatClampNeg = a := nI_clamp ha
/-- a list object l: its elements are xs -/
def LOK (w : CS) (l : Nat) (xs : List Nat) : Prop :=
  wJ w 0 l = 7 ∧ (wJ w 0 (wJ w 281 l) = 12 ∧ 10 ≤ wJ w 1 (wJ w 281 l) ∨ wJ w 281 l = wJ w 2 0 ∧ wJ w 1 (wJ w 281 l) = 0 ∧ wJ w 0 (wJ w 281 l) = 0 ∧ 0 < wJ w 281 l ∧ wJ w 281 l ≤ wz w) ∧ wI w 282 l = nI xs.length ∧ xs.length ≤ wJ w 1 (wJ w 281 l) ∧ wJ w 1 (wJ w 281 l) ≤ 100 ∧ (∀ i, i < xs.length → wB w (wJ w 281 l) i = xs.getD i 0) ∧ ∀ i, i < xs.length → oK (wJ w 0 (xs.getD i 0))
/-- what lies outside A stays -/
def FR (A : Nat → Prop) (w w' : CS) : Prop := wz w ≤ wz w' ∧ (∀ y, y ≤ wz w → wJ w' 0 y = wJ w 0 y ∧ wJ w' 1 y = wJ w 1 y) ∧ ∀ y, y ≤ wz w → ¬ A y → (∀ f, wI w' f y = wI w f y) ∧ (∀ i, wA w' y i = wA w y i) ∧ (∀ f, wJ w' f y = wJ w f y) ∧ (∀ i, wB w' y i = wB w y i) ∧ (∀ f, wL w' f y = wL w f y) ∧ (∀ i, wM w' y i = wM w y i)
theorem FR.rf {A : Nat → Prop} {w : CS} : FR A w w := ⟨Nat.le_refl _, fun _ _ => ⟨rfl, rfl⟩, fun _ _ _ => ⟨fun _ => rfl, fun _ => rfl, fun _ => rfl, fun _ => rfl, fun _ => rfl, fun _ => rfl⟩⟩
theorem FR.tr {A : Nat → Prop} {w w1 w2 : CS} (h : FR A w w1) (h2 : FR A w1 w2) : FR A w w2 := by
  refine ⟨Nat.le_trans h.1 h2.1, fun y hy => ?_, fun y hy hA => ?_⟩
  · have a := h.2.1 y hy
    have b := h2.2.1 y (Nat.le_trans hy h.1)
    exact ⟨b.1.trans a.1, b.2.trans a.2⟩
  · obtain ⟨a1, a2, a3, a4, a5, a6⟩ := h.2.2 y hy hA
    obtain ⟨b1, b2, b3, b4, b5, b6⟩ := h2.2.2 y (Nat.le_trans hy h.1) hA
    exact ⟨fun f => (b1 f).trans (a1 f), fun f => (b2 f).trans (a2 f), fun f => (b3 f).trans (a3 f), fun f => (b4 f).trans (a4 f), fun f => (b5 f).trans (a5 f), fun f => (b6 f).trans (a6 f)⟩
theorem FR.mono {A B : Nat → Prop} {w w' : CS} (h : FR A w w') (hAB : ∀ y, y ≤ wz w → A y → B y) : FR B w w' := ⟨h.1, h.2.1, fun y hy hB => h.2.2 y hy fun hA => hB (hAB y hy hA)⟩
theorem FR.kind {A : Nat → Prop} {w w' : CS} (h : FR A w w') {y k : Nat} (hz : ∀ y, wz w < y → wJ w 0 y = 0) (hk : wJ w 0 y = k + 1) : wJ w' 0 y = k + 1 := by
  have hy : y ≤ wz w := by
    rcases Nat.lt_or_ge (wz w) y with q | q
    · rw [hz y q] at hk; exact absurd hk (by omega)
    · exact q
  rw [(h.2.1 y hy).1]
  exact hk
theorem p_ci {i n : Nat} (hi : i < n) (hn : n < 2 ^ 31) : x_J3_checkIndex_8e157 (nI i) (nI n) 0 = some (nI i) := by
  unfold x_J3_checkIndex_8e157
  have h1 : ¬ nI i < 0 := nI_pos (by omega)
  have h2 : nI i < nI n := nI_lt hi hn
  simp only [h1, h2, if_true, if_false, wI_sI, wA_sI, wJ_sI, wB_sI, wL_sI, wM_sI, wz_sI, wl_sI, wk_sI, wI_sA, wA_sA, wJ_sA, wB_sA, wL_sA, wM_sA, wz_sA, wl_sA, wk_sA, wI_sJ, wA_sJ, wJ_sJ, wB_sJ, wL_sJ, wM_sJ, wz_sJ, wl_sJ, wk_sJ, wI_sB, wA_sB, wJ_sB, wB_sB, wL_sB, wM_sB, wz_sB, wl_sB, wk_sB, wI_sL, wA_sL, wJ_sL, wB_sL, wL_sL, wM_sL, wz_sL, wl_sL, wk_sL, wI_sM, wA_sM, wJ_sM, wB_sM, wL_sM, wM_sM, wz_sM, wl_sM, wk_sM, wI_nw, wI_bump, wI_cpB, wA_nw, wA_bump, wA_cpB, wJ_nw, wJ_bump, wJ_cpB, wB_nw, wB_bump, wB_cpB, wL_nw, wL_bump, wL_cpB, wM_nw, wM_bump, wM_cpB, wz_nw, wz_bump, wz_cpB, wl_nw, wl_bump, wl_cpB, wk_nw, wk_bump, wk_cpB, bs_eq, bd_some, b2_some, b0_some, l0_inl, l0_inr, l1_inl, l1_inr, bx1_inl, bx1_inr, bx2_inl, bx2_inr]
theorem p_cj {i n : Nat} (hi : i < n) (hn : n < 2 ^ 31) : x_J15_checkIndex_7cf53 (nI i) (nI n) = some (nI i) := by
  unfold x_J15_checkIndex_7cf53
  simp only [p_ci hi hn, wI_sI, wA_sI, wJ_sI, wB_sI, wL_sI, wM_sI, wz_sI, wl_sI, wk_sI, wI_sA, wA_sA, wJ_sA, wB_sA, wL_sA, wM_sA, wz_sA, wl_sA, wk_sA, wI_sJ, wA_sJ, wJ_sJ, wB_sJ, wL_sJ, wM_sJ, wz_sJ, wl_sJ, wk_sJ, wI_sB, wA_sB, wJ_sB, wB_sB, wL_sB, wM_sB, wz_sB, wl_sB, wk_sB, wI_sL, wA_sL, wJ_sL, wB_sL, wL_sL, wM_sL, wz_sL, wl_sL, wk_sL, wI_sM, wA_sM, wJ_sM, wB_sM, wL_sM, wM_sM, wz_sM, wl_sM, wk_sM, wI_nw, wI_bump, wI_cpB, wA_nw, wA_bump, wA_cpB, wJ_nw, wJ_bump, wJ_cpB, wB_nw, wB_bump, wB_cpB, wL_nw, wL_bump, wL_cpB, wM_nw, wM_bump, wM_cpB, wz_nw, wz_bump, wz_cpB, wl_nw, wl_bump, wl_cpB, wk_nw, wk_bump, wk_cpB, bs_eq, bd_some, b2_some, b0_some, l0_inl, l0_inr, l1_inl, l1_inr, bx1_inl, bx1_inr, bx2_inl, bx2_inr]
theorem p_size {w : CS} {l : Nat} {xs : List Nat} (h : LOK w l xs) : x_Jx4a65c_size_8abf5 l w = some (nI xs.length) := by
  unfold x_Jx4a65c_size_8abf5
  rw [if_pos h.1, h.2.2.1]
theorem p_get {w : CS} {l i : Nat} {xs : List Nat} (h : LOK w l xs) (hi : i < xs.length) : x_Jx4a65c_get_915e3 l (nI i) w = some (xs.getD i 0) := by
  obtain ⟨h1, h2, h3, h4, h5, h6, h7⟩ := h
  have hd : wJ w 0 (wJ w 281 l) = 12 := h2.elim (fun h => h.1) fun h => absurd h.2.1 (by omega)
  have hr : vR (nI i) (wJ w 1 (wJ w 281 l)) := nI_in (by omega) (by omega)
  unfold x_Jx4a65c_get_915e3 x_Jx4a65c_elementData_915e3
  simp only [h1, h3, p_cj hi (by omega : xs.length < 2 ^ 31), if_true, if_pos hd, if_pos hr, nI_clamp (by omega : i < 2 ^ 31), h6 i hi, wI_sI, wA_sI, wJ_sI, wB_sI, wL_sI, wM_sI, wz_sI, wl_sI, wk_sI, wI_sA, wA_sA, wJ_sA, wB_sA, wL_sA, wM_sA, wz_sA, wl_sA, wk_sA, wI_sJ, wA_sJ, wJ_sJ, wB_sJ, wL_sJ, wM_sJ, wz_sJ, wl_sJ, wk_sJ, wI_sB, wA_sB, wJ_sB, wB_sB, wL_sB, wM_sB, wz_sB, wl_sB, wk_sB, wI_sL, wA_sL, wJ_sL, wB_sL, wL_sL, wM_sL, wz_sL, wl_sL, wk_sL, wI_sM, wA_sM, wJ_sM, wB_sM, wL_sM, wM_sM, wz_sM, wl_sM, wk_sM, wI_nw, wI_bump, wI_cpB, wA_nw, wA_bump, wA_cpB, wJ_nw, wJ_bump, wJ_cpB, wB_nw, wB_bump, wB_cpB, wL_nw, wL_bump, wL_cpB, wM_nw, wM_bump, wM_cpB, wz_nw, wz_bump, wz_cpB, wl_nw, wl_bump, wl_cpB, wk_nw, wk_bump, wk_cpB, bs_eq, bd_some, b2_some, b0_some, l0_inl, l0_inr, l1_inl, l1_inr, bx1_inl, bx1_inr, bx2_inl, bx2_inr]
/-- the memory is well formed -/
def WF (w : CS) : Prop := wJ w 0 0 = 0 ∧ ∀ y, wz w < y → wJ w 0 y = 0
theorem WF.le {w : CS} (h : WF w) {y k : Nat} (hk : wJ w 0 y = k + 1) : 0 < y ∧ y ≤ wz w := by
  refine ⟨?_, ?_⟩
  · rcases Nat.eq_zero_or_pos y with q | q
    · subst q; rw [h.1] at hk; exact absurd hk (by omega)
    · exact q
  · rcases Nat.lt_or_ge (wz w) y with q | q
    · rw [h.2 y q] at hk; exact absurd hk (by omega)
    · exact q
theorem WF.oK {w : CS} (h : WF w) {y : Nat} (hk : oK (wJ w 0 y)) : 0 < y ∧ y ≤ wz w := by
  rcases hk with q | q | q
  · exact h.le q
  · exact h.le q
  · exact h.le q
theorem p_half : ∀ c : Nat, c ≤ 100 → nI c >>> (1 &&& 31) = nI (c / 2) := by decide +kernel
theorem p_newl (w : CS) {c : Nat} (h1 : 10 ≤ c) (h2 : c ≤ 100) : x_J8_newLength_cabcc (nI c) 1 (nI (c / 2)) w = some (nI (c + c / 2)) := by
  have e : x_J8_newLength_cabcc (nI c) 1 (nI (c / 2)) w = x_J8_newLength_cabcc (nI c) 1 (nI (c / 2)) (fun _ _ => 0, fun _ _ => 0, fun _ _ => 0, fun _ _ => 0, fun _ _ => 0, fun _ _ => 0, 0, 0, 0) := rfl
  rw [e]
  have key : ∀ c : Nat, c ≤ 100 → 10 ≤ c → x_J8_newLength_cabcc (nI c) 1 (nI (c / 2)) (fun _ _ => 0, fun _ _ => 0, fun _ _ => 0, fun _ _ => 0, fun _ _ => 0, fun _ _ => 0, 0, 0, 0) = some (nI (c + c / 2)) := by decide +kernel
  exact key c h2 h1
theorem p_copy {w : CS} {d c n : Nat} (hd : wJ w 0 d = 12) (hl : wJ w 1 d = n) (hnc : n ≤ c) (hc : c ≤ 1000) (hB : 1 ≤ wl w ∧ c ≤ wk w) (hw : WF w) (hx : ∀ i, i < n → oK (wJ w 0 (wB w d i))) : x_J7_copyOf_1904c d (nI c) w = some (wz w + 1, cpB (nw w 12 c c) d (wz w + 1) 0 0 n) := by
  have hdz : ¬ d = wz w + 1 := by have := (hw.le hd).2; omega
  have hcl : (nI c).toNatClampNeg = c := nI_clamp (by omega)
  have hc0 : ¬ nI c < 0 := nI_pos (by omega)
  have hmin : (if nI c < nI n then nI c else nI n) = nI n := by
    rw [if_neg (nI_nlt hnc (by omega))]
  have hn0 : ¬ nI n < 0 := nI_pos (by omega)
  have hnl : (nI n).toNatClampNeg = n := nI_clamp (by omega)
  have z0 : (0 : Int32).toNatClampNeg = 0 := by decide
  have z1 : ¬ (0 : Int32) < 0 := by decide
  have g6 : ∀ i, i < n → wB (nw w 12 c c) d i = 0 ∨ oK (wJ (nw w 12 c c) 0 (wB (nw w 12 c c) d i)) := by
    intro i hi
    have h1 := hx i hi
    have h2 := (hw.oK h1).2
    rw [wB_nw, if_neg hdz, wJ_nw, if_neg (by omega)]
    exact Or.inr h1
  unfold x_J7_copyOf_1904c
  rw [if_pos hd]
  unfold x_J7_copyOf_6403c
  rw [if_pos rfl, hcl, if_pos ⟨hc0, hc⟩, if_pos hB]
  simp only [bs_eq, bd_some]
  rw [if_pos (Or.inl (by rw [wJ_nw, if_neg hdz]; exact hd)), if_pos (by rw [wJ_nw, if_neg hdz]; exact hd), if_pos (by rw [wJ_nw, if_pos rfl]; rfl), if_pos z1, if_pos z1]
  have hlen : wJ (nw w 12 c c) 1 d = n := by rw [wJ_nw, if_neg hdz]; exact hl
  rw [hlen, hmin, if_pos hn0, hnl, z0, if_pos (by omega), if_pos (by rw [wJ_nw, if_pos rfl]; simpa using hnc), if_pos (by simpa using g6)]
  simp only [b2_some]
/-- a list has room to grow yet: cells and slots -/
def cap (w : CS) (l : Nat) : Nat := wJ w 1 (wJ w 281 l)
/-- what a change of the list l keeps, and what it costs -/
def LCH (w w' : CS) (l : Nat) : Prop := FR (fun y => y = l ∨ y = wJ w 281 l) w w' ∧ WF w' ∧ cap w l ≤ cap w' l ∧ (wJ w' 281 l = wJ w 281 l ∨ wz w < wJ w' 281 l) ∧ wl w ≤ wl w' + (cap w' l - cap w l) ∧ wk w ≤ wk w' + 20 * (cap w' l - cap w l) ∧ (wJ w 0 (wJ w' 281 l) = 0 ∨ wJ w' 281 l = wJ w 281 l)
theorem p_add_in {w : CS} {l x c : Nat} {xs : List Nat} (hw : WF w) (h1 : wJ w 0 l = 7) (hd : wJ w 0 (wJ w 281 l) = 12) (hc : wJ w 1 (wJ w 281 l) = c) (hc9 : 10 ≤ c ∧ c ≤ 100) (hs : wI w 282 l = nI xs.length) (hlt : xs.length < c) (hb : ∀ i, i < xs.length → wB w (wJ w 281 l) i = xs.getD i 0) (hk : ∀ i, i < xs.length → oK (wJ w 0 (xs.getD i 0))) (hx : oK (wJ w 0 x)) :
    LOK (sI (sB w (wJ w 281 l) xs.length x) 282 l (nI xs.length + 1)) l (xs ++ [x]) := by
  have hlen : (xs ++ [x]).length = xs.length + 1 := by simp
  refine ⟨h1, Or.inl ⟨hd, ?_⟩, ?_, ?_, ?_, ?_, ?_⟩
  · show 10 ≤ wJ w 1 (wJ w 281 l); omega
  · rw [hlen, nI_succ]; simp only [wI_sI, and_self, if_true]
  · rw [hlen]; show xs.length + 1 ≤ wJ w 1 (wJ w 281 l); omega
  · show wJ w 1 (wJ w 281 l) ≤ 100; omega
  · intro i hi
    rw [hlen] at hi
    show wB (sB w (wJ w 281 l) xs.length x) (wJ w 281 l) i = _
    rw [wB_sB]
    by_cases hii : i = xs.length
    · subst hii; simp
    · rw [if_neg (by omega), hb i (by omega)]
      rw [List.getD_eq_getElem?_getD, List.getD_eq_getElem?_getD, List.getElem?_append_left (by omega)]
  · intro i hi
    rw [hlen] at hi
    show oK (wJ w 0 _)
    by_cases hii : i = xs.length
    · subst hii; simpa using hx
    · have := hk i (by omega)
      rw [List.getD_eq_getElem?_getD] at this ⊢
      rwa [List.getElem?_append_left (by omega)]
theorem p_grown {w w2 w3 : CS} {l x d3 c3 c : Nat} {xs : List Nat} (hw : WF w) (hw2 : w2 = sI w 280 l (wI w 280 l + 1)) (h13 : wJ w 0 l = 7 ∧ wI w 282 l = nI xs.length) (h6 : ∀ i, i < xs.length → wB w (wJ w 281 l) i = xs.getD i 0) (h7 : ∀ i, i < xs.length → oK (wJ w 0 (xs.getD i 0))) (hx : oK (wJ w 0 x)) (hn : xs.length < 60) (hlz : 0 < l ∧ l ≤ wz w) (hxz : 0 < x ∧ x ≤ wz w)
    (q3 : ∀ y, y ≤ wz w → (∀ f, wJ w3 f y = wJ w f y) ∧ (∀ f, wI w3 f y = wI w2 f y) ∧ (∀ i, wB w3 y i = wB w y i) ∧ (∀ i, wA w3 y i = wA w y i) ∧ (∀ f, wL w3 f y = wL w f y) ∧ (∀ i, wM w3 y i = wM w y i)) (k3 : wJ w3 0 d3 = 12 ∧ wJ w3 1 d3 = c3) (b3 : ∀ i, i < xs.length → wB w3 d3 i = wB w (wJ w 281 l) i) (z3 : wz w3 = wz w + 1 ∧ wl w3 = wl w - 1 ∧ wk w3 = wk w - c3) (f3 : ∀ y, wz w + 1 < y → wJ w3 0 y = 0) (hc3 : 10 ≤ c3 ∧ c3 ≤ 100 ∧ xs.length < c3 ∧ c < c3) (hd3 : d3 = wz w + 1) (hc : c = cap w l) (hcost : 1 + c ≤ c3 ∧ c3 ≤ 20 * (c3 - c) ∧ 1 ≤ wl w ∧ c3 ≤ wk w) (hdz : 0 < wJ w 281 l ∧ wJ w 281 l ≤ wz w) :
    ∃ w', bd (b2 (b2 (b2 (if wJ w3 0 l = 7 then bs (sJ w3 281 l d3) (fun (w16 : CS) => some ((d3, w16))) else none) (fun (v3 : Nat) (w4 : CS) => some ((v3, w4)))) (fun (v5 : Nat) (w6 : CS) => some (v5, w6))) (fun (v7 : Nat) (w8 : CS) =>
  if wJ w8 0 v7 = 12 then
  if vR (nI xs.length) (wJ w8 1 v7) then
  if x = 0 ∨ oK (wJ w8 0 x) then
  bs (sB w8 v7 (nI xs.length).toNatClampNeg x) (fun (w12 : CS) =>
  if wJ w12 0 l = 7 then
  bs (sI w12 282 l (nI xs.length + 1)) (fun (w14 : CS) =>
  some (w14))
  else none)
  else none
  else none
  else none)) (fun (w5 : CS) => if isB 1 then some (((1 : Int32), w5)) else none) = some (1, w') ∧ LOK w' l (xs ++ [x]) ∧ LCH w w' l := by
  have hkl : wJ w3 0 l = 7 := by rw [(q3 l hlz.2).1]; exact h13.1
  have hls : ¬ l = d3 := by omega
  rw [if_pos hkl, bs_eq, b2_some, b2_some, b2_some]
  obtain ⟨w4, hw4⟩ : ∃ w4, w4 = sJ w3 281 l d3 := ⟨_, rfl⟩
  rw [← hw4]
  have e4J : ∀ f y, ¬ (f = 281 ∧ y = l) → wJ w4 f y = wJ w3 f y := fun f y hh => by rw [hw4, wJ_sJ, if_neg hh]
  have e4d : wJ w4 281 l = d3 := by rw [hw4, wJ_sJ, if_pos ⟨rfl, rfl⟩]
  have hx4 : oK (wJ w4 0 x) := by rw [e4J 0 x (by omega), (q3 x hxz.2).1]; exact hx
  rw [if_pos (by rw [e4J 0 d3 (by omega)]; exact k3.1), if_pos (show vR (nI xs.length) (wJ w4 1 d3) by rw [e4J 1 d3 (by omega), k3.2]; exact nI_in (by omega) (by omega)), if_pos (Or.inr hx4), bs_eq, if_pos (show wJ (sB w4 d3 (nI xs.length).toNatClampNeg x) 0 l = 7 by rw [wJ_sB, e4J 0 l (by omega)]; exact hkl), bs_eq, bd_some, if_pos (by decide), nI_clamp (by omega)]
  refine ⟨_, rfl, ?_, ?_⟩
  · have hI4 : ∀ y, y ≤ wz w → ¬ y = l → ∀ f, wI w4 f y = wI w f y := fun y hy hyl f => by rw [hw4]; show wI w3 f y = _; rw [(q3 y hy).2.1, hw2, wI_sI, if_neg (fun q => hyl q.2)]
    have key := p_add_in (w := w4) (l := l) (x := x) (c := c3) (xs := xs) ?_ ?_ ?_ ?_ ⟨hc3.1, hc3.2.1⟩ ?_ hc3.2.2.1 ?_ ?_ hx4
    · rw [e4d] at key; exact key
    · refine ⟨?_, fun y hy => ?_⟩
      · rw [e4J 0 0 (by omega), (q3 0 (Nat.zero_le _)).1]; exact hw.1
      · have : wz w4 = wz w + 1 := by rw [hw4]; exact z3.1
        rw [e4J 0 y (by omega)]; exact f3 y (by omega)
    · rw [e4J 0 l (by omega)]; exact hkl
    · rw [e4d, e4J 0 d3 (by omega)]; exact k3.1
    · rw [e4d, e4J 1 d3 (by omega)]; exact k3.2
    · rw [hw4]; show wI w3 282 l = _; rw [(q3 l hlz.2).2.1, hw2, wI_sI, if_neg (by omega)]; exact h13.2
    · intro i hi
      rw [e4d, hw4]; show wB w3 d3 i = _; rw [b3 i hi]; exact h6 i hi
    · intro i hi
      have hi2 := h7 i hi
      have hi3 := (hw.oK hi2).2
      rw [e4J 0 _ (by omega), (q3 _ hi3).1]; exact hi2
  · have hcap : cap (sI (sB w4 d3 xs.length x) 282 l (nI xs.length + 1)) l = c3 := by
      show wJ w4 1 (wJ w4 281 l) = c3
      rw [e4d, e4J 1 d3 (by omega)]; exact k3.2
    have hz4 : wz w4 = wz w + 1 ∧ wl w4 = wl w - 1 ∧ wk w4 = wk w - c3 := by rw [hw4]; exact z3
    refine ⟨⟨by show wz w ≤ wz w4; omega, fun y hy => ⟨?_, ?_⟩, fun y hy hA => ⟨fun f => ?_, fun i => ?_, fun f => ?_, fun i => ?_, fun f => ?_, fun i => ?_⟩⟩, ⟨?_, fun y hy => ?_⟩, by rw [hcap, ← hc]; omega, Or.inr (by show wz w < wJ w4 281 l; rw [e4d]; omega), by rw [hcap, ← hc]; show wl w ≤ wl w4 + _; omega, by rw [hcap, ← hc]; show wk w ≤ wk w4 + _; omega, Or.inl (by show wJ w 0 (wJ w4 281 l) = 0; rw [e4d]; exact hw.2 _ (by omega))⟩
    · show wJ w4 0 y = _; rw [e4J 0 y (by omega)]; exact (q3 y hy).1 0
    · show wJ w4 1 y = _; rw [e4J 1 y (by omega)]; exact (q3 y hy).1 1
    · show wI (sI (sB w4 d3 xs.length x) 282 l (nI xs.length + 1)) f y = _
      rw [wI_sI, if_neg (fun q => hA (Or.inl q.2)), wI_sB, hw4]
      show wI w3 f y = _
      rw [(q3 y hy).2.1, hw2, wI_sI, if_neg (fun q => hA (Or.inl q.2))]
    · show wA w4 y i = _; rw [hw4]; exact (q3 y hy).2.2.2.1 i
    · show wJ w4 f y = _; rw [e4J f y (fun q => hA (Or.inl q.2))]; exact (q3 y hy).1 f
    · show wB (sI (sB w4 d3 xs.length x) 282 l (nI xs.length + 1)) y i = _
      rw [wB_sI, wB_sB, if_neg (by omega), hw4]; exact (q3 y hy).2.2.1 i
    · show wL w4 f y = _; rw [hw4]; exact (q3 y hy).2.2.2.2.1 f
    · show wM w4 y i = _; rw [hw4]; exact (q3 y hy).2.2.2.2.2 i
    · show wJ w4 0 0 = 0; rw [e4J 0 0 (by omega), (q3 0 (Nat.zero_le _)).1]; exact hw.1
    · have hy' : wz w4 < y := hy
      show wJ w4 0 y = 0; rw [e4J 0 y (by omega)]; exact f3 y (by omega)
theorem p_add {w : CS} {l x : Nat} {xs : List Nat} (hw : WF w) (h : LOK w l xs) (hx : oK (wJ w 0 x)) (hn : xs.length < 60) (hB : 100 - cap w l ≤ wl w ∧ 20 * (100 - cap w l) ≤ wk w) :
    ∃ w', x_Jx4a65c_add_9ea2d l x w = some (1, w') ∧ LOK w' l (xs ++ [x]) ∧ LCH w w' l := by
  obtain ⟨h1, h2, h3, h4, h5, h6, h7⟩ := h
  obtain ⟨c, hc⟩ : ∃ c, c = cap w l := ⟨_, rfl⟩
  have hcc : wJ w 1 (wJ w 281 l) = c := hc.symm
  rw [hcc] at h4 h5
  have hd : wJ w 0 (wJ w 281 l) = 12 ∨ wJ w 281 l = wJ w 2 0 ∧ wJ w 1 (wJ w 281 l) = 0 := h2.imp (fun h => h.1) fun h => ⟨h.1, h.2.1⟩
  have hlz := hw.le h1
  have hdz : 0 < wJ w 281 l ∧ wJ w 281 l ≤ wz w := by
    rcases h2 with q | q
    · exact hw.le q.1
    · exact q.2.2.2
  have hxz := hw.oK hx
  have hld : ¬ wJ w 281 l = l := by
    intro q
    rcases h2 with z | z
    · have := z.1; rw [q, h1] at this; omega
    · have := z.2.2.1; rw [q, h1] at this; omega
  have hsl : (nI xs.length).toNatClampNeg = xs.length := nI_clamp (by omega)
  unfold x_Jx4a65c_add_9ea2d
  rw [if_pos h1, bs_eq, if_pos (show wJ (sI w 280 l (wI w 280 l + 1)) 0 l = 7 from h1)]
  obtain ⟨w2, hw2⟩ : ∃ w2, w2 = sI w 280 l (wI w 280 l + 1) := ⟨_, rfl⟩
  rw [← hw2]
  have e281 : wJ w2 281 l = wJ w 281 l := by rw [hw2]; rfl
  have eJ : ∀ f y, wJ w2 f y = wJ w f y := fun f y => by rw [hw2]; rfl
  have e282 : wI w2 282 l = nI xs.length := by rw [hw2, wI_sI, if_neg (by omega)]; exact h3
  have eB : ∀ y i, wB w2 y i = wB w y i := fun y i => by rw [hw2]; rfl
  have ez : wz w2 = wz w ∧ wl w2 = wl w ∧ wk w2 = wk w := by rw [hw2]; exact ⟨rfl, rfl, rfl⟩
  have hw2' : WF w2 := ⟨by rw [eJ]; exact hw.1, fun y hy => by rw [eJ]; exact hw.2 y (by rw [← ez.1]; exact hy)⟩
  rw [e281, e282]
  unfold x_Jx4a65c_add_72be8
  rw [if_pos (by simp only [eJ]; exact hd)]
  by_cases hfull : xs.length = c
  · -- it grows
    rw [if_pos (by rw [eJ, hcc, hfull]), if_pos (by rw [eJ]; exact h1)]
    unfold x_Jx4a65c_grow_d5877
    rw [if_pos (by rw [eJ]; exact h1), e282]
    unfold x_Jx4a65c_grow_92f84
    rw [if_pos (by rw [eJ]; exact h1), e281, if_pos (by simp only [eJ]; exact hd)]
    rcases h2 with ⟨hk12, h10⟩ | ⟨hdef, hlen0, hk0, hdp⟩
    · rw [hcc] at h10
      rw [if_pos (by rw [eJ, hcc]; exact (nI_ltI (a := 0) (by omega) (by omega)).mpr (by omega)), l0_inl]
      rw [eJ, hcc]
      have e1 : nI xs.length + 1 - nI c = 1 := by
        rw [hfull, nI_1, pk_sub (by omega), show c + 1 - c = 1 by omega]; rfl
      rw [e1, p_half c h5, p_newl w2 h10 h5, bd_some]
      have hcp := p_copy (w := w2) (d := wJ w 281 l) (c := c + c / 2) (n := c) (by rw [eJ]; exact hk12) (by rw [eJ]; exact hcc) (by omega) (by omega) (by rw [ez.2.1, ez.2.2]; exact ⟨by omega, by omega⟩) hw2' (fun i hi => by rw [eB, eJ, h6 i (by omega)]; exact h7 i (by omega))
      rw [hcp, b2_some]
      obtain ⟨w3, hw3⟩ : ∃ w3, w3 = cpB (nw w2 12 (c + c / 2) (c + c / 2)) (wJ w 281 l) (wz w2 + 1) 0 0 c := ⟨_, rfl⟩
      rw [← hw3]
      have q3 : ∀ y, y ≤ wz w → (∀ f, wJ w3 f y = wJ w f y) ∧ (∀ f, wI w3 f y = wI w2 f y) ∧ (∀ i, wB w3 y i = wB w y i) ∧ (∀ i, wA w3 y i = wA w y i) ∧ (∀ f, wL w3 f y = wL w f y) ∧ (∀ i, wM w3 y i = wM w y i) := by
        intro y hy
        have hy1 : ¬ y = wz w + 1 := by omega
        subst hw3
        subst hw2
        simp only [wI_sI, wA_sI, wJ_sI, wB_sI, wL_sI, wM_sI, wz_sI, wl_sI, wk_sI, wI_sA, wA_sA, wJ_sA, wB_sA, wL_sA, wM_sA, wz_sA, wl_sA, wk_sA, wI_sJ, wA_sJ, wJ_sJ, wB_sJ, wL_sJ, wM_sJ, wz_sJ, wl_sJ, wk_sJ, wI_sB, wA_sB, wJ_sB, wB_sB, wL_sB, wM_sB, wz_sB, wl_sB, wk_sB, wI_sL, wA_sL, wJ_sL, wB_sL, wL_sL, wM_sL, wz_sL, wl_sL, wk_sL, wI_sM, wA_sM, wJ_sM, wB_sM, wL_sM, wM_sM, wz_sM, wl_sM, wk_sM, wI_nw, wI_bump, wI_cpB, wA_nw, wA_bump, wA_cpB, wJ_nw, wJ_bump, wJ_cpB, wB_nw, wB_bump, wB_cpB, wL_nw, wL_bump, wL_cpB, wM_nw, wM_bump, wM_cpB, wz_nw, wz_bump, wz_cpB, wl_nw, wl_bump, wl_cpB, wk_nw, wk_bump, wk_cpB, hy1, if_false, false_and]
        simp
      rw [ez.1]
      exact p_grown hw hw2 ⟨h1, h3⟩ (d3 := wz w + 1) (c3 := c + c / 2) h6 h7 hx hn hlz hxz q3 ⟨by rw [hw3]; simp only [wI_sI, wA_sI, wJ_sI, wB_sI, wL_sI, wM_sI, wz_sI, wl_sI, wk_sI, wI_sA, wA_sA, wJ_sA, wB_sA, wL_sA, wM_sA, wz_sA, wl_sA, wk_sA, wI_sJ, wA_sJ, wJ_sJ, wB_sJ, wL_sJ, wM_sJ, wz_sJ, wl_sJ, wk_sJ, wI_sB, wA_sB, wJ_sB, wB_sB, wL_sB, wM_sB, wz_sB, wl_sB, wk_sB, wI_sL, wA_sL, wJ_sL, wB_sL, wL_sL, wM_sL, wz_sL, wl_sL, wk_sL, wI_sM, wA_sM, wJ_sM, wB_sM, wL_sM, wM_sM, wz_sM, wl_sM, wk_sM, wI_nw, wI_bump, wI_cpB, wA_nw, wA_bump, wA_cpB, wJ_nw, wJ_bump, wJ_cpB, wB_nw, wB_bump, wB_cpB, wL_nw, wL_bump, wL_cpB, wM_nw, wM_bump, wM_cpB, wz_nw, wz_bump, wz_cpB, wl_nw, wl_bump, wl_cpB, wk_nw, wk_bump, wk_cpB, if_true, ez.1], by rw [hw3]; simp only [wI_sI, wA_sI, wJ_sI, wB_sI, wL_sI, wM_sI, wz_sI, wl_sI, wk_sI, wI_sA, wA_sA, wJ_sA, wB_sA, wL_sA, wM_sA, wz_sA, wl_sA, wk_sA, wI_sJ, wA_sJ, wJ_sJ, wB_sJ, wL_sJ, wM_sJ, wz_sJ, wl_sJ, wk_sJ, wI_sB, wA_sB, wJ_sB, wB_sB, wL_sB, wM_sB, wz_sB, wl_sB, wk_sB, wI_sL, wA_sL, wJ_sL, wB_sL, wL_sL, wM_sL, wz_sL, wl_sL, wk_sL, wI_sM, wA_sM, wJ_sM, wB_sM, wL_sM, wM_sM, wz_sM, wl_sM, wk_sM, wI_nw, wI_bump, wI_cpB, wA_nw, wA_bump, wA_cpB, wJ_nw, wJ_bump, wJ_cpB, wB_nw, wB_bump, wB_cpB, wL_nw, wL_bump, wL_cpB, wM_nw, wM_bump, wM_cpB, wz_nw, wz_bump, wz_cpB, wl_nw, wl_bump, wl_cpB, wk_nw, wk_bump, wk_cpB, if_true, ez.1]; simp⟩ (fun i hi => by
        rw [hw3]
        simp only [wI_sI, wA_sI, wJ_sI, wB_sI, wL_sI, wM_sI, wz_sI, wl_sI, wk_sI, wI_sA, wA_sA, wJ_sA, wB_sA, wL_sA, wM_sA, wz_sA, wl_sA, wk_sA, wI_sJ, wA_sJ, wJ_sJ, wB_sJ, wL_sJ, wM_sJ, wz_sJ, wl_sJ, wk_sJ, wI_sB, wA_sB, wJ_sB, wB_sB, wL_sB, wM_sB, wz_sB, wl_sB, wk_sB, wI_sL, wA_sL, wJ_sL, wB_sL, wL_sL, wM_sL, wz_sL, wl_sL, wk_sL, wI_sM, wA_sM, wJ_sM, wB_sM, wL_sM, wM_sM, wz_sM, wl_sM, wk_sM, wI_nw, wI_bump, wI_cpB, wA_nw, wA_bump, wA_cpB, wJ_nw, wJ_bump, wJ_cpB, wB_nw, wB_bump, wB_cpB, wL_nw, wL_bump, wL_cpB, wM_nw, wM_bump, wM_cpB, wz_nw, wz_bump, wz_cpB, wl_nw, wl_bump, wl_cpB, wk_nw, wk_bump, wk_cpB, ez.1, eB]
        simp [show i < c by omega, show ¬ wJ w 281 l = wz w + 1 by omega]) ⟨by rw [hw3]; simp only [wI_sI, wA_sI, wJ_sI, wB_sI, wL_sI, wM_sI, wz_sI, wl_sI, wk_sI, wI_sA, wA_sA, wJ_sA, wB_sA, wL_sA, wM_sA, wz_sA, wl_sA, wk_sA, wI_sJ, wA_sJ, wJ_sJ, wB_sJ, wL_sJ, wM_sJ, wz_sJ, wl_sJ, wk_sJ, wI_sB, wA_sB, wJ_sB, wB_sB, wL_sB, wM_sB, wz_sB, wl_sB, wk_sB, wI_sL, wA_sL, wJ_sL, wB_sL, wL_sL, wM_sL, wz_sL, wl_sL, wk_sL, wI_sM, wA_sM, wJ_sM, wB_sM, wL_sM, wM_sM, wz_sM, wl_sM, wk_sM, wI_nw, wI_bump, wI_cpB, wA_nw, wA_bump, wA_cpB, wJ_nw, wJ_bump, wJ_cpB, wB_nw, wB_bump, wB_cpB, wL_nw, wL_bump, wL_cpB, wM_nw, wM_bump, wM_cpB, wz_nw, wz_bump, wz_cpB, wl_nw, wl_bump, wl_cpB, wk_nw, wk_bump, wk_cpB, ez.1], by rw [hw3]; simp only [wI_sI, wA_sI, wJ_sI, wB_sI, wL_sI, wM_sI, wz_sI, wl_sI, wk_sI, wI_sA, wA_sA, wJ_sA, wB_sA, wL_sA, wM_sA, wz_sA, wl_sA, wk_sA, wI_sJ, wA_sJ, wJ_sJ, wB_sJ, wL_sJ, wM_sJ, wz_sJ, wl_sJ, wk_sJ, wI_sB, wA_sB, wJ_sB, wB_sB, wL_sB, wM_sB, wz_sB, wl_sB, wk_sB, wI_sL, wA_sL, wJ_sL, wB_sL, wL_sL, wM_sL, wz_sL, wl_sL, wk_sL, wI_sM, wA_sM, wJ_sM, wB_sM, wL_sM, wM_sM, wz_sM, wl_sM, wk_sM, wI_nw, wI_bump, wI_cpB, wA_nw, wA_bump, wA_cpB, wJ_nw, wJ_bump, wJ_cpB, wB_nw, wB_bump, wB_cpB, wL_nw, wL_bump, wL_cpB, wM_nw, wM_bump, wM_cpB, wz_nw, wz_bump, wz_cpB, wl_nw, wl_bump, wl_cpB, wk_nw, wk_bump, wk_cpB, ez.2.1], by rw [hw3]; simp only [wI_sI, wA_sI, wJ_sI, wB_sI, wL_sI, wM_sI, wz_sI, wl_sI, wk_sI, wI_sA, wA_sA, wJ_sA, wB_sA, wL_sA, wM_sA, wz_sA, wl_sA, wk_sA, wI_sJ, wA_sJ, wJ_sJ, wB_sJ, wL_sJ, wM_sJ, wz_sJ, wl_sJ, wk_sJ, wI_sB, wA_sB, wJ_sB, wB_sB, wL_sB, wM_sB, wz_sB, wl_sB, wk_sB, wI_sL, wA_sL, wJ_sL, wB_sL, wL_sL, wM_sL, wz_sL, wl_sL, wk_sL, wI_sM, wA_sM, wJ_sM, wB_sM, wL_sM, wM_sM, wz_sM, wl_sM, wk_sM, wI_nw, wI_bump, wI_cpB, wA_nw, wA_bump, wA_cpB, wJ_nw, wJ_bump, wJ_cpB, wB_nw, wB_bump, wB_cpB, wL_nw, wL_bump, wL_cpB, wM_nw, wM_bump, wM_cpB, wz_nw, wz_bump, wz_cpB, wl_nw, wl_bump, wl_cpB, wk_nw, wk_bump, wk_cpB, ez.2.2]⟩ (fun y hy => by
        rw [hw3]
        simp only [wI_sI, wA_sI, wJ_sI, wB_sI, wL_sI, wM_sI, wz_sI, wl_sI, wk_sI, wI_sA, wA_sA, wJ_sA, wB_sA, wL_sA, wM_sA, wz_sA, wl_sA, wk_sA, wI_sJ, wA_sJ, wJ_sJ, wB_sJ, wL_sJ, wM_sJ, wz_sJ, wl_sJ, wk_sJ, wI_sB, wA_sB, wJ_sB, wB_sB, wL_sB, wM_sB, wz_sB, wl_sB, wk_sB, wI_sL, wA_sL, wJ_sL, wB_sL, wL_sL, wM_sL, wz_sL, wl_sL, wk_sL, wI_sM, wA_sM, wJ_sM, wB_sM, wL_sM, wM_sM, wz_sM, wl_sM, wk_sM, wI_nw, wI_bump, wI_cpB, wA_nw, wA_bump, wA_cpB, wJ_nw, wJ_bump, wJ_cpB, wB_nw, wB_bump, wB_cpB, wL_nw, wL_bump, wL_cpB, wM_nw, wM_bump, wM_cpB, wz_nw, wz_bump, wz_cpB, wl_nw, wl_bump, wl_cpB, wk_nw, wk_bump, wk_cpB, ez.1]
        rw [if_neg (by omega), eJ]; exact hw.2 y (by omega)) (by omega) (by omega) hc ⟨by omega, by omega⟩ hdz
    · -- the first array
      have hx0 : xs.length = 0 := by omega
      have hc0 : c = 0 := by omega
      rw [if_neg (by rw [eJ, hcc, hc0]; decide), if_pos (by rw [eJ]; exact hdef), hx0]
      have e10 : (if (10 : Int32) < nI 0 + 1 then nI 0 + 1 else 10) = nI 10 := by decide +kernel
      rw [e10, nI_clamp (by omega), if_pos ⟨nI_pos (by omega), by omega⟩, if_pos (by rw [ez.2.1, ez.2.2]; omega), bs_eq]
      obtain ⟨w3, hw3⟩ : ∃ w3, w3 = nw w2 12 10 10 := ⟨_, rfl⟩
      rw [← hw3, ez.1]
      have q3 : ∀ y, y ≤ wz w → (∀ f, wJ w3 f y = wJ w f y) ∧ (∀ f, wI w3 f y = wI w2 f y) ∧ (∀ i, wB w3 y i = wB w y i) ∧ (∀ i, wA w3 y i = wA w y i) ∧ (∀ f, wL w3 f y = wL w f y) ∧ (∀ i, wM w3 y i = wM w y i) := by
        intro y hy
        have hy1 : ¬ y = wz w + 1 := by omega
        subst hw3
        subst hw2
        simp only [wI_sI, wA_sI, wJ_sI, wB_sI, wL_sI, wM_sI, wz_sI, wl_sI, wk_sI, wI_sA, wA_sA, wJ_sA, wB_sA, wL_sA, wM_sA, wz_sA, wl_sA, wk_sA, wI_sJ, wA_sJ, wJ_sJ, wB_sJ, wL_sJ, wM_sJ, wz_sJ, wl_sJ, wk_sJ, wI_sB, wA_sB, wJ_sB, wB_sB, wL_sB, wM_sB, wz_sB, wl_sB, wk_sB, wI_sL, wA_sL, wJ_sL, wB_sL, wL_sL, wM_sL, wz_sL, wl_sL, wk_sL, wI_sM, wA_sM, wJ_sM, wB_sM, wL_sM, wM_sM, wz_sM, wl_sM, wk_sM, wI_nw, wI_bump, wI_cpB, wA_nw, wA_bump, wA_cpB, wJ_nw, wJ_bump, wJ_cpB, wB_nw, wB_bump, wB_cpB, wL_nw, wL_bump, wL_cpB, wM_nw, wM_bump, wM_cpB, wz_nw, wz_bump, wz_cpB, wl_nw, wl_bump, wl_cpB, wk_nw, wk_bump, wk_cpB, hy1, if_false]
        simp
      have key := p_grown (x := x) hw hw2 ⟨h1, h3⟩ (d3 := wz w + 1) (c3 := 10) (c := c) h6 h7 hx hn hlz hxz q3 ⟨by rw [hw3]; simp only [wI_sI, wA_sI, wJ_sI, wB_sI, wL_sI, wM_sI, wz_sI, wl_sI, wk_sI, wI_sA, wA_sA, wJ_sA, wB_sA, wL_sA, wM_sA, wz_sA, wl_sA, wk_sA, wI_sJ, wA_sJ, wJ_sJ, wB_sJ, wL_sJ, wM_sJ, wz_sJ, wl_sJ, wk_sJ, wI_sB, wA_sB, wJ_sB, wB_sB, wL_sB, wM_sB, wz_sB, wl_sB, wk_sB, wI_sL, wA_sL, wJ_sL, wB_sL, wL_sL, wM_sL, wz_sL, wl_sL, wk_sL, wI_sM, wA_sM, wJ_sM, wB_sM, wL_sM, wM_sM, wz_sM, wl_sM, wk_sM, wI_nw, wI_bump, wI_cpB, wA_nw, wA_bump, wA_cpB, wJ_nw, wJ_bump, wJ_cpB, wB_nw, wB_bump, wB_cpB, wL_nw, wL_bump, wL_cpB, wM_nw, wM_bump, wM_cpB, wz_nw, wz_bump, wz_cpB, wl_nw, wl_bump, wl_cpB, wk_nw, wk_bump, wk_cpB, if_true, ez.1], by rw [hw3]; simp only [wI_sI, wA_sI, wJ_sI, wB_sI, wL_sI, wM_sI, wz_sI, wl_sI, wk_sI, wI_sA, wA_sA, wJ_sA, wB_sA, wL_sA, wM_sA, wz_sA, wl_sA, wk_sA, wI_sJ, wA_sJ, wJ_sJ, wB_sJ, wL_sJ, wM_sJ, wz_sJ, wl_sJ, wk_sJ, wI_sB, wA_sB, wJ_sB, wB_sB, wL_sB, wM_sB, wz_sB, wl_sB, wk_sB, wI_sL, wA_sL, wJ_sL, wB_sL, wL_sL, wM_sL, wz_sL, wl_sL, wk_sL, wI_sM, wA_sM, wJ_sM, wB_sM, wL_sM, wM_sM, wz_sM, wl_sM, wk_sM, wI_nw, wI_bump, wI_cpB, wA_nw, wA_bump, wA_cpB, wJ_nw, wJ_bump, wJ_cpB, wB_nw, wB_bump, wB_cpB, wL_nw, wL_bump, wL_cpB, wM_nw, wM_bump, wM_cpB, wz_nw, wz_bump, wz_cpB, wl_nw, wl_bump, wl_cpB, wk_nw, wk_bump, wk_cpB, if_true, ez.1]; simp⟩ (fun i hi => by omega) ⟨by rw [hw3]; simp only [wI_sI, wA_sI, wJ_sI, wB_sI, wL_sI, wM_sI, wz_sI, wl_sI, wk_sI, wI_sA, wA_sA, wJ_sA, wB_sA, wL_sA, wM_sA, wz_sA, wl_sA, wk_sA, wI_sJ, wA_sJ, wJ_sJ, wB_sJ, wL_sJ, wM_sJ, wz_sJ, wl_sJ, wk_sJ, wI_sB, wA_sB, wJ_sB, wB_sB, wL_sB, wM_sB, wz_sB, wl_sB, wk_sB, wI_sL, wA_sL, wJ_sL, wB_sL, wL_sL, wM_sL, wz_sL, wl_sL, wk_sL, wI_sM, wA_sM, wJ_sM, wB_sM, wL_sM, wM_sM, wz_sM, wl_sM, wk_sM, wI_nw, wI_bump, wI_cpB, wA_nw, wA_bump, wA_cpB, wJ_nw, wJ_bump, wJ_cpB, wB_nw, wB_bump, wB_cpB, wL_nw, wL_bump, wL_cpB, wM_nw, wM_bump, wM_cpB, wz_nw, wz_bump, wz_cpB, wl_nw, wl_bump, wl_cpB, wk_nw, wk_bump, wk_cpB, ez.1], by rw [hw3]; simp only [wI_sI, wA_sI, wJ_sI, wB_sI, wL_sI, wM_sI, wz_sI, wl_sI, wk_sI, wI_sA, wA_sA, wJ_sA, wB_sA, wL_sA, wM_sA, wz_sA, wl_sA, wk_sA, wI_sJ, wA_sJ, wJ_sJ, wB_sJ, wL_sJ, wM_sJ, wz_sJ, wl_sJ, wk_sJ, wI_sB, wA_sB, wJ_sB, wB_sB, wL_sB, wM_sB, wz_sB, wl_sB, wk_sB, wI_sL, wA_sL, wJ_sL, wB_sL, wL_sL, wM_sL, wz_sL, wl_sL, wk_sL, wI_sM, wA_sM, wJ_sM, wB_sM, wL_sM, wM_sM, wz_sM, wl_sM, wk_sM, wI_nw, wI_bump, wI_cpB, wA_nw, wA_bump, wA_cpB, wJ_nw, wJ_bump, wJ_cpB, wB_nw, wB_bump, wB_cpB, wL_nw, wL_bump, wL_cpB, wM_nw, wM_bump, wM_cpB, wz_nw, wz_bump, wz_cpB, wl_nw, wl_bump, wl_cpB, wk_nw, wk_bump, wk_cpB, ez.2.1], by rw [hw3]; simp only [wI_sI, wA_sI, wJ_sI, wB_sI, wL_sI, wM_sI, wz_sI, wl_sI, wk_sI, wI_sA, wA_sA, wJ_sA, wB_sA, wL_sA, wM_sA, wz_sA, wl_sA, wk_sA, wI_sJ, wA_sJ, wJ_sJ, wB_sJ, wL_sJ, wM_sJ, wz_sJ, wl_sJ, wk_sJ, wI_sB, wA_sB, wJ_sB, wB_sB, wL_sB, wM_sB, wz_sB, wl_sB, wk_sB, wI_sL, wA_sL, wJ_sL, wB_sL, wL_sL, wM_sL, wz_sL, wl_sL, wk_sL, wI_sM, wA_sM, wJ_sM, wB_sM, wL_sM, wM_sM, wz_sM, wl_sM, wk_sM, wI_nw, wI_bump, wI_cpB, wA_nw, wA_bump, wA_cpB, wJ_nw, wJ_bump, wJ_cpB, wB_nw, wB_bump, wB_cpB, wL_nw, wL_bump, wL_cpB, wM_nw, wM_bump, wM_cpB, wz_nw, wz_bump, wz_cpB, wl_nw, wl_bump, wl_cpB, wk_nw, wk_bump, wk_cpB, ez.2.2]⟩ (fun y hy => by
        rw [hw3]
        simp only [wI_sI, wA_sI, wJ_sI, wB_sI, wL_sI, wM_sI, wz_sI, wl_sI, wk_sI, wI_sA, wA_sA, wJ_sA, wB_sA, wL_sA, wM_sA, wz_sA, wl_sA, wk_sA, wI_sJ, wA_sJ, wJ_sJ, wB_sJ, wL_sJ, wM_sJ, wz_sJ, wl_sJ, wk_sJ, wI_sB, wA_sB, wJ_sB, wB_sB, wL_sB, wM_sB, wz_sB, wl_sB, wk_sB, wI_sL, wA_sL, wJ_sL, wB_sL, wL_sL, wM_sL, wz_sL, wl_sL, wk_sL, wI_sM, wA_sM, wJ_sM, wB_sM, wL_sM, wM_sM, wz_sM, wl_sM, wk_sM, wI_nw, wI_bump, wI_cpB, wA_nw, wA_bump, wA_cpB, wJ_nw, wJ_bump, wJ_cpB, wB_nw, wB_bump, wB_cpB, wL_nw, wL_bump, wL_cpB, wM_nw, wM_bump, wM_cpB, wz_nw, wz_bump, wz_cpB, wl_nw, wl_bump, wl_cpB, wk_nw, wk_bump, wk_cpB, ez.1]
        rw [if_neg (by omega), eJ]; exact hw.2 y (by omega)) (by omega) (by omega) hc ⟨by omega, by omega⟩ hdz
      have hkl : wJ w3 0 l = 7 := by rw [(q3 l hlz.2).1]; exact h1
      rw [if_pos hkl, bs_eq, hx0] at key
      rw [if_pos hkl, bs_eq, l0_inr]
      exact key
  · rw [if_neg (by rw [eJ, hcc]; intro q; exact hfull ((nI_eq (by omega) (by omega)).mp q)), b2_some]
    have hk12 : wJ w 0 (wJ w 281 l) = 12 ∧ 10 ≤ c := by
      rcases h2 with ⟨a, b⟩ | ⟨-, a, -⟩
      · exact ⟨a, by omega⟩
      · omega
    rw [if_pos (by rw [eJ]; exact hk12.1), if_pos (show vR (nI xs.length) (wJ w2 1 (wJ w 281 l)) by rw [eJ, hcc]; exact nI_in (by omega) (by omega)), if_pos (Or.inr (by rw [eJ]; exact hx)), bs_eq, if_pos (show wJ (sB w2 (wJ w 281 l) (nI xs.length).toNatClampNeg x) 0 l = 7 by rw [wJ_sB, eJ]; exact h1), bs_eq, bd_some, if_pos (by decide), hsl]
    refine ⟨_, rfl, ?_, ?_⟩
    · have key := p_add_in (w := w2) (l := l) (x := x) (c := c) (xs := xs) hw2' (by rw [eJ]; exact h1) (by rw [e281, eJ]; exact hk12.1) (by rw [e281, eJ]; exact hcc) ⟨hk12.2, h5⟩ e282 (by omega) (fun i hi => by rw [e281, eB]; exact h6 i hi) (fun i hi => by rw [eJ]; exact h7 i hi) (by rw [eJ]; exact hx)
      rw [e281] at key
      exact key
    · have hcap : cap (sI (sB w2 (wJ w 281 l) xs.length x) 282 l (nI xs.length + 1)) l = cap w l := by
        show wJ w2 1 (wJ w2 281 l) = wJ w 1 (wJ w 281 l)
        rw [e281, eJ]
      refine ⟨⟨by show wz w ≤ wz w2; omega, fun y hy => ⟨?_, ?_⟩, fun y hy hA => ⟨fun f => ?_, fun i => ?_, fun f => ?_, fun i => ?_, fun f => ?_, fun i => ?_⟩⟩, hw2', by rw [hcap]; exact Nat.le_refl _, Or.inl (by show wJ w2 281 l = _; exact e281), by rw [hcap]; show wl w ≤ wl w2 + _; omega, by rw [hcap]; show wk w ≤ wk w2 + _; omega, Or.inr (by show wJ w2 281 l = _; exact e281)⟩
      · show wJ w2 0 y = _; exact eJ 0 y
      · show wJ w2 1 y = _; exact eJ 1 y
      · show wI (sI (sB w2 (wJ w 281 l) xs.length x) 282 l (nI xs.length + 1)) f y = _
        rw [wI_sI, if_neg (fun q => hA (Or.inl q.2)), wI_sB, hw2, wI_sI, if_neg (fun q => hA (Or.inl q.2))]
      · show wA w2 y i = _; rw [hw2]; rfl
      · show wJ w2 f y = _; exact eJ f y
      · show wB (sI (sB w2 (wJ w 281 l) xs.length x) 282 l (nI xs.length + 1)) y i = _
        rw [wB_sI, wB_sB, if_neg (fun q => hA (Or.inr q.1)), eB]
      · show wL w2 f y = _; rw [hw2]; rfl
      · show wM w2 y i = _; rw [hw2]; rfl
