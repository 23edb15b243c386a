/-! ===== PURE: room, and a store taken over ===== -/
def pot (o : Nat) (w : CS) : Nat := (100 - cap w (LL o 0)) + (100 - cap w (LL o 1)) + (100 - cap w (LL o 2)) + (100 - cap w (LL o 3)) + (100 - cap w (LL o 4)) + (100 - cap w (LL o 5)) + (100 - cap w (LL o 6)) + (100 - cap w (LL o 7))
def Bd (o : Nat) (w : CS) (c s : Nat) : Prop := pot o w + c ≤ wl w ∧ 20 * pot o w + s ≤ wk w
theorem pot_ge {o : Nat} {w : CS} {j : Nat} (hj : j < 8) : 100 - cap w (LL o j) ≤ pot o w := by
  unfold pot
  rcases (show j = 0 ∨ j = 1 ∨ j = 2 ∨ j = 3 ∨ j = 4 ∨ j = 5 ∨ j = 6 ∨ j = 7 by omega) with q | q | q | q | q | q | q | q <;> subst q <;> omega
theorem Bd.add {o : Nat} {w : CS} {c s j : Nat} (h : Bd o w c s) (hj : j < 8) : 100 - cap w (LL o j) ≤ wl w ∧ 20 * (100 - cap w (LL o j)) ≤ wk w := by
  have := pot_ge (o := o) (w := w) hj
  obtain ⟨h1, h2⟩ := h
  constructor <;> omega
theorem Bd.re {o : Nat} {w : CS} {c s : Nat} (h : Bd o w c s) (hc : 1 ≤ c) (hs : 6 ≤ s) : RE w := by
  obtain ⟨h1, h2⟩ := h
  constructor <;> omega
theorem Bd.mono {o : Nat} {w : CS} {c s c' s' : Nat} (h : Bd o w c s) (hc : c' ≤ c) (hs : s' ≤ s) : Bd o w c' s' := by
  obtain ⟨h1, h2⟩ := h
  constructor <;> omega
theorem SV.capO {o j : Nat} {w w' : CS} {R : Nat → List Nat} (S : SV o w R) (hj : j < 8) (F : FR (fun y => y = LL o j ∨ y = wJ w 281 (LL o j)) w w') {i : Nat} (hi : i < 8) (hij : i ≠ j) : cap w' (LL o i) = cap w (LL o i) := by
  have hw := S.wf
  have hLj := S.ls j hj
  have hld := hLj.1
  have hlz := hw.le hld
  have hkd : wJ w 0 (wJ w 281 (LL o j)) = 12 ∨ wJ w 0 (wJ w 281 (LL o j)) = 0 := by
    rcases hLj.2.1 with q | q
    · exact Or.inl q.1
    · exact Or.inr q.2.2.1
  have hd0 : 0 < wJ w 281 (LL o j) := by
    rcases hLj.2.1 with q | q
    · exact (hw.le q.1).1
    · exact q.2.2.2.1
  have h0 : ¬ ((0 : Nat) = LL o j ∨ 0 = wJ w 281 (LL o j)) := by omega
  refine ((S.ls i hi).fr hw F (fun q => ?_) h0 (fun hk q => ?_)).2.2
  · rcases q with q | q
    · exact hij (LL_inj hi hj q)
    · have := (S.ls i hi).1; rw [q] at this; rcases hkd with z | z <;> omega
  · rcases q with q | q
    · rw [q, hld] at hk; omega
    · exact S.ap i j hi hj hij hk q
theorem Bd.list {o j c s : Nat} {w w' : CS} {R : Nat → List Nat} {xs : List Nat} (h : Bd o w c s) (S : SV o w R) (hj : j < 8) (L : LCH w w' (LL o j)) (hL : LOK w' (LL o j) xs) : Bd o w' c s := by
  obtain ⟨F, hw', c1, c2, c3, c4, c5⟩ := L
  have hc : cap w' (LL o j) ≤ 100 := hL.2.2.2.2.1
  have e : ∀ i, i < 8 → i ≠ j → cap w' (LL o i) = cap w (LL o i) := fun i hi hij => S.capO hj F hi hij
  obtain ⟨h1, h2⟩ := h
  have key : pot o w' + (cap w' (LL o j) - cap w (LL o j)) = pot o w := by
    unfold pot
    rcases (show j = 0 ∨ j = 1 ∨ j = 2 ∨ j = 3 ∨ j = 4 ∨ j = 5 ∨ j = 6 ∨ j = 7 by omega) with q | q | q | q | q | q | q | q <;> subst q
    · rw [e 1 (by omega) (by omega), e 2 (by omega) (by omega), e 3 (by omega) (by omega), e 4 (by omega) (by omega), e 5 (by omega) (by omega), e 6 (by omega) (by omega), e 7 (by omega) (by omega)]; omega
    · rw [e 0 (by omega) (by omega), e 2 (by omega) (by omega), e 3 (by omega) (by omega), e 4 (by omega) (by omega), e 5 (by omega) (by omega), e 6 (by omega) (by omega), e 7 (by omega) (by omega)]; omega
    · rw [e 1 (by omega) (by omega), e 0 (by omega) (by omega), e 3 (by omega) (by omega), e 4 (by omega) (by omega), e 5 (by omega) (by omega), e 6 (by omega) (by omega), e 7 (by omega) (by omega)]; omega
    · rw [e 1 (by omega) (by omega), e 2 (by omega) (by omega), e 0 (by omega) (by omega), e 4 (by omega) (by omega), e 5 (by omega) (by omega), e 6 (by omega) (by omega), e 7 (by omega) (by omega)]; omega
    · rw [e 1 (by omega) (by omega), e 2 (by omega) (by omega), e 3 (by omega) (by omega), e 0 (by omega) (by omega), e 5 (by omega) (by omega), e 6 (by omega) (by omega), e 7 (by omega) (by omega)]; omega
    · rw [e 1 (by omega) (by omega), e 2 (by omega) (by omega), e 3 (by omega) (by omega), e 4 (by omega) (by omega), e 0 (by omega) (by omega), e 6 (by omega) (by omega), e 7 (by omega) (by omega)]; omega
    · rw [e 1 (by omega) (by omega), e 2 (by omega) (by omega), e 3 (by omega) (by omega), e 4 (by omega) (by omega), e 5 (by omega) (by omega), e 0 (by omega) (by omega), e 7 (by omega) (by omega)]; omega
    · rw [e 1 (by omega) (by omega), e 2 (by omega) (by omega), e 3 (by omega) (by omega), e 4 (by omega) (by omega), e 5 (by omega) (by omega), e 6 (by omega) (by omega), e 0 (by omega) (by omega)]; omega
  constructor <;> omega
theorem Bd.bump {o c s : Nat} {w : CS} (h : Bd o w (c + 1) (s + 6)) : Bd o (bump w) c s := by
  obtain ⟨h1, h2⟩ := h
  have e : pot o (CTabStoreLaw_law_r1938_55c333.bump w) = pot o w := rfl
  unfold Bd
  rw [e, wl_bump, wk_bump]
  constructor <;> omega
theorem cap_nw {o j k l n : Nat} {w : CS} {R : Nat → List Nat} (S : SV o w R) (hj : j < 8) : cap (nw w k l n) (LL o j) = cap w (LL o j) := by
  have hz := (S.wf.le (S.ls j hj).1).2
  have dz : wJ w 281 (LL o j) ≤ wz w := by
    rcases (S.ls j hj).2.1 with q | q
    · exact (S.wf.le q.1).2
    · exact q.2.2.2.2
  unfold cap
  rw [wJ_nw, wJ_nw, if_neg (show ¬ LL o j = wz w + 1 by omega), if_neg (by omega)]
theorem Bd.new {o c s k l n : Nat} {w : CS} {R : Nat → List Nat} (S : SV o w R) (h : Bd o w (c + 1) (s + n)) : Bd o (nw w k l n) c s := by
  obtain ⟨h1, h2⟩ := h
  have e : pot o (nw w k l n) = pot o w := by
    unfold pot
    rw [cap_nw S (by omega), cap_nw S (by omega), cap_nw S (by omega), cap_nw S (by omega), cap_nw S (by omega), cap_nw S (by omega), cap_nw S (by omega), cap_nw S (by omega)]
  unfold Bd
  rw [e, wl_nw, wk_nw]
  constructor <;> omega
theorem upn_upn {α : Type} (f : Nat → α) (k : Nat) (u v : α) : upn (upn f k u) k v = upn f k v := by
  funext j
  unfold upn
  by_cases h : j = k
  · rw [if_pos h, if_pos h]
  · rw [if_neg h, if_neg h, if_neg h]
theorem VP.to {o q : Nat} {w : CS} {R : Nat → List Nat} {a b : PA} {cs : List CU} (V : VP o q w R a cs) (e : a = b) : VP o q w R b cs := e ▸ V
theorem s_toL2 {o q k j c s : Nat} {cs : List CU} {a : PA} (hk : k < 6) (hj : j < 6) (hkj : k ≠ j) (t u v : Int32) : ∀ (n i : Nat) (w : CS) (R : Nat → List Nat), (R j).length < n + i → i ≤ (R j).length → VP o q w R (a.1, a.2.1, (a.2.2.1, upn a.2.2.2 k (t, u, v, (a.2.2.2 j).2.2.2.take i))) cs → R k = (R j).take i → Bd o w c s →
    ∃ w' R', x_X3_takeOver_L2 (o + 10 + 3 * k) (o + 10 + 3 * j) n (nI i) w = some w' ∧ VP o q w' R' (a.1, a.2.1, (a.2.2.1, upn a.2.2.2 k (t, u, v, (a.2.2.2 j).2.2.2))) cs ∧ Bd o w' c s ∧ R' 6 = R 6 ∧ R' 7 = R 7 := by
  intro n
  induction n with
  | zero => intro i w R h1 h2; omega
  | succ n ih =>
    intro i w R h1 h2 V hR B
    have S := V.1
    obtain ⟨p1, p2, p3, p4⟩ := s_rows S hj
    obtain ⟨k1, k2, k3, k4⟩ := s_rows S hk
    have hvj := (V.2.2.2.1 j hj).2.2.2
    have hvj' : (R j).map (rwv w) = (a.2.2.2 j).2.2.2 := by
      have : (upn a.2.2.2 k (t, u, v, (a.2.2.2 j).2.2.2.take i) j).2.2.2 = (a.2.2.2 j).2.2.2 := by rw [upn_n _ _ (Ne.symm hkj)]
      rw [← this]; exact hvj
    rw [x_X3_takeOver_L2, if_pos p1, if_pos p2, p_size p3, bd_some]
    by_cases hi : i < (R j).length
    · have hx := s_rowkind S hj hi
      have e202 : wJ w 202 (o + 10 + 3 * k) = LL o k := by rw [(S.st k hk).2.2.1, LLr hk]
      rw [e202] at k3 k2
      rw [if_neg (nI_ge hi (by omega)), if_pos k1, p_get p3 hi, bd_some, if_pos (Or.inr hx), e202, if_pos k2]
      obtain ⟨w', e2, l1, l2⟩ := p_add S.wf k3 (Or.inl hx) (by rw [hR, List.length_take]; omega) (B.add (by omega))
      have hxs : R k ++ [(R j).getD i 0] = (R j).take (i + 1) := by
        rw [hR, List.take_succ_eq_append_getElem hi, getD_get hi]
      rw [hxs] at l1
      have hold := (S.rk j hj)
      have S' := S.list (by omega) l2 l1 (fun _ => ⟨by rw [List.length_take]; omega, fun x hx => hold.2 x (List.mem_of_mem_take hx)⟩) (fun q => by omega) (fun q => by omega)
      have V' := V.rows hk (S.eq (by omega) l2.1) S'
      rw [e2, b2_some, nI_1]
      have B' := B.list S (by omega) l2 l1
      have hj9 : (if j = k then (R j).take (i + 1) else R j) = R j := if_neg (Ne.symm hkj)
      have hrows : ((R j).take (i + 1)).map (rwv w') = (a.2.2.2 j).2.2.2.take (i + 1) := by
        rw [List.map_take]
        have := (V'.2.2.2.1 j hj).2.2.2
        have e9 : (if j = k then (R j).take (i + 1) else R j).map (rwv w') = (a.2.2.2 j).2.2.2 := by
          refine this.trans ?_
          show (upn (upn a.2.2.2 k _) k _ j).2.2.2 = _
          rw [upn_n _ _ (Ne.symm hkj), upn_n _ _ (Ne.symm hkj)]
        rw [hj9] at e9
        rw [e9]
      obtain ⟨w2, R2, f1, f2, f3, f4, f5⟩ := ih (i + 1) w' (fun x => if x = k then (R j).take (i + 1) else R x) (by show (if j = k then (R j).take (i + 1) else R j).length < _; rw [hj9]; omega) (by show _ ≤ (if j = k then (R j).take (i + 1) else R j).length; rw [hj9]; omega) (V'.to (by
        show (a.1, a.2.1, (a.2.2.1, upn (upn a.2.2.2 k (t, u, v, (a.2.2.2 j).2.2.2.take i)) k ((upn a.2.2.2 k (t, u, v, (a.2.2.2 j).2.2.2.take i) k).1, (upn a.2.2.2 k (t, u, v, (a.2.2.2 j).2.2.2.take i) k).2.1, (upn a.2.2.2 k (t, u, v, (a.2.2.2 j).2.2.2.take i) k).2.2.1, ((R j).take (i + 1)).map (rwv w')))) = _
        rw [upn_upn, upn_s, hrows])) (by show (if k = k then (R j).take (i + 1) else R k) = (if j = k then (R j).take (i + 1) else R j).take (i + 1); rw [if_pos rfl, hj9]) B'
      exact ⟨w2, R2, f1, f2, f3, f4.trans (if_neg (by omega)), f5.trans (if_neg (by omega))⟩
    · have e : i = (R j).length := by omega
      refine ⟨w, R, by rw [if_pos (nI_le (by omega) (by omega))], V.to ?_, B, rfl, rfl⟩
      have hl : (a.2.2.2 j).2.2.2.length = (R j).length := by rw [← hvj', List.length_map]
      rw [e, ← hl, List.take_length]
theorem s_toL1 {o k j n : Nat} {w : CS} {R : Nat → List Nat} (S : SV o w R) (hk : k < 6) (hj : j < 6) (hkj : k ≠ j) : x_X3_takeOver_L1 (o + 10 + 3 * k) (o + 10 + 3 * j) (n + 3) 0 w = some (sA (sA w (o + 11 + 3 * k) 0 (wA w (o + 11 + 3 * j) 0)) (o + 11 + 3 * k) 1 (wA w (o + 11 + 3 * j) 1)) := by
  have step : ∀ (m : Nat) (w : CS) (i : Nat), SV o w R → i < 2 → x_X3_takeOver_L1 (o + 10 + 3 * k) (o + 10 + 3 * j) (m + 1) (nI i) w = x_X3_takeOver_L1 (o + 10 + 3 * k) (o + 10 + 3 * j) m (nI (i + 1)) (sA w (o + 11 + 3 * k) i (wA w (o + 11 + 3 * j) i)) := by
    intro m w i S hi
    obtain ⟨a1, a2, a3, a4, a5⟩ := S.st k hk
    obtain ⟨b1, b2, b3, b4, b5⟩ := S.st j hj
    have hr : vR (nI i) 2 := nI_in hi (by omega)
    rw [x_X3_takeOver_L1, if_pos a1, a2, if_pos a4, a5, if_neg (nI_ge hi (by omega)), if_pos b1, b2, if_pos b4, b5, if_neg (nI_ge hi (by omega)), if_pos hr, if_pos hr, nI_clamp (by omega), bs_eq, nI_1]
  have last : ∀ (m : Nat) (w : CS), SV o w R → x_X3_takeOver_L1 (o + 10 + 3 * k) (o + 10 + 3 * j) (m + 1) (nI 2) w = some w := by
    intro m w S
    obtain ⟨a1, a2, a3, a4, a5⟩ := S.st k hk
    rw [x_X3_takeOver_L1, if_pos a1, a2, if_pos a4, a5, if_pos (nI_le (by omega) (by omega))]
  rw [show (0 : Int32) = nI 0 from rfl, step (n + 2) w 0 S (by omega), step (n + 1) _ 1 S.sA (by omega), last n _ S.sA.sA]
  have e : wA (sA w (o + 11 + 3 * k) 0 (wA w (o + 11 + 3 * j) 0)) (o + 11 + 3 * j) 1 = wA w (o + 11 + 3 * j) 1 := if_neg (by omega)
  rw [e]
theorem s_takeOver {o q k j c s : Nat} {w : CS} {R : Nat → List Nat} {a : PA} {cs : List CU} (V : VP o q w R a cs) (hk : k < 6) (hj : j < 6) (hkj : k ≠ j) (hb : isB (a.2.2.2 j).1) (B : Bd o w c s) :
    ∃ w' R', x_X3_takeOver (o + 10 + 3 * k) (o + 10 + 3 * j) w = some w' ∧ VP o q w' R' (a.1, a.2.1, (a.2.2.1, upn a.2.2.2 k (a.2.2.2 j))) cs ∧ Bd o w' c s ∧ R' 6 = R 6 ∧ R' 7 = R 7 := by
  have S := V.1
  obtain ⟨vj1, vj2, vj3, vj4⟩ := V.2.2.2.1 j hj
  have V1 := (V.s200 (v := (a.2.2.2 j).1) hk).ix (v := (a.2.2.2 j).2.1) (f := 0) hk (by omega)
  have V2 := V1.ix (v := (a.2.2.2 j).2.2.1) (f := 1) hk (by omega)
  have S2 := V2.1
  obtain ⟨k1, k2, k3, k4⟩ := s_rows S2 hk
  have e202 : ∀ w2 R2, SV o w2 R2 → wJ w2 202 (o + 10 + 3 * k) = LL o k := fun w2 R2 S2 => by rw [(S2.st k hk).2.2.1, LLr hk]
  rw [e202 _ _ S2] at k3 k2
  obtain ⟨w3, e3, l1, l2⟩ := p_clear S2.wf k3
  have S3 := S2.list (xs := []) (by omega) l2.1 l1 (fun _ => ⟨Nat.zero_le _, fun x hx => absurd hx List.not_mem_nil⟩) (fun q => by omega) (fun q => by omega)
  have V3 := V2.rows hk (S2.eq (by omega) l2.1.1) S3
  have B2 : Bd o (sA (sA (sI w 200 (o + 10 + 3 * k) (a.2.2.2 j).1) (o + 11 + 3 * k) 0 (a.2.2.2 j).2.1) (o + 11 + 3 * k) 1 (a.2.2.2 j).2.2.1) c s := B
  have B3 := B2.list S2 (by omega) l2.1 l1
  have hRj : (if j = k then ([] : List Nat) else R j) = R j := if_neg (Ne.symm hkj)
  obtain ⟨w4, R4, e4, V4, B4, r6, r7⟩ := s_toL2 (o := o) (q := q) (c := c) (s := s) (cs := cs) (a := a) hk hj hkj (a.2.2.2 j).1 (a.2.2.2 j).2.1 (a.2.2.2 j).2.2.1 FU 0 w3 (fun i => if i = k then [] else R i) (by have := (S.rk j hj).1; show (if j = k then ([] : List Nat) else R j).length < 1000 + 0; rw [hRj]; omega) (Nat.zero_le _) (V3.to (by
    show (a.1, a.2.1, (a.2.2.1, upn (upn (upn (upn a.2.2.2 k _) k _) k _) k _)) = _
    rw [upn_upn, upn_upn, upn_upn]
    simp only [upn_s]
    rfl)) (by show (if k = k then ([] : List Nat) else R k) = _; rw [if_pos rfl]; rfl) B3
  refine ⟨w4, R4, ?_, V4.to ?_, B4, r6.trans (if_neg (by omega)), r7.trans (if_neg (by omega))⟩
  · unfold x_X3_takeOver
    have hL1 := s_toL1 (n := 997) (S.sI (f := 200) (x := o + 10 + 3 * k) (v := wI w 200 (o + 10 + 3 * j)) (by omega)) hk hj hkj
    have hA : ∀ i, wA (sI w 200 (o + 10 + 3 * k) (wI w 200 (o + 10 + 3 * j))) (o + 11 + 3 * j) i = wA w (o + 11 + 3 * j) i := fun _ => rfl
    rw [hA, hA, vj2, vj3, vj1] at hL1
    rw [if_pos (S.st j hj).1, if_pos (S.st k hk).1, vj1, if_pos hb, bs_eq, show FU = 997 + 3 from rfl, hL1, bd_some, if_pos k1, e202 _ _ S2, if_pos k2, e3, bd_some]
    rw [show (0 : Int32) = nI 0 from rfl, show (997 + 3 : Nat) = FU from rfl, e4, bd_some]
  · show (a.1, a.2.1, (a.2.2.1, upn a.2.2.2 k ((a.2.2.2 j).1, (a.2.2.2 j).2.1, (a.2.2.2 j).2.2.1, (a.2.2.2 j).2.2.2))) = _
    rfl
