/-! ===== PURE: the class's memory shows an abstract store ===== -/
def txv (o : Nat) (w : CS) (x : Nat) : TX := (wJ w 80 x - (o + 6), wI w 82 x, wI w 81 x, wI w 83 x)
def rwv (w : CS) (x : Nat) : RW := (wI w 40 x, wI w 41 x, wI w 42 x, wI w 43 x)
def plc (n y : Int32) : Int64 := n.toInt64 * 4000000 + (rk y).toInt64
def cuv (o : Nat) (w : CS) (T : List Nat) (x : Nat) (c : CU) : Prop := c.1 < T.length ∧ wJ w 120 x = T.getD c.1 0 ∧ wJ w 121 x = o + 10 + 3 * c.2.1 ∧ wI w 122 x = c.2.2.1 ∧ wI w 123 x = (if c.2.2.2.1 = 1 ∨ c.2.2.2.1 = 3 then 1 else 0) ∧ wI w 124 x = (if c.2.2.2.1 < 2 ∨ c.2.2.1 = -1 then 0 else 1) ∧ wI w 125 x = c.2.2.2.2.1 ∧ wI w 126 x = c.2.2.2.2.2.2 ∧ wL w 127 x = plc c.2.2.2.2.2.1 c.2.2.2.2.2.2
def VG (o : Nat) (w : CS) (g : Int32 × Int32 × Int32) : Prop := wI w 245 o = g.1 ∧ wI w 246 o = g.2.1 ∧ wI w 247 o = g.2.2
def VB (o : Nat) (w : CS) (B : TQ) : Prop := ∀ j, j < 4 → wI w 160 (o + 6 + j) = (B j).1 ∧ wI w 161 (o + 6 + j) = (B j).2.1 ∧ wI w 162 (o + 6 + j) = (B j).2.2
def VS (o : Nat) (w : CS) (R : Nat → List Nat) (st : Nat → SA) : Prop := ∀ k, k < 6 → wI w 200 (o + 10 + 3 * k) = (st k).1 ∧ wA w (o + 11 + 3 * k) 0 = (st k).2.1 ∧ wA w (o + 11 + 3 * k) 1 = (st k).2.2.1 ∧ (R k).map (rwv w) = (st k).2.2.2
def VT (o : Nat) (w : CS) (R : Nat → List Nat) (ts : List TX) : Prop := (R 6).map (txv o w) = ts
def VQ (o : Nat) (w : CS) (R : Nat → List Nat) (cs : List CU) : Prop := (R 7).length = cs.length ∧ ∀ i, i < cs.length → cuv o w (R 6) ((R 7).getD i 0) (cuAt cs i)
def OQ (_ : Nat) (_ : CS) : Prop := True
/-- the parts that transactions and tabs touch -/
def VP (o q : Nat) (w : CS) (R : Nat → List Nat) (a : PA) (cs : List CU) : Prop := SV o w R ∧ VG o w a.1 ∧ VB o w a.2.1 ∧ VS o w R a.2.2.2 ∧ VT o w R a.2.2.1 ∧ VQ o w R cs ∧ OQ q w
abbrev VC (o q : Nat) (w : CS) (R : Nat → List Nat) (a : AS) : Prop := VP o q w R (a.1, a.2.1, a.2.2.1) a.2.2.2
/-- what is neither a list nor a list's array stays -/
def EQ (w w' : CS) : Prop := ∀ y k, wJ w 0 y = k + 1 → k + 1 ≠ 7 → k + 1 ≠ 12 → (∀ f, wI w' f y = wI w f y) ∧ (∀ i, wA w' y i = wA w y i) ∧ (∀ f, wJ w' f y = wJ w f y) ∧ (∀ f, wL w' f y = wL w f y)
theorem EQ.rf {w : CS} : EQ w w := fun _ _ _ _ _ => ⟨fun _ => rfl, fun _ => rfl, fun _ => rfl, fun _ => rfl⟩
theorem EQ.tr {w w1 w2 : CS} (h : EQ w w1) (h2 : EQ w1 w2) : EQ w w2 := by
  intro y k hk h7 h12
  obtain ⟨a1, a2, a3, a4⟩ := h y k hk h7 h12
  obtain ⟨b1, b2, b3, b4⟩ := h2 y k ((a3 0).trans hk) h7 h12
  exact ⟨fun f => (b1 f).trans (a1 f), fun i => (b2 i).trans (a2 i), fun f => (b3 f).trans (a3 f), fun f => (b4 f).trans (a4 f)⟩
theorem SV.eq {o j : Nat} {w w' : CS} {R : Nat → List Nat} (S : SV o w R) (hj : j < 8) (F : FR (fun y => y = LL o j ∨ y = wJ w 281 (LL o j)) w w') : EQ w w' := by
  intro y k hk h7 h12
  obtain ⟨a1, a2, a3, -, a5, -⟩ := S.whole hj F hk h7 h12
  exact ⟨a1, a2, a3, a5⟩
theorem EQ.nw {w : CS} {k l n : Nat} (hw : WF w) : EQ w (nw w k l n) := by
  intro y j hk h7 h12
  have hy := (hw.le hk).2
  refine ⟨fun f => ?_, fun i => ?_, fun f => ?_, fun f => ?_⟩
  · rw [wI_nw, if_neg (by omega)]
  · rw [wA_nw, if_neg (by omega)]
  · rw [wJ_nw, if_neg (by omega)]
  · rw [wL_nw, if_neg (by omega)]
theorem EQ.bump {w : CS} : EQ w (bump w) := fun _ _ _ _ _ => ⟨fun _ => rfl, fun _ => rfl, fun _ => rfl, fun _ => rfl⟩
theorem OQ.eq {q : Nat} {w w' : CS} (_ : OQ q w) (_ : EQ w w') : OQ q w' := trivial
theorem VG.eq {o : Nat} {w w' : CS} {g : Int32 × Int32 × Int32} (h : VG o w g) (hk : wJ w 0 o = 6) (E : EQ w w') : VG o w' g := by
  have e := (E o 5 hk (by omega) (by omega)).1
  exact ⟨(e _).trans h.1, (e _).trans h.2.1, (e _).trans h.2.2⟩
theorem VB.eq {o : Nat} {w w' : CS} {R : Nat → List Nat} {B : TQ} (h : VB o w B) (S : SV o w R) (E : EQ w w') : VB o w' B := by
  intro j hj
  have e := (E (o + 6 + j) 3 (S.tb j hj) (by omega) (by omega)).1
  obtain ⟨a1, a2, a3⟩ := h j hj
  exact ⟨(e _).trans a1, (e _).trans a2, (e _).trans a3⟩
theorem rwv_eq {w w' : CS} {x : Nat} (hk : wJ w 0 x = 1) (E : EQ w w') : rwv w' x = rwv w x := by
  have e := (E x 0 hk (by omega) (by omega)).1
  unfold rwv
  rw [e, e, e, e]
theorem txv_eq {o : Nat} {w w' : CS} {x : Nat} (hk : wJ w 0 x = 2) (E : EQ w w') : txv o w' x = txv o w x := by
  have e := E x 1 hk (by omega) (by omega)
  unfold txv
  rw [e.1, e.1, e.1, e.2.2.1]
theorem cuv_eq {o : Nat} {w w' : CS} {T : List Nat} {x : Nat} {c : CU} (hk : wJ w 0 x = 3) (E : EQ w w') (h : cuv o w T x c) : cuv o w' T x c := by
  have e := E x 2 hk (by omega) (by omega)
  unfold cuv
  rw [e.1, e.1, e.1, e.1, e.1, e.2.2.1, e.2.2.1, e.2.2.2]
  exact h
theorem getD_mem {xs : List Nat} {i : Nat} (h : i < xs.length) : xs.getD i 0 ∈ xs := by
  rw [List.getD_eq_getElem?_getD, List.getElem?_eq_getElem h]
  exact List.getElem_mem h
theorem VS.eq {o : Nat} {w w' : CS} {R : Nat → List Nat} {st : Nat → SA} (h : VS o w R st) (S : SV o w R) (E : EQ w w') : VS o w' R st := by
  intro k hk
  obtain ⟨a1, a2, a3, a4⟩ := h k hk
  obtain ⟨s1, s2, s3, s4, s5⟩ := S.st k hk
  have e := (E _ 4 s1 (by omega) (by omega)).1
  have e2 := (E _ 7 s4 (by omega) (by omega)).2.1
  refine ⟨(e _).trans a1, (e2 _).trans a2, (e2 _).trans a3, ?_⟩
  rw [← a4]
  exact List.map_congr_left (fun x hx => rwv_eq ((S.rk k hk).2 x hx) E)
theorem VT.eq {o : Nat} {w w' : CS} {R : Nat → List Nat} {ts : List TX} (h : VT o w R ts) (S : SV o w R) (E : EQ w w') : VT o w' R ts := by
  unfold VT at *
  rw [← h]
  exact List.map_congr_left (fun x hx => txv_eq (S.tk x hx).1 E)
theorem VQ.eq {o : Nat} {w w' : CS} {R : Nat → List Nat} {cs : List CU} (h : VQ o w R cs) (S : SV o w R) (E : EQ w w') : VQ o w' R cs := ⟨h.1, fun i hi => cuv_eq (S.ck _ (getD_mem (by rw [h.1]; exact hi))).1 E (h.2 i hi)⟩
theorem VP.eq {o q : Nat} {w w' : CS} {R : Nat → List Nat} {a : PA} {cs : List CU} (V : VP o q w R a cs) (S' : SV o w' R) (E : EQ w w') : VP o q w' R a cs := by
  obtain ⟨S, v1, v2, v3, v4, v5, v6⟩ := V
  exact ⟨S', v1.eq S.ko E, v2.eq S E, v3.eq S E, v4.eq S E, v5.eq S E, v6.eq E⟩
theorem VP.bump {o q : Nat} {w : CS} {R : Nat → List Nat} {a : PA} {cs : List CU} (V : VP o q w R a cs) : VP o q (bump w) R a cs := V.eq V.1.bump EQ.bump
theorem VP.nw {o q k l n : Nat} {w : CS} {R : Nat → List Nat} {a : PA} {cs : List CU} (V : VP o q w R a cs) : VP o q (nw w k l n) R a cs := V.eq V.1.new (EQ.nw V.1.wf)
theorem VG.cg {o : Nat} {w w' : CS} {g : Int32 × Int32 × Int32} (h : VG o w g) (e : ∀ f, 245 ≤ f → f ≤ 247 → wI w' f o = wI w f o) : VG o w' g := ⟨(e 245 (by omega) (by omega)).trans h.1, (e 246 (by omega) (by omega)).trans h.2.1, (e 247 (by omega) (by omega)).trans h.2.2⟩
theorem VB.cg {o : Nat} {w w' : CS} {B : TQ} (h : VB o w B) (e : ∀ j f, j < 4 → 160 ≤ f → f ≤ 162 → wI w' f (o + 6 + j) = wI w f (o + 6 + j)) : VB o w' B := fun j hj => ⟨(e j 160 hj (by omega) (by omega)).trans (h j hj).1, (e j 161 hj (by omega) (by omega)).trans (h j hj).2.1, (e j 162 hj (by omega) (by omega)).trans (h j hj).2.2⟩
theorem rwv_cg {w w' : CS} {xs : List Nat} (e : ∀ x f, x ∈ xs → 40 ≤ f → f ≤ 43 → wI w' f x = wI w f x) : xs.map (rwv w') = xs.map (rwv w) := List.map_congr_left (fun x hx => by unfold rwv; rw [e x 40 hx (by omega) (by omega), e x 41 hx (by omega) (by omega), e x 42 hx (by omega) (by omega), e x 43 hx (by omega) (by omega)])
theorem VS.cg {o : Nat} {w w' : CS} {R : Nat → List Nat} {st : Nat → SA} (h : VS o w R st) (e1 : ∀ k, k < 6 → wI w' 200 (o + 10 + 3 * k) = wI w 200 (o + 10 + 3 * k)) (e2 : ∀ k i, k < 6 → wA w' (o + 11 + 3 * k) i = wA w (o + 11 + 3 * k) i) (e3 : ∀ k x f, k < 6 → x ∈ R k → 40 ≤ f → f ≤ 43 → wI w' f x = wI w f x) : VS o w' R st := fun k hk => ⟨(e1 k hk).trans (h k hk).1, (e2 k 0 hk).trans (h k hk).2.1, (e2 k 1 hk).trans (h k hk).2.2.1, (rwv_cg (fun x f hx h1 h2 => e3 k x f hk hx h1 h2)).trans (h k hk).2.2.2⟩
theorem VT.cg {o : Nat} {w w' : CS} {R : Nat → List Nat} {ts : List TX} (h : VT o w R ts) (e : ∀ x f, x ∈ R 6 → 81 ≤ f → f ≤ 83 → wI w' f x = wI w f x) (e2 : ∀ x, x ∈ R 6 → wJ w' 80 x = wJ w 80 x) : VT o w' R ts := by
  unfold VT at *
  rw [← h]
  exact List.map_congr_left (fun x hx => by unfold txv; rw [e x 81 hx (by omega) (by omega), e x 82 hx (by omega) (by omega), e x 83 hx (by omega) (by omega), e2 x hx])
theorem cuv_cg {o : Nat} {w w' : CS} {T : List Nat} {x : Nat} {c : CU} (h : cuv o w T x c) (e : ∀ f, 122 ≤ f → f ≤ 126 → wI w' f x = wI w f x) (e2 : wJ w' 120 x = wJ w 120 x ∧ wJ w' 121 x = wJ w 121 x ∧ wL w' 127 x = wL w 127 x) : cuv o w' T x c := by
  obtain ⟨h1, h2, h3, h4, h5, h6, h7, h8, h9⟩ := h
  exact ⟨h1, e2.1.trans h2, e2.2.1.trans h3, (e 122 (by omega) (by omega)).trans h4, (e 123 (by omega) (by omega)).trans h5, (e 124 (by omega) (by omega)).trans h6, (e 125 (by omega) (by omega)).trans h7, (e 126 (by omega) (by omega)).trans h8, e2.2.2.trans h9⟩
theorem VQ.cg {o : Nat} {w w' : CS} {R : Nat → List Nat} {cs : List CU} (h : VQ o w R cs) (e : ∀ x f, x ∈ R 7 → 122 ≤ f → f ≤ 126 → wI w' f x = wI w f x) (e2 : ∀ x, x ∈ R 7 → wJ w' 120 x = wJ w 120 x ∧ wJ w' 121 x = wJ w 121 x ∧ wL w' 127 x = wL w 127 x) : VQ o w' R cs := by
  refine ⟨h.1, fun i hi => ?_⟩
  have hm := getD_mem (show i < (R 7).length by rw [h.1]; exact hi)
  exact cuv_cg (h.2 i hi) (fun f h1 h2 => e _ f hm h1 h2) (e2 _ hm)
theorem wI_off {w : CS} {f x p q : Nat} {v : Int32} (h : p ≠ f ∨ q ≠ x) : wI (sI w f x v) p q = wI w p q := if_neg (fun z => h.elim (fun h => h z.1) (fun h => h z.2))
theorem wI_on {w : CS} {f x : Nat} {v : Int32} : wI (sI w f x v) f x = v := if_pos ⟨rfl, rfl⟩
/-- a field of an object that no view knows yet -/
theorem VP.fresh {o q f x : Nat} {v : Int32} {w : CS} {R : Nat → List Nat} {a : PA} {cs : List CU} (V : VP o q w R a cs) (hf : f ≠ 282) (h1 : x ≠ o ∨ f < 245 ∨ 247 < f) (h2 : f < 160 ∨ 162 < f) (h3 : f ≠ 200) (h4 : (∀ k, k < 6 → x ∉ R k) ∨ f < 40 ∨ 43 < f) (h5 : x ∉ R 6 ∨ f < 81 ∨ 83 < f) (h6 : x ∉ R 7 ∨ f < 122 ∨ 126 < f) : VP o q (sI w f x v) R a cs := by
  obtain ⟨S, v1, v2, v3, v4, v5, v6⟩ := V
  refine ⟨S.sI hf, v1.cg (fun p a b => wI_off ?_), v2.cg (fun j p hj a b => wI_off ?_), v3.cg (fun k hk => wI_off ?_) (fun _ _ _ => rfl) (fun k y p hk hy a b => wI_off ?_), v4.cg (fun y p hy a b => wI_off ?_) (fun _ _ => rfl), v5.cg (fun y p hy a b => wI_off ?_) (fun _ _ => ⟨rfl, rfl, rfl⟩), v6⟩
  · rcases h1 with h | h
    · exact Or.inr (Ne.symm h)
    · exact Or.inl (by omega)
  · exact Or.inl (by omega)
  · exact Or.inl (Ne.symm h3)
  · rcases h4 with h | h
    · exact Or.inr (fun e => h k hk (e ▸ hy))
    · exact Or.inl (by omega)
  · rcases h5 with h | h
    · exact Or.inr (fun e => h (e ▸ hy))
    · exact Or.inl (by omega)
  · rcases h6 with h | h
    · exact Or.inr (fun e => h (e ▸ hy))
    · exact Or.inl (by omega)
/-! the views under a write of one of their own fields -/
theorem VP.g {o q f : Nat} {v : Int32} {w : CS} {R : Nat → List Nat} {a : PA} {cs : List CU} (V : VP o q w R a cs) (hf : f = 245 ∨ f = 246 ∨ f = 247) : VP o q (sI w f o v) R ((if f = 245 then v else a.1.1, if f = 246 then v else a.1.2.1, if f = 247 then v else a.1.2.2), a.2) cs := by
  obtain ⟨S, v1, v2, v3, v4, v5, v6⟩ := V
  refine ⟨S.sI (by omega), ?_, v2.cg (fun j p hj a b => wI_off (Or.inl (by omega))), v3.cg (fun k hk => wI_off (Or.inl (by omega))) (fun _ _ _ => rfl) (fun k y p hk hy a b => wI_off (Or.inl (by omega))), v4.cg (fun y p hy a b => wI_off (Or.inl (by omega))) (fun _ _ => rfl), v5.cg (fun y p hy a b => wI_off (Or.inl (by omega))) (fun _ _ => ⟨rfl, rfl, rfl⟩), v6⟩
  obtain ⟨z1, z2, z3⟩ := v1
  rcases hf with e | e | e <;> subst e
  · exact ⟨wI_on, (wI_off (Or.inl (by omega))).trans z2, (wI_off (Or.inl (by omega))).trans z3⟩
  · exact ⟨(wI_off (Or.inl (by omega))).trans z1, wI_on, (wI_off (Or.inl (by omega))).trans z3⟩
  · exact ⟨(wI_off (Or.inl (by omega))).trans z1, (wI_off (Or.inl (by omega))).trans z2, wI_on⟩
theorem VP.b {o q f j : Nat} {v : Int32} {w : CS} {R : Nat → List Nat} {a : PA} {cs : List CU} (V : VP o q w R a cs) (hj : j < 4) (hf : f = 160 ∨ f = 161 ∨ f = 162) : VP o q (sI w f (o + 6 + j) v) R (a.1, upn a.2.1 j (if f = 160 then v else (a.2.1 j).1, if f = 161 then v else (a.2.1 j).2.1, if f = 162 then v else (a.2.1 j).2.2), a.2.2) cs := by
  obtain ⟨S, v1, v2, v3, v4, v5, v6⟩ := V
  refine ⟨S.sI (by omega), v1.cg (fun p a b => wI_off (Or.inl (by omega))), ?_, v3.cg (fun k hk => wI_off (Or.inl (by omega))) (fun _ _ _ => rfl) (fun k y p hk hy a b => wI_off (Or.inl (by omega))), v4.cg (fun y p hy a b => wI_off (Or.inl (by omega))) (fun _ _ => rfl), v5.cg (fun y p hy a b => wI_off (Or.inl (by omega))) (fun _ _ => ⟨rfl, rfl, rfl⟩), v6⟩
  intro i hi
  obtain ⟨z1, z2, z3⟩ := v2 i hi
  show _ = (upn a.2.1 j _ i).1 ∧ _ = (upn a.2.1 j _ i).2.1 ∧ _ = (upn a.2.1 j _ i).2.2
  by_cases e : i = j
  · subst e
    rw [upn_s]
    rcases hf with e | e | e <;> subst e
    · exact ⟨wI_on, (wI_off (Or.inl (by omega))).trans z2, (wI_off (Or.inl (by omega))).trans z3⟩
    · exact ⟨(wI_off (Or.inl (by omega))).trans z1, wI_on, (wI_off (Or.inl (by omega))).trans z3⟩
    · exact ⟨(wI_off (Or.inl (by omega))).trans z1, (wI_off (Or.inl (by omega))).trans z2, wI_on⟩
  · rw [upn_n _ _ e]
    exact ⟨(wI_off (Or.inr (by omega))).trans z1, (wI_off (Or.inr (by omega))).trans z2, (wI_off (Or.inr (by omega))).trans z3⟩
theorem VP.s200 {o q k : Nat} {v : Int32} {w : CS} {R : Nat → List Nat} {a : PA} {cs : List CU} (V : VP o q w R a cs) (hk : k < 6) : VP o q (sI w 200 (o + 10 + 3 * k) v) R (a.1, a.2.1, (a.2.2.1, upn a.2.2.2 k (v, (a.2.2.2 k).2))) cs := by
  obtain ⟨S, v1, v2, v3, v4, v5, v6⟩ := V
  refine ⟨S.sI (by omega), v1.cg (fun p a b => wI_off (Or.inl (by omega))), v2.cg (fun j p hj a b => wI_off (Or.inl (by omega))), ?_, v4.cg (fun y p hy a b => wI_off (Or.inl (by omega))) (fun _ _ => rfl), v5.cg (fun y p hy a b => wI_off (Or.inl (by omega))) (fun _ _ => ⟨rfl, rfl, rfl⟩), v6⟩
  intro i hi
  obtain ⟨a1, a2, a3, a4⟩ := v3 i hi
  have hrows : (R i).map (rwv (sI w 200 (o + 10 + 3 * k) v)) = (R i).map (rwv w) := rwv_cg (fun y p hy a b => wI_off (Or.inl (by omega)))
  rw [hrows]
  show _ = (upn a.2.2.2 k _ i).1 ∧ _ = (upn a.2.2.2 k _ i).2.1 ∧ _ = (upn a.2.2.2 k _ i).2.2.1 ∧ _ = (upn a.2.2.2 k _ i).2.2.2
  by_cases e : i = k
  · subst e
    rw [upn_s]
    exact ⟨wI_on, a2, a3, a4⟩
  · rw [upn_n _ _ e]
    exact ⟨(wI_off (Or.inr (by omega))).trans a1, a2, a3, a4⟩
theorem VP.ix {o q k f : Nat} {v : Int32} {w : CS} {R : Nat → List Nat} {a : PA} {cs : List CU} (V : VP o q w R a cs) (hk : k < 6) (hf : f < 2) : VP o q (sA w (o + 11 + 3 * k) f v) R (a.1, a.2.1, (a.2.2.1, upn a.2.2.2 k (if f = 0 then ((a.2.2.2 k).1, v, (a.2.2.2 k).2.2) else ((a.2.2.2 k).1, (a.2.2.2 k).2.1, v, (a.2.2.2 k).2.2.2)))) cs := by
  obtain ⟨S, v1, v2, v3, v4, v5, v6⟩ := V
  refine ⟨S.sA, v1, v2, fun i hi => ?_, v4, v5, v6⟩
  obtain ⟨a1, a2, a3, a4⟩ := v3 i hi
  show _ = (upn a.2.2.2 k _ i).1 ∧ _ = (upn a.2.2.2 k _ i).2.1 ∧ _ = (upn a.2.2.2 k _ i).2.2.1 ∧ _ = (upn a.2.2.2 k _ i).2.2.2
  have on : wA (sA w (o + 11 + 3 * k) f v) (o + 11 + 3 * k) f = v := if_pos ⟨rfl, rfl⟩
  have off : ∀ x y, x ≠ o + 11 + 3 * k ∨ y ≠ f → wA (sA w (o + 11 + 3 * k) f v) x y = wA w x y := fun x y h => if_neg (fun z => h.elim (fun h => h z.1) (fun h => h z.2))
  by_cases e : i = k
  · subst e
    rw [upn_s]
    rcases (show f = 0 ∨ f = 1 by omega) with z | z <;> subst z
    · rw [if_pos rfl]
      exact ⟨a1, on, (off _ _ (Or.inr (by omega))).trans a3, a4⟩
    · rw [if_neg (by omega)]
      exact ⟨a1, (off _ _ (Or.inr (by omega))).trans a2, on, a4⟩
  · rw [upn_n _ _ e]
    exact ⟨a1, (off _ _ (Or.inl (by omega))).trans a2, (off _ _ (Or.inl (by omega))).trans a3, a4⟩
theorem nodup_getD {xs : List Nat} (h : xs.Nodup) {i j : Nat} (hi : i < xs.length) (hj : j < xs.length) (e : xs.getD i 0 = xs.getD j 0) : i = j := by
  rw [getD_get hi, getD_get hj] at e
  have P := List.pairwise_iff_getElem.mp h
  rcases Nat.lt_trichotomy i j with z | z | z
  · exact absurd e (P i j hi hj z)
  · exact z
  · exact absurd e.symm (P j i hj hi z)
theorem VT.at {o : Nat} {w : CS} {R : Nat → List Nat} {ts : List TX} (h : VT o w R ts) {i : Nat} (hi : i < ts.length) : i < (R 6).length ∧ txAt ts i = txv o w ((R 6).getD i 0) := by
  have hl : (R 6).length = ts.length := by rw [← h, List.length_map]
  refine ⟨by omega, ?_⟩
  have hi2 : i < (R 6).length := by omega
  unfold txAt
  rw [← h, List.getD_eq_getElem?_getD, List.getElem?_map, List.getElem?_eq_getElem hi2, getD_get hi2]; rfl
theorem VT.len {o : Nat} {w : CS} {R : Nat → List Nat} {ts : List TX} (h : VT o w R ts) : (R 6).length = ts.length := by rw [← h, List.length_map]
theorem txv_on {o x : Nat} {w : CS} {v : Int32} : txv o (sI w 83 x v) x = ((txv o w x).1, (txv o w x).2.1, (txv o w x).2.2.1, v) := by
  unfold txv
  rw [wI_off (p := 82) (q := x) (Or.inl (by omega)), wI_off (p := 81) (q := x) (Or.inl (by omega)), wI_on]; rfl
theorem txv_off {o x y : Nat} {w : CS} {v : Int32} (h : y ≠ x) : txv o (sI w 83 x v) y = txv o w y := by
  unfold txv
  rw [wI_off (p := 82) (q := y) (Or.inl (by omega)), wI_off (p := 81) (q := y) (Or.inl (by omega)), wI_off (p := 83) (q := y) (Or.inr h)]; rfl
theorem VP.phase {o q i : Nat} {v : Int32} {w : CS} {R : Nat → List Nat} {a : PA} {cs : List CU} (V : VP o q w R a cs) (hi : i < a.2.2.1.length) : VP o q (sI w 83 ((R 6).getD i 0) v) R (a.1, a.2.1, (setP a.2.2.1 i v, a.2.2.2)) cs := by
  obtain ⟨S, v1, v2, v3, v4, v5, v6⟩ := V
  have hl := v4.len
  refine ⟨S.sI (by omega), v1.cg (fun p a b => wI_off (Or.inl (by omega))), v2.cg (fun j p hj a b => wI_off (Or.inl (by omega))), v3.cg (fun k hk => wI_off (Or.inl (by omega))) (fun _ _ _ => rfl) (fun k y p hk hy a b => wI_off (Or.inl (by omega))), ?_, v5.cg (fun y p hy a b => wI_off (Or.inl (by omega))) (fun _ _ => ⟨rfl, rfl, rfl⟩), v6⟩
  unfold VT
  show _ = setP a.2.2.1 i v
  have hi2 : i < (R 6).length := by omega
  apply List.ext_getElem?
  intro j
  unfold setP
  by_cases hj : j = i
  · subst hj
    rw [List.getElem?_set_self hi, List.getElem?_map, List.getElem?_eq_getElem hi2]
    have e := (v4.at hi).2
    rw [e, getD_get hi2]
    exact congrArg some txv_on
  · rw [List.getElem?_set_ne (Ne.symm hj), ← v4, List.getElem?_map, List.getElem?_map]
    by_cases hj2 : j < (R 6).length
    · rw [List.getElem?_eq_getElem hj2]
      show some _ = some _
      have hne : (R 6)[j] ≠ (R 6).getD i 0 := fun e => hj (nodup_getD S.tn.1 hj2 hi2 (by rw [getD_get hj2]; exact e))
      exact congrArg some (txv_off hne)
    · rw [List.getElem?_eq_none (by omega)]; rfl
/-- the rows of a store change -/
theorem VP.rows {o q k : Nat} {w w' : CS} {R : Nat → List Nat} {xs : List Nat} {a : PA} {cs : List CU} (V : VP o q w R a cs) (hk : k < 6) (E : EQ w w') (S' : SV o w' (fun i => if i = k then xs else R i)) : VP o q w' (fun i => if i = k then xs else R i) (a.1, a.2.1, (a.2.2.1, upn a.2.2.2 k ((a.2.2.2 k).1, (a.2.2.2 k).2.1, (a.2.2.2 k).2.2.1, xs.map (rwv w')))) cs := by
  obtain ⟨S, v1, v2, v3, v4, v5, v6⟩ := V
  have h6 : (if (6 : Nat) = k then xs else R 6) = R 6 := if_neg (by omega)
  have h7 : (if (7 : Nat) = k then xs else R 7) = R 7 := if_neg (by omega)
  refine ⟨S', v1.eq S.ko E, v2.eq S E, fun i hi => ?_, ?_, ?_, v6.eq E⟩
  · have hE := (v3.eq S E) i hi
    show _ = (upn a.2.2.2 k _ i).1 ∧ _ = (upn a.2.2.2 k _ i).2.1 ∧ _ = (upn a.2.2.2 k _ i).2.2.1 ∧ (if i = k then xs else R i).map (rwv w') = (upn a.2.2.2 k _ i).2.2.2
    by_cases e : i = k
    · subst e
      rw [upn_s, if_pos rfl]
      exact ⟨hE.1, hE.2.1, hE.2.2.1, rfl⟩
    · rw [upn_n _ _ e, if_neg e]
      exact hE
  · have := v4.eq S E
    unfold VT at *
    show (if (6 : Nat) = k then xs else R 6).map (txv o w') = _
    rw [h6]; exact this
  · have := v5.eq S E
    unfold VQ at *
    show (if (7 : Nat) = k then xs else R 7).length = _ ∧ ∀ i, i < cs.length → cuv o w' (if (6 : Nat) = k then xs else R 6) ((if (7 : Nat) = k then xs else R 7).getD i 0) (cuAt cs i)
    rw [h6, h7]; exact this
