/-! ===== PURE: the class's step ===== -/
theorem VP.cset {o q i : Nat} {w w' : CS} {R : Nat → List Nat} {a : PA} {cs : List CU} {c : CU} (V : VP o q w R a cs) (hi : i < cs.length) (hS : SV o w' R) (hI : ∀ f y, ¬ ((f = 125 ∨ f = 126) ∧ y = (R 7).getD i 0) → wI w' f y = wI w f y) (hA : ∀ y j, wA w' y j = wA w y j) (hJ : ∀ f y, wJ w' f y = wJ w f y) (hL : ∀ f y, ¬ (f = 127 ∧ y = (R 7).getD i 0) → wL w' f y = wL w f y) (hc : cuv o w' (R 6) ((R 7).getD i 0) c) : VP o q w' R a (cs.set i c) := by
  obtain ⟨S, v1, v2, v3, v4, v5, v6⟩ := V
  have hl := v5.1
  have nI' : ∀ f y, f < 125 ∨ 126 < f → wI w' f y = wI w f y := fun f y h => hI f y (fun z => by omega)
  refine ⟨hS, v1.cg (fun p h1 h2 => nI' p _ (by omega)), v2.cg (fun j p hj h1 h2 => nI' p _ (by omega)), v3.cg (fun k hk => nI' 200 _ (by omega)) (fun k j _ => hA _ _) (fun k y p hk hy h1 h2 => nI' p _ (by omega)), v4.cg (fun y p hy h1 h2 => nI' p _ (by omega)) (fun y _ => hJ _ _), ⟨by rw [List.length_set]; exact hl, fun j hj => ?_⟩, trivial⟩
  rw [List.length_set] at hj
  rw [cuAt_set c hi j]
  by_cases e : j = i
  · subst e; rw [if_pos rfl]; exact hc
  · rw [if_neg e]
    have hne : (R 7).getD j 0 ≠ (R 7).getD i 0 := fun z => e (nodup_getD S.cn.1 (by omega) (by omega) z)
    refine cuv_cg (v5.2 j hj) (fun f h1 h2 => hI f _ (fun z => hne z.2)) ⟨hJ _ _, hJ _ _, hL _ _ (fun z => hne z.2)⟩
theorem plR_plc {f : Int32} {r : RW} (h : ¬ entR f r = -1) : plR f r = plc (entR f r) r.1 := by
  unfold plR plc
  by_cases hf : f = -1
  · have e : entR f r = 0 := if_pos hf
    rw [if_pos hf, e, show (0 : Int32).toInt64 = 0 from rfl, Int64.zero_mul, Int64.zero_add]
  · have e : entR f r = rNum f r := if_neg hf
    rw [e] at h
    rw [if_neg hf, if_neg h, e]
theorem nextR_mem {c : CU} {xs : List RW} {r : RW} (h : nextR c xs = some r) : r ∈ xs ∧ behR c r = true := by
  have key : ∀ (ys : List RW) (b : Option RW), ys.foldl (bestF (behR c) (sooR c)) b = some r → b = some r ∨ (r ∈ ys ∧ behR c r = true) := by
    intro ys
    induction ys with
    | nil => intro b hb; exact Or.inl hb
    | cons y ys ih =>
      intro b hb
      rw [List.foldl_cons] at hb
      rcases ih _ hb with z | z
      · by_cases hp : behR c y = true
        · cases b with
          | none => rw [bF_n hp] at z; cases z; exact Or.inr ⟨List.mem_cons_self, hp⟩
          | some q =>
            by_cases hs : sooR c y q = true
            · rw [bF_s hp hs] at z; cases z; exact Or.inr ⟨List.mem_cons_self, hp⟩
            · rw [bF_o hs] at z; exact Or.inl z
        · rw [bF_z hp] at z; exact Or.inl z
      · exact Or.inr ⟨List.mem_cons_of_mem _ z.1, z.2⟩
  rcases key xs none h with z | z
  · cases z
  · exact z
theorem beh_ent {c : CU} {r : RW} (h : behR c r = true) : ¬ entR c.2.2.1 r = -1 := by
  intro z
  unfold behR at h
  rw [if_pos z] at h
  cases h
theorem c_step {o q c s : Nat} {w : CS} {R : Nat → List Nat} {a : AS} (V : VC o q w R a) (I : IV a) (B : Bd o w (c + 2) (s + 10)) (ci : Int32) : CO (x_X6_step o ci w) o q c s (steA ci a) := by
  have hnc := I.2.2.2.1
  have RE := B.re2
  unfold x_X6_step steA
  rw [if_pos V.1.ko, c_cursorAt V hnc RE]
  by_cases h : oT ci a.2.2.2.length
  · rw [if_pos h, if_pos h, bx1_inl]; exact V.f B (by decide)
  · obtain ⟨i, hi, rfl, ei⟩ := oT_at h (by omega)
    have hl7 : (R 7).length = a.2.2.2.length := V.2.2.2.2.2.1.1
    rw [if_neg h, if_neg h, bx1_inr, ei]
    have hcu := V.2.2.2.2.2.1.2 i hi
    have hck := I.2.2.2.2 _ (cuAt_mem hi)
    have hkx := (V.1.ck _ (getD_mem (show i < (R 7).length by omega))).1
    obtain ⟨v, ev, hv, ov⟩ := c_next V I hi
    show CO _ o q c s (if ¬ (txAt a.2.2.1.1 (cuAt a.2.2.2 i).1).2.2.2 = 1 ∨ (a.2.2.1.2 (cuAt a.2.2.2 i).2.1).1 = 0 ∨ (cuAt a.2.2.2 i).2.2.2.2.1 = 2 then (3, 0, a) else (match nextR (cuAt a.2.2.2 i) (a.2.2.1.2 (cuAt a.2.2.2 i).2.1).2.2.2 with
      | none => (0, -1, setC a i ((cuAt a.2.2.2 i).1, (cuAt a.2.2.2 i).2.1, (cuAt a.2.2.2 i).2.2.1, (cuAt a.2.2.2 i).2.2.2.1, 2, (cuAt a.2.2.2 i).2.2.2.2.2))
      | some r => (0, r.1, setC a i ((cuAt a.2.2.2 i).1, (cuAt a.2.2.2 i).2.1, (cuAt a.2.2.2 i).2.2.1, (cuAt a.2.2.2 i).2.2.2.1, 1, entR (cuAt a.2.2.2 i).2.2.1 r, r.1))))
    generalize hcc : cuAt a.2.2.2 i = cu at *
    have hcu2 := hcu
    obtain ⟨z1, z2, z3, z4, z5, z6, z7, z8, z9⟩ := hcu
    have hlt : (R 6).length = lenT a := V.2.2.2.2.1.len
    have hti : cu.1 < lenT a := by omega
    obtain ⟨k1, k2, k3, k4, k5⟩ := c_tx V hti
    have hk3 := hck.2.1
    have hk6 : cu.2.1 < 6 := by omega
    rw [if_pos hkx, z2, s_requireRunning RE k1, k4, z3]
    by_cases p1 : (txAt a.2.2.1.1 cu.1).2.2.2 = 1
    · rw [if_pos p1, bx1_inr, if_pos (V.1.st _ hk6).1, (V.2.2.2.1 _ hk6).1, z7]
      by_cases p2 : (a.2.2.1.2 cu.2.1).1 = 0
      · rw [if_pos p2, l0_inl, if_pos RE, if_pos (Or.inr (Or.inl p2))]; exact V.f B (by decide)
      · by_cases p3 : cu.2.2.2.2.1 = 2
        · rw [if_neg p2, if_pos p3, l0_inl, if_pos RE, if_pos (Or.inr (Or.inr p3))]; exact V.f B (by decide)
        · rw [if_neg p2, if_neg p3, ev, bd_some, if_neg (show ¬ (¬ (txAt a.2.2.1.1 cu.1).2.2.2 = 1 ∨ (a.2.2.1.2 cu.2.1).1 = 0 ∨ cu.2.2.2.2.1 = 2) from fun z => z.elim (fun z => z p1) (fun z => z.elim p2 p3))]
          rcases opt_cases ov with ⟨v0, en⟩ | ⟨v0, en⟩
          · have hm : x_X0_moveTo ((R 7).getD i 0) v w = some (sI w 125 ((R 7).getD i 0) 2) := by
              unfold x_X0_moveTo
              rw [if_pos v0, if_pos hkx, bs_eq, bd_some]
            rw [hm, bd_some, if_pos v0, bd_some, l0_inr, en]
            refine ⟨_, R, VP.cset V hi (V.1.sI (by omega)) (fun f y hy => wI_off (by
              by_cases z : f = 125
              · exact Or.inr (fun u => hy ⟨Or.inl z, u⟩)
              · exact Or.inl z)) (fun _ _ => rfl) (fun _ _ => rfl) (fun _ _ _ => rfl) ⟨z1, z2, z3, ?_, ?_, ?_, wI_on, ?_, z9⟩, B.mono (c' := c) (s' := s) (by omega) (by omega), Or.inl ⟨rfl, rfl⟩⟩
            · rw [wI_off (Or.inl (by omega))]; exact z4
            · rw [wI_off (p := 123) (Or.inl (by omega))]; exact z5
            · rw [wI_off (p := 124) (Or.inl (by omega))]; exact z6
            · rw [wI_off (Or.inl (by omega))]; exact z8
          · have hvm : v ∈ R cu.2.1 := hv.elim (fun z => absurd z v0) id
            have hvk := (V.1.rk cu.2.1 hk6).2 v hvm
            have hnm := nextR_mem en
            have hent := beh_ent hnm.2
            have e122 : wI (sI (sI w 125 ((R 7).getD i 0) 1) 126 ((R 7).getD i 0) (wI w 40 v)) 122 ((R 7).getD i 0) = cu.2.2.1 := by
              rw [wI_off (Or.inl (by omega)), wI_off (Or.inl (by omega))]; exact z4
            have e40 : wI (sI w 125 ((R 7).getD i 0) 1) 40 v = wI w 40 v := wI_off (Or.inl (by omega))
            have hkv2 : wJ (sI (sI w 125 ((R 7).getD i 0) 1) 126 ((R 7).getD i 0) (wI w 40 v)) 0 v = 1 := hvk
            have hrv : rwv (sI (sI w 125 ((R 7).getD i 0) 1) 126 ((R 7).getD i 0) (wI w 40 v)) v = rwv w v := by
              unfold rwv
              simp only [wI_off (w := w) (f := 125) (x := (R 7).getD i 0) (v := 1) (Or.inl (show (40 : Nat) ≠ 125 by omega)), wI_off (w := w) (f := 125) (x := (R 7).getD i 0) (v := 1) (Or.inl (show (41 : Nat) ≠ 125 by omega)), wI_off (w := w) (f := 125) (x := (R 7).getD i 0) (v := 1) (Or.inl (show (42 : Nat) ≠ 125 by omega)), wI_off (w := w) (f := 125) (x := (R 7).getD i 0) (v := 1) (Or.inl (show (43 : Nat) ≠ 125 by omega)), wI_off (f := 126) (Or.inl (show (40 : Nat) ≠ 126 by omega)), wI_off (f := 126) (Or.inl (show (41 : Nat) ≠ 126 by omega)), wI_off (f := 126) (Or.inl (show (42 : Nat) ≠ 126 by omega)), wI_off (f := 126) (Or.inl (show (43 : Nat) ≠ 126 by omega))]
            have hm : x_X0_moveTo ((R 7).getD i 0) v w = some (sL (sI (sI w 125 ((R 7).getD i 0) 1) 126 ((R 7).getD i 0) (wI w 40 v)) 127 ((R 7).getD i 0) (plR cu.2.2.1 (rwv w v))) := by
              unfold x_X0_moveTo
              rw [if_neg v0, if_pos hkx, bs_eq, if_pos (show wJ (sI w 125 ((R 7).getD i 0) 1) 0 v = 1 from hvk), if_pos (show wJ (sI w 125 ((R 7).getD i 0) 1) 0 ((R 7).getD i 0) = 3 from hkx), e40, bs_eq, if_pos (show wJ (sI (sI w 125 ((R 7).getD i 0) 1) 126 ((R 7).getD i 0) (wI w 40 v)) 0 ((R 7).getD i 0) = 3 from hkx), if_pos hkv2, e122, s_place hkv2, hrv, bd_some, bs_eq, bd_some]
            have e40' : wI (sL (sI (sI w 125 ((R 7).getD i 0) 1) 126 ((R 7).getD i 0) (wI w 40 v)) 127 ((R 7).getD i 0) (plR cu.2.2.1 (rwv w v))) 40 v = (rwv w v).1 := by
              show wI (sI (sI w 125 ((R 7).getD i 0) 1) 126 ((R 7).getD i 0) (wI w 40 v)) 40 v = wI w 40 v
              rw [wI_off (Or.inl (by omega)), wI_off (Or.inl (by omega))]
            have hwv : ∀ f, wI (sL (sI (sI w 125 ((R 7).getD i 0) 1) 126 ((R 7).getD i 0) (wI w 40 v)) 127 ((R 7).getD i 0) (plR cu.2.2.1 (rwv w v))) f ((R 7).getD i 0) = wI (sI (sI w 125 ((R 7).getD i 0) 1) 126 ((R 7).getD i 0) (wI w 40 v)) f ((R 7).getD i 0) := fun _ => rfl
            rw [hm, bd_some, if_neg v0, if_pos (show wJ (sL (sI (sI w 125 ((R 7).getD i 0) 1) 126 ((R 7).getD i 0) (wI w 40 v)) 127 ((R 7).getD i 0) (plR cu.2.2.1 (rwv w v))) 0 v = 1 from hvk), e40', bd_some, l0_inr, en]
            refine ⟨_, R, VP.cset V hi ((V.1.sI (by omega)).sI (by omega)).sL (fun f y hy => ?_) (fun _ _ => rfl) (fun _ _ => rfl) (fun f y hy => ?_) ⟨z1, z2, z3, ?_, ?_, ?_, ?_, ?_, ?_⟩, B.mono (c' := c) (s' := s) (by omega) (by omega), Or.inl ⟨rfl, rfl⟩⟩
            · show wI (sI (sI w 125 ((R 7).getD i 0) 1) 126 ((R 7).getD i 0) (wI w 40 v)) f y = wI w f y
              rw [wI_off (by
                by_cases z : f = 126
                · exact Or.inr (fun u => hy ⟨Or.inr z, u⟩)
                · exact Or.inl z), wI_off (by
                by_cases z : f = 125
                · exact Or.inr (fun u => hy ⟨Or.inl z, u⟩)
                · exact Or.inl z)]
            · rw [wL_sL, if_neg hy]; rfl
            · exact e122
            · rw [hwv, wI_off (p := 123) (Or.inl (by omega)), wI_off (p := 123) (Or.inl (by omega))]; exact z5
            · rw [hwv, wI_off (p := 124) (Or.inl (by omega)), wI_off (p := 124) (Or.inl (by omega))]; exact z6
            · rw [hwv, wI_off (p := 125) (Or.inl (by omega))]; exact wI_on
            · rw [hwv]; exact wI_on
            · rw [wL_sL, if_pos ⟨rfl, rfl⟩]; exact plR_plc hent
    · rw [if_neg p1, bx1_inl, if_pos (Or.inl p1)]; exact V.f B (by decide)
theorem c_version {o q : Nat} {w : CS} {R : Nat → List Nat} {a : AS} (V : VC o q w R a) : x_X6_version o w = some a.1.1 := by
  unfold x_X6_version
  rw [if_pos V.1.ko, V.2.1.1]
theorem c_upgr {o q : Nat} {w : CS} {R : Nat → List Nat} {a : AS} (V : VC o q w R a) : x_X6_upgrade o w = some a.1.2.1 := by
  unfold x_X6_upgrade
  rw [if_pos V.1.ko, V.2.1.2.1]
