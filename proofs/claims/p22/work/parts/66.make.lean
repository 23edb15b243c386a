/-! ===== PURE: the class's calls: stores, indexes, transactions and cursors made ===== -/
theorem c_makeStore {o q c s : Nat} {w : CS} {R : Nat → List Nat} {a : AS} (V : VC o q w R a) (I : IV a) (B : Bd o w (c + 2) (s + 10)) (t sn : Int32) : CV (x_X6_makeStore o t sn w) o q c s (mkSA t sn a) := by
  have hn : lenT a ≤ 60 := I.2.2.1.1.1
  have RE := B.re2
  unfold x_X6_makeStore mkSA
  rw [if_pos V.1.ko, c_transactionAt V hn RE]
  by_cases h : oX a t
  · rw [if_pos h, if_pos h, bx1_inl]; exact V.fv B (by decide)
  · rw [if_neg h, if_neg h, bx1_inr]
    by_cases h2 : oT sn 3
    · rw [if_pos h2]
      by_cases h3 : sn < 0
      · rw [if_pos h3, l0_inl, if_pos RE]; exact V.fv B (by decide)
      · have h4 : ¬ sn < nI 3 := Int32.not_lt.mpr (h2.elim (fun z => absurd z h3) id)
        rw [if_neg h3, V.1.fo.2.1, if_pos V.1.sa.1, V.1.sa.2.1, if_neg h4, l0_inl, if_pos RE]; exact V.fv B (by decide)
    · obtain ⟨j, hj, rfl, ej⟩ := oT_at h2 (by omega)
      have hr : vR (nI j) 3 := nI_in hj (by omega)
      have hb : wB w (o + 2) (nI j).toNatClampNeg = o + 10 + 3 * j := by rw [ej]; exact V.1.sa.2.2 j hj
      have est : stA a (nI j) = a.2.2.1.2 j := by unfold stA; rw [ej]
      rw [if_neg h2, if_neg (nI_pos (by omega)), V.1.fo.2.1, if_pos V.1.sa.1, V.1.sa.2.1, if_pos (nI_lt hj (by omega)), c_upgrade V RE, est]
      by_cases h5 : ¬ t = a.1.2.1
      · rw [if_pos h5, if_pos h5, bx1_inl, l0_inr]; exact V.fv B (by decide)
      · rw [if_neg h5, if_neg h5, bx1_inr, if_pos hr, hb, if_pos (V.1.st j (by omega)).1, (V.2.2.2.1 j (by omega)).1]
        by_cases h6 : (a.2.2.1.2 j).1 = 0
        · rw [if_pos h6, if_pos isB1, bs_eq, l0_inr, if_neg (fun z => z h6)]
          refine ⟨_, R, VP.to (VP.s200 (v := 1) V (show j < 6 by omega)) ?_, B.mono (c' := c) (s' := s) (by omega) (by omega), Or.inl ⟨rfl, rfl⟩⟩
          unfold setS
          rw [ej]
        · rw [if_neg h6, if_pos RE, l0_inr, if_pos h6]; exact V.fv B (by decide)
theorem c_deleteStore {o q c s : Nat} {w : CS} {R : Nat → List Nat} {a : AS} (V : VC o q w R a) (I : IV a) (B : Bd o w (c + 2) (s + 10)) (t sn : Int32) : CO (x_X6_deleteStore o t sn w) o q c s (delA t sn a) := by
  have hn : lenT a ≤ 60 := I.2.2.1.1.1
  have RE := B.re2
  unfold x_X6_deleteStore delA
  rw [if_pos V.1.ko, c_transactionAt V hn RE]
  by_cases h : oX a t
  · rw [if_pos h, if_pos h, bx1_inl]; exact V.f B (by decide)
  · rw [if_neg h, if_neg h, bx1_inr, c_storeAt V RE]
    by_cases h2 : noS a sn
    · rw [if_pos h2, if_pos h2, bx1_inl]; exact V.f B (by decide)
    · obtain ⟨j, hj, rfl, ej⟩ := oT_at (fun q => h2 (Or.inl q)) (by omega)
      have est : stA a (nI j) = a.2.2.1.2 j := by unfold stA; rw [ej]
      rw [if_neg h2, if_neg h2, bx1_inr, c_upgrade V RE, ej, est]
      by_cases h5 : ¬ t = a.1.2.1
      · rw [if_pos h5, if_pos h5, bx1_inl]; exact V.f B (by decide)
      · have hj6 : j < 6 := by omega
        obtain ⟨w1, e, S2, L⟩ := s_wipe V.1 hj6
        have V1 := VP.s200 (v := 0) V hj6
        have S1 : SV o w1 (fun i => if i = j then [] else R i) := S2.keep S2.wf (Nat.le_refl _) (fun _ _ _ => rfl) (fun _ _ _ => rfl) (fun _ _ _ => rfl)
        have E := V1.1.eq (show j < 8 by omega) L.1
        have V2 := VP.rows V1 hj6 E S1
        have V3 := VP.ix (v := 0) (f := 1) (VP.ix (v := 0) (f := 0) V2 hj6 (by omega)) hj6 (by omega)
        have hlen : (R j).length = (a.2.2.1.2 j).2.2.2.length := by rw [← c_rows V hj6, List.length_map]
        have hB : Bd o (sA (sA w1 (o + 11 + 3 * j) 0 0) (o + 11 + 3 * j) 1 0) c s := by
          obtain ⟨b1, b2⟩ := B
          have hp : pot o (sA (sA w1 (o + 11 + 3 * j) 0 0) (o + 11 + 3 * j) 1 0) = pot o w := by
            have e9 : ∀ n, n < 8 → cap w1 (LL o n) = cap w (LL o n) := by
              intro n hn9
              by_cases z : n = j
              · rw [z]; exact L.2.1
              · exact V1.1.capO (by omega) L.1 hn9 z
            show pot o w1 = pot o w
            unfold pot
            rw [e9 0 (by omega), e9 1 (by omega), e9 2 (by omega), e9 3 (by omega), e9 4 (by omega), e9 5 (by omega), e9 6 (by omega), e9 7 (by omega)]
          have l1 : wl (sA (sA w1 (o + 11 + 3 * j) 0 0) (o + 11 + 3 * j) 1 0) = wl w := L.2.2.2.2.1
          have l2 : wk (sA (sA w1 (o + 11 + 3 * j) 0 0) (o + 11 + 3 * j) 1 0) = wk w := L.2.2.2.2.2
          unfold Bd
          rw [hp, l1, l2]
          constructor <;> omega
        rw [if_neg h5, if_neg h5, bx1_inr, if_pos (V.1.st j hj6).1, s_size V.1 hj6, bd_some, e, bd_some, hlen]
        refine ⟨_, (fun i => if i = j then [] else R i), VP.to V3 ?_, hB, Or.inl ⟨rfl, rfl⟩⟩
        unfold setS
        rw [ej]
        simp only [upn_upn, upn_s]
        rfl
theorem c_makeIndex {o q c s : Nat} {w : CS} {R : Nat → List Nat} {a : AS} (V : VC o q w R a) (I : IV a) (B : Bd o w (c + 2) (s + 10)) (t sn f u : Int32) : CV (x_X6_makeIndex o t sn f u w) o q c s (mkIA t sn f u a) := by
  have hn : lenT a ≤ 60 := I.2.2.1.1.1
  have RE := B.re2
  unfold x_X6_makeIndex mkIA
  rw [if_pos V.1.ko, c_transactionAt V hn RE]
  by_cases h : oX a t
  · rw [if_pos h, if_pos h, bx1_inl]; exact V.fv B (by decide)
  · rw [if_neg h, if_neg h, bx1_inr, c_storeAt V RE]
    by_cases h2 : noS a sn
    · rw [if_pos h2, if_pos h2, bx1_inl]; exact V.fv B (by decide)
    · obtain ⟨j, hj, rfl, ej⟩ := oT_at (fun q => h2 (Or.inl q)) (by omega)
      have hj6 : j < 6 := by omega
      have est : stA a (nI j) = a.2.2.1.2 j := by unfold stA; rw [ej]
      rw [if_neg h2, if_neg h2, bx1_inr, ej, est]
      by_cases h3 : oT f 2
      · rw [if_pos h3]
        by_cases h4 : f < 0
        · rw [if_pos h4, l0_inl, if_pos RE]; exact V.fv B (by decide)
        · rw [if_neg h4, if_neg (show ¬ f < 2 from Int32.not_lt.mpr (h3.elim (fun z => absurd z h4) id)), l0_inl, if_pos RE]; exact V.fv B (by decide)
      · obtain ⟨x, hx, rfl, ex⟩ := oT_at h3 (by omega)
        rw [if_neg h3, if_neg (nI_pos (by omega)), if_pos (show nI x < 2 from nI_lt (b := 2) hx (by omega)), c_upgrade V RE]
        by_cases h5 : ¬ t = a.1.2.1
        · rw [if_pos h5, if_pos h5, bx1_inl, l0_inr]; exact V.fv B (by decide)
        · have hix : wA w (o + 11 + 3 * j) x = sIx x (a.2.2.1.2 j) := by
            obtain ⟨v1, v2, v3, v4⟩ := V.2.2.2.1 j hj6
            unfold sIx
            rcases (show x = 0 ∨ x = 1 by omega) with z | z <;> subst z
            · exact v2
            · exact v3
          have hd : (∃ z ∈ R j, tkn w (R j) (nI x) z) ↔ dblR (a.2.2.1.2 j).2.2.2 (nI x) := by rw [c_dbl, c_rows V hj6]
          rw [if_neg h5, if_neg h5, bx1_inr, if_pos (V.1.st j hj6).1, s_hasIndex V.1 hj6 hx, hix, bd_some, s_hasDoubles V.1 hj6, s_addIndex V.1 hj6 hx, ex]
          by_cases h6 : sIx x (a.2.2.1.2 j) = 0
          · by_cases h7 : ¬ u = 0 ∧ dblR (a.2.2.1.2 j).2.2.2 (nI x)
            · rw [if_pos h6, if_pos q00, if_neg h7.1, bd_some, if_pos (hd.mpr h7.2), if_neg q10, l0_inr, l0_inl, if_pos RE, l0_inr, if_pos (Or.inr h7)]
              exact V.fv B (by decide)
            · have e7 : ∀ (X : Option (((Unit ⊕ Unit) ⊕ ((Nat × CS) ⊕ CS)))), True := fun _ => trivial
              have e8 : (if u = 0 then some (.inl ()) else bd (some (if ∃ z ∈ R j, tkn w (R j) (nI x) z then (1 : Int32) else 0)) (fun v21 => if v21 = 0 then some (.inl ()) else some (.inr (.inl ()))) : Option (Unit ⊕ (Unit ⊕ (Unit ⊕ ((Nat × CS) ⊕ CS))))) = some (.inl ()) := by
                by_cases hu : u = 0
                · rw [if_pos hu]
                · rw [if_neg hu, bd_some, if_neg (fun z => h7 ⟨hu, hd.mp z⟩), if_pos q00]
              rw [if_pos h6, if_pos q00, e8, l0_inl, bd_some, l0_inr, l0_inr, if_neg (show ¬ (¬ sIx x (a.2.2.1.2 j) = 0 ∨ (¬ u = 0 ∧ dblR (a.2.2.1.2 j).2.2.2 (nI x))) from fun z => z.elim (fun z => z h6) h7)]
              refine ⟨_, R, VP.to (VP.ix (v := if u = 0 then 1 else 2) V hj6 hx) ?_, B.mono (c' := c) (s' := s) (by omega) (by omega), Or.inl ⟨rfl, rfl⟩⟩
              unfold setS
              rw [ej]
              rcases (show x = 0 ∨ x = 1 by omega) with z | z <;> subst z
              · rw [if_pos (show nI 0 = 0 from rfl)]; rfl
              · rw [if_neg (show ¬ nI 1 = 0 by decide)]; rfl
          · rw [if_neg h6, if_neg q10, l0_inl, if_pos RE, l0_inr, if_pos (Or.inl h6)]
            exact V.fv B (by decide)
theorem c_there {o q : Nat} {w : CS} {R : Nat → List Nat} {a : AS} (V : VC o q w R a) (sc : Int32) : ∀ (n i : Nat), i ≤ 3 → 3 < n + i → x_X6_areThere_L1 o sc w n (nI i) = some (if ∃ k ∈ List.range 3, i ≤ k ∧ inS sc (nI k) ∧ (a.2.2.1.2 k).1 = 0 then .inr 0 else .inl ()) := by
  have S := V.1
  intro n
  induction n with
  | zero => intro i h1 h2; omega
  | succ n ih =>
    intro i h1 h2
    rw [x_X6_areThere_L1, if_pos S.ko, S.fo.2.1, if_pos S.sa.1, S.sa.2.1]
    by_cases hi : i < 3
    · have hr : vR (nI i) 3 := nI_in hi (by omega)
      have hb : wB w (o + 2) (nI i).toNatClampNeg = o + 10 + 3 * i := by rw [nI_clamp (by omega)]; exact S.sa.2.2 i hi
      have hE : (∃ k ∈ List.range 3, i ≤ k ∧ inS sc (nI k) ∧ (a.2.2.1.2 k).1 = 0) ↔ (inS sc (nI i) ∧ (a.2.2.1.2 i).1 = 0) ∨ ∃ k ∈ List.range 3, i + 1 ≤ k ∧ inS sc (nI k) ∧ (a.2.2.1.2 k).1 = 0 := by
        constructor
        · rintro ⟨k, hk, h3, h4⟩
          by_cases z : k = i
          · subst z; exact Or.inl h4
          · exact Or.inr ⟨k, hk, by omega, h4⟩
        · rintro (h4 | ⟨k, hk, h3, h4⟩)
          · exact ⟨i, List.mem_range.mpr hi, Nat.le_refl _, h4⟩
          · exact ⟨k, hk, by omega, h4⟩
      have nx : ∀ z : Prop, ¬ (inS sc (nI i) ∧ (a.2.2.1.2 i).1 = 0) → x_X6_areThere_L1 o sc w n (nI (i + 1)) = some (if ∃ k ∈ List.range 3, i ≤ k ∧ inS sc (nI k) ∧ (a.2.2.1.2 k).1 = 0 then .inr 0 else .inl ()) := by
        intro _ hz
        rw [ih (i + 1) (by omega) (by omega)]
        by_cases y : ∃ k ∈ List.range 3, i + 1 ≤ k ∧ inS sc (nI k) ∧ (a.2.2.1.2 k).1 = 0
        · rw [if_pos y, if_pos (hE.mpr (Or.inr y))]
        · rw [if_neg y, if_neg (fun x => (hE.mp x).elim hz y)]
      rw [if_neg (nI_ge hi (by omega)), nI_1]
      by_cases c1 : inS sc (nI i)
      · rw [if_pos c1, if_pos hr, hb, if_pos (S.st i (by omega)).1, (V.2.2.2.1 i (by omega)).1]
        by_cases c2 : (a.2.2.1.2 i).1 = 0
        · rw [if_pos c2, if_pos isB0, l0_inr, if_pos (hE.mpr (Or.inl ⟨c1, c2⟩))]
        · rw [if_neg c2, l0_inl]; exact nx True (fun z => c2 z.2)
      · rw [if_neg c1, l0_inl]; exact nx True (fun z => c1 z.1)
    · rw [if_pos (nI_le (by omega) (by omega)), if_neg (fun ⟨k, hk, h3, _⟩ => by have := List.mem_range.mp hk; omega)]
theorem c_areThere {o q : Nat} {w : CS} {R : Nat → List Nat} {a : AS} (V : VC o q w R a) (sc : Int32) : x_X6_areThere o sc w = some (if ∃ k ∈ List.range 3, inS sc (nI k) ∧ (a.2.2.1.2 k).1 = 0 then 0 else 1) := by
  unfold x_X6_areThere
  have h := c_there V sc FU 0 (by omega) (by show 3 < 1000 + 0; omega)
  rw [nI_0] at h
  rw [h]
  by_cases y : ∃ k ∈ List.range 3, inS sc (nI k) ∧ (a.2.2.1.2 k).1 = 0
  · rw [if_pos y, if_pos (by obtain ⟨k, hk, h4⟩ := y; exact ⟨k, hk, Nat.zero_le _, h4⟩), l0_inr]
  · rw [if_neg y, if_neg (fun ⟨k, hk, _, h4⟩ => y ⟨k, hk, h4⟩), l0_inl, if_pos isB1]
theorem c_begin {o q c s : Nat} {w : CS} {R : Nat → List Nat} {a : AS} (V : VC o q w R a) (I : IV a) (B : Bd o w (c + 2) (s + 10)) (p sc u : Int32) (hu : isB u) : CO (x_X6_begin o p sc u w) o q c s (begA p sc u a) := by
  have hn : lenT a ≤ 60 := I.2.2.1.1.1
  have RE := B.re2
  have hl : (R 6).length = lenT a := V.2.2.2.2.1.len
  unfold x_X6_begin begA
  rw [if_pos V.1.ko, c_tabAt V RE]
  by_cases h : oT p 4
  · rw [if_pos h, if_pos h, bx1_inl]; exact V.f B (by decide)
  · obtain ⟨j, hj, rfl, ej⟩ := oT_at h (by omega)
    have tk := V.1.tb j hj
    obtain ⟨t1, t2, t3⟩ := V.1.tlist
    rw [if_neg h, if_neg h, bx1_inr, ej, c_range RE, c_areThere V]
    have rest : ∀ r : OUT, r = (if rng sc 1 7 then (2, 0, a) else if ¬ (a.2.1 j).1 = 1 ∨ ¬ lenT a < 60 then (3, 0, a) else (0, nI (lenT a), (a.1, a.2.1, (goesA (a.2.2.1.1 ++ [(j, sc, u, 0)], a.2.2.1.2)).2, a.2.2.2))) → CO (bx1 (fun e9 => .inl e9) (some (if rng sc 1 7 then .inl (2, bump w) else .inr ())) (fun (_ : Unit) => if wJ w 0 (o + 6 + j) = 4 then l0 (if wI w 160 (o + 6 + j) = 1 then bd (x_X6_hasRoom o w) (fun v18 => if v18 = 0 then some (.inl ()) else if wJ w 0 (wJ w 243 o) = 7 then bd (x_Jx4a65c_size_8abf5 (wJ w 243 o) w) (fun v22 => if 1 ≤ wl w ∧ 4 ≤ wk w then bs (nw w 2 0 4) (fun w24 => if wJ w24 0 (wz w + 1) = 2 then bd (x_X5_init (wz w + 1) (o + 6 + j) sc u w24) (fun w27 => if wJ w27 0 (wJ w 243 o) = 7 then b2 (x_Jx4a65c_add_9ea2d (wJ w 243 o) (wz w + 1) w27) (fun v30 w31 => if wJ w31 0 o = 6 then b2 (x_X6_runFreed o w31) (fun v34 w35 => some (.inr (.inr (v22, w35)))) else none) else none) else none) else none) else none) else some (.inl ())) (fun (_ : Unit) => if 1 ≤ wl w ∧ 6 ≤ wk w then some (.inl (3, bump w)) else none) else none)) o q c s r := by
      rintro r rfl
      by_cases h3 : rng sc 1 7
      · rw [if_pos h3, if_pos h3, bx1_inl]; exact V.f B (by decide)
      · rw [if_neg h3, if_neg h3, bx1_inr, if_pos tk, (V.2.2.1 j hj).1]
        by_cases h4 : (a.2.1 j).1 = 1
        · rw [if_pos h4, s_hasRoom V.1, hl, bd_some]
          by_cases h5 : lenT a < 60
          · have hr4 : 1 ≤ wl w ∧ 4 ≤ wk w := ⟨RE.1, by have := RE.2; omega⟩
            obtain ⟨w2, w3, k1, e2, V2, e3, V3, B3⟩ := s_newT (sc := sc) (u := u) (c := c) (s := s) V hj hu h5 I.cq (B.mono (by omega) (by omega))
            have hT : TSK (a.2.2.1.1 ++ [(j, sc, u, 0)], a.2.2.1.2) := I.2.2.1.add h5 ⟨hj, hu⟩
            obtain ⟨w4, R4, e4, V4, B4, r6, r7⟩ := s_runFreed hT V3 B3
            rw [if_pos h5, if_neg q10, t1, if_pos t2, p_size t3, bd_some, if_pos hr4, bs_eq, if_pos k1, e2, bd_some, if_pos V2.1.tlist.2.1, e3, b2_some, if_pos V3.1.ko, e4, b2_some, l0_inr, hl, if_neg (show ¬ (¬ (a.2.1 j).1 = 1 ∨ ¬ lenT a < 60) from fun z => z.elim (fun z => z h4) (fun z => z h5))]
            exact ⟨w4, R4, V4, B4, Or.inl ⟨rfl, rfl⟩⟩
          · rw [if_neg h5, if_pos q00, l0_inl, if_pos RE, if_pos (Or.inr h5)]; exact V.f B (by decide)
        · rw [if_neg h4, l0_inl, if_pos RE, if_pos (Or.inl h4)]; exact V.f B (by decide)
    by_cases h2 : ¬ rng sc 1 7 ∧ ∃ k ∈ List.range 3, inS sc (nI k) ∧ (a.2.2.1.2 k).1 = 0
    · have h21 : ¬ sc < 1 := fun z => h2.1 (Or.inl z)
      have h22 : ¬ 7 < sc := fun z => h2.1 (Or.inr (Int32.not_le.mpr z))
      rw [if_neg h21, if_neg h22, bd_some, if_pos h2.2, if_pos q00, if_pos RE, l0_inr, if_pos h2]
      exact V.f B (by decide)
    · have e1 : (if sc < 1 then some (.inl ()) else if 7 < sc then some (.inl ()) else bd (some (if ∃ k ∈ List.range 3, inS sc (nI k) ∧ (a.2.2.1.2 k).1 = 0 then (0 : Int32) else 1)) (fun v9 => if v9 = 0 then (if 1 ≤ wl w ∧ 6 ≤ wk w then some (.inr (.inl (1, bump w))) else none) else some (.inl ())) : Option (Unit ⊕ ((Nat × CS) ⊕ (Int32 × CS)))) = some (.inl ()) := by
        by_cases z1 : sc < 1
        · rw [if_pos z1]
        · by_cases z2 : 7 < sc
          · rw [if_neg z1, if_pos z2]
          · rw [if_neg z1, if_neg z2, bd_some, if_neg (fun z => h2 ⟨fun y => y.elim z1 (fun y => y (Int32.not_lt.mp z2)), z⟩), if_neg q10]
      rw [e1, l0_inl, if_neg h2]
      exact rest _ rfl
theorem SV.clist {o : Nat} {w : CS} {R : Nat → List Nat} (S : SV o w R) : wJ w 244 o = o + 5 ∧ wJ w 0 (o + 5) = 7 ∧ LOK w (o + 5) (R 7) := by
  have hL := S.ls 7 (by omega)
  rw [LL7] at hL
  exact ⟨S.fo.2.2.2.2, hL.1, hL⟩
theorem isBe {P : Prop} [Decidable P] (_ : Bool) : isB (if P then (1 : Int32) else 0) := by
  by_cases h : P
  · rw [if_pos h]; exact isB1
  · rw [if_neg h]; exact isB0
theorem isBf {P : Prop} [Decidable P] (_ : Bool) : isB (if P then (0 : Int32) else 1) := by
  by_cases h : P
  · rw [if_pos h]; exact isB0
  · rw [if_neg h]; exact isB1
theorem plc_0 : plc 0 0 = 0 := by decide +kernel
/-- a cursor is made and stands behind the others -/
theorem s_newC {o q ti k c s : Nat} {f d : Int32} {w : CS} {R : Nat → List Nat} {a : PA} {cs : List CU} (V : VP o q w R a cs) (hti : ti < a.2.2.1.length) (hk : k < 3) (hd : d = 0 ∨ d = 1 ∨ d = 2 ∨ d = 3) (hn : cs.length < 40) (B : Bd o w (c + 1) (s + 8)) :
    ∃ w2 w3, wJ (nw w 3 0 8) 0 (wz w + 1) = 3 ∧ x_X0_init (wz w + 1) ((R 6).getD ti 0) (o + 10 + 3 * k) f d (nw w 3 0 8) = some w2 ∧ VP o q w2 R a cs ∧ x_Jx4a65c_add_9ea2d (o + 5) (wz w + 1) w2 = some (1, w3) ∧ VP o q w3 (fun i => if i = 7 then R 7 ++ [wz w + 1] else R i) a (cs ++ [(ti, k, f, d, 0, 0, 0)]) ∧ Bd o w3 c s := by
  have S := V.1
  have hlt : (R 6).length = a.2.2.1.length := V.2.2.2.2.1.len
  have hk1 : wJ (nw w 3 0 8) 0 (wz w + 1) = 3 := by rw [wJ_nw, if_pos rfl, if_pos rfl]
  have G1 : AGR w (nw w 3 0 8) := AGR.nw S.wf
  have G2 := (((((((G1.sI 125 0).sI 126 0).sL 127 0).sJ ((R 6).getD ti 0) (f := 120) (by omega)).sJ (o + 10 + 3 * k) (f := 121) (by omega)).sI 122 f).sI 123 (if d = 1 ∨ d = 3 then 1 else 0)).sI 124 (if d < 2 ∨ f = -1 then 0 else 1)
  have kJ : ∀ (w0 : CS) (g v : Nat), g ≠ 0 → wJ w0 0 (wz w + 1) = 3 → wJ (sJ w0 g (wz w + 1) v) 0 (wz w + 1) = 3 := fun w0 g v hg h => by rw [wJ_sJ, if_neg (by omega)]; exact h
  have K3 : wJ (sL (sI (sI (nw w 3 0 8) 125 (wz w + 1) 0) 126 (wz w + 1) 0) 127 (wz w + 1) 0) 0 (wz w + 1) = 3 := hk1
  have K5 := kJ _ 121 (o + 10 + 3 * k) (by omega) (kJ _ 120 ((R 6).getD ti 0) (by omega) K3)
  have e2 : x_X0_init (wz w + 1) ((R 6).getD ti 0) (o + 10 + 3 * k) f d (nw w 3 0 8) = some (sI (sI (sI (sJ (sJ (sL (sI (sI (nw w 3 0 8) 125 (wz w + 1) 0) 126 (wz w + 1) 0) 127 (wz w + 1) 0) 120 (wz w + 1) ((R 6).getD ti 0)) 121 (wz w + 1) (o + 10 + 3 * k)) 122 (wz w + 1) f) 123 (wz w + 1) (if d = 1 ∨ d = 3 then 1 else 0)) 124 (wz w + 1) (if d < 2 ∨ f = -1 then 0 else 1)) := by
    have d1 : (l0 (if d = 1 then some (.inl ()) else if d = 3 then some (.inl ()) else some (.inr (0 : Int32))) (fun _ => some (1 : Int32)) : Option Int32) = some (if d = 1 ∨ d = 3 then 1 else 0) := by
      by_cases z1 : d = 1
      · rw [if_pos z1, l0_inl, if_pos (Or.inl z1)]
      · by_cases z2 : d = 3
        · rw [if_neg z1, if_pos z2, l0_inl, if_pos (Or.inr z2)]
        · rw [if_neg z1, if_neg z2, l0_inr, if_neg (fun z => z.elim z1 z2)]
    have d2 : (l0 (if d < 2 then some (.inl ()) else if f = -1 then some (.inl ()) else some (.inr (1 : Int32))) (fun _ => some (0 : Int32)) : Option Int32) = some (if d < 2 ∨ f = -1 then 0 else 1) := by
      by_cases z1 : d < 2
      · rw [if_pos z1, l0_inl, if_pos (Or.inl z1)]
      · by_cases z2 : f = -1
        · rw [if_neg z1, if_pos z2, l0_inl, if_pos (Or.inr z2)]
        · rw [if_neg z1, if_neg z2, l0_inr, if_neg (fun z => z.elim z1 z2)]
    have b1 : isB (if d = 1 ∨ d = 3 then (1 : Int32) else 0) := isBe true
    have b2 : isB (if d < 2 ∨ f = -1 then (0 : Int32) else 1) := isBf true
    unfold x_X0_init
    rw [if_pos hk1, bs_eq, if_pos (show wJ (sI (nw w 3 0 8) 125 (wz w + 1) 0) 0 (wz w + 1) = 3 from hk1), bs_eq, if_pos (show wJ (sI (sI (nw w 3 0 8) 125 (wz w + 1) 0) 126 (wz w + 1) 0) 0 (wz w + 1) = 3 from hk1), bs_eq, if_pos K3, bs_eq, if_pos (kJ _ 120 ((R 6).getD ti 0) (by omega) K3), bs_eq, if_pos K5, bs_eq, d1, bd_some, if_pos (show wJ (sI (sJ (sJ (sL (sI (sI (nw w 3 0 8) 125 (wz w + 1) 0) 126 (wz w + 1) 0) 127 (wz w + 1) 0) 120 (wz w + 1) ((R 6).getD ti 0)) 121 (wz w + 1) (o + 10 + 3 * k)) 122 (wz w + 1) f) 0 (wz w + 1) = 3 from K5), if_pos b1, bs_eq, d2, bd_some, if_pos (show wJ (sI (sI (sJ (sJ (sL (sI (sI (nw w 3 0 8) 125 (wz w + 1) 0) 126 (wz w + 1) 0) 127 (wz w + 1) 0) 120 (wz w + 1) ((R 6).getD ti 0)) 121 (wz w + 1) (o + 10 + 3 * k)) 122 (wz w + 1) f) 123 (wz w + 1) (if d = 1 ∨ d = 3 then 1 else 0)) 0 (wz w + 1) = 3 from K5), if_pos b2, bs_eq]
  have h120 : wJ (sI (sI (sI (sJ (sJ (sL (sI (sI (nw w 3 0 8) 125 (wz w + 1) 0) 126 (wz w + 1) 0) 127 (wz w + 1) 0) 120 (wz w + 1) ((R 6).getD ti 0)) 121 (wz w + 1) (o + 10 + 3 * k)) 122 (wz w + 1) f) 123 (wz w + 1) (if d = 1 ∨ d = 3 then 1 else 0)) 124 (wz w + 1) (if d < 2 ∨ f = -1 then 0 else 1)) 120 (wz w + 1) = (R 6).getD ti 0 := by
    show wJ (sJ (sJ _ 120 (wz w + 1) ((R 6).getD ti 0)) 121 (wz w + 1) (o + 10 + 3 * k)) 120 (wz w + 1) = _
    rw [wJ_sJ, if_neg (by omega), wJ_sJ, if_pos ⟨rfl, rfl⟩]
  have h121 : wJ (sI (sI (sI (sJ (sJ (sL (sI (sI (nw w 3 0 8) 125 (wz w + 1) 0) 126 (wz w + 1) 0) 127 (wz w + 1) 0) 120 (wz w + 1) ((R 6).getD ti 0)) 121 (wz w + 1) (o + 10 + 3 * k)) 122 (wz w + 1) f) 123 (wz w + 1) (if d = 1 ∨ d = 3 then 1 else 0)) 124 (wz w + 1) (if d < 2 ∨ f = -1 then 0 else 1)) 121 (wz w + 1) = o + 10 + 3 * k := by
    show wJ (sJ (sJ _ 120 (wz w + 1) ((R 6).getD ti 0)) 121 (wz w + 1) (o + 10 + 3 * k)) 121 (wz w + 1) = _
    rw [wJ_sJ, if_pos ⟨rfl, rfl⟩]
  generalize hw2 : sI (sI (sI (sJ (sJ (sL (sI (sI (nw w 3 0 8) 125 (wz w + 1) 0) 126 (wz w + 1) 0) 127 (wz w + 1) 0) 120 (wz w + 1) ((R 6).getD ti 0)) 121 (wz w + 1) (o + 10 + 3 * k)) 122 (wz w + 1) f) 123 (wz w + 1) (if d = 1 ∨ d = 3 then 1 else 0)) 124 (wz w + 1) (if d < 2 ∨ f = -1 then 0 else 1) = w2 at *
  have V2 := G2.vp V
  have S2 := V2.1
  have hkx : wJ w2 0 (wz w + 1) = 3 := by rw [← hw2]; exact K5
  have h122 : wI w2 122 (wz w + 1) = f := by rw [← hw2, wI_off (Or.inl (by omega)), wI_off (Or.inl (by omega)), wI_on]
  have h123 : wI w2 123 (wz w + 1) = (if d = 1 ∨ d = 3 then 1 else 0) := by rw [← hw2, wI_off (Or.inl (by omega)), wI_on]
  have h124 : wI w2 124 (wz w + 1) = (if d < 2 ∨ f = -1 then 0 else 1) := by rw [← hw2, wI_on]
  have h125 : wI w2 125 (wz w + 1) = 0 := by
    rw [← hw2, wI_off (Or.inl (by omega)), wI_off (Or.inl (by omega)), wI_off (Or.inl (by omega))]
    show wI (sI (sI (nw w 3 0 8) 125 (wz w + 1) 0) 126 (wz w + 1) 0) 125 (wz w + 1) = 0
    rw [wI_off (Or.inl (by omega)), wI_on]
  have h126 : wI w2 126 (wz w + 1) = 0 := by
    rw [← hw2, wI_off (Or.inl (by omega)), wI_off (Or.inl (by omega)), wI_off (Or.inl (by omega))]
    show wI (sI (sI (nw w 3 0 8) 125 (wz w + 1) 0) 126 (wz w + 1) 0) 126 (wz w + 1) = 0
    rw [wI_on]
  have h127 : wL w2 127 (wz w + 1) = 0 := by
    rw [← hw2]
    show wL (sL (sI (sI (nw w 3 0 8) 125 (wz w + 1) 0) 126 (wz w + 1) 0) 127 (wz w + 1) 0) 127 (wz w + 1) = 0
    rw [wL_sL, if_pos ⟨rfl, rfl⟩]
  have hB2 : Bd o w2 c s := G2.bd S (by rw [← hw2]; exact ⟨rfl, rfl⟩) B
  obtain ⟨t1, t2, t3⟩ := S2.clist
  have hl : (R 7).length = cs.length := V.2.2.2.2.2.1.1
  have hBa := hB2.add (j := 7) (by omega)
  rw [LL7] at hBa
  obtain ⟨w3, e3, l1, l2⟩ := p_add S2.wf t3 (Or.inr (Or.inr hkx)) (by omega) hBa
  have hnew : wz w + 1 ∉ R 7 := fun h => by
    have := (S.wf.le (S.ck _ h).1).2
    omega
  have hm : (R 6).getD ti 0 ∈ R 6 := getD_mem (by omega)
  have l1' : LOK w3 (LL o 7) (R 7 ++ [wz w + 1]) := by rw [LL7]; exact l1
  have l2' : LCH w2 w3 (LL o 7) := by rw [LL7]; exact l2
  have S3 := S2.list (by omega) l2' l1' (fun q => by omega) (fun q => by omega) (fun _ => ⟨List.nodup_append.mpr ⟨S.cn.1, List.nodup_cons.mpr ⟨List.not_mem_nil, List.nodup_nil⟩, fun x hx y hy e => hnew (by rw [List.mem_singleton] at hy; rw [← hy, ← e]; exact hx)⟩, by rw [List.length_append]; show (R 7).length + 1 ≤ 40; omega, fun x hx => by
    rcases List.mem_append.mp hx with q | q
    · exact S2.ck x q
    · rw [List.mem_singleton] at q
      rw [q]
      exact ⟨hkx, by rw [h120]; exact hm, k, hk, h121⟩⟩)
  have E3 := S2.eq (by omega) l2'.1
  have B3 := hB2.list S2 (by omega) l2' l1'
  obtain ⟨-, v1, v2, v3, v4, v5, v6⟩ := V2
  refine ⟨w2, w3, hk1, e2, ⟨S2, v1, v2, v3, v4, v5, v6⟩, e3, ⟨S3, v1.eq S2.ko E3, v2.eq S2 E3, ?_, ?_, ?_, v6.eq E3⟩, B3⟩
  · intro n hn9
    have := (v3.eq S2 E3) n hn9
    have e9 : (if n = 7 then R 7 ++ [wz w + 1] else R n) = R n := if_neg (by omega)
    show _ ∧ _ ∧ _ ∧ (if n = 7 then R 7 ++ [wz w + 1] else R n).map (rwv w3) = _
    rw [e9]; exact this
  · have := v4.eq S2 E3
    unfold VT at *
    show (if (6 : Nat) = 7 then R 7 ++ [wz w + 1] else R 6).map (txv o w3) = _
    rw [if_neg (by omega)]; exact this
  · have h5 := v5.eq S2 E3
    have e7 : (if (7 : Nat) = 7 then R 7 ++ [wz w + 1] else R 7) = R 7 ++ [wz w + 1] := if_pos rfl
    have e6 : (if (6 : Nat) = 7 then R 7 ++ [wz w + 1] else R 6) = R 6 := if_neg (by omega)
    unfold VQ
    show (if (7 : Nat) = 7 then R 7 ++ [wz w + 1] else R 7).length = _ ∧ ∀ i, i < (cs ++ [(ti, k, f, d, 0, 0, 0)]).length → cuv o w3 (if (6 : Nat) = 7 then R 7 ++ [wz w + 1] else R 6) ((if (7 : Nat) = 7 then R 7 ++ [wz w + 1] else R 7).getD i 0) (cuAt (cs ++ [(ti, k, f, d, 0, 0, 0)]) i)
    rw [e7, e6]
    refine ⟨by rw [List.length_append, List.length_append, hl]; rfl, fun i hi => ?_⟩
    rw [List.length_append] at hi
    have hi2 : i < cs.length + 1 := hi
    by_cases e : i = cs.length
    · have hc : cuAt (cs ++ [(ti, k, f, d, 0, 0, 0)]) i = (ti, k, f, d, 0, 0, 0) := by
        unfold cuAt
        rw [List.getD_eq_getElem?_getD, e, List.getElem?_append_right (Nat.le_refl _), Nat.sub_self]; rfl
      have hx : (R 7 ++ [wz w + 1]).getD i 0 = wz w + 1 := by
        rw [List.getD_eq_getElem?_getD, List.getElem?_append_right (by omega), show i - (R 7).length = 0 by omega]; rfl
      rw [hc, hx]
      refine cuv_eq hkx E3 ⟨by show ti < (R 6).length; omega, h120, h121, h122, h123, h124, h125, h126, ?_⟩
      rw [h127]; exact plc_0.symm
    · have hc : cuAt (cs ++ [(ti, k, f, d, 0, 0, 0)]) i = cuAt cs i := by
        unfold cuAt
        rw [List.getD_eq_getElem?_getD, List.getElem?_append_left (by omega), ← List.getD_eq_getElem?_getD]
      have hx : (R 7 ++ [wz w + 1]).getD i 0 = (R 7).getD i 0 := by
        rw [List.getD_eq_getElem?_getD, List.getElem?_append_left (by omega), ← List.getD_eq_getElem?_getD]
      rw [hc, hx]
      exact h5.2 i (by omega)
theorem rng03 {d : Int32} (h : ¬ rng d 0 3) : d = 0 ∨ d = 1 ∨ d = 2 ∨ d = 3 := by
  rcases oT_cases (n := 4) d (by omega) with q | ⟨i, hi, rfl, -⟩
  · exact absurd ((rng_oT (n := 4) d (by omega)).mpr q) h
  · rcases (show i = 0 ∨ i = 1 ∨ i = 2 ∨ i = 3 by omega) with z | z | z | z <;> subst z
    · exact Or.inl rfl
    · exact Or.inr (Or.inl rfl)
    · exact Or.inr (Or.inr (Or.inl rfl))
    · exact Or.inr (Or.inr (Or.inr rfl))
theorem c_cursor {o q c s : Nat} {w : CS} {R : Nat → List Nat} {a : AS} (V : VC o q w R a) (I : IV a) (B : Bd o w (c + 2) (s + 10)) (t sn f d : Int32) : CO (x_X6_cursor o t sn f d w) o q c s (curA t sn f d a) := by
  have hn : lenT a ≤ 60 := I.2.2.1.1.1
  have RE := B.re2
  unfold x_X6_cursor curA
  rw [if_pos V.1.ko, c_transactionAt V hn RE]
  by_cases h : oX a t
  · rw [if_pos h, if_pos h, bx1_inl]; exact V.f B (by decide)
  · obtain ⟨i, hi, rfl, ei⟩ := oT_at h (show lenT a < 2 ^ 31 by omega)
    rw [if_neg h, if_neg h, bx1_inr, c_storeAt V RE]
    by_cases h2 : noS a sn
    · rw [if_pos h2, if_pos h2, bx1_inl]; exact V.f B (by decide)
    · obtain ⟨j, hj, rfl, ej⟩ := oT_at (fun q => h2 (Or.inl q)) (by omega)
      have hj6 : j < 6 := by omega
      have est : stA a (nI j) = a.2.2.1.2 j := by unfold stA; rw [ej]
      have hlc : (R 7).length = a.2.2.2.length := V.2.2.2.2.2.1.1
      obtain ⟨t1, t2, t3⟩ := V.1.clist
      rw [if_neg h2, if_neg h2, bx1_inr, ej, ei, est]
      by_cases h3 : ¬ f = -1 ∧ oT f 2
      · rw [if_pos h3, if_neg h3.1]
        by_cases h4 : f < 0
        · rw [if_pos h4, l0_inl, if_pos RE, l0_inr]; exact V.f B (by decide)
        · rw [if_neg h4, if_neg (show ¬ f < 2 from Int32.not_lt.mpr (h3.2.elim (fun z => absurd z h4) id)), l0_inl, if_pos RE, l0_inr]; exact V.f B (by decide)
      · rw [if_neg h3, c_range RE, c_read V RE hi ei]
        have hfx : f = -1 ∨ ∃ x, x < 2 ∧ f = nI x ∧ f.toNatClampNeg = x := by
          by_cases z : f = -1
          · exact Or.inl z
          · exact Or.inr (oT_at (fun y => h3 ⟨z, y⟩) (by omega))
        have hfst : (if f = -1 then some (.inl ()) else l0 (if f < 0 then some (.inl ()) else if f < 2 then some (.inr (.inl ())) else some (.inl ())) (fun (_ : Unit) => if 1 ≤ wl w ∧ 6 ≤ wk w then some (.inr (.inl (1, bump w))) else none) : Option (Unit ⊕ ((Nat × CS) ⊕ (Int32 × CS)))) = some (.inl ()) := by
          rcases hfx with z | ⟨x, hx, z, -⟩
          · rw [if_pos z]
          · have z0 : ¬ f = -1 := by rw [z]; exact nI_m1 (by omega)
            rw [if_neg z0, if_neg (by rw [z]; exact nI_pos (by omega)), if_pos (by rw [z]; exact nI_lt (b := 2) hx (by omega)), l0_inr]
        have hhas : (if f = -1 then some (.inl ()) else if wJ w 0 (o + 10 + 3 * j) = 5 then bd (x_X3_hasIndex (o + 10 + 3 * j) f w) (fun v24 => if v24 = 0 then some (.inr (.inl ())) else some (.inl ())) else none : Option (Unit ⊕ (Unit ⊕ ((Nat × CS) ⊕ (Int32 × CS))))) = some (if ¬ f = -1 ∧ sIx f.toNatClampNeg (a.2.2.1.2 j) = 0 then .inr (.inl ()) else .inl ()) := by
          rcases hfx with z | ⟨x, hx, z, ex⟩
          · rw [if_pos z, if_neg (fun y => y.1 z)]
          · have z0 : ¬ f = -1 := by rw [z]; exact nI_m1 (by omega)
            have hix : wA w (o + 11 + 3 * j) x = sIx x (a.2.2.1.2 j) := by
              obtain ⟨v1, v2, v3, v4⟩ := V.2.2.2.1 j hj6
              unfold sIx
              rcases (show x = 0 ∨ x = 1 by omega) with y | y <;> subst y
              · exact v2
              · exact v3
            rw [if_neg z0, if_pos (V.1.st j hj6).1, ex, z, s_hasIndex V.1 hj6 hx, hix, bd_some]
            by_cases y : sIx x (a.2.2.1.2 j) = 0
            · rw [if_pos y, if_pos q00, if_pos ⟨by rw [← z]; exact z0, y⟩]
            · rw [if_neg y, if_neg q10, if_neg (fun u => y u.2)]
        rw [hfst, l0_inl]
        by_cases h5 : rng d 0 3
        · rw [if_pos h5, if_pos h5, bx1_inl]; exact V.f B (by decide)
        · rw [if_neg h5, if_neg h5, bx1_inr]
          by_cases h6 : ¬ reA a (nI i) (nI j)
          · rw [if_pos h6, if_pos h6, bx1_inl]; exact V.f B (by decide)
          · rw [if_neg h6, if_neg h6, bx1_inr, hhas]
            by_cases h7 : ¬ f = -1 ∧ sIx f.toNatClampNeg (a.2.2.1.2 j) = 0
            · rw [if_pos h7, l0_inr, l0_inl, if_pos RE, if_pos (Or.inl h7)]; exact V.f B (by decide)
            · rw [if_neg h7, l0_inl, t1, if_pos t2, p_size t3, bd_some]
              by_cases h8 : a.2.2.2.length < 40
              · have hr8 : 1 ≤ wl w ∧ 8 ≤ wk w := by
                  obtain ⟨b1, b2⟩ := B
                  constructor <;> omega
                obtain ⟨w2, w3, k1, e2, V2, e3, V3, B3⟩ := s_newC (c := c) (s := s) (ti := i) (k := j) (f := f) (d := d) V hi hj (rng03 h5) h8 (B.mono (by omega) (by omega))
                have hS2 := V2.1.clist
                rw [if_pos (show nI (R 7).length < 40 from nI_lt (b := 40) (by omega) (by omega)), bd_some, if_pos hr8, bs_eq, if_pos k1, e2, bd_some, if_pos hS2.2.1, e3, b2_some, l0_inr, hlc, if_neg (show ¬ ((¬ f = -1 ∧ sIx f.toNatClampNeg (a.2.2.1.2 j) = 0) ∨ ¬ a.2.2.2.length < 40) from fun z => z.elim h7 (fun z => z h8))]
                exact ⟨w3, _, V3, B3, Or.inl ⟨rfl, rfl⟩⟩
              · rw [if_neg (show ¬ nI (R 7).length < 40 from nI_nlt (b := 40) (by omega) (by have := I.2.2.2.1; omega)), l0_inl, if_pos RE, if_pos (Or.inr h8)]; exact V.f B (by decide)
theorem c_cursorAt {o q : Nat} {w : CS} {R : Nat → List Nat} {a : AS} (V : VC o q w R a) (hn : a.2.2.2.length ≤ 40) (B : RE w) (t : Int32) : x_X6_cursorAt o t w = some (if oT t a.2.2.2.length then .inl (1, bump w) else .inr ((R 7).getD t.toNatClampNeg 0)) := by
  have hl : (R 7).length = a.2.2.2.length := V.2.2.2.2.2.1.1
  rcases s_cursorAt V.1 B t with ⟨i, hi, rfl, e⟩ | ⟨h, e⟩
  · rw [e, if_neg (show ¬ oT (nI i) a.2.2.2.length from fun q => q.elim (nI_pos (by omega)) (nI_ge (by omega) (by omega))), nI_clamp (by omega)]
  · rw [e, if_pos (show oT t a.2.2.2.length from by rw [hl] at h; exact h)]
theorem c_update {o q c s : Nat} {w : CS} {R : Nat → List Nat} {a : AS} (V : VC o q w R a) (I : IV a) (B : Bd o w (c + 2) (s + 10)) (ci v : Int32) : CO (x_X6_update o ci v w) o q c s (updA ci v a) := by
  have hnc := I.2.2.2.1
  have RE := B.re2
  unfold x_X6_update updA
  rw [if_pos V.1.ko, c_cursorAt V hnc RE]
  by_cases h : oT ci a.2.2.2.length
  · rw [if_pos h, if_pos h, bx1_inl]; exact V.f B (by decide)
  · obtain ⟨i, hi, rfl, ei⟩ := oT_at h (by omega)
    have hl7 : (R 7).length = a.2.2.2.length := V.2.2.2.2.2.1.1
    rw [if_neg h, if_neg h, bx1_inr, ei, c_range RE]
    by_cases h2 : rng v 0 9999
    · rw [if_pos h2, if_pos h2, bx1_inl]; exact V.f B (by decide)
    · have hcu := V.2.2.2.2.2.1.2 i hi
      have hck := I.2.2.2.2 _ (cuAt_mem hi)
      have hkx := (V.1.ck _ (getD_mem (show i < (R 7).length by omega))).1
      rw [if_neg h2, if_neg h2, bx1_inr, if_pos hkx]
      show CO _ o q c s (if ¬ (txAt a.2.2.1.1 (cuAt a.2.2.2 i).1).2.2.2 = 1 ∨ (txAt a.2.2.1.1 (cuAt a.2.2.2 i).1).2.2.1 = 0 ∨ ¬ (cuAt a.2.2.2 i).2.2.2.2.1 = 1 then (3, 0, a) else _)
      generalize hcc : cuAt a.2.2.2 i = cu at *
      obtain ⟨z1, z2, z3, z4, z5, z6, z7, z8, z9⟩ := hcu
      have hlt : (R 6).length = lenT a := V.2.2.2.2.1.len
      have hti : cu.1 < lenT a := by omega
      obtain ⟨k1, k2, k3, k4, k5⟩ := c_tx V hti
      have hk3 := hck.2.1
      have hk6 : cu.2.1 < 6 := by omega
      rw [z2, s_requireRunning RE k1, k4, k2, z3, z7, z8]
      by_cases p1 : (txAt a.2.2.1.1 cu.1).2.2.2 = 1
      · rw [if_pos p1, bx1_inr, if_pos k1]
        by_cases p2 : (txAt a.2.2.1.1 cu.1).2.2.1 = 0
        · rw [if_pos p2, l0_inl, if_pos RE, if_pos (Or.inr (Or.inl p2))]; exact V.f B (by decide)
        · by_cases p3 : cu.2.2.2.2.1 = 1
          · rw [if_neg p2, if_pos p3, if_pos (V.1.st _ hk6).1, if_neg (show ¬ (¬ (txAt a.2.2.1.1 cu.1).2.2.2 = 1 ∨ (txAt a.2.2.1.1 cu.1).2.2.1 = 0 ∨ ¬ cu.2.2.2.2.1 = 1) from fun y => y.elim (fun y => y p1) (fun y => y.elim p2 (fun y => y p3)))]
            rcases c_find V hk6 cu.2.2.2.2.2.2 with ⟨e1, e2⟩ | ⟨x, hx, kx, nx, e1, e2⟩
            · rw [e1, e2, bd_some, if_pos rfl, if_pos RE, l0_inr]; exact V.f B (by decide)
            · have hr4 : 1 ≤ wl w ∧ 4 ≤ wk w := ⟨RE.1, by have := RE.2; omega⟩
              obtain ⟨w2, n1, n2', V2, n3, er, B2, G2⟩ := s_newR (c := c + 1) (s := s + 6) (k := wI w 40 x) (ct := v) (f := wI w 42 x) (g := wI w 43 x) V (B.mono (by omega) (by omega))
              have hxz := (V.1.wf.le kx).2
              have ag := (AGR.nw (k := 1) (l := 0) (n := 4) V.1.wf).2.2 x hxz
              have V2c : VC o q w2 R a := V2
              obtain ⟨w3, R3, e3, V3, B3, E3⟩ := c_set (r := (wI w 40 x, v, wI w 42 x, wI w 43 x)) V2c hk6 n3 er (fun z => by
                have hkey : wI w 40 x = cu.2.2.2.2.2.2 := by
                  have h9 := List.find?_some e1
                  exact of_decide_eq_true h9
                rw [show ((wI w 40 x, v, wI w 42 x, wI w 43 x) : RW).1 = cu.2.2.2.2.2.2 from hkey, e1] at z
                cases z) B2
              have kx3 : wJ w2 0 x = 1 := (G2.2.2 x hxz).2.2.1 0 ▸ kx
              have kx4 : wJ w3 0 x = 1 := ((E3 x 0 kx3 (by omega) (by omega)).2.2.1 0).trans kx3
              have hct : wI w3 41 x = wI w 41 x := ((E3 x 0 kx3 (by omega) (by omega)).1 41).trans ((G2.2.2 x hxz).1 41)
              rw [e1, e2, bd_some, if_neg nx, if_pos hr4, bs_eq, ag.2.2.1, if_pos kx, if_pos n1, ag.1, ag.1, ag.1, n2', bd_some, if_pos (V2.1.st _ hk6).1, e3, bd_some, if_pos kx4, l0_inr, hct]
              exact ⟨w3, R3, V3, B3.mono (by omega) (by omega), Or.inl ⟨rfl, rfl⟩⟩
          · rw [if_neg p2, if_neg p3, l0_inl, if_pos RE, if_pos (Or.inr (Or.inr p3))]; exact V.f B (by decide)
      · rw [if_neg p1, bx1_inl, if_pos (Or.inl p1)]; exact V.f B (by decide)
