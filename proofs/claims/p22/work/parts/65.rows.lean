/-! ===== PURE: the class's calls: stores and rows ===== -/
theorem rNum_rwv (w : CS) (f : Int32) (x : Nat) : rNum f (rwv w x) = rn w f x := rfl
theorem c_rows {o q k : Nat} {w : CS} {R : Nat → List Nat} {a : AS} (V : VC o q w R a) (hk : k < 6) : (R k).map (rwv w) = (a.2.2.1.2 k).2.2.2 := (V.2.2.2.1 k hk).2.2.2
theorem c_find {o q k : Nat} {w : CS} {R : Nat → List Nat} {a : AS} (V : VC o q w R a) (hk : k < 6) (key : Int32) : (findR (a.2.2.1.2 k).2.2.2 key = none ∧ x_X3_find (o + 10 + 3 * k) key w = some 0) ∨ ∃ x, x ∈ R k ∧ wJ w 0 x = 1 ∧ x ≠ 0 ∧ findR (a.2.2.1.2 k).2.2.2 key = some (rwv w x) ∧ x_X3_find (o + 10 + 3 * k) key w = some x := by
  rw [s_find V.1 hk key, ← c_rows V hk]
  unfold findR
  rw [List.find?_map]
  have e : ((fun x : RW => decide (x.1 = key)) ∘ rwv w) = fun x => decide (wI w 40 x = key) := rfl
  rw [e]
  cases h : (R k).find? (fun x => decide (wI w 40 x = key)) with
  | none => exact Or.inl ⟨rfl, rfl⟩
  | some x =>
    have hm := List.mem_of_find?_eq_some h
    have hx := (V.1.rk k hk).2 x hm
    exact Or.inr ⟨x, hm, hx, fun z => by rw [z, V.1.wf.1] at hx; omega, rfl, rfl⟩
theorem c_count {o q k : Nat} {w : CS} {R : Nat → List Nat} {a : AS} (V : VC o q w R a) (hk : k < 6) (x y : Int32) : (R k).countP (fun z => decide (btw w x y z)) = (a.2.2.1.2 k).2.2.2.countP (fun r => decide (btwR x y r)) := by
  rw [← c_rows V hk, List.countP_map]
  rfl
theorem c_tkn {w : CS} {xs : List Nat} {f : Int32} {p : Nat} : tkn w xs f p ↔ tknR (xs.map (rwv w)) f (rwv w p) := by
  unfold tkn tknR
  rw [rNum_rwv]
  constructor
  · rintro ⟨h1, x, hx, h2, h3⟩
    exact ⟨h1, rwv w x, List.mem_map.mpr ⟨x, hx, rfl⟩, h2, h3⟩
  · rintro ⟨h1, r, hr, h2, h3⟩
    obtain ⟨x, hx, rfl⟩ := List.mem_map.mp hr
    exact ⟨h1, x, hx, h2, h3⟩
theorem c_dbl {w : CS} {xs : List Nat} {f : Int32} : (∃ x ∈ xs, tkn w xs f x) ↔ dblR (xs.map (rwv w)) f := by
  constructor
  · rintro ⟨x, hx, h⟩
    exact ⟨rwv w x, List.mem_map.mpr ⟨x, hx, rfl⟩, c_tkn.mp h⟩
  · rintro ⟨r, hr, h⟩
    obtain ⟨x, hx, rfl⟩ := List.mem_map.mp hr
    exact ⟨x, hx, c_tkn.mpr h⟩
theorem c_read {o q i : Nat} {w : CS} {R : Nat → List Nat} {a : AS} (V : VC o q w R a) (B : RE w) (hi : i < lenT a) (ei : (nI i).toNatClampNeg = i) (s : Int32) : x_X6_requireReading ((R 6).getD i 0) s w = some (if ¬ reA a (nI i) s then .inl (3, bump w) else .inr ()) := by
  obtain ⟨k1, k2, k3, k4, k5⟩ := c_tx V hi
  have e : (wI w 83 ((R 6).getD i 0) = 1 ∧ inS (wI w 82 ((R 6).getD i 0)) s) ↔ reA a (nI i) s := by
    unfold reA txA
    rw [ei, k3, k4]
  rw [s_requireReading B k1]
  by_cases h : reA a (nI i) s
  · rw [if_pos (e.mpr h), if_neg (fun q => q h)]
  · rw [if_neg (fun z => h (e.mp z)), if_pos h]
theorem c_write {o q i : Nat} {w : CS} {R : Nat → List Nat} {a : AS} (V : VC o q w R a) (B : RE w) (hi : i < lenT a) (ei : (nI i).toNatClampNeg = i) (s : Int32) : x_X6_requireWriting ((R 6).getD i 0) s w = some (if ¬ wrA a (nI i) s then .inl (3, bump w) else .inr ()) := by
  obtain ⟨k1, k2, k3, k4, k5⟩ := c_tx V hi
  have e : ((wI w 83 ((R 6).getD i 0) = 1 ∧ inS (wI w 82 ((R 6).getD i 0)) s) ∧ ¬ wI w 81 ((R 6).getD i 0) = 0) ↔ wrA a (nI i) s := by
    unfold wrA reA txA
    rw [ei, k2, k3, k4]
  rw [s_requireWriting B k1]
  by_cases h : wrA a (nI i) s
  · rw [if_pos (e.mpr h), if_neg (fun q => q h)]
  · rw [if_neg (fun z => h (e.mp z)), if_pos h]
theorem c_get {o q : Nat} {w : CS} {R : Nat → List Nat} {a : AS} (V : VC o q w R a) (I : IV a) (B : RE w) (t s k : Int32) : CR (x_X6_get o t s k w) w a (getA t s k a) := by
  have hn : lenT a ≤ 60 := I.2.2.1.1.1
  unfold x_X6_get getA
  rw [if_pos V.1.ko, c_transactionAt V hn B]
  by_cases h : oX a t
  · rw [if_pos h, if_pos h, bx1_inl]; exact CR.f (by decide)
  · obtain ⟨i, hi, rfl, ei⟩ := oT_at h (show lenT a < 2 ^ 31 by omega)
    rw [if_neg h, if_neg h, bx1_inr, c_storeAt V B]
    by_cases h2 : noS a s
    · rw [if_pos h2, if_pos h2, bx1_inl]; exact CR.f (by decide)
    · obtain ⟨j, hj, rfl, ej⟩ := oT_at (fun q => h2 (Or.inl q)) (by omega)
      rw [if_neg h2, if_neg h2, bx1_inr, c_key B, ej]
      by_cases h3 : ¬ kP k
      · rw [if_pos h3, if_pos h3, bx1_inl]; exact CR.f (by decide)
      · rw [if_neg h3, if_neg h3, bx1_inr, ei, c_read V B hi ei]
        by_cases h4 : ¬ reA a (nI i) (nI j)
        · rw [if_pos h4, if_pos h4, bx1_inl]; exact CR.f (by decide)
        · rw [if_neg h4, if_neg h4, bx1_inr, if_pos (V.1.st j (by omega)).1]
          unfold stA
          rw [ej]
          rcases c_find V (show j < 6 by omega) k with ⟨e1, e2⟩ | ⟨x, hx, kx, nx, e1, e2⟩
          · rw [e1, e2, bd_some, if_pos rfl, bd_some]; exact CR.s
          · rw [e1, e2, bd_some, if_neg nx, if_pos kx, bd_some]; exact CR.s
theorem c_cnt {o q : Nat} {w : CS} {R : Nat → List Nat} {a : AS} (V : VC o q w R a) (I : IV a) (B : RE w) (t s x y : Int32) : CR (x_X6_count o t s x y w) w a (cntA t s x y a) := by
  have hn : lenT a ≤ 60 := I.2.2.1.1.1
  unfold x_X6_count cntA
  rw [if_pos V.1.ko, c_transactionAt V hn B]
  by_cases h : oX a t
  · rw [if_pos h, if_pos h, bx1_inl]; exact CR.f (by decide)
  · obtain ⟨i, hi, rfl, ei⟩ := oT_at h (show lenT a < 2 ^ 31 by omega)
    rw [if_neg h, if_neg h, bx1_inr, c_storeAt V B]
    by_cases h2 : noS a s
    · rw [if_pos h2, if_pos h2, bx1_inl]; exact CR.f (by decide)
    · obtain ⟨j, hj, rfl, ej⟩ := oT_at (fun q => h2 (Or.inl q)) (by omega)
      rw [if_neg h2, if_neg h2, bx1_inr, c_key B, ej]
      by_cases h3 : ¬ kP x
      · rw [if_pos h3, if_pos h3, bx1_inl]; exact CR.f (by decide)
      · rw [if_neg h3, if_neg h3, bx1_inr, c_key B]
        by_cases h3' : ¬ kP y
        · rw [if_pos h3', if_pos h3', bx1_inl]; exact CR.f (by decide)
        · rw [if_neg h3', if_neg h3', bx1_inr, ei, c_read V B hi ei]
          by_cases h4 : ¬ reA a (nI i) (nI j)
          · rw [if_pos h4, if_pos h4, bx1_inl]; exact CR.f (by decide)
          · rw [if_neg h4, if_neg h4, bx1_inr, if_pos (V.1.st j (by omega)).1, s_count V.1 (show j < 6 by omega), bd_some, c_count V (by omega)]
            unfold stA
            rw [ej]; exact CR.s
theorem c_remove {o q c s : Nat} {w : CS} {R : Nat → List Nat} {a : AS} (V : VC o q w R a) (I : IV a) (B : Bd o w (c + 2) (s + 10)) (t sn x y : Int32) : CO (x_X6_remove o t sn x y w) o q c s (rmvA t sn x y a) := by
  have hn : lenT a ≤ 60 := I.2.2.1.1.1
  have RE := B.re2
  unfold x_X6_remove rmvA
  rw [if_pos V.1.ko, c_transactionAt V hn RE]
  by_cases h : oX a t
  · rw [if_pos h, if_pos h, bx1_inl]; exact V.f B (by decide)
  · obtain ⟨i, hi, rfl, ei⟩ := oT_at h (show lenT a < 2 ^ 31 by omega)
    rw [if_neg h, if_neg h, bx1_inr, c_storeAt V RE]
    by_cases h2 : noS a sn
    · rw [if_pos h2, if_pos h2, bx1_inl]; exact V.f B (by decide)
    · obtain ⟨j, hj, rfl, ej⟩ := oT_at (fun q => h2 (Or.inl q)) (by omega)
      rw [if_neg h2, if_neg h2, bx1_inr, c_key RE, ej]
      by_cases h3 : ¬ kP x
      · rw [if_pos h3, if_pos h3, bx1_inl]; exact V.f B (by decide)
      · rw [if_neg h3, if_neg h3, bx1_inr, c_key RE]
        by_cases h3' : ¬ kP y
        · rw [if_pos h3', if_pos h3', bx1_inl]; exact V.f B (by decide)
        · rw [if_neg h3', if_neg h3', bx1_inr, ei, c_write V RE hi ei]
          by_cases h4 : ¬ wrA a (nI i) (nI j)
          · rw [if_pos h4, if_pos h4, bx1_inl]; exact V.f B (by decide)
          · obtain ⟨w', e, S', L⟩ := s_remove V.1 (show j < 6 by omega) x y
            have E := V.1.eq (show j < 8 by omega) L.1
            have V' := VP.rows V (show j < 6 by omega) E S'
            have hrows : ((R j).filter (fun z => ¬ btw w x y z)).map (rwv w') = remR (a.2.2.1.2 j).2.2.2 x y := by
              have h5 : ((R j).filter (fun z => ¬ btw w x y z)).map (rwv w') = ((R j).filter (fun z => ¬ btw w x y z)).map (rwv w) := List.map_congr_left (fun z hz => rwv_eq ((V.1.rk j (by omega)).2 z (List.mem_filter.mp hz).1) E)
              rw [h5, ← c_rows V (by omega)]
              unfold remR
              rw [List.filter_map]
              rfl
            have hB : Bd o w' c s := by
              obtain ⟨b1, b2⟩ := B
              have hp : pot o w' = pot o w := by
                have e9 : ∀ n, n < 8 → cap w' (LL o n) = cap w (LL o n) := by
                  intro n hn9
                  by_cases z : n = j
                  · rw [z]; exact L.2.1
                  · exact V.1.capO (by omega) L.1 hn9 z
                unfold pot
                rw [e9 0 (by omega), e9 1 (by omega), e9 2 (by omega), e9 3 (by omega), e9 4 (by omega), e9 5 (by omega), e9 6 (by omega), e9 7 (by omega)]
              unfold Bd
              rw [hp, L.2.2.2.2.1, L.2.2.2.2.2]
              constructor <;> omega
            rw [if_neg h4, if_neg h4, bx1_inr, if_pos (V.1.st j (by omega)).1, e, b2_some, c_count V (by omega)]
            refine ⟨w', (fun i => if i = j then (R j).filter (fun z => ¬ btw w x y z) else R i), ?_, hB, Or.inl ⟨rfl, ?_⟩⟩
            · refine VP.to V' ?_
              unfold setS stA
              rw [ej]
              show (a.1, a.2.1, (a.2.2.1.1, upn a.2.2.1.2 j (_, _, _, ((R j).filter (fun z => ¬ btw w x y z)).map (rwv w')))) = _
              rw [hrows]
            · unfold stA; rw [ej]
theorem c_sum {o q : Nat} {w : CS} {R : Nat → List Nat} {a : AS} (V : VC o q w R a) : x_X6_rowsInAll o w = some (nI (allR a)) := by
  have S := V.1
  have st : ∀ k, k < 3 → (R k).length = (a.2.2.1.2 k).2.2.2.length := fun k hk => by rw [← c_rows V (show k < 6 by omega), List.length_map]
  have step : ∀ (m k d : Nat), k < 3 → x_X6_rowsInAll_L1 o w (m + 1) (nI k) (nI d) = x_X6_rowsInAll_L1 o w m (nI (k + 1)) (nI (d + (a.2.2.1.2 k).2.2.2.length)) := by
    intro m k d hk
    have hr : vR (nI k) 3 := nI_in hk (by omega)
    have hb : wB w (o + 2) (nI k).toNatClampNeg = o + 10 + 3 * k := by rw [nI_clamp (by omega)]; exact S.sa.2.2 k hk
    rw [x_X6_rowsInAll_L1, if_pos S.ko, S.fo.2.1, if_pos S.sa.1, S.sa.2.1, if_neg (nI_ge hk (by omega)), if_pos hr, hb, if_pos (S.st k (by omega)).1, s_size S (show k < 6 by omega), bd_some, nI_1, nI_add, st k hk]
  have last : ∀ m d, x_X6_rowsInAll_L1 o w (m + 1) (nI 3) (nI d) = some (nI d) := by
    intro m d
    rw [x_X6_rowsInAll_L1, if_pos S.ko, S.fo.2.1, if_pos S.sa.1, S.sa.2.1, if_pos (nI_le (by omega) (by omega))]
  unfold x_X6_rowsInAll
  rw [show (0 : Int32) = nI 0 from rfl, show FU = 996 + 1 + 1 + 1 + 1 from rfl, step _ 0 0 (by omega), step _ 1 _ (by omega), step _ 2 _ (by omega), last, bd_some, Nat.zero_add]
/-- a row is made -/
theorem s_newR {o q c s : Nat} {k ct f g : Int32} {w : CS} {R : Nat → List Nat} {a : PA} {cs : List CU} (V : VP o q w R a cs) (B : Bd o w (c + 1) (s + 4)) :
    ∃ w2, wJ (nw w 1 0 4) 0 (wz w + 1) = 1 ∧ x_X2_init (wz w + 1) k ct f g (nw w 1 0 4) = some w2 ∧ VP o q w2 R a cs ∧ wJ w2 0 (wz w + 1) = 1 ∧ rwv w2 (wz w + 1) = (k, ct, f, g) ∧ Bd o w2 c s ∧ AGR w w2 := by
  have S := V.1
  have hk1 : wJ (nw w 1 0 4) 0 (wz w + 1) = 1 := by rw [wJ_nw, if_pos rfl, if_pos rfl]
  have G2 := ((((AGR.nw (k := 1) (l := 0) (n := 4) S.wf).sI 40 k).sI 41 ct).sI 42 f).sI 43 g
  refine ⟨_, hk1, ?_, G2.vp V, hk1, ?_, G2.bd S ⟨rfl, rfl⟩ B, G2⟩
  · unfold x_X2_init
    rw [if_pos hk1, bs_eq, if_pos (show wJ (sI (nw w 1 0 4) 40 (wz w + 1) k) 0 (wz w + 1) = 1 from hk1), bs_eq, if_pos (show wJ (sI (sI (nw w 1 0 4) 40 (wz w + 1) k) 41 (wz w + 1) ct) 0 (wz w + 1) = 1 from hk1), bs_eq, if_pos (show wJ (sI (sI (sI (nw w 1 0 4) 40 (wz w + 1) k) 41 (wz w + 1) ct) 42 (wz w + 1) f) 0 (wz w + 1) = 1 from hk1), bs_eq]
  · unfold rwv
    rw [wI_on, wI_off (p := 42) (Or.inl (by omega)), wI_on, wI_off (p := 41) (Or.inl (by omega)), wI_off (p := 41) (Or.inl (by omega)), wI_on, wI_off (p := 40) (Or.inl (by omega)), wI_off (p := 40) (Or.inl (by omega)), wI_off (p := 40) (Or.inl (by omega)), wI_on]
/-- a row is set: the view -/
theorem c_set {o q k c s p : Nat} {r : RW} {w : CS} {R : Nat → List Nat} {a : AS} (V : VC o q w R a) (hk : k < 6) (hp : wJ w 0 p = 1) (er : rwv w p = r) (hl : findR (a.2.2.1.2 k).2.2.2 r.1 = none → (a.2.2.1.2 k).2.2.2.length < 40) (B : Bd o w c s) :
    ∃ w' R', x_X3_set (o + 10 + 3 * k) p w = some w' ∧ VP o q w' R' (a.1, a.2.1, (a.2.2.1.1, upn a.2.2.1.2 k ((a.2.2.1.2 k).1, (a.2.2.1.2 k).2.1, (a.2.2.1.2 k).2.2.1, putR (a.2.2.1.2 k).2.2.2 r))) a.2.2.2 ∧ Bd o w' c s ∧ EQ w w' := by
  have S := V.1
  have hrow := c_rows V hk
  have hlen : (R k).length = (a.2.2.1.2 k).2.2.2.length := by rw [← hrow, List.length_map]
  have hat : ∀ j, j < (R k).length → rwD (a.2.2.1.2 k).2.2.2 j = rwv w ((R k).getD j 0) := by
    intro j hj
    rw [rwD_get (by omega), getD_get hj]
    simp only [← hrow, List.getElem_map]
  have hkey : wI w 40 p = r.1 := by rw [← er]; rfl
  obtain ⟨xs, w', e, S', L, hx⟩ := s_set S hk hp (fun h => by
    rw [hlen]
    exact hl (find_no _ (fun j hj => by rw [hat j (by omega)]; have := h j (by omega); rw [hkey] at this; exact this))) (B.add (j := k) (by omega))
  have E := S.eq (show k < 8 by omega) L.1
  have V' := VP.rows V hk E S'
  have hLk : LOK w' (LL o k) xs := by
    have := S'.ls k (by omega)
    simpa using this
  have hrows : xs.map (rwv w') = putR (a.2.2.1.2 k).2.2.2 r := by
    have hc : ∀ ys : List Nat, (∀ y ∈ ys, wJ w 0 y = 1) → ys.map (rwv w') = ys.map (rwv w) := fun ys hy => List.map_congr_left (fun z hz => rwv_eq (hy z hz) E)
    rcases hx with ⟨j, j1, j2, j3, rfl⟩ | ⟨j1, rfl⟩
    · rw [hc _ (fun y hy => (List.mem_or_eq_of_mem_set hy).elim (fun z => (S.rk k hk).2 y z) (fun z => by rw [z]; exact hp)), List.map_set, hrow, er]
      exact (put_at _ j (by omega) (by rw [hat j j1]; rw [hkey] at j2; exact j2) (fun i hi => by rw [hat i (by omega)]; have := j3 i hi; rw [hkey] at this; exact this)).symm
    · rw [hc _ (fun y hy => (List.mem_append.mp hy).elim (fun z => (S.rk k hk).2 y z) (fun z => by rw [List.mem_singleton.mp z]; exact hp)), List.map_append, hrow, List.map_cons, List.map_nil, er]
      exact (put_no _ (fun i hi => by rw [hat i (by omega)]; have := j1 i (by omega); rw [hkey] at this; exact this)).symm
  refine ⟨w', _, e, VP.to V' ?_, B.list S (by omega) L hLk, E⟩
  show (a.1, a.2.1, (a.2.2.1.1, upn a.2.2.1.2 k (_, _, _, xs.map (rwv w')))) = _
  rw [hrows]
theorem c_put {o q c s : Nat} {w : CS} {R : Nat → List Nat} {a : AS} (V : VC o q w R a) (I : IV a) (B : Bd o w (c + 2) (s + 10)) (t sn k ct f g : Int32) : CO (x_X6_put o t sn k ct f g w) o q c s (putA t sn k ct f g a) := by
  have hn : lenT a ≤ 60 := I.2.2.1.1.1
  have RE := B.re2
  unfold x_X6_put putA
  rw [if_pos V.1.ko, c_transactionAt V hn RE]
  by_cases h : oX a t
  · rw [if_pos h, if_pos h, bx1_inl]; exact V.f B (by decide)
  · obtain ⟨i, hi, rfl, ei⟩ := oT_at h (show lenT a < 2 ^ 31 by omega)
    rw [if_neg h, if_neg h, bx1_inr, c_storeAt V RE]
    by_cases h2 : noS a sn
    · rw [if_pos h2, if_pos h2, bx1_inl]; exact V.f B (by decide)
    · obtain ⟨j, hj, rfl, ej⟩ := oT_at (fun q => h2 (Or.inl q)) (by omega)
      rw [if_neg h2, if_neg h2, bx1_inr, c_key RE, ej]
      by_cases h3 : ¬ kP k
      · rw [if_pos h3, if_pos h3, bx1_inl]; exact V.f B (by decide)
      · rw [if_neg h3, if_neg h3, bx1_inr, c_range RE]
        by_cases h4 : rng ct 0 9999
        · rw [if_pos h4, if_pos h4, bx1_inl]; exact V.f B (by decide)
        · rw [if_neg h4, if_neg h4, bx1_inr, c_range RE]
          by_cases h5 : rng f (-1) 999
          · rw [if_pos h5, if_pos h5, bx1_inl]; exact V.f B (by decide)
          · rw [if_neg h5, if_neg h5, bx1_inr, c_range RE]
            by_cases h6 : rng g (-1) 999
            · rw [if_pos h6, if_pos h6, bx1_inl]; exact V.f B (by decide)
            · rw [if_neg h6, if_neg h6, bx1_inr, ei, c_write V RE hi ei]
              by_cases h7 : ¬ wrA a (nI i) (nI j)
              · rw [if_pos h7, if_pos h7, bx1_inl]; exact V.f B (by decide)
              · have hr4 : 1 ≤ wl w ∧ 4 ≤ wk w := ⟨RE.1, by have := RE.2; omega⟩
                obtain ⟨w2, k1, e1, V2, k2, er, B2, G2⟩ := s_newR (c := c + 1) (s := s + 6) (k := k) (ct := ct) (f := f) (g := g) V (B.mono (by omega) (by omega))
                have V2c : VC o q w2 R a := V2
                have RE2 := B2.re (by omega) (by omega)
                have hj6 : j < 6 := by omega
                have est : stA a (nI j) = a.2.2.1.2 j := by unfold stA; rw [ej]
                have ecl := s_clashes V2.1 hj6 k2
                obtain ⟨vs1, vs2, vs3, vs4⟩ := V2.2.2.2.1 j hj6
                have hcl : ((wA w2 (o + 11 + 3 * j) 0 = 2 ∧ tkn w2 (R j) 0 (wz w + 1)) ∨ (wA w2 (o + 11 + 3 * j) 1 = 2 ∧ tkn w2 (R j) 1 (wz w + 1))) ↔ (((a.2.2.1.2 j).2.1 = 2 ∧ tknR (a.2.2.1.2 j).2.2.2 0 (k, ct, f, g)) ∨ ((a.2.2.1.2 j).2.2.1 = 2 ∧ tknR (a.2.2.1.2 j).2.2.2 1 (k, ct, f, g))) := by
                  rw [c_tkn, c_tkn, er, vs2, vs3, vs4]
                have hfind : ∃ x, x_X3_find (o + 10 + 3 * j) k w2 = some x ∧ (x = 0 ↔ findR (a.2.2.1.2 j).2.2.2 k = none) := by
                  rcases c_find V2c hj6 k with ⟨e1, e2⟩ | ⟨x, hx, kx, nx, e1, e2⟩
                  · exact ⟨0, e2, fun _ => e1, fun _ => rfl⟩
                  · exact ⟨x, e2, fun z => absurd z nx, fun z => by rw [e1] at z; cases z⟩
                obtain ⟨x, ef, hx0⟩ := hfind
                rw [if_neg h7, if_neg h7, bx1_inr, if_pos hr4, bs_eq, if_pos k1, e1, bd_some, if_pos (V2.1.st j hj6).1, ef, bd_some, est]
                by_cases b1 : ((a.2.2.1.2 j).2.1 = 2 ∧ tknR (a.2.2.1.2 j).2.2.2 0 (k, ct, f, g)) ∨ ((a.2.2.1.2 j).2.2.1 = 2 ∧ tknR (a.2.2.1.2 j).2.2.2 1 (k, ct, f, g))
                · rw [if_pos (hcl.mpr b1)] at ecl
                  have hv : ∀ v : Int32, CO (bd (x_X3_clashes (o + 10 + 3 * j) (wz w + 1) w2) (fun v36 => l0 (if v36 = 0 then l0 (if v = 0 then some (.inl ()) else if wJ w2 0 o = 6 then bd (x_X6_rowsInAll o w2) (fun v41 => if v41 < 40 then some (.inl ()) else some (.inr (.inl ()))) else none) (fun _ => bd (x_X3_set (o + 10 + 3 * j) (wz w + 1) w2) (fun w44 => if isB v then some (.inr (.inr (v, w44))) else none)) else some (.inl ())) (fun _ => if 1 ≤ wl w2 ∧ 6 ≤ wk w2 then some (.inl (3, bump w2)) else none))) o q c s (3, 0, a) := by
                    intro v
                    rw [ecl, bd_some, if_neg q10, l0_inl, if_pos RE2]
                    exact ⟨_, R, VP.bump V2, B2.bump, Or.inr ⟨show (3 : Nat) ≠ 0 by decide, rfl⟩⟩
                  rw [if_pos (Or.inl b1)]
                  by_cases hx : x = 0
                  · rw [if_pos hx, bd_some]; exact hv 1
                  · rw [if_neg hx, bd_some]; exact hv 0
                · rw [if_neg (fun z => b1 (hcl.mp z))] at ecl
                  by_cases hx : x = 0
                  · have hfn := hx0.mp hx
                    rw [if_pos hx, bd_some, ecl, bd_some, if_pos q00, if_neg q10, if_pos V2.1.ko, c_sum V2c, bd_some]
                    have hlt : nI (allR a) < 40 ↔ allR a < 40 := by
                      have l0' := (SOK.of I (show 0 < 3 by omega)).2.2.1
                      have l1' := (SOK.of I (show 1 < 3 by omega)).2.2.1
                      have l2' := (SOK.of I (show 2 < 3 by omega)).2.2.1
                      exact nI_ltI (b := 40) (by unfold allR; omega) (by omega)
                    by_cases b2 : allR a < 40
                    · obtain ⟨w3, R3, e3, V3, B3, E3⟩ := c_set V2c hj6 k2 er (fun _ => by
                        unfold allR at b2
                        rcases (show j = 0 ∨ j = 1 ∨ j = 2 by omega) with z | z | z <;> subst z <;> omega) B2
                      rw [if_pos (hlt.mpr b2), l0_inl, e3, bd_some, if_pos isB1, l0_inr, if_neg (show ¬ ((((a.2.2.1.2 j).2.1 = 2 ∧ tknR (a.2.2.1.2 j).2.2.2 0 (k, ct, f, g)) ∨ ((a.2.2.1.2 j).2.2.1 = 2 ∧ tknR (a.2.2.1.2 j).2.2.2 1 (k, ct, f, g))) ∨ (findR (a.2.2.1.2 j).2.2.2 k = none ∧ ¬ allR a < 40)) from fun z => z.elim b1 (fun z => z.2 b2)), if_pos hfn]
                      refine ⟨w3, R3, ?_, B3.mono (by omega) (by omega), Or.inl ⟨rfl, rfl⟩⟩
                      unfold setS
                      rw [ej]; exact V3
                    · rw [if_neg (fun z => b2 (hlt.mp z)), l0_inr, l0_inl, if_pos RE2, if_pos (Or.inr ⟨hfn, b2⟩)]
                      exact ⟨_, R, VP.bump V2, B2.bump, Or.inr ⟨show (3 : Nat) ≠ 0 by decide, rfl⟩⟩
                  · have hfn : ¬ findR (a.2.2.1.2 j).2.2.2 k = none := fun z => hx (hx0.mpr z)
                    obtain ⟨w3, R3, e3, V3, B3, E3⟩ := c_set V2c hj6 k2 er (fun z => absurd z hfn) B2
                    rw [if_neg hx, bd_some, ecl, bd_some, if_pos q00, if_pos q00, l0_inl, e3, bd_some, if_pos isB0, l0_inr, if_neg (show ¬ ((((a.2.2.1.2 j).2.1 = 2 ∧ tknR (a.2.2.1.2 j).2.2.2 0 (k, ct, f, g)) ∨ ((a.2.2.1.2 j).2.2.1 = 2 ∧ tknR (a.2.2.1.2 j).2.2.2 1 (k, ct, f, g))) ∨ (findR (a.2.2.1.2 j).2.2.2 k = none ∧ ¬ allR a < 40)) from fun z => z.elim b1 (fun z => hfn z.1)), if_neg hfn]
                    refine ⟨w3, R3, ?_, B3.mono (by omega) (by omega), Or.inl ⟨rfl, rfl⟩⟩
                    unfold setS
                    rw [ej]; exact V3
