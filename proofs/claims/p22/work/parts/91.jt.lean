/-! ===== what holds of the transactions and the copies, whatever is called ===== -/
def DJ (ts : List TX) : Prop := ∀ i j, i < j → j < ts.length → pendT (txAt ts i) → (txAt ts j).2.2.2 = 1 → ¬ cflT (txAt ts i) (txAt ts j)
def CE (u : Int32) (T : TS) : Prop := ∀ i, i < T.1.length → (txAt T.1 i).2.2.2 = 1 → ¬ (txAt T.1 i).2.2.1 = 0 → ¬ u = nI i → ∀ k, k < 3 → inS (txAt T.1 i).2.1 (nI k) → (T.2 (3 + k)).1 = (T.2 k).1
def UU (u : Int32) (ts : List TX) : Prop := ∀ i, i < ts.length → u = nI i → (txAt ts i).2.1 = 7 ∧ ¬ (txAt ts i).2.2.1 = 0 ∧ (txAt ts i).2.2.2 = 1
def CT (st : Nat → SA) : Prop := ∀ k, k < 6 → ∀ r ∈ (st k).2.2.2, ¬ rng r.2.1 0 9999
def JT (u : Int32) (T : TS) : Prop := OKS T.1 ∧ DJ T.1 ∧ CE u T ∧ UU u T.1 ∧ CT T.2 ∧ T.1.length ≤ 60
theorem in_fin : ∀ a, a < 8 → ∀ b, b < 8 → ∀ k, k < 3 → inS (nI a) (nI k) → inS (nI b) (nI k) → ¬ nI a &&& nI b = 0 := by decide +kernel
theorem in_fin7 : ∀ a, a < 8 → 1 ≤ a → ¬ nI a &&& 7 = 0 ∧ ¬ (7 : Int32) &&& nI a = 0 := by decide +kernel
theorem in_7 : ∀ k, k < 3 → inS 7 (nI k) := by decide +kernel
theorem cfl_in {t u : TX} (ht : okT t) (hu : okT u) {k : Nat} (hk : k < 3) (h1 : inS t.2.1 (nI k)) (h2 : inS u.2.1 (nI k)) (hw : ¬ t.2.2.1 = 0 ∨ ¬ u.2.2.1 = 0) : cflT t u := by
  obtain ⟨-, ⟨a, a1, a2, a3⟩, -⟩ := ht
  obtain ⟨-, ⟨b, b1, b2, b3⟩, -⟩ := hu
  refine ⟨?_, hw⟩
  rw [a3] at h1 ⊢
  rw [b3] at h2 ⊢
  exact in_fin a a2 b b2 k hk h1 h2
theorem cfl_7 {t u : TX} (ht : okT t) (h7 : u.2.1 = 7) (hw : ¬ u.2.2.1 = 0) : cflT t u ∧ cflT u t := by
  obtain ⟨-, ⟨a, a1, a2, a3⟩, -⟩ := ht
  have := in_fin7 a a2 a1
  refine ⟨⟨?_, Or.inr hw⟩, ⟨?_, Or.inl hw⟩⟩
  · rw [a3, h7]; exact this.1
  · rw [a3, h7]; exact this.2
theorem np0 : ¬ pendT (0, 0, 0, (3 : Int32)) := by decide
theorem np3' {t : TX} (h : t.2.2.2 = 3) : ¬ pendT t := by
  unfold pendT
  rw [h]
  decide
theorem p01 : ¬ (0 : Int32) = 1 := by decide
theorem p13 : ¬ (3 : Int32) = 1 := by decide
theorem nm1 {i : Nat} (h : i < 2 ^ 31) : ¬ (-1 : Int32) = nI i := fun q => nI_m1 h q.symm
/-- beside a running upgrade nothing runs -/
theorem JT.alone {u : Int32} {T : TS} (J : JT u T) {i a : Nat} (hi : i < T.1.length) (hu : u = nI i) (ha : a < T.1.length) (hr : (txAt T.1 a).2.2.2 = 1) : a = i := by
  obtain ⟨O, D, -, U, -⟩ := J
  obtain ⟨u1, u2, u3⟩ := U i hi hu
  rcases Nat.lt_trichotomy a i with z | z | z
  · exact absurd (cfl_7 (O a ha) u1 u2).1 (D a i z hi (Or.inr hr) u3)
  · exact z
  · exact absurd (cfl_7 (O a ha) u1 u2).2 (D i a z ha (Or.inr u3) hr)
theorem CT.cp {st : Nat → SA} (h : CT st) (sc : Int32) (a b : Nat) (hab : a + 3 ≤ 6 ∧ b + 3 ≤ 6) : CT (copyA sc a b st) := by
  intro k hk r hr
  unfold copyA at hr
  split at hr
  · exact h _ (by omega) r hr
  · exact h k hk r hr
theorem cp_hi {sc : Int32} {st : Nat → SA} {k : Nat} (hk : k < 3) : copyA sc 0 3 st (3 + k) = (if inS sc (nI k) then st k else st (3 + k)) ∧ copyA sc 0 3 st k = st k := by
  unfold copyA
  rw [if_neg (show ¬ (3 ≤ k ∧ _) by omega), show 3 + k - 3 = k by omega, Nat.zero_add]
  refine ⟨?_, rfl⟩
  by_cases h : inS sc (nI k)
  · rw [if_pos h, if_pos ⟨by omega, by omega, h⟩]
  · rw [if_neg h, if_neg (fun q => h q.2.2)]
theorem cp_lo {sc : Int32} {st : Nat → SA} {k : Nat} (hk : k < 3) : copyA sc 3 0 st k = (if inS sc (nI k) then st (3 + k) else st k) ∧ copyA sc 3 0 st (3 + k) = st (3 + k) := by
  unfold copyA
  rw [if_neg (show ¬ (0 ≤ 3 + k ∧ 3 + k < 0 + 3 ∧ _) by omega), Nat.sub_zero]
  refine ⟨?_, rfl⟩
  by_cases h : inS sc (nI k)
  · rw [if_pos h, if_pos ⟨by omega, by omega, h⟩]
  · rw [if_neg h, if_neg (fun q => h q.2.2)]
theorem JT.run {u : Int32} {T : TS} (J : JT u T) {i : Nat} (hi : i < T.1.length) (hp : (txAt T.1 i).2.2.2 = 0) (hm : ¬ mwA T.1 i) : JT u (runA i T) := by
  obtain ⟨O, D, C, U, X, L⟩ := id J
  have hui : ¬ u = nI i := fun q => by
    have := (U i hi q).2.2
    rw [hp] at this
    exact p01 this
  refine ⟨O.setP hi (Or.inr (Or.inl rfl)), fun a b hab hb pa pb => ?_, fun a ha pa wa ua k hk ik => ?_, fun a ha ua => ?_, ?_, by rw [run_len]; exact L⟩
  · have hb' : b < T.1.length := by rw [run_len] at hb; exact hb
    have pa' : pendT (txAt (setP T.1 i 1) a) := pa
    have pb' : (txAt (setP T.1 i 1) b).2.2.2 = 1 := pb
    show ¬ cflT (txAt (setP T.1 i 1) a) (txAt (setP T.1 i 1) b)
    by_cases e : b = i
    · subst e
      have ne : a ≠ b := by omega
      rw [setP_n 1 ne] at pa' ⊢
      rw [setP_s 1 hi]
      exact fun q => hm ⟨a, List.mem_range.mpr hab, pa', q⟩
    · rw [setP_n 1 e] at pb' ⊢
      by_cases e2 : a = i
      · subst e2
        rw [setP_s 1 hi]
        exact D a b hab hb' (Or.inl hp) pb'
      · rw [setP_n 1 e2] at pa' ⊢
        exact D a b hab hb' pa' pb'
  · have ha' : a < T.1.length := by rw [run_len] at ha; exact ha
    have pa' : (txAt (setP T.1 i 1) a).2.2.2 = 1 := pa
    have wa' : ¬ (txAt (setP T.1 i 1) a).2.2.1 = 0 := wa
    have ik' : inS (txAt (setP T.1 i 1) a).2.1 (nI k) := ik
    show ((if (txAt T.1 i).2.2.1 = 0 then T.2 else copyA (txAt T.1 i).2.1 0 3 T.2) (3 + k)).1 = ((if (txAt T.1 i).2.2.1 = 0 then T.2 else copyA (txAt T.1 i).2.1 0 3 T.2) k).1
    by_cases e : a = i
    · subst e
      rw [setP_s 1 hi] at wa' ik'
      rw [if_neg wa', (cp_hi hk).1, (cp_hi hk).2, if_pos ik']
    · rw [setP_n 1 e] at pa' wa' ik'
      by_cases w0 : (txAt T.1 i).2.2.1 = 0
      · rw [if_pos w0]; exact C a ha' pa' wa' ua k hk ik'
      · rw [if_neg w0, (cp_hi hk).1, (cp_hi hk).2]
        have hn : ¬ inS (txAt T.1 i).2.1 (nI k) := fun q => by
          rcases Nat.lt_or_ge a i with z | z
          · exact hm ⟨a, List.mem_range.mpr z, Or.inr pa', cfl_in (O a ha') (O i hi) hk ik' q (Or.inl wa')⟩
          · exact D i a (by omega) ha' (Or.inl hp) pa' (cfl_in (O i hi) (O a ha') hk q ik' (Or.inl w0))
        rw [if_neg hn]
        exact C a ha' pa' wa' ua k hk ik'
  · have ha' : a < T.1.length := by rw [run_len] at ha; exact ha
    have e : a ≠ i := fun q => hui (q ▸ ua)
    show (txAt (setP T.1 i 1) a).2.1 = 7 ∧ _ ∧ (txAt (setP T.1 i 1) a).2.2.2 = 1
    rw [setP_n 1 e]
    have := U a ha' ua
    refine ⟨this.1, ?_, this.2.2⟩
    show ¬ (txAt (setP T.1 i 1) a).2.2.1 = 0
    rw [setP_n 1 e]
    exact this.2.1
  · show CT (if (txAt T.1 i).2.2.1 = 0 then T.2 else copyA (txAt T.1 i).2.1 0 3 T.2)
    split
    · exact X
    · exact X.cp _ 0 3 (by omega)
theorem JT.give {u u' : Int32} {T : TS} (J : JT u T) {i : Nat} (hi : i < T.1.length) (hp : pendT (txAt T.1 i)) (hu : (u' = u ∧ ¬ u = nI i) ∨ (u' = -1 ∧ u = nI i)) : JT u' (giveA i T) := by
  obtain ⟨O, D, C, U, X, L⟩ := id J
  refine ⟨O.setP hi (Or.inr (Or.inr (Or.inr rfl))), fun a b hab hb pa pb => ?_, fun a ha pa wa ua k hk ik => ?_, fun a ha ua => ?_, ?_, by rw [give_len]; exact L⟩
  · have hb' : b < T.1.length := by rw [give_len] at hb; exact hb
    have pa' : pendT (txAt (setP T.1 i 3) a) := pa
    have pb' : (txAt (setP T.1 i 3) b).2.2.2 = 1 := pb
    show ¬ cflT (txAt (setP T.1 i 3) a) (txAt (setP T.1 i 3) b)
    have e : b ≠ i := fun q => by subst q; rw [setP_s 3 hi] at pb'; exact p13 pb'
    have e2 : a ≠ i := fun q => by subst q; rw [setP_s 3 hi] at pa'; exact np3' rfl pa'
    rw [setP_n 3 e] at pb' ⊢
    rw [setP_n 3 e2] at pa' ⊢
    exact D a b hab hb' pa' pb'
  · have ha' : a < T.1.length := by rw [give_len] at ha; exact ha
    have pa' : (txAt (setP T.1 i 3) a).2.2.2 = 1 := pa
    have wa' : ¬ (txAt (setP T.1 i 3) a).2.2.1 = 0 := wa
    have ik' : inS (txAt (setP T.1 i 3) a).2.1 (nI k) := ik
    have e : a ≠ i := fun q => by subst q; rw [setP_s 3 hi] at pa'; exact p13 pa'
    rw [setP_n 3 e] at pa' wa' ik'
    have hua : ¬ u = nI a := by
      rcases hu with q | q
      · rw [← q.1]; exact ua
      · rw [q.2]
        exact fun z => e ((nI_eq (by omega) (by omega)).mp z).symm
    have hC := C a ha' pa' wa' hua k hk ik'
    show ((if (txAt T.1 i).2.2.2 = 1 ∧ ¬ (txAt T.1 i).2.2.1 = 0 then copyA (txAt T.1 i).2.1 3 0 T.2 else T.2) (3 + k)).1 = ((if (txAt T.1 i).2.2.2 = 1 ∧ ¬ (txAt T.1 i).2.2.1 = 0 then copyA (txAt T.1 i).2.1 3 0 T.2 else T.2) k).1
    by_cases c : (txAt T.1 i).2.2.2 = 1 ∧ ¬ (txAt T.1 i).2.2.1 = 0
    · rw [if_pos c, (cp_lo hk).1, (cp_lo hk).2]
      have hn : ¬ inS (txAt T.1 i).2.1 (nI k) := fun q => by
        rcases Nat.lt_or_ge a i with z | z
        · exact D a i z hi (Or.inr pa') c.1 (cfl_in (O a ha') (O i hi) hk ik' q (Or.inl wa'))
        · exact D i a (by omega) ha' (Or.inr c.1) pa' (cfl_in (O i hi) (O a ha') hk q ik' (Or.inl c.2))
      rw [if_neg hn]
      exact hC
    · rw [if_neg c]; exact hC
  · have ha' : a < T.1.length := by rw [give_len] at ha; exact ha
    rcases hu with q | q
    · rw [q.1] at ua
      have e : a ≠ i := fun z => q.2 (z ▸ ua)
      have := U a ha' ua
      show (txAt (setP T.1 i 3) a).2.1 = 7 ∧ ¬ (txAt (setP T.1 i 3) a).2.2.1 = 0 ∧ (txAt (setP T.1 i 3) a).2.2.2 = 1
      rw [setP_n 3 e]; exact this
    · rw [q.1] at ua; exact absurd ua (nm1 (by omega))
  · show CT (if (txAt T.1 i).2.2.2 = 1 ∧ ¬ (txAt T.1 i).2.2.1 = 0 then copyA (txAt T.1 i).2.1 3 0 T.2 else T.2)
    split
    · exact X.cp _ 3 0 (by omega)
    · exact X
theorem JT.go {u : Int32} : ∀ (n i c : Nat) (T : TS), i + n ≤ T.1.length → JT u T → JT u (goA n i c T).2 := by
  intro n
  induction n with
  | zero => intro i c T _ J; exact J
  | succ n ih =>
    intro i c T h J
    rw [goA]
    split
    · next q => exact ih _ _ _ (by rw [run_len]; omega) (J.run (by omega) q.1 q.2)
    · exact ih _ _ _ (by omega) J
theorem JT.goes {u : Int32} {T : TS} (J : JT u T) : JT u (goesA T).2 := JT.go _ _ _ _ (by omega) J
theorem txA_l {ts : List TX} {t : TX} {k : Nat} (h : k < ts.length) : txAt (ts ++ [t]) k = txAt ts k := by
  unfold txAt
  rw [List.getD_eq_getElem?_getD, List.getD_eq_getElem?_getD, List.getElem?_append_left h]
theorem txA_r {ts : List TX} {t : TX} : txAt (ts ++ [t]) ts.length = t := by
  unfold txAt
  rw [List.getD_eq_getElem?_getD, List.getElem?_append_right (Nat.le_refl _), Nat.sub_self]
  rfl
theorem len_1 (ts : List TX) (t : TX) : (ts ++ [t]).length = ts.length + 1 := by rw [List.length_append]; rfl
theorem JT.add {u : Int32} {ts : List TX} {st : Nat → SA} (J : JT u (ts, st)) {t : TX} (ht : okT t) (h0 : t.2.2.2 = 0) (hl : ts.length < 60) (hu : ¬ u = nI ts.length) : JT u (ts ++ [t], st) := by
  obtain ⟨O, D, C, U, X, L⟩ := id J
  have cs : ∀ k, k < (ts ++ [t]).length → k < ts.length ∨ k = ts.length := fun k hk => by rw [len_1] at hk; omega
  refine ⟨fun k hk => ?_, fun a b hab hb pa pb => ?_, fun a ha pa wa ua k hk ik => ?_, fun a ha ua => ?_, X, by show (ts ++ [t]).length ≤ 60; rw [len_1]; omega⟩
  · show okT (txAt (ts ++ [t]) k)
    rcases cs k hk with q | q
    · rw [txA_l q]; exact O k q
    · rw [q, txA_r]; exact ht
  · have pa' : pendT (txAt (ts ++ [t]) a) := pa
    have pb' : (txAt (ts ++ [t]) b).2.2.2 = 1 := pb
    show ¬ cflT (txAt (ts ++ [t]) a) (txAt (ts ++ [t]) b)
    rcases cs b hb with q | q
    · have qa : a < ts.length := by omega
      rw [txA_l q] at pb' ⊢
      rw [txA_l qa] at pa' ⊢
      exact D a b hab q pa' pb'
    · rw [q, txA_r, h0] at pb'; exact absurd pb' p01
  · have pa' : (txAt (ts ++ [t]) a).2.2.2 = 1 := pa
    have wa' : ¬ (txAt (ts ++ [t]) a).2.2.1 = 0 := wa
    have ik' : inS (txAt (ts ++ [t]) a).2.1 (nI k) := ik
    rcases cs a ha with q | q
    · rw [txA_l q] at pa' wa' ik'
      exact C a q pa' wa' ua k hk ik'
    · rw [q, txA_r, h0] at pa'; exact absurd pa' p01
  · rcases cs a ha with q | q
    · have := U a q ua
      show (txAt (ts ++ [t]) a).2.1 = 7 ∧ ¬ (txAt (ts ++ [t]) a).2.2.1 = 0 ∧ (txAt (ts ++ [t]) a).2.2.2 = 1
      rw [txA_l q]; exact this
    · rw [q] at ua; exact absurd ua hu
/-- the upgrade's transaction begins, where nobody is pending -/
theorem JT.beg {u : Int32} {ts : List TX} {st : Nat → SA} (J : JT u (ts, st)) (j : Nat) (hj : j < 4) (hl : ts.length < 60) (hu : u = -1) (hn : ∀ k, k < ts.length → ¬ pendT (txAt ts k)) : JT (nI ts.length) (runA ts.length (ts ++ [(j, 7, 1, 0)], st)) := by
  have J1 : JT u (ts ++ [(j, 7, 1, 0)], st) := J.add (t := (j, 7, 1, 0)) ⟨hj, ⟨7, by omega, by omega, rfl⟩, isB1, Or.inl rfl⟩ rfl hl (by rw [hu]; exact nm1 (by omega))
  have hi : ts.length < (ts ++ [((j, 7, 1, 0) : TX)], st).1.length := by show _ < (ts ++ [((j, 7, 1, 0) : TX)]).length; rw [len_1]; omega
  have J2 := J1.run hi (by show (txAt (ts ++ [((j, 7, 1, 0) : TX)]) ts.length).2.2.2 = 0; rw [txA_r]) (by
    rintro ⟨q, hq, pq, -⟩
    have hq' := List.mem_range.mp hq
    have pq' : pendT (txAt (ts ++ [((j, 7, 1, 0) : TX)]) q) := pq
    rw [txA_l hq'] at pq'
    exact hn q hq' pq')
  obtain ⟨O, D, C, U, X, L⟩ := J2
  refine ⟨O, D, fun a ha pa wa ua k hk ik => C a ha pa wa (by rw [hu]; exact nm1 (by omega)) k hk ik, fun a ha ua => ?_, X, L⟩
  have e : ts.length = a := (nI_eq (by omega) (by omega)).mp ua
  subst e
  show (txAt (setP (ts ++ [((j, 7, 1, 0) : TX)]) ts.length 1) ts.length).2.1 = 7 ∧ ¬ (txAt (setP (ts ++ [((j, 7, 1, 0) : TX)]) ts.length 1) ts.length).2.2.1 = 0 ∧ (txAt (setP (ts ++ [((j, 7, 1, 0) : TX)]) ts.length 1) ts.length).2.2.2 = 1
  rw [setP_s 1 hi]
  show (txAt (ts ++ [((j, 7, 1, 0) : TX)]) ts.length).2.1 = 7 ∧ ¬ (txAt (ts ++ [((j, 7, 1, 0) : TX)]) ts.length).2.2.1 = 0 ∧ (1 : Int32) = 1
  rw [txA_r]
  exact ⟨rfl, q10, rfl⟩
/-- a transaction is done -/
theorem JT.done {u u' : Int32} {T : TS} (J : JT u T) {i : Nat} (hi : i < T.1.length) (hu : (u' = u ∧ ¬ u = nI i) ∨ (u' = -1 ∧ u = nI i)) : JT u' (setP T.1 i 2, T.2) := by
  obtain ⟨O, D, C, U, X, L⟩ := id J
  have p2 : ¬ (2 : Int32) = 1 := by decide
  refine ⟨O.setP hi (Or.inr (Or.inr (Or.inl rfl))), fun a b hab hb pa pb => ?_, fun a ha pa wa ua k hk ik => ?_, fun a ha ua => ?_, X, by show (setP T.1 i 2).length ≤ 60; rw [setP_len]; exact L⟩
  · have hb' : b < T.1.length := by have : b < (setP T.1 i 2).length := hb; rw [setP_len] at this; exact this
    have pa' : pendT (txAt (setP T.1 i 2) a) := pa
    have pb' : (txAt (setP T.1 i 2) b).2.2.2 = 1 := pb
    show ¬ cflT (txAt (setP T.1 i 2) a) (txAt (setP T.1 i 2) b)
    have e : b ≠ i := fun q => by subst q; rw [setP_s 2 hi] at pb'; exact p2 pb'
    have e2 : a ≠ i := fun q => by
      subst q
      rw [setP_s 2 hi] at pa'
      rcases pa' with z | z
      · exact absurd z (show ¬ (2 : Int32) = 0 by decide)
      · exact p2 z
    rw [setP_n 2 e] at pb' ⊢
    rw [setP_n 2 e2] at pa' ⊢
    exact D a b hab hb' pa' pb'
  · have ha' : a < T.1.length := by have : a < (setP T.1 i 2).length := ha; rw [setP_len] at this; exact this
    have pa' : (txAt (setP T.1 i 2) a).2.2.2 = 1 := pa
    have wa' : ¬ (txAt (setP T.1 i 2) a).2.2.1 = 0 := wa
    have ik' : inS (txAt (setP T.1 i 2) a).2.1 (nI k) := ik
    have e : a ≠ i := fun q => by subst q; rw [setP_s 2 hi] at pa'; exact p2 pa'
    rw [setP_n 2 e] at pa' wa' ik'
    refine C a ha' pa' wa' ?_ k hk ik'
    rcases hu with q | q
    · rw [← q.1]; exact ua
    · rw [q.2]
      exact fun z => e ((nI_eq (by omega) (by omega)).mp z).symm
  · have ha' : a < T.1.length := by have : a < (setP T.1 i 2).length := ha; rw [setP_len] at this; exact this
    rcases hu with q | q
    · rw [q.1] at ua
      have e : a ≠ i := fun z => q.2 (z ▸ ua)
      have := U a ha' ua
      show (txAt (setP T.1 i 2) a).2.1 = 7 ∧ ¬ (txAt (setP T.1 i 2) a).2.2.1 = 0 ∧ (txAt (setP T.1 i 2) a).2.2.2 = 1
      rw [setP_n 2 e]; exact this
    · rw [q.1] at ua; exact absurd ua (nm1 (by omega))
