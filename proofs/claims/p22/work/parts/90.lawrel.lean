/-! ===== the law's own arrays against the abstract store: transactions ===== -/
theorem gsa (m : MS) (k i : Nat) (v : Int32) (j x : Nat) : ga (sa m k i v) j x = if j = k ∧ x = i then v else ga m j x := rfl
theorem gsa_s {m : MS} {k i : Nat} {v : Int32} : ga (sa m k i v) k i = v := if_pos ⟨rfl, rfl⟩
theorem gsa_n {m : MS} {k i : Nat} {v : Int32} {j x : Nat} (h : j ≠ k ∨ x ≠ i) : ga (sa m k i v) j x = ga m j x := if_neg (fun q => h.elim (fun z => z q.1) (fun z => z q.2))
theorem w2_inl {α β ρ : Type} (a : α) (b : β) (f : α → β → Option ρ) : l2 (some (Sum.inl (a, b))) f = f a b := rfl
theorem w2_inr {α β ρ : Type} (r : ρ) (f : α → β → Option ρ) : l2 (some (Sum.inr r)) f = some r := rfl
theorem w3_some {α β γ ρ : Type} (a : α) (b : β) (c : γ) (f : α → β → γ → Option ρ) : b3 (some (a, b, c)) f = f a b c := rfl
theorem vR60 {k : Nat} (h : k < 60) : vR (nI k) 60 := nI_in h (by omega)
theorem vR16 {k : Nat} (h : k < 16) : vR (nI k) 16 := nI_in h (by omega)
theorem vR6 {k : Nat} (h : k < 6) : vR (nI k) 6 := nI_in h (by omega)
theorem v12 : vR 12 16 := by decide
theorem v13 : vR 13 16 := by decide
theorem v14 : vR 14 16 := by decide
theorem v15 : vR 15 16 := by decide
theorem t12c : (12 : Int32).toNatClampNeg = 12 := by decide
theorem t13c : (13 : Int32).toNatClampNeg = 13 := by decide
theorem t14c : (14 : Int32).toNatClampNeg = 14 := by decide
theorem t15c : (15 : Int32).toNatClampNeg = 15 := by decide
theorem n3 (j : Nat) : (3 : Int32) * nI j = nI (3 * j) := pk_mul 3 j
theorem np2 (j : Nat) : nI j + 2 = nI (j + 2) := nI_add j 2
theorem np3 (j : Nat) : (3 : Int32) + nI j = nI (3 + j) := nI_add 3 j
def okT (t : TX) : Prop := t.1 < 4 ∧ (∃ sc, 1 ≤ sc ∧ sc < 8 ∧ t.2.1 = nI sc) ∧ isB t.2.2.1 ∧ (t.2.2.2 = 0 ∨ t.2.2.2 = 1 ∨ t.2.2.2 = 2 ∨ t.2.2.2 = 3)
def OKS (ts : List TX) : Prop := ∀ k, k < ts.length → okT (txAt ts k)
/-- the law's word for a transaction -/
def cod (t : TX) : Int32 := nI (16 * t.1 + (t.2.1.toNatClampNeg + (if t.2.2.1 = 0 then 0 else 8)))
def MA (m : MS) (ts : List TX) : Prop := ga m 3 14 = nI ts.length ∧ ∀ k, k < ts.length → ga m 1 k = (txAt ts k).2.2.2 ∧ ga m 2 k = cod (txAt ts k)
theorem cod_fin : ∀ a, a < 64 → ∀ b, b < 64 → (((nI a &&& nI b) &&& 7 = 0 ↔ nI (a % 8) &&& nI (b % 8) = 0) ∧ ((nI a ||| nI b) &&& 8 = 0 ↔ (a / 8 % 2 = 0 ∧ b / 8 % 2 = 0))) := by decide +kernel
theorem cod_at {t : TX} (h : okT t) : ∃ a, a < 64 ∧ cod t = nI a ∧ t.2.1 = nI (a % 8) ∧ (a / 8 % 2 = 0 ↔ t.2.2.1 = 0) ∧ a / 16 = t.1 ∧ 1 ≤ a % 8 := by
  obtain ⟨h1, ⟨sc, h2, h3, h4⟩, h5, -⟩ := h
  have e : t.2.1.toNatClampNeg = sc := by rw [h4]; exact nI_clamp (by omega)
  have e9 : cod t = nI (16 * t.1 + (sc + (if t.2.2.1 = 0 then 0 else 8))) := by unfold cod; rw [e]
  rcases h5 with q | q
  · rw [if_pos q] at e9
    exact ⟨16 * t.1 + (sc + 0), by omega, e9, by rw [h4, show (16 * t.1 + (sc + 0)) % 8 = sc by omega], ⟨fun _ => q, fun _ => by omega⟩, by omega, by omega⟩
  · have q0 : ¬ t.2.2.1 = 0 := by rw [q]; decide
    rw [if_neg q0] at e9
    exact ⟨16 * t.1 + (sc + 8), by omega, e9, by rw [h4, show (16 * t.1 + (sc + 8)) % 8 = sc by omega], ⟨fun z => by omega, fun z => absurd z q0⟩, by omega, by omega⟩
theorem cod_cfl {t u : TX} (ht : okT t) (hu : okT u) : (¬ (cod t &&& cod u) &&& 7 = 0 ∧ ¬ (cod t ||| cod u) &&& 8 = 0) ↔ cflT t u := by
  obtain ⟨a, a1, a2, a3, a4, -⟩ := cod_at ht
  obtain ⟨b, b1, b2, b3, b4, -⟩ := cod_at hu
  obtain ⟨f1, f2⟩ := cod_fin a a1 b b1
  rw [a2, b2, f1, f2]
  unfold cflT
  rw [a3, b3, a4, b4]
  exact and_congr_right (fun _ => by
    by_cases z : t.2.2.1 = 0
    · by_cases y : u.2.2.1 = 0 <;> simp [z, y]
    · simp [z])
theorem cod_tab {t : TX} (h : okT t) : cod t / 16 = nI t.1 := by
  obtain ⟨a, a1, a2, -, -, a5, -⟩ := cod_at h
  rw [a2, ← a5]
  exact pk_div (d := 16) (by omega) (by omega) (by omega)
theorem cod_in_fin : ∀ a, a < 64 → ∀ k, k < 3 → (((nI a >>> (nI k &&& 31)) &&& 1 = 1 ↔ (nI (a % 8) >>> (nI k &&& 31)) &&& 1 = 1) ∧ ((nI a &&& 8 = 8) ↔ ¬ a / 8 % 2 = 0)) := by decide +kernel
theorem cod_in {t : TX} (h : okT t) {k : Nat} (hk : k < 3) : ((cod t >>> (nI k &&& 31)) &&& 1 = 1 ↔ inS t.2.1 (nI k)) ∧ (cod t &&& 8 = 8 ↔ ¬ t.2.2.1 = 0) := by
  obtain ⟨a, a1, a2, a3, a4, -⟩ := cod_at h
  obtain ⟨f1, f2⟩ := cod_in_fin a a1 k hk
  rw [a2]
  refine ⟨?_, by rw [f2, a4]⟩
  rw [f1]
  unfold inS
  rw [a3]
theorem l_isAlive {m : MS} {k : Nat} (hk : k < 60) : x_L_isAlive (nI k) m = some (if ga m 1 k = 0 ∨ ga m 1 k = 1 then 1 else 0) := by
  unfold x_L_isAlive
  simp only [if_pos (vR60 hk), nI_clamp (show k < 2 ^ 31 by omega)]
  by_cases c0 : ga m 1 k = 0
  · rw [if_pos c0, if_pos (Or.inl c0), l0_inl, bd_some, if_pos isB1]
  · rw [if_neg c0]
    by_cases c1 : ga m 1 k = 1
    · rw [if_pos c1, if_pos (Or.inr c1), l0_inl, bd_some, if_pos isB1]
    · rw [if_neg c1, if_neg (fun q => q.elim c0 c1), l0_inr, bd_some, if_pos isB0]
theorem l_goesL2 {m : MS} {ts : List TX} (V : MA m ts) (O : OKS ts) (hl : ts.length ≤ 60) {i : Nat} (hi : i < ts.length) : ∀ (f j : Nat), j ≤ i → i < f + j → x_L_goesOn_L2 m (nI i) f (nI j) (if ∃ q ∈ List.range j, pendT (txAt ts q) ∧ cflT (txAt ts q) (txAt ts i) then 1 else 0) = some (if mwA ts i then 1 else 0) := by
  intro f
  induction f with
  | zero => intro j h1 h2; omega
  | succ f ih =>
    intro j h1 h2
    rw [x_L_goesOn_L2]
    have z : nI i ≤ nI j ↔ i ≤ j := nI_leI (by omega) (by omega)
    by_cases hj : j < i
    · have hr : vR (nI j) 60 := vR60 (by omega)
      have hri : vR (nI i) 60 := vR60 (by omega)
      rw [if_neg (fun q => by have := z.mp q; omega), nI_1, ← ih (j + 1) (by omega) (by omega)]
      have e := exR (P := fun q => pendT (txAt ts q) ∧ cflT (txAt ts q) (txAt ts i)) j
      by_cases hQ : ∃ q ∈ List.range j, pendT (txAt ts q) ∧ cflT (txAt ts q) (txAt ts i)
      · rw [if_pos hQ, if_neg (by decide), l0_inl, bd_some, if_pos (e.mpr (Or.inl hQ))]
      · rw [if_neg hQ, if_pos rfl, l_isAlive (by omega), bd_some]
        have hx := cod_cfl (O j (by omega)) (O i hi)
        have hV := V.2 j (by omega)
        have hVi := V.2 i hi
        by_cases hp : ga m 1 j = 0 ∨ ga m 1 j = 1
        · have hp' : pendT (txAt ts j) := by unfold pendT; rw [← hV.1]; exact hp
          rw [if_pos hp, if_neg (show ¬ (1 : Int32) = 0 by decide)]
          simp only [if_pos hr, if_pos hri, nI_clamp (show j < 2 ^ 31 by omega), nI_clamp (show i < 2 ^ 31 by omega), hV.2, hVi.2]
          by_cases c7 : (cod (txAt ts j) &&& cod (txAt ts i)) &&& 7 = 0
          · rw [if_pos c7, l0_inl, l0_inr, bd_some, if_neg (fun q => (e.mp q).elim hQ (fun q => (hx.mpr q.2).1 c7))]
          · rw [if_neg c7]
            by_cases c8 : (cod (txAt ts j) ||| cod (txAt ts i)) &&& 8 = 0
            · rw [if_pos c8, l0_inl, l0_inr, bd_some, if_neg (fun q => (e.mp q).elim hQ (fun q => (hx.mpr q.2).2 c8))]
            · rw [if_neg c8, l0_inr, l0_inl, bd_some, if_pos (e.mpr (Or.inr ⟨hp', hx.mp ⟨c7, c8⟩⟩))]
        · have hp' : ¬ pendT (txAt ts j) := by unfold pendT; rw [← hV.1]; exact hp
          rw [if_neg hp, if_pos rfl, l0_inl, l0_inr, bd_some, if_neg (fun q => (e.mp q).elim hQ (fun q => hp' q.1))]
    · have : j = i := by omega
      subst this
      rw [if_pos (z.mpr (by omega))]
/-- what changes the first array alone -/
def FA (m m' : MS) : Prop := ∀ j x, j ≠ 1 → ga m' j x = ga m j x
theorem MA.phase {m : MS} {ts : List TX} (V : MA m ts) {i : Nat} (hi : i < ts.length) (p : Int32) : MA (sa m 1 i p) (setP ts i p) := by
  refine ⟨by rw [gsa_n (Or.inl (by omega)), setP_len]; exact V.1, fun k hk => ?_⟩
  rw [setP_len] at hk
  obtain ⟨v1, v2⟩ := V.2 k hk
  by_cases e : k = i
  · subst e
    rw [gsa_s, gsa_n (Or.inl (by omega)), setP_s p hi]
    exact ⟨rfl, v2⟩
  · rw [gsa_n (Or.inr e), gsa_n (Or.inl (by omega)), setP_n p e]
    exact ⟨v1, v2⟩
theorem OKS.setP {ts : List TX} (h : OKS ts) {i : Nat} (hi : i < ts.length) {p : Int32} (hp : p = 0 ∨ p = 1 ∨ p = 2 ∨ p = 3) : OKS (setP ts i p) := by
  intro k hk
  rw [setP_len] at hk
  by_cases e : k = i
  · subst e
    rw [setP_s p hi]
    obtain ⟨a, b, c, d⟩ := h k hk
    exact ⟨a, b, c, hp⟩
  · rw [setP_n p e]; exact h k hk
theorem l_goesL1 : ∀ (f n i c : Nat) (m : MS) (T : TS), i + n = T.1.length → n < f → T.1.length ≤ 60 → MA m T.1 → OKS T.1 → ∃ m', x_L_goesOn_L1 f (nI i) (nI c) m = some (nI (goA n i c T).1, m') ∧ MA m' (goA n i c T).2.1 ∧ FA m m' := by
  intro f
  induction f with
  | zero => intro n i c m T h1 h2; omega
  | succ f ih =>
    intro n i c m T h1 h2 hl V O
    rw [x_L_goesOn_L1]
    have z : nI T.1.length ≤ nI i ↔ T.1.length ≤ i := nI_leI (by omega) (by omega)
    simp only [if_pos v14, t14c, V.1]
    cases n with
    | zero => rw [if_pos (z.mpr (by omega))]; exact ⟨m, rfl, V, fun _ _ _ => rfl⟩
    | succ n =>
      have hi : i < T.1.length := by omega
      have hr : vR (nI i) 60 := vR60 (by omega)
      rw [if_neg (fun q => by have := z.mp q; omega)]
      have h9 := l_goesL2 V O hl hi FU 0 (by omega) (by show i < 1000 + 0; omega)
      rw [if_neg (by simp), nI_0] at h9
      rw [h9, bd_some]
      simp only [if_pos hr, nI_clamp (show i < 2 ^ 31 by omega), (V.2 i hi).1]
      rw [goA]
      by_cases hp : (txAt T.1 i).2.2.2 = 0
      · rw [if_pos hp]
        by_cases hm : mwA T.1 i
        · rw [if_pos hm, if_neg (show ¬ (1 : Int32) = 0 by decide), b2_some, nI_1, if_neg (fun q => q.2 hm)]
          exact ih n (i + 1) c m T (by omega) (by omega) hl V O
        · rw [if_neg hm, if_pos rfl, bs_eq, b2_some, nI_1, nI_1, if_pos ⟨hp, hm⟩]
          have V1 : MA (sa m 1 i 1) (runA i T).1 := V.phase hi 1
          obtain ⟨m', e, V', F⟩ := ih n (i + 1) (c + 1) (sa m 1 i 1) (runA i T) (by rw [run_len]; omega) (by omega) (by rw [run_len]; exact hl) V1 (O.setP hi (Or.inr (Or.inl rfl)))
          exact ⟨m', e, V', fun j x hj => (F j x hj).trans (gsa_n (Or.inl hj))⟩
      · rw [if_neg hp, b2_some, nI_1, if_neg (fun q => hp q.1)]
        exact ih n (i + 1) c m T (by omega) (by omega) hl V O
theorem l_goesOn {m : MS} {T : TS} (hl : T.1.length ≤ 60) (V : MA m T.1) (O : OKS T.1) : ∃ m', x_L_goesOn m = some (nI (goesA T).1, m') ∧ MA m' (goesA T).2.1 ∧ FA m m' := by
  obtain ⟨m', e, V', F⟩ := l_goesL1 FU T.1.length 0 0 m T (by omega) (by show T.1.length < 1000; omega) hl V O
  rw [nI_0] at e
  exact ⟨m', by unfold x_L_goesOn; rw [e, b2_some]; rfl, V', F⟩
