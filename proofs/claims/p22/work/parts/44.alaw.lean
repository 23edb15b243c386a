/-! ===== PURE: of the abstract store: what copies, runs, tabs and rows keep ===== -/
theorem isB0 : isB (0 : Int32) := by decide
theorem isB1 : isB (1 : Int32) := by decide
abbrev ixB (v : Int32) : Prop := v = 0 ∨ v = 1 ∨ v = 2
def SOK (s : SA) : Prop := (isB s.1 ∧ ixB s.2.1 ∧ ixB s.2.2.1) ∧ (s.1 = 0 → s = (0, 0, 0, [])) ∧ s.2.2.2.length ≤ 40 ∧ (s.2.2.2.map (fun r => r.1)).Nodup ∧ ∀ r ∈ s.2.2.2, kP r.1 ∧ ¬ rng r.2.2.1 (-1) 999 ∧ ¬ rng r.2.2.2 (-1) 999
def TOK (ts : List TX) : Prop := ts.length ≤ 60 ∧ ∀ t ∈ ts, t.1 < 4 ∧ isB t.2.2.1
def TSK (T : TS) : Prop := TOK T.1 ∧ ∀ k, k < 6 → SOK (T.2 k)
theorem txAt_mem {ts : List TX} {i : Nat} (h : i < ts.length) : txAt ts i ∈ ts := by
  unfold txAt
  rw [List.getD_eq_getElem?_getD, List.getElem?_eq_getElem h]
  exact List.getElem_mem h
theorem rng_oT {n : Nat} (v : Int32) (hn : n < 2 ^ 30) : rng v 0 (nI n - 1) ↔ oT v n := by
  have h1 : (nI n - 1).toInt = (n : Int) - 1 := pk_sub_toInt (b := 1) hn (by omega)
  have h2 : (nI n).toInt = n := nI_toInt (by omega)
  have e : ¬ v ≤ nI n - 1 ↔ nI n ≤ v := by
    rw [Int32.le_iff_toInt_le, Int32.le_iff_toInt_le, h1, h2]
    omega
  exact ⟨fun q => q.imp id e.mp, fun q => q.imp id e.mpr⟩
theorem oT_cases {n : Nat} (v : Int32) (hn : n < 2 ^ 31) : oT v n ∨ ∃ i, i < n ∧ v = nI i ∧ ¬ oT v n := by
  rcases pk_ix v hn with h | h | ⟨j, hj, rfl⟩
  · exact Or.inl (Or.inl h)
  · exact Or.inl (Or.inr h)
  · exact Or.inr ⟨j, hj, rfl, fun q => q.elim (nI_pos (by omega)) (nI_ge hj hn)⟩
def copyN (sc : Int32) (a b n : Nat) (st : Nat → SA) : Nat → SA := fun j => if b ≤ j ∧ j < b + n ∧ inS sc (nI (j - b)) then st (a + (j - b)) else st j
theorem copyN_3 (sc : Int32) (a b : Nat) (st : Nat → SA) : copyA sc a b st = copyN sc a b 3 st := rfl
theorem copyN_0 (sc : Int32) (a b : Nat) (st : Nat → SA) : copyN sc a b 0 st = st := by
  funext j
  unfold copyN
  rw [if_neg (by omega)]
theorem copyN_i {sc : Int32} {a b n : Nat} {st : Nat → SA} (h : inS sc (nI n)) (hab : a + n < b ∨ b + n < a + n) : copyN sc a b (n + 1) st = upn (copyN sc a b n st) (b + n) (copyN sc a b n st (a + n)) := by
  funext j
  unfold copyN upn
  by_cases hj : j = b + n
  · subst hj
    rw [if_pos ⟨by omega, by omega, by rw [Nat.add_sub_cancel_left]; exact h⟩, if_pos rfl, if_neg (by omega), Nat.add_sub_cancel_left]
  · rw [if_neg hj]
    exact ite_congr (propext ⟨fun q => ⟨q.1, by omega, q.2.2⟩, fun q => ⟨q.1, by omega, q.2.2⟩⟩) (fun _ => rfl) (fun _ => rfl)
theorem copyN_o {sc : Int32} {a b n : Nat} {st : Nat → SA} (h : ¬ inS sc (nI n)) : copyN sc a b (n + 1) st = copyN sc a b n st := by
  funext j
  unfold copyN
  refine ite_congr (propext ⟨fun q => ⟨q.1, ?_, q.2.2⟩, fun q => ⟨q.1, by omega, q.2.2⟩⟩) (fun _ => rfl) (fun _ => rfl)
  obtain ⟨q1, q2, q3⟩ := q
  rcases Nat.lt_or_ge j (b + n) with z | z
  · exact z
  · have : j - b = n := by omega
    rw [this] at q3; exact absurd q3 h
theorem SOK.len {st : Nat → SA} (h : ∀ k, k < 6 → SOK (st k)) : ∀ k, k < 6 → (st k).2.2.2.length ≤ 40 := fun k hk => (h k hk).2.2.1
theorem SOK.cp {st : Nat → SA} (h : ∀ k, k < 6 → SOK (st k)) (sc : Int32) (a b n : Nat) (hab : a + n ≤ 6 ∧ b + n ≤ 6) : ∀ k, k < 6 → SOK (copyN sc a b n st k) := by
  intro k hk
  unfold copyN
  split
  · exact h _ (by omega)
  · exact h k hk
theorem setP_len (ts : List TX) (i : Nat) (p : Int32) : (setP ts i p).length = ts.length := List.length_set
theorem setP_s {ts : List TX} {i : Nat} (p : Int32) (h : i < ts.length) : txAt (setP ts i p) i = ((txAt ts i).1, (txAt ts i).2.1, (txAt ts i).2.2.1, p) := by
  unfold setP
  conv => lhs; unfold txAt
  rw [List.getD_eq_getElem?_getD, List.getElem?_set_self h]; rfl
theorem setP_n {ts : List TX} {i j : Nat} (p : Int32) (h : j ≠ i) : txAt (setP ts i p) j = txAt ts j := by
  unfold setP txAt
  rw [List.getD_eq_getElem?_getD, List.getElem?_set_ne (Ne.symm h), ← List.getD_eq_getElem?_getD]
theorem exR {P : Nat → Prop} (j : Nat) : (∃ q ∈ List.range (j + 1), P q) ↔ (∃ q ∈ List.range j, P q) ∨ P j := by
  constructor
  · rintro ⟨q, hq, h⟩
    rw [List.mem_range] at hq
    by_cases e : q = j
    · subst e; exact Or.inr h
    · exact Or.inl ⟨q, List.mem_range.mpr (by omega), h⟩
  · rintro (⟨q, hq, h⟩ | h)
    · exact ⟨q, List.mem_range.mpr (by have := List.mem_range.mp hq; omega), h⟩
    · exact ⟨j, List.mem_range.mpr (by omega), h⟩
theorem TOK.setP {ts : List TX} (h : TOK ts) {i : Nat} (p : Int32) (hi : i < ts.length) : TOK (setP ts i p) := by
  refine ⟨by rw [setP_len]; exact h.1, fun t ht => ?_⟩
  rcases List.mem_or_eq_of_mem_set ht with q | q
  · exact h.2 t q
  · have h9 := h.2 _ (txAt_mem hi)
    rw [q]; exact ⟨h9.1, h9.2⟩
theorem TSK.run {T : TS} (h : TSK T) {i : Nat} (hi : i < T.1.length) : TSK (runA i T) := by
  refine ⟨h.1.setP 1 hi, ?_⟩
  show ∀ k, k < 6 → SOK ((if (txAt T.1 i).2.2.1 = 0 then T.2 else copyA (txAt T.1 i).2.1 0 3 T.2) k)
  split
  · exact h.2
  · exact SOK.cp h.2 _ 0 3 3 (by omega)
theorem TSK.give {T : TS} (h : TSK T) {i : Nat} (hi : i < T.1.length) : TSK (giveA i T) := by
  refine ⟨h.1.setP 3 hi, ?_⟩
  show ∀ k, k < 6 → SOK ((if (txAt T.1 i).2.2.2 = 1 ∧ ¬ (txAt T.1 i).2.2.1 = 0 then copyA (txAt T.1 i).2.1 3 0 T.2 else T.2) k)
  split
  · exact SOK.cp h.2 _ 3 0 3 (by omega)
  · exact h.2
theorem run_len (i : Nat) (T : TS) : (runA i T).1.length = T.1.length := setP_len _ _ _
theorem give_len (i : Nat) (T : TS) : (giveA i T).1.length = T.1.length := setP_len _ _ _
theorem go_len : ∀ (n i c : Nat) (T : TS), (goA n i c T).2.1.length = T.1.length := by
  intro n
  induction n with
  | zero => intro i c T; rfl
  | succ n ih =>
    intro i c T
    rw [goA]
    split
    · rw [ih, run_len]
    · exact ih _ _ _
theorem TSK.go : ∀ (n i c : Nat) (T : TS), i + n ≤ T.1.length → TSK T → TSK (goA n i c T).2 := by
  intro n
  induction n with
  | zero => intro i c T _ h; exact h
  | succ n ih =>
    intro i c T hn h
    rw [goA]
    split
    · exact ih _ _ _ (by rw [run_len]; omega) (h.run (by omega))
    · exact ih _ _ _ (by omega) h
theorem fbA_lt (B : TQ) : ∀ (n k : Nat) (b : Option Nat), k + n ≤ 4 → (∀ q, b = some q → q < 4 ∧ (B q).1 = 3) → ∀ q, fbA B n k b = some q → q < 4 ∧ (B q).1 = 3 := by
  intro n
  induction n with
  | zero => intro k b _ h q hq; exact h q hq
  | succ n ih =>
    intro k b hk h q hq
    rw [fbA] at hq
    refine ih (k + 1) _ (by omega) (fun q' hq' => ?_) q hq
    split at hq'
    · next c => cases hq'; exact ⟨by omega, c.1⟩
    · exact h q' hq'
theorem nI_m1 {k : Nat} (h : k < 2 ^ 31) : ¬ nI k = -1 := fun q => nI_pos h (by rw [q]; decide)
def nbA (B : TQ) : Nat := (if (B 0).1 = 3 then 1 else 0) + (if (B 1).1 = 3 then 1 else 0) + (if (B 2).1 = 3 then 1 else 0) + (if (B 3).1 = 3 then 1 else 0)
theorem nbA_le (B : TQ) : nbA B ≤ 4 := by unfold nbA; split <;> split <;> split <;> split <;> omega
theorem nbA_upn {B : TQ} {j : Nat} (hj : j < 4) (h : (B j).1 = 3) {v : Int32 × Int32 × Int32} (hv : ¬ v.1 = 3) : nbA (upn B j v) < nbA B := by
  unfold nbA upn
  rcases (show j = 0 ∨ j = 1 ∨ j = 2 ∨ j = 3 by omega) with q | q | q | q <;> subst q <;> simp [h, hv] <;> omega
theorem nbA_0 {B : TQ} (h : nbA B = 0) : ∀ j, j < 4 → ¬ (B j).1 = 3 := by
  unfold nbA at h
  intro j hj q
  rcases (show j = 0 ∨ j = 1 ∨ j = 2 ∨ j = 3 by omega) with z | z | z | z <;> subst z <;> simp [q] at h
theorem looks_busy {a : PA} (h : busyA a.2.1) : ∀ n, looksA n a = a := by
  intro n
  cases n with
  | zero => rfl
  | succ n => rw [looksA, if_pos h]
theorem looks_none {a : PA} (h : fbA a.2.1 4 0 none = none) : ∀ n, looksA n a = a := by
  intro n
  cases n with
  | zero => rfl
  | succ n =>
    rw [looksA]
    split
    · rfl
    · rw [h]
abbrev roomA (a : PA) : Prop := ¬ busyA a.2.1 → (∃ j, j < 4 ∧ (a.2.1 j).1 = 3 ∧ a.1.1 < (a.2.1 j).2.1) → a.2.2.1.length < 60
theorem TSK.add {T : TS} (h : TSK T) (hn : T.1.length < 60) {t : TX} (ht : t.1 < 4 ∧ isB t.2.2.1) : TSK (T.1 ++ [t], T.2) := by
  refine ⟨⟨by rw [List.length_append]; exact hn, fun x hx => ?_⟩, h.2⟩
  rcases List.mem_append.mp hx with q | q
  · exact h.1.2 x q
  · rw [List.mem_singleton.mp q]; exact ht
theorem q10 : ¬ (1 : Int32) = 0 := by decide
theorem q00 : (0 : Int32) = 0 := rfl
def COK (ts : List TX) (c : CU) : Prop := c.1 < ts.length ∧ c.2.1 < 3 ∧ inS (txAt ts c.1).2.1 (nI c.2.1) ∧ (c.2.2.1 = -1 ∨ c.2.2.1 = 0 ∨ c.2.2.1 = 1) ∧ (c.2.2.2.1 = 0 ∨ c.2.2.2.1 = 1 ∨ c.2.2.2.1 = 2 ∨ c.2.2.2.1 = 3) ∧ (c.2.2.2.2.1 = 0 ∨ c.2.2.2.2.1 = 1 ∨ c.2.2.2.2.1 = 2) ∧ ¬ rng c.2.2.2.2.2.1 0 999 ∧ kP c.2.2.2.2.2.2
def IU (u : Int32) (B : TQ) (ts : List TX) : Prop := u = -1 ∧ (∀ j, j < 4 → ¬ (B j).1 = 2) ∨ ∃ i, i < ts.length ∧ u = nI i ∧ (txAt ts i).2.2.2 = 1 ∧ (B (txAt ts i).1).1 = 2 ∧ ∀ j, j < 4 → (B j).1 = 2 → j = (txAt ts i).1
def IB (n : Int32) (B : TQ) : Prop := (∀ j, j < 4 → (B j).1 = 0 ∨ (B j).1 = 1 ∨ (B j).1 = 2 ∨ (B j).1 = 3) ∧ ((∃ j, j < 4 ∧ (B j).1 = 3) → busyA B) ∧ ∀ j, j < 4 → (B j).1 = 3 → (B j).2.2 < n
def IV (a : AS) : Prop := IB a.1.2.2 a.2.1 ∧ IU a.1.2.1 a.2.1 a.2.2.1.1 ∧ TSK a.2.2.1 ∧ a.2.2.2.length ≤ 40 ∧ ∀ c ∈ a.2.2.2, COK a.2.2.1.1 c
theorem oT_at {v : Int32} {n : Nat} (h : ¬ oT v n) (hn : n < 2 ^ 31) : ∃ i, i < n ∧ v = nI i ∧ v.toNatClampNeg = i := by
  rcases oT_cases v hn with q | ⟨i, hi, e, -⟩
  · exact absurd q h
  · exact ⟨i, hi, e, by rw [e]; exact nI_clamp (by omega)⟩
abbrev rwD (xs : List RW) (i : Nat) : RW := xs.getD i (0, 0, 0, 0)
theorem rwD_get {xs : List RW} {i : Nat} (h : i < xs.length) : rwD xs i = xs[i] := by unfold rwD; rw [List.getD_eq_getElem?_getD, List.getElem?_eq_getElem h]; rfl
theorem put_at {r : RW} : ∀ (xs : List RW) (i : Nat), i < xs.length → (rwD xs i).1 = r.1 → (∀ j, j < i → ¬ (rwD xs j).1 = r.1) → putR xs r = xs.set i r := by
  intro xs
  induction xs with
  | nil => intro i h; exact absurd h (Nat.not_lt_zero _)
  | cons x xs ih =>
    intro i h h1 h2
    cases i with
    | zero => rw [putR, if_pos (show x.1 = r.1 from h1)]; rfl
    | succ i =>
      have h3 : ¬ x.1 = r.1 := h2 0 (Nat.succ_pos _)
      rw [putR, if_neg h3, List.set_cons_succ, ih i (Nat.lt_of_succ_lt_succ h) h1 (fun j hj => h2 (j + 1) (Nat.succ_lt_succ hj))]
theorem put_no {r : RW} : ∀ (xs : List RW), (∀ j, j < xs.length → ¬ (rwD xs j).1 = r.1) → putR xs r = xs ++ [r] := by
  intro xs
  induction xs with
  | nil => intro _; rfl
  | cons x xs ih =>
    intro h
    have h3 : ¬ x.1 = r.1 := h 0 (Nat.succ_pos _)
    rw [putR, if_neg h3, ih (fun j hj => h (j + 1) (Nat.succ_lt_succ hj)), List.cons_append]
theorem find_no {k : Int32} : ∀ (xs : List RW), (∀ j, j < xs.length → ¬ (rwD xs j).1 = k) → findR xs k = none := by
  intro xs h
  unfold findR
  rw [List.find?_eq_none]
  intro x hx
  obtain ⟨i, hi, e⟩ := List.mem_iff_getElem.mp hx
  have := h i hi
  rw [rwD_get hi, e] at this
  simpa using this
theorem SOK.of {a : AS} (I : IV a) {k : Nat} (hk : k < 3) : SOK (a.2.2.1.2 k) := I.2.2.1.2 k (by omega)
theorem key_inj {xs : List RW} (h : (xs.map (fun r => r.1)).Nodup) {i j : Nat} (hi : i < xs.length) (hj : j < xs.length) (e : (rwD xs i).1 = (rwD xs j).1) : i = j := by
  rw [rwD_get hi, rwD_get hj] at e
  have h1 : i < (xs.map (fun r => r.1)).length := by rw [List.length_map]; exact hi
  have h2 : j < (xs.map (fun r => r.1)).length := by rw [List.length_map]; exact hj
  have P := List.pairwise_iff_getElem.mp h
  rcases Nat.lt_trichotomy i j with z | z | z
  · exact absurd (show (xs.map (fun r => r.1))[i] = (xs.map (fun r => r.1))[j] by rw [List.getElem_map, List.getElem_map]; exact e) (P i j h1 h2 z)
  · exact z
  · exact absurd (show (xs.map (fun r => r.1))[j] = (xs.map (fun r => r.1))[i] by rw [List.getElem_map, List.getElem_map]; exact e.symm) (P j i h2 h1 z)
theorem cuAt_mem {cs : List CU} {i : Nat} (h : i < cs.length) : cuAt cs i ∈ cs := by
  unfold cuAt
  rw [List.getD_eq_getElem?_getD, List.getElem?_eq_getElem h]
  exact List.getElem_mem h
theorem cuAt_set {cs : List CU} {i : Nat} (c : CU) (hi : i < cs.length) (j : Nat) : cuAt (cs.set i c) j = if j = i then c else cuAt cs j := by
  unfold cuAt
  by_cases e : j = i
  · subst e
    rw [if_pos rfl, List.getD_eq_getElem?_getD, List.getElem?_set_self hi]; rfl
  · rw [if_neg e, List.getD_eq_getElem?_getD, List.getD_eq_getElem?_getD, List.getElem?_set_ne (Ne.symm e)]
theorem SOK.ix {s : SA} (h : SOK s) {x : Nat} (hx : x < 2) : sIx x s ≤ 0 ↔ sIx x s = 0 := by
  have key : ∀ v : Int32, ixB v → (v ≤ 0 ↔ v = 0) := by
    rintro v (q | q | q) <;> subst q <;> decide
  unfold sIx
  rcases (show x = 0 ∨ x = 1 by omega) with q | q <;> subst q
  · exact key _ h.1.2.1
  · exact key _ h.1.2.2
theorem bF_n {P : RW → Bool} {lt : RW → RW → Bool} {r : RW} (h : P r = true) : bestF P lt none r = some r := if_pos h
theorem bF_s {P : RW → Bool} {lt : RW → RW → Bool} {r q : RW} (h : P r = true) (h2 : lt r q = true) : bestF P lt (some q) r = some r := if_pos (by rw [h, h2]; rfl)
theorem bF_o {P : RW → Bool} {lt : RW → RW → Bool} {r q : RW} (h2 : ¬ lt r q = true) : bestF P lt (some q) r = some q := if_neg (fun z => h2 (by rw [Bool.and_eq_true] at z; exact z.2))
theorem bF_z {P : RW → Bool} {lt : RW → RW → Bool} {r : RW} {b : Option RW} (h : ¬ P r = true) : bestF P lt b r = b := by
  cases b with
  | none => exact if_neg h
  | some q => exact if_neg (fun z => h (by rw [Bool.and_eq_true] at z; exact z.1))
theorem busy_up {B : TQ} {p : Nat} {v : Int32 × Int32 × Int32} (hv : ¬ (v.1 = 1 ∨ v.1 = 2)) : busyA (upn B p v) ↔ busyX B p := by
  constructor
  · rintro ⟨j, hj, h⟩
    by_cases e : j = p
    · subst e; unfold insA at h; rw [upn_s] at h; exact absurd h hv
    · unfold insA at h; rw [upn_n _ _ e] at h; exact ⟨j, hj, e, h⟩
  · rintro ⟨j, hj, e, h⟩
    exact ⟨j, hj, by unfold insA; rw [upn_n _ _ e]; exact h⟩
theorem busyX_of {B : TQ} {p : Nat} (h : ¬ insA B p) : busyX B p ↔ busyA B := by
  constructor
  · rintro ⟨j, hj, e, q⟩; exact ⟨j, hj, q⟩
  · rintro ⟨j, hj, q⟩; exact ⟨j, hj, fun e => h (e ▸ q), q⟩
theorem give_at {i j : Nat} {T : TS} (h : j ≠ i) : txAt (giveA i T).1 j = txAt T.1 j := setP_n 3 h
theorem give_tab {i j : Nat} {T : TS} (hi : i < T.1.length) : (txAt (giveA i T).1 j).1 = (txAt T.1 j).1 := by
  by_cases h : j = i
  · subst h; show (txAt (setP T.1 j 3) j).1 = _; rw [setP_s 3 hi]
  · rw [give_at h]
theorem close_len (p : Nat) : ∀ (k : Nat) (T : TS), (closeA p k T).1.length = T.1.length := by
  intro k
  induction k with
  | zero => intro T; rfl
  | succ k ih =>
    intro T
    rw [closeA, ih]
    split
    · exact give_len _ _
    · rfl
theorem TSK.close (p : Nat) : ∀ (k : Nat) (T : TS), k ≤ T.1.length → TSK T → TSK (closeA p k T) := by
  intro k
  induction k with
  | zero => intro T _ h; exact h
  | succ k ih =>
    intro T hk h
    rw [closeA]
    split
    · exact ih _ (by rw [give_len]; omega) (h.give (by omega))
    · exact ih _ (by omega) h
