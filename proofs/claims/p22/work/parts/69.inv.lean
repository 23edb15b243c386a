/-! ===== PURE: what holds of every abstract store is kept ===== -/
def MON (ts ts' : List TX) : Prop := ts.length ≤ ts'.length ∧ ∀ i, i < ts.length → (txAt ts' i).2.1 = (txAt ts i).2.1
theorem MON.rf {ts : List TX} : MON ts ts := ⟨Nat.le_refl _, fun _ _ => rfl⟩
theorem MON.tr {a b c : List TX} (h : MON a b) (h2 : MON b c) : MON a c := ⟨Nat.le_trans h.1 h2.1, fun i hi => (h2.2 i (Nat.lt_of_lt_of_le hi h.1)).trans (h.2 i hi)⟩
theorem MON.setP {ts : List TX} {i : Nat} (p : Int32) (hi : i < ts.length) : MON ts (setP ts i p) := by
  refine ⟨by rw [setP_len]; exact Nat.le_refl _, fun j hj => ?_⟩
  by_cases e : j = i
  · subst e; rw [setP_s p hi]
  · rw [setP_n p e]
theorem MON.add {ts : List TX} (t : TX) : MON ts (ts ++ [t]) := by
  refine ⟨by rw [List.length_append]; exact Nat.le_add_right _ _, fun j hj => ?_⟩
  have ht : txAt (ts ++ [t]) j = txAt ts j := by
    unfold txAt
    rw [List.getD_eq_getElem?_getD, List.getElem?_append_left hj, ← List.getD_eq_getElem?_getD]
  rw [ht]
theorem MON.go : ∀ (n i c : Nat) (T : TS), i + n ≤ T.1.length → MON T.1 (goA n i c T).2.1 := by
  intro n
  induction n with
  | zero => intro i c T _; exact MON.rf
  | succ n ih =>
    intro i c T h
    rw [goA]
    split
    · exact MON.tr (MON.setP 1 (show i < T.1.length by omega)) (ih _ _ (runA i T) (by rw [run_len]; omega))
    · exact ih _ _ _ (by omega)
theorem MON.goes (T : TS) : MON T.1 (goesA T).2.1 := MON.go _ _ _ _ (by omega)
theorem MON.close (p : Nat) : ∀ (k : Nat) (T : TS), k ≤ T.1.length → MON T.1 (closeA p k T).1 := by
  intro k
  induction k with
  | zero => intro T _; exact MON.rf
  | succ k ih =>
    intro T hk
    rw [closeA]
    split
    · exact MON.tr (MON.setP 3 (show k < T.1.length by omega)) (ih (giveA k T) (by rw [give_len]; omega))
    · exact ih _ (by omega)
theorem COK.mon {ts ts' : List TX} {c : CU} (h : COK ts c) (m : MON ts ts') : COK ts' c := by
  obtain ⟨h1, h2, h3, h4⟩ := h
  exact ⟨Nat.lt_of_lt_of_le h1 m.1, h2, by rw [m.2 _ h1]; exact h3, h4⟩
/-- phases: what runs goes on running -/
theorem go_ph : ∀ (n i c : Nat) (T : TS) (j : Nat), i + n ≤ T.1.length → (txAt T.1 j).2.2.2 = 1 → (txAt (goA n i c T).2.1 j).2.2.2 = 1 := by
  intro n
  induction n with
  | zero => intro i c T j _ h; exact h
  | succ n ih =>
    intro i c T j hn h
    rw [goA]
    split
    · refine ih _ _ _ _ (by rw [run_len]; omega) ?_
      show (txAt (setP T.1 i 1) j).2.2.2 = 1
      by_cases e : j = i
      · subst e; rw [setP_s 1 (by omega)]
      · rw [setP_n 1 e]; exact h
    · exact ih _ _ _ _ (by omega) h
theorem goes_ph {T : TS} {j : Nat} (h : (txAt T.1 j).2.2.2 = 1) : (txAt (goesA T).2.1 j).2.2.2 = 1 := go_ph _ _ _ _ _ (by omega) h
theorem goes_tab {T : TS} {j : Nat} : (txAt (goesA T).2.1 j).1 = (txAt T.1 j).1 := go_tab
theorem goes_len (T : TS) : (goesA T).2.1.length = T.1.length := go_len _ _ _ _
theorem TSK.goes {T : TS} (h : TSK T) : TSK (goesA T).2 := TSK.go _ _ _ _ (by omega) h
theorem close_at {p j : Nat} : ∀ (k : Nat) (T : TS), k ≤ T.1.length → (txAt T.1 j).1 ≠ p → txAt (closeA p k T).1 j = txAt T.1 j := by
  intro k
  induction k with
  | zero => intro T _ _; rfl
  | succ k ih =>
    intro T hk h
    rw [closeA]
    split
    · next c =>
      have hne : j ≠ k := fun e => h (e ▸ c.1)
      have e : txAt (giveA k T).1 j = txAt T.1 j := give_at hne
      rw [ih _ (by rw [give_len]; omega) (by rw [e]; exact h), e]
    · exact ih _ (by omega) h
theorem IU.ts {u : Int32} {B : TQ} {ts ts' : List TX} (h : IU u B ts) (hl : ts'.length = ts.length) (hp : ∀ i, i < ts.length → u = nI i → (txAt ts i).2.2.2 = 1 → (txAt ts' i).2.2.2 = 1 ∧ (txAt ts' i).1 = (txAt ts i).1) : IU u B ts' := by
  rcases h with h | ⟨i, h1, h2, h3, h4, h5⟩
  · exact Or.inl h
  · obtain ⟨a1, a2⟩ := hp i h1 h2 h3
    exact Or.inr ⟨i, by rw [hl]; exact h1, h2, a1, by rw [a2]; exact h4, by rw [a2]; exact h5⟩
theorem IU.free {u : Int32} {B : TQ} {ts : List TX} (h : IU u B ts) (hT : TOK ts) (hb : ¬ busyA B) : u = -1 := by
  rcases h with h | ⟨i, h1, h2, h3, h4, h5⟩
  · exact h.1
  · exact absurd ⟨_, List.mem_range.mpr (hT.2 _ (txAt_mem h1)).1, Or.inr h4⟩ hb
theorem fbA_some {B : TQ} : ∀ (n k : Nat) (b : Option Nat), (b ≠ none ∨ ∃ j, k ≤ j ∧ j < k + n ∧ (B j).1 = 3) → fbA B n k b ≠ none := by
  intro n
  induction n with
  | zero =>
    intro k b h
    rcases h with h | ⟨j, h1, h2, _⟩
    · exact h
    · omega
  | succ n ih =>
    intro k b h
    rw [fbA]
    refine ih _ _ ?_
    split
    · exact Or.inl (fun z => by cases z)
    · next c =>
      rcases h with h | ⟨j, h1, h2, h3⟩
      · exact Or.inl h
      · by_cases e : j = k
        · subst e
          left
          intro z
          exact c ⟨h3, by rw [z]; rfl⟩
        · exact Or.inr ⟨j, by omega, by omega, h3⟩
theorem cq_up {B : TQ} {j : Nat} {v : Int32 × Int32 × Int32} (h : ∀ i, i < 4 → (B i).1 = 0 ∨ (B i).1 = 1 ∨ (B i).1 = 2 ∨ (B i).1 = 3) (hv : v.1 = 0 ∨ v.1 = 1 ∨ v.1 = 2 ∨ v.1 = 3) : ∀ i, i < 4 → (upn B j v i).1 = 0 ∨ (upn B j v i).1 = 1 ∨ (upn B j v i).1 = 2 ∨ (upn B j v i).1 = 3 := by
  intro i hi
  by_cases e : i = j
  · rw [e, upn_s]; exact hv
  · rw [upn_n _ _ e]; exact h i hi
theorem i_looks : ∀ (n : Nat) (a : PA), nbA a.2.1 ≤ n → roomA a → TSK a.2.2 → (∀ j, j < 4 → (a.2.1 j).1 = 0 ∨ (a.2.1 j).1 = 1 ∨ (a.2.1 j).1 = 2 ∨ (a.2.1 j).1 = 3) → (∀ j, j < 4 → (a.2.1 j).1 = 3 → (a.2.1 j).2.2 < a.1.2.2) → IU a.1.2.1 a.2.1 a.2.2.1 →
    IB (looksA n a).1.2.2 (looksA n a).2.1 ∧ IU (looksA n a).1.2.1 (looksA n a).2.1 (looksA n a).2.2.1 ∧ TSK (looksA n a).2.2 ∧ (looksA n a).1.2.2 = a.1.2.2 ∧ MON a.2.2.1 (looksA n a).2.2.1 := by
  intro n
  induction n with
  | zero =>
    intro a hnb hroom hT hc ht hU
    exact ⟨⟨hc, fun ⟨j, hj, h3⟩ => absurd h3 (nbA_0 (Nat.le_zero.mp hnb) j hj), ht⟩, hU, hT, rfl, MON.rf⟩
  | succ n ih =>
    intro a hnb hroom hT hc ht hU
    by_cases hb : busyA a.2.1
    · rw [looks_busy hb]
      exact ⟨⟨hc, fun _ => hb, ht⟩, hU, hT, rfl, MON.rf⟩
    · cases e : fbA a.2.1 4 0 none with
      | none =>
        rw [looks_none e]
        exact ⟨⟨hc, fun ⟨j, hj, h3⟩ => absurd e (fbA_some 4 0 none (Or.inr ⟨j, Nat.zero_le _, by omega, h3⟩)), ht⟩, hU, hT, rfl, MON.rf⟩
      | some j =>
        obtain ⟨hj4, hj3⟩ := fbA_lt a.2.1 4 0 none (by omega) (fun q hq => by cases hq) j e
        have hu := hU.free hT.1 hb
        have hno2 : ∀ i, i < 4 → ¬ (a.2.1 i).1 = 2 := fun i hi z => hb ⟨i, List.mem_range.mpr hi, Or.inr z⟩
        rw [looksA, if_neg hb, e]
        by_cases hw : (a.2.1 j).2.1 ≤ a.1.1
        · have key := ih (a.1, upn a.2.1 j (0, (a.2.1 j).2), a.2.2) (by have := nbA_upn hj4 hj3 (v := (0, (a.2.1 j).2)) (show ¬ (0 : Int32) = 3 by decide); show nbA (upn a.2.1 j (0, (a.2.1 j).2)) ≤ n; omega) (fun h1 h2 => hroom hb (by
            obtain ⟨x, q1, q2, q3⟩ := h2
            refine ⟨x, q1, ?_⟩
            by_cases hij : x = j
            · subst hij; exact absurd (show (upn a.2.1 x (0, (a.2.1 x).2) x).1 = 3 from q2) (by rw [upn_s]; exact (show ¬ (0 : Int32) = 3 by decide))
            · have q2' : (upn a.2.1 j (0, (a.2.1 j).2) x).1 = 3 := q2
              have q3' : a.1.1 < (upn a.2.1 j (0, (a.2.1 j).2) x).2.1 := q3
              rw [upn_n _ _ hij] at q2' q3'; exact ⟨q2', q3'⟩)) hT (fun i hi => by
            exact cq_up (v := (0, (a.2.1 j).2)) hc (Or.inl rfl) i hi) (fun i hi h3 => by
            have h3' : (upn a.2.1 j (0, (a.2.1 j).2) i).1 = 3 := h3
            show (upn a.2.1 j (0, (a.2.1 j).2) i).2.2 < a.1.2.2
            by_cases h : i = j
            · subst h; rw [upn_s] at h3'; exact absurd (show (0 : Int32) = 3 from h3') (by decide)
            · rw [upn_n _ _ h] at h3' ⊢; exact ht i hi h3') (Or.inl ⟨hu, fun i hi => by
            show ¬ (upn a.2.1 j (0, (a.2.1 j).2) i).1 = 2
            by_cases h : i = j
            · subst h; rw [upn_s]; exact (show ¬ (0 : Int32) = 2 by decide)
            · rw [upn_n _ _ h]; exact hno2 i hi⟩)
          have e9 : (if (a.2.1 j).2.1 ≤ a.1.1 then (a.1, upn a.2.1 j (0, (a.2.1 j).2), a.2.2) else beginA j a) = (a.1, upn a.2.1 j (0, (a.2.1 j).2), a.2.2) := if_pos hw
          show IB (looksA n (if (a.2.1 j).2.1 ≤ a.1.1 then (a.1, upn a.2.1 j (0, (a.2.1 j).2), a.2.2) else beginA j a)).1.2.2 _ ∧ _
          simp only [e9]
          exact key
        · have e9 : (if (a.2.1 j).2.1 ≤ a.1.1 then (a.1, upn a.2.1 j (0, (a.2.1 j).2), a.2.2) else beginA j a) = beginA j a := if_neg hw
          have hlen := hroom hb ⟨j, hj4, hj3, Int32.not_le.mp hw⟩
          have hbusy : busyA (beginA j a).2.1 := ⟨j, List.mem_range.mpr hj4, Or.inr (by show (upn a.2.1 j (2, (a.2.1 j).2) j).1 = 2; rw [upn_s])⟩
          show IB (looksA n (if (a.2.1 j).2.1 ≤ a.1.1 then (a.1, upn a.2.1 j (0, (a.2.1 j).2), a.2.2) else beginA j a)).1.2.2 _ ∧ _
          simp only [e9, looks_busy hbusy]
          have hT3 : TSK (a.2.2.1 ++ [(j, 7, 1, 0)], a.2.2.2) := hT.add hlen ⟨hj4, isB1⟩
          have hi3 : a.2.2.1.length < (a.2.2.1 ++ [(j, 7, 1, 0)]).length := by rw [List.length_append]; exact Nat.lt_succ_self _
          have htx : txAt (a.2.2.1 ++ [(j, 7, 1, 0)]) a.2.2.1.length = (j, 7, 1, 0) := by
            unfold txAt
            rw [List.getD_eq_getElem?_getD, List.getElem?_append_right (Nat.le_refl _), Nat.sub_self]; rfl
          have htr : txAt (beginA j a).2.2.1 a.2.2.1.length = (j, 7, 1, 1) := by
            show txAt (setP (a.2.2.1 ++ [(j, 7, 1, 0)]) a.2.2.1.length 1) a.2.2.1.length = _
            rw [setP_s 1 hi3, htx]
          refine ⟨⟨fun i hi => ?_, fun _ => hbusy, fun i hi h3 => ?_⟩, Or.inr ⟨a.2.2.1.length, ?_, rfl, by rw [htr], by rw [htr]; show (upn a.2.1 j (2, (a.2.1 j).2) j).1 = 2; rw [upn_s], fun i hi h2 => ?_⟩, hT3.run hi3, rfl, ?_⟩
          · exact cq_up (v := (2, (a.2.1 j).2)) hc (Or.inr (Or.inr (Or.inl rfl))) i hi
          · have h3' : (upn a.2.1 j (2, (a.2.1 j).2) i).1 = 3 := h3
            show (upn a.2.1 j (2, (a.2.1 j).2) i).2.2 < a.1.2.2
            by_cases h : i = j
            · subst h; rw [upn_s] at h3'; exact absurd (show (2 : Int32) = 3 from h3') (by decide)
            · rw [upn_n _ _ h] at h3' ⊢; exact ht i hi h3'
          · show _ < (setP (a.2.2.1 ++ [(j, 7, 1, 0)]) a.2.2.1.length 1).length
            rw [setP_len]; exact hi3
          · rw [htr]
            have h2' : (upn a.2.1 j (2, (a.2.1 j).2) i).1 = 2 := h2
            by_cases h : i = j
            · exact h
            · rw [upn_n _ _ h] at h2'; exact absurd h2' (hno2 i hi)
          · exact MON.tr (MON.add _) (MON.setP 1 hi3)
def IW (N : Nat) (a : AS) : Prop := IV a ∧ ∃ T, T ≤ N ∧ a.1.2.2 = nI T
theorem IW.up {N : Nat} {a : AS} (h : IW N a) : IW (N + 1) a := ⟨h.1, by obtain ⟨T, h1, h2⟩ := h.2; exact ⟨T, by omega, h2⟩⟩
theorem IV.cok {a : AS} (I : IV a) {ts : List TX} (m : MON a.2.2.1.1 ts) : ∀ c ∈ a.2.2.2, COK ts c := fun c hc => (I.2.2.2.2 c hc).mon m
theorem i_open {N : Nat} {a : AS} (H : IW N a) (hN : N < 1000) (p v : Int32) : IW (N + 1) (openA p v a).2.2 := by
  obtain ⟨I, T, hT, eT⟩ := id H
  unfold openA
  by_cases h : oT p 4
  · rw [if_pos h]; exact H.up
  · obtain ⟨j, hj, rfl, ej⟩ := oT_at h (by omega)
    rw [if_neg h, ej]
    by_cases h2 : rng v 1 100
    · rw [if_pos h2]; exact H.up
    · rw [if_neg h2]
      by_cases h3 : ¬ (a.2.1 j).1 = 0 ∨ v < a.1.1 ∨ (v = a.1.1 ∧ ¬ a.1.2.1 = -1) ∨ (a.1.1 < v ∧ ¬ busyA a.2.1 ∧ lenT a = 60)
      · rw [if_pos h3]; exact H.up
      · rw [if_neg h3]
        have h0 : (a.2.1 j).1 = 0 := Decidable.byContradiction fun q => h3 (Or.inl q)
        have hni : ¬ insA a.2.1 j := by unfold insA; rw [h0]; decide
        have hU : ∀ v : Int32 × Int32 × Int32, ¬ v.1 = 2 → IU a.1.2.1 (upn a.2.1 j v) a.2.2.1.1 := by
          intro v hv
          rcases I.2.1 with ⟨u1, u2⟩ | ⟨i, u1, u2, u3, u4, u5⟩
          · refine Or.inl ⟨u1, fun i hi => ?_⟩
            by_cases e : i = j
            · subst e; rw [upn_s]; exact hv
            · rw [upn_n _ _ e]; exact u2 i hi
          · have hne : (txAt a.2.2.1.1 i).1 ≠ j := fun e => by rw [e, h0] at u4; exact absurd u4 (by decide)
            refine Or.inr ⟨i, u1, u2, u3, by rw [upn_n _ _ hne]; exact u4, fun k hk hk2 => ?_⟩
            by_cases e : k = j
            · subst e; rw [upn_s] at hk2; exact absurd hk2 hv
            · rw [upn_n _ _ e] at hk2; exact u5 k hk hk2
        by_cases h4 : v = a.1.1
        · rw [if_pos h4]
          refine ⟨⟨⟨fun i hi => ?_, fun _ => ⟨j, List.mem_range.mpr hj, Or.inl (by show (upn a.2.1 j _ j).1 = 1; rw [upn_s])⟩, fun i hi h => ?_⟩, hU _ (show ¬ (1 : Int32) = 2 by decide), I.2.2⟩, T, by omega, eT⟩
          · exact cq_up (v := (1, (a.2.1 j).2)) I.1.1 (Or.inr (Or.inl rfl)) i hi
          · have h' : (upn a.2.1 j (1, (a.2.1 j).2) i).1 = 3 := h
            show (upn a.2.1 j (1, (a.2.1 j).2) i).2.2 < a.1.2.2
            by_cases e : i = j
            · subst e; rw [upn_s] at h'; exact absurd (show (1 : Int32) = 3 from h') (by decide)
            · rw [upn_n _ _ e] at h' ⊢; exact I.1.2.2 i hi h'
        · rw [if_neg h4]
          have hroom : roomA ((a.1.1, a.1.2.1, a.1.2.2 + 1), upn a.2.1 j (3, v, a.1.2.2), a.2.2.1) := by
            intro hb _
            have hb2 : ¬ busyA a.2.1 := fun q => hb ((busy_up (show ¬ ((3 : Int32) = 1 ∨ (3 : Int32) = 2) by decide)).mpr ((busyX_of hni).mpr q))
            have hlt : a.1.1 < v := by
              rcases Int32.lt_or_le v a.1.1 with q | q
              · exact absurd (Or.inr (Or.inl q)) h3
              · exact Int32.lt_of_le_of_ne q (Ne.symm h4)
            have : ¬ lenT a = 60 := fun q => h3 (Or.inr (Or.inr (Or.inr ⟨hlt, hb2, q⟩)))
            have hn : lenT a ≤ 60 := I.2.2.1.1.1
            show lenT a < 60
            omega
          have hlt1 : a.1.2.2 < a.1.2.2 + 1 := by rw [eT, nI_1]; exact nI_lt (Nat.lt_succ_self T) (by omega)
          obtain ⟨r1, r2, r3, r4, r5⟩ := i_looks 4 ((a.1.1, a.1.2.1, a.1.2.2 + 1), upn a.2.1 j (3, v, a.1.2.2), a.2.2.1) (nbA_le _) hroom I.2.2.1 (fun i hi => by
            exact cq_up (v := (3, v, a.1.2.2)) I.1.1 (Or.inr (Or.inr (Or.inr rfl))) i hi) (fun i hi h => by
            have h' : (upn a.2.1 j (3, v, a.1.2.2) i).1 = 3 := h
            show (upn a.2.1 j (3, v, a.1.2.2) i).2.2 < a.1.2.2 + 1
            by_cases e : i = j
            · subst e; rw [upn_s]; exact hlt1
            · rw [upn_n _ _ e] at h' ⊢; exact Int32.lt_trans (I.1.2.2 i hi h') hlt1) (hU _ (show ¬ (3 : Int32) = 2 by decide))
          exact ⟨⟨r1, r2, r3, I.2.2.2.1, I.cok r5⟩, T + 1, by omega, by show (looksA 4 _).1.2.2 = _; rw [r4, ← nI_1, ← eT]⟩
theorem i_closed {a : AS} (I : IV a) {j : Nat} (hj : j < 4) {T : TS} {u : Int32} (hT : TSK T) (hl : T.1.length = lenT a) (hlate : ¬ lateA a j) (hU : IU u (upn a.2.1 j (0, (a.2.1 j).2)) T.1) : IB (looksA 4 ((a.1.1, u, a.1.2.2), upn a.2.1 j (0, (a.2.1 j).2), T)).1.2.2 (looksA 4 ((a.1.1, u, a.1.2.2), upn a.2.1 j (0, (a.2.1 j).2), T)).2.1 ∧ IU (looksA 4 ((a.1.1, u, a.1.2.2), upn a.2.1 j (0, (a.2.1 j).2), T)).1.2.1 (looksA 4 ((a.1.1, u, a.1.2.2), upn a.2.1 j (0, (a.2.1 j).2), T)).2.1 (looksA 4 ((a.1.1, u, a.1.2.2), upn a.2.1 j (0, (a.2.1 j).2), T)).2.2.1 ∧ TSK (looksA 4 ((a.1.1, u, a.1.2.2), upn a.2.1 j (0, (a.2.1 j).2), T)).2.2 ∧ (looksA 4 ((a.1.1, u, a.1.2.2), upn a.2.1 j (0, (a.2.1 j).2), T)).1.2.2 = a.1.2.2 ∧ MON T.1 (looksA 4 ((a.1.1, u, a.1.2.2), upn a.2.1 j (0, (a.2.1 j).2), T)).2.2.1 :=
  i_looks 4 ((a.1.1, u, a.1.2.2), upn a.2.1 j (0, (a.2.1 j).2), T) (nbA_le _) (room_close hl I.2.2.1.1.1 hlate) hT (fun i hi => by
    exact cq_up (v := (0, (a.2.1 j).2)) I.1.1 (Or.inl rfl) i hi) (fun i hi h => by
    have h' : (upn a.2.1 j (0, (a.2.1 j).2) i).1 = 3 := h
    show (upn a.2.1 j (0, (a.2.1 j).2) i).2.2 < a.1.2.2
    by_cases e : i = j
    · subst e; rw [upn_s] at h'; exact absurd (show (0 : Int32) = 3 from h') (by decide)
    · rw [upn_n _ _ e] at h' ⊢; exact I.1.2.2 i hi h') hU
theorem i_close {N : Nat} {a : AS} (H : IW N a) (p : Int32) : IW (N + 1) (closA p a).2.2 := by
  obtain ⟨I, T, hT, eT⟩ := id H
  unfold closA
  by_cases h : oT p 4
  · rw [if_pos h]; exact H.up
  · obtain ⟨j, hj, rfl, ej⟩ := oT_at h (by omega)
    rw [if_neg h, ej]
    by_cases h2 : (a.2.1 j).1 = 0 ∨ lateA a j
    · rw [if_pos h2]; exact H.up
    · rw [if_neg h2]
      have hTc := TSK.close j (lenT a) a.2.2.1 (Nat.le_refl _) I.2.2.1
      have hl : (goesA (closeA j (lenT a) a.2.2.1)).2.1.length = lenT a := by rw [goes_len, close_len]
      obtain ⟨r1, r2, r3, r4, r5⟩ := i_closed I hj (T := (goesA (closeA j (lenT a) a.2.2.1)).2) (u := if (a.2.1 j).1 = 2 then -1 else a.1.2.1) hTc.goes hl (fun z => h2 (Or.inr z)) (by
        by_cases z : (a.2.1 j).1 = 2
        · rw [if_pos z]
          refine Or.inl ⟨rfl, fun i hi hi2 => ?_⟩
          by_cases e : i = j
          · subst e; rw [upn_s] at hi2; exact absurd (show (0 : Int32) = 2 from hi2) (by decide)
          · rw [upn_n _ _ e] at hi2
            rcases I.2.1 with ⟨_, u2⟩ | ⟨k, u1, u2, u3, u4, u5⟩
            · exact u2 i hi hi2
            · exact e ((u5 i hi hi2).trans (u5 j hj z).symm)
        · rw [if_neg z]
          rcases I.2.1 with ⟨u1, u2⟩ | ⟨k, u1, u2, u3, u4, u5⟩
          · refine Or.inl ⟨u1, fun i hi hi2 => ?_⟩
            by_cases e : i = j
            · subst e; rw [upn_s] at hi2; exact absurd (show (0 : Int32) = 2 from hi2) (by decide)
            · rw [upn_n _ _ e] at hi2; exact u2 i hi hi2
          · have hne : (txAt a.2.2.1.1 k).1 ≠ j := fun e => z (e ▸ u4)
            have ec := close_at (p := j) (j := k) (lenT a) a.2.2.1 (Nat.le_refl _) hne
            have e1 : (txAt (goesA (closeA j (lenT a) a.2.2.1)).2.1 k).1 = (txAt a.2.2.1.1 k).1 := by rw [goes_tab, ec]
            refine Or.inr ⟨k, by rw [hl]; exact u1, u2, goes_ph (by rw [ec]; exact u3), by rw [e1, upn_n _ _ hne]; exact u4, fun i hi hi2 => ?_⟩
            rw [e1]
            by_cases e : i = j
            · subst e; rw [upn_s] at hi2; exact absurd (show (0 : Int32) = 2 from hi2) (by decide)
            · rw [upn_n _ _ e] at hi2; exact u5 i hi hi2)
      exact ⟨⟨r1, r2, r3, I.2.2.2.1, I.cok (MON.tr (MON.tr (MON.close j (lenT a) a.2.2.1 (Nat.le_refl _)) (MON.goes _)) r5)⟩, T, by omega, r4.trans eT⟩
theorem i_begin {N : Nat} {a : AS} (H : IW N a) (p sc u : Int32) (hu : isB u) : IW (N + 1) (begA p sc u a).2.2 := by
  obtain ⟨I, T, hT, eT⟩ := id H
  unfold begA
  by_cases h : oT p 4
  · rw [if_pos h]; exact H.up
  · obtain ⟨j, hj, rfl, ej⟩ := oT_at h (by omega)
    rw [if_neg h, ej]
    split
    · exact H.up
    · split
      · exact H.up
      · split
        · exact H.up
        · next h5 =>
          have hlen : lenT a < 60 := Decidable.byContradiction fun z => h5 (Or.inr z)
          have hTa : TSK (a.2.2.1.1 ++ [(j, sc, u, 0)], a.2.2.1.2) := I.2.2.1.add hlen ⟨hj, hu⟩
          have hold : ∀ i, i < lenT a → txAt (a.2.2.1.1 ++ [(j, sc, u, 0)]) i = txAt a.2.2.1.1 i := by
            intro i hi
            unfold txAt
            rw [List.getD_eq_getElem?_getD, List.getElem?_append_left hi, ← List.getD_eq_getElem?_getD]
          refine ⟨⟨I.1, ?_, hTa.goes, I.2.2.2.1, I.cok (MON.tr (MON.add _) (MON.goes (a.2.2.1.1 ++ [(j, sc, u, 0)], a.2.2.1.2)))⟩, T, by omega, eT⟩
          rcases I.2.1 with u1 | ⟨k, u1, u2, u3, u4, u5⟩
          · exact Or.inl u1
          · have e0 := hold k u1
            have e1 : (txAt (goesA (a.2.2.1.1 ++ [(j, sc, u, 0)], a.2.2.1.2)).2.1 k).1 = (txAt a.2.2.1.1 k).1 := by rw [goes_tab]; show (txAt (a.2.2.1.1 ++ [(j, sc, u, 0)]) k).1 = _; rw [e0]
            refine Or.inr ⟨k, ?_, u2, goes_ph (by show (txAt (a.2.2.1.1 ++ [(j, sc, u, 0)]) k).2.2.2 = 1; rw [e0]; exact u3), by rw [e1]; exact u4, by rw [e1]; exact u5⟩
            show k < (goesA (a.2.2.1.1 ++ [(j, sc, u, 0)], a.2.2.1.2)).2.1.length
            rw [goes_len]
            show k < (a.2.2.1.1 ++ [(j, sc, u, 0)]).length
            rw [List.length_append]
            exact Nat.lt_succ_of_lt u1
theorem i_commit {N : Nat} {a : AS} (H : IW N a) (t : Int32) : IW (N + 1) (comA t a).2.2 := by
  obtain ⟨I, T, hT, eT⟩ := id H
  unfold comA
  by_cases h : oX a t
  · rw [if_pos h]; exact H.up
  · obtain ⟨i, hi, rfl, ei⟩ := oT_at h (show lenT a < 2 ^ 31 by have : lenT a ≤ 60 := I.2.2.1.1.1; omega)
    have hn : lenT a ≤ 60 := I.2.2.1.1.1
    have et : txA a (nI i) = txAt a.2.2.1.1 i := by unfold txA; rw [ei]
    rw [if_neg h, et, ei]
    by_cases h1 : (txAt a.2.2.1.1 i).2.2.2 = 1
    · rw [if_neg (fun z => z h1)]
      have hTs : TSK (setP a.2.2.1.1 i 2, a.2.2.1.2) := ⟨I.2.2.1.1.setP 2 hi, I.2.2.1.2⟩
      have hm : MON a.2.2.1.1 (goesA (setP a.2.2.1.1 i 2, a.2.2.1.2)).2.1 := MON.tr (MON.setP 2 hi) (MON.goes (setP a.2.2.1.1 i 2, a.2.2.1.2))
      show IW (N + 1) (if nI i = a.1.2.1 then _ else _)
      by_cases h2 : nI i = a.1.2.1
      · rw [if_pos h2]
        have h4 := (I.2.2.1.1.2 _ (txAt_mem hi)).1
        obtain ⟨u4, u5⟩ : (a.2.1 (txAt a.2.2.1.1 i).1).1 = 2 ∧ ∀ k, k < 4 → (a.2.1 k).1 = 2 → k = (txAt a.2.2.1.1 i).1 := by
          rcases I.2.1 with ⟨q, _⟩ | ⟨u, hu, q, _, q2, q3⟩
          · rw [q] at h2; exact absurd h2 (nI_m1 (by omega))
          · have hu2 : u < lenT a := hu
            rw [q] at h2
            have := (nI_eq (by omega) (by omega)).mp h2
            rw [this]; exact ⟨q2, q3⟩
        refine ⟨⟨⟨fun k hk => ?_, fun _ => ⟨_, List.mem_range.mpr h4, Or.inl (by show (upn a.2.1 _ _ _).1 = 1; rw [upn_s])⟩, fun k hk h3 => ?_⟩, Or.inl ⟨rfl, fun k hk h3 => ?_⟩, hTs.goes, I.2.2.2.1, I.cok hm⟩, T, by omega, eT⟩
        · exact cq_up (v := (1, (a.2.1 (txAt a.2.2.1.1 i).1).2)) I.1.1 (Or.inr (Or.inl rfl)) k hk
        · have h3' : (upn a.2.1 (txAt a.2.2.1.1 i).1 (1, (a.2.1 (txAt a.2.2.1.1 i).1).2) k).1 = 3 := h3
          show (upn a.2.1 (txAt a.2.2.1.1 i).1 (1, (a.2.1 (txAt a.2.2.1.1 i).1).2) k).2.2 < a.1.2.2
          by_cases e : k = (txAt a.2.2.1.1 i).1
          · rw [e, upn_s] at h3'; exact absurd (show (1 : Int32) = 3 from h3') (by decide)
          · rw [upn_n _ _ e] at h3' ⊢; exact I.1.2.2 k hk h3'
        · have h3' : (upn a.2.1 (txAt a.2.2.1.1 i).1 (1, (a.2.1 (txAt a.2.2.1.1 i).1).2) k).1 = 2 := h3
          by_cases e : k = (txAt a.2.2.1.1 i).1
          · rw [e, upn_s] at h3'; exact absurd (show (1 : Int32) = 2 from h3') (by decide)
          · rw [upn_n _ _ e] at h3'; exact e (u5 k hk h3')
      · rw [if_neg h2]
        refine ⟨⟨I.1, ?_, hTs.goes, I.2.2.2.1, I.cok hm⟩, T, by omega, eT⟩
        refine IU.ts I.2.1 (by rw [goes_len]; exact setP_len _ _ _) (fun k hk hk2 hk3 => ?_)
        have hne : k ≠ i := fun e => h2 (by rw [← e]; exact hk2.symm)
        have e0 : txAt (setP a.2.2.1.1 i 2) k = txAt a.2.2.1.1 k := setP_n 2 hne
        exact ⟨goes_ph (by show (txAt (setP a.2.2.1.1 i 2) k).2.2.2 = 1; rw [e0]; exact hk3), by rw [goes_tab]; show (txAt (setP a.2.2.1.1 i 2) k).1 = _; rw [e0]⟩
    · rw [if_pos h1]; exact H.up
theorem i_abort {N : Nat} {a : AS} (H : IW N a) (t : Int32) : IW (N + 1) (aboA t a).2.2 := by
  obtain ⟨I, T, hT, eT⟩ := id H
  unfold aboA
  by_cases h : oX a t
  · rw [if_pos h]; exact H.up
  · obtain ⟨i, hi, rfl, ei⟩ := oT_at h (show lenT a < 2 ^ 31 by have : lenT a ≤ 60 := I.2.2.1.1.1; omega)
    have hn : lenT a ≤ 60 := I.2.2.1.1.1
    have et : txA a (nI i) = txAt a.2.2.1.1 i := by unfold txA; rw [ei]
    rw [if_neg h, et, ei]
    split
    · exact H.up
    · next h1 =>
      have hTs := I.2.2.1.give hi
      have hm : MON a.2.2.1.1 (goesA (giveA i a.2.2.1)).2.1 := MON.tr (MON.setP 3 hi) (MON.goes (giveA i a.2.2.1))
      have hl : (goesA (giveA i a.2.2.1)).2.1.length = lenT a := by rw [goes_len, give_len]
      show IW (N + 1) (if nI i = a.1.2.1 then _ else _)
      by_cases h2 : nI i = a.1.2.1
      · rw [if_pos h2]
        have h4 := (I.2.2.1.1.2 _ (txAt_mem hi)).1
        have u5 : ∀ k, k < 4 → (a.2.1 k).1 = 2 → k = (txAt a.2.2.1.1 i).1 := by
          rcases I.2.1 with ⟨q, _⟩ | ⟨u, hu, q, _, q2, q3⟩
          · rw [q] at h2; exact absurd h2 (nI_m1 (by omega))
          · have hu2 : u < lenT a := hu
            rw [q] at h2
            have := (nI_eq (by omega) (by omega)).mp h2
            rw [this]; exact q3
        obtain ⟨r1, r2, r3, r4, r5⟩ := i_closed I h4 (T := (goesA (giveA i a.2.2.1)).2) (u := -1) hTs.goes hl (fun z => h1 (Or.inr ⟨h2, z⟩)) (Or.inl ⟨rfl, fun k hk h3 => by
          by_cases e : k = (txAt a.2.2.1.1 i).1
          · rw [e, upn_s] at h3; exact absurd (show (0 : Int32) = 2 from h3) (by decide)
          · rw [upn_n _ _ e] at h3; exact e (u5 k hk h3)⟩)
        exact ⟨⟨r1, r2, r3, I.2.2.2.1, I.cok (MON.tr hm r5)⟩, T, by omega, r4.trans eT⟩
      · rw [if_neg h2]
        refine ⟨⟨I.1, ?_, hTs.goes, I.2.2.2.1, I.cok hm⟩, T, by omega, eT⟩
        refine IU.ts I.2.1 hl (fun k hk hk2 hk3 => ?_)
        have hne : k ≠ i := fun e => h2 (by rw [← e]; exact hk2.symm)
        have e0 : txAt (giveA i a.2.2.1).1 k = txAt a.2.2.1.1 k := give_at hne
        exact ⟨goes_ph (by rw [e0]; exact hk3), by rw [goes_tab, e0]⟩
