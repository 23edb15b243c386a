/-! ===== PURE: a store's rows: taken numbers, set ===== -/
theorem getD_get {xs : List Nat} {i : Nat} (h : i < xs.length) : xs.getD i 0 = xs[i] := by rw [List.getD_eq_getElem?_getD, List.getElem?_eq_getElem h]; rfl
theorem ex_cons {P : Nat → Prop} {x : Nat} {xs : List Nat} (h : ¬ P x) : (∃ y ∈ x :: xs, P y) ↔ ∃ y ∈ xs, P y := ⟨fun ⟨y, hy, q⟩ => (List.mem_cons.mp hy).elim (fun z => absurd (z ▸ q) h) (fun z => ⟨y, z, q⟩), fun ⟨y, hy, q⟩ => ⟨y, List.mem_cons_of_mem _ hy, q⟩⟩
theorem s_takenL {o : Nat} {w : CS} {R : Nat → List Nat} (S : SV o w R) {k : Nat} (hk : k < 6) (f v : Int32) (p : Nat) : ∀ (n i : Nat), (R k).length < n + i → i ≤ (R k).length → x_X3_isTaken_L1 (o + 10 + 3 * k) f p v w n (nI i) = some (if ∃ x ∈ (R k).drop i, ¬ wI w 40 x = wI w 40 p ∧ rn w f x = v then .inr 1 else .inl ()) := by
  obtain ⟨h1, h2, h3, h4⟩ := s_rows S hk
  intro n
  induction n with
  | zero => intro i a b; omega
  | succ n ih =>
    intro i a b
    rw [x_X3_isTaken_L1, if_pos h1, if_pos h2, p_size h3, bd_some]
    by_cases hi : i < (R k).length
    · have hx := s_rowkind S hk hi
      rw [getD_get hi] at hx
      rw [if_neg (nI_ge hi (by omega)), p_get h3 hi, bd_some, getD_get hi, if_pos (Or.inr hx), if_pos hx, s_number hx, bd_some]
      rw [List.drop_eq_getElem_cons hi]
      by_cases hK : wI w 40 (R k)[i] = wI w 40 p
      · rw [if_pos hK, l0_inl, nI_1, ih (i + 1) (by omega) (by omega)]
        exact congrArg some (ite_congr (propext (ex_cons (P := fun x => ¬ wI w 40 x = wI w 40 p ∧ rn w f x = v) (fun q => q.1 hK)).symm) (fun _ => rfl) (fun _ => rfl))
      · by_cases hv : rn w f (R k)[i] = v
        · rw [if_neg hK, if_pos hv, if_pos (by decide), l0_inr, if_pos ⟨_, List.mem_cons_self, hK, hv⟩]
        · rw [if_neg hK, if_neg hv, l0_inl, nI_1, ih (i + 1) (by omega) (by omega)]
          exact congrArg some (ite_congr (propext (ex_cons (P := fun x => ¬ wI w 40 x = wI w 40 p ∧ rn w f x = v) (fun q => hv q.2)).symm) (fun _ => rfl) (fun _ => rfl))
    · rw [if_pos (nI_le (by omega) (by omega)), List.drop_eq_nil_of_le (by omega)]
      simp
theorem s_isTaken {o : Nat} {w : CS} {R : Nat → List Nat} (S : SV o w R) {k : Nat} (hk : k < 6) (f : Int32) {p : Nat} (hp : wJ w 0 p = 1) : x_X3_isTaken (o + 10 + 3 * k) f p w = some (if ¬ rn w f p = -1 ∧ ∃ x ∈ R k, ¬ wI w 40 x = wI w 40 p ∧ rn w f x = rn w f p then 1 else 0) := by
  have h4 := (S.rk k hk).1
  unfold x_X3_isTaken
  have h := s_takenL S hk f (rn w f p) p FU 0 (by show (R k).length < 1000 + 0; omega) (Nat.zero_le _)
  rw [show nI 0 = 0 from nI_0, List.drop_zero] at h
  rw [if_pos hp, s_number hp, bd_some]
  by_cases h0 : rn w f p = -1
  · rw [if_pos h0, if_pos (by decide), if_neg (fun q => q.1 h0)]
  · rw [if_neg h0, h]
    by_cases hE : ∃ x ∈ R k, ¬ wI w 40 x = wI w 40 p ∧ rn w f x = rn w f p
    · rw [if_pos hE, l0_inr, if_pos ⟨h0, hE⟩]
    · rw [if_neg hE, l0_inl, if_pos (by decide), if_neg (fun q => hE q.2)]
theorem s_setL {o : Nat} {w : CS} {R : Nat → List Nat} (S : SV o w R) {k : Nat} (hk : k < 6) {p : Nat} (hp : wJ w 0 p = 1) : ∀ (n i : Nat), (R k).length < n + i → i ≤ (R k).length → (∀ j, j < i → ¬ wI w 40 ((R k).getD j 0) = wI w 40 p) →
    (∃ j w', j < (R k).length ∧ wI w 40 ((R k).getD j 0) = wI w 40 p ∧ (∀ j', j' < j → ¬ wI w 40 ((R k).getD j' 0) = wI w 40 p) ∧ x_X3_set_L1 (o + 10 + 3 * k) p w n (nI i) = some (.inr w') ∧ LOK w' (wJ w 202 (o + 10 + 3 * k)) ((R k).set j p) ∧ LCH w w' (wJ w 202 (o + 10 + 3 * k)) ∧ cap w' (wJ w 202 (o + 10 + 3 * k)) = cap w (wJ w 202 (o + 10 + 3 * k))) ∨ ((∀ j, j < (R k).length → ¬ wI w 40 ((R k).getD j 0) = wI w 40 p) ∧ x_X3_set_L1 (o + 10 + 3 * k) p w n (nI i) = some (.inl ())) := by
  obtain ⟨h1, h2, h3, h4⟩ := s_rows S hk
  intro n
  induction n with
  | zero => intro i a b; omega
  | succ n ih =>
    intro i a b hpre
    rw [x_X3_set_L1, if_pos h1, if_pos h2, p_size h3, bd_some]
    by_cases hi : i < (R k).length
    · have hx := s_rowkind S hk hi
      rw [if_neg (nI_ge hi (by omega)), p_get h3 hi, bd_some, if_pos (Or.inr hx), if_pos hx, if_pos hp]
      by_cases hK : wI w 40 ((R k).getD i 0) = wI w 40 p
      · left
        obtain ⟨w', e, l1, l2, l3, -⟩ := p_set S.wf h3 hi (Or.inl hp)
        exact ⟨i, w', hi, hK, hpre, by rw [if_pos hK, e, b2_some], l1, l2, l3⟩
      · rw [if_neg hK, nI_1]
        exact ih (i + 1) (by omega) (by omega) (fun j hj => by
          by_cases hji : j = i
          · rw [hji]; exact hK
          · exact hpre j (by omega))
    · right
      exact ⟨fun j hj => hpre j (by omega), by rw [if_pos (nI_le (by omega) (by omega))]⟩
/-- a row is set: in the place of the row with its key, else behind all -/
theorem s_set {o : Nat} {w : CS} {R : Nat → List Nat} (S : SV o w R) {k : Nat} (hk : k < 6) {p : Nat} (hp : wJ w 0 p = 1) (hn : (∀ j, j < (R k).length → ¬ wI w 40 ((R k).getD j 0) = wI w 40 p) → (R k).length < 40) (hB : 100 - cap w (LL o k) ≤ wl w ∧ 20 * (100 - cap w (LL o k)) ≤ wk w) :
    ∃ xs w', x_X3_set (o + 10 + 3 * k) p w = some w' ∧ SV o w' (fun i => if i = k then xs else R i) ∧ LCH w w' (LL o k) ∧ ((∃ j, j < (R k).length ∧ wI w 40 ((R k).getD j 0) = wI w 40 p ∧ (∀ j', j' < j → ¬ wI w 40 ((R k).getD j' 0) = wI w 40 p) ∧ xs = (R k).set j p) ∨ ((∀ j, j < (R k).length → ¬ wI w 40 ((R k).getD j 0) = wI w 40 p) ∧ xs = R k ++ [p])) := by
  obtain ⟨h1, h2, h3, h4⟩ := s_rows S hk
  have e202 : wJ w 202 (o + 10 + 3 * k) = LL o k := by rw [(S.st k hk).2.2.1, LLr hk]
  unfold x_X3_set
  have key := s_setL S hk hp FU 0 (by show (R k).length < 1000 + 0; omega) (Nat.zero_le _) (fun j hj => absurd hj (Nat.not_lt_zero j))
  rw [show nI 0 = 0 from nI_0] at key
  rw [e202] at key h3 ⊢
  have hold := (S.rk k hk).2
  rcases key with ⟨j, w', hj, hK, hpre, e, l1, l2, l3⟩ | ⟨hno, e⟩
  · refine ⟨(R k).set j p, w', by rw [e, l0_inr], S.list (by omega) l2 l1 (fun _ => ⟨by rw [List.length_set]; exact h4, fun x hx => ?_⟩) (fun q => by omega) (fun q => by omega), l2, Or.inl ⟨j, hj, hK, hpre, rfl⟩⟩
    rcases List.mem_or_eq_of_mem_set hx with q | q
    · exact hold x q
    · rw [q]; exact hp
  · obtain ⟨w', e2, l1, l2⟩ := p_add S.wf h3 (Or.inl hp) (by have := hn hno; omega) hB
    refine ⟨R k ++ [p], w', by rw [e, l0_inl, if_pos h1, if_pos (by rw [← e202]; exact h2), e2, b2_some], S.list (by omega) l2 l1 (fun _ => ⟨by rw [List.length_append]; have := hn hno; simp; omega, fun x hx => ?_⟩) (fun q => by omega) (fun q => by omega), l2, Or.inr ⟨hno, rfl⟩⟩
    rcases List.mem_append.mp hx with q | q
    · exact hold x q
    · rw [List.mem_singleton.mp q]; exact hp
