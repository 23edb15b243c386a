/-! ===== PURE: the class's structure ===== -/
/-- the lists of the store o: rows of the stores and of the copies, transactions, cursors -/
def LL (o j : Nat) : Nat := if j < 6 then o + 12 + 3 * j else o + j - 2
def SV (o : Nat) (w : CS) (R : Nat → List Nat) : Prop :=
  (WF w)
  ∧ (wJ w 0 o = 6)
  ∧ (wJ w 240 o = o + 1 ∧ wJ w 241 o = o + 2 ∧ wJ w 242 o = o + 3 ∧ wJ w 243 o = o + 4 ∧ wJ w 244 o = o + 5)
  ∧ (wJ w 0 (o + 1) = 11 ∧ wJ w 1 (o + 1) = 4 ∧ ∀ i, i < 4 → wB w (o + 1) i = o + 6 + i)
  ∧ (wJ w 0 (o + 2) = 10 ∧ wJ w 1 (o + 2) = 3 ∧ ∀ i, i < 3 → wB w (o + 2) i = o + 10 + 3 * i)
  ∧ (wJ w 0 (o + 3) = 10 ∧ wJ w 1 (o + 3) = 3 ∧ ∀ i, i < 3 → wB w (o + 3) i = o + 19 + 3 * i)
  ∧ (∀ i, i < 4 → wJ w 0 (o + 6 + i) = 4)
  ∧ (∀ k, k < 6 → wJ w 0 (o + 10 + 3 * k) = 5 ∧ wJ w 201 (o + 10 + 3 * k) = o + 11 + 3 * k ∧ wJ w 202 (o + 10 + 3 * k) = o + 12 + 3 * k ∧ wJ w 0 (o + 11 + 3 * k) = 8 ∧ wJ w 1 (o + 11 + 3 * k) = 2)
  ∧ (∀ j, j < 8 → LOK w (LL o j) (R j))
  ∧ (∀ i j, i < 8 → j < 8 → i ≠ j → wJ w 0 (wJ w 281 (LL o i)) = 12 → wJ w 281 (LL o i) ≠ wJ w 281 (LL o j))
  ∧ (∀ j, j < 6 → (R j).length ≤ 40 ∧ ∀ x ∈ R j, wJ w 0 x = 1)
  ∧ (∀ x ∈ R 6, wJ w 0 x = 2 ∧ ∃ i, i < 4 ∧ wJ w 80 x = o + 6 + i)
  ∧ ((R 6).Nodup ∧ (R 6).length ≤ 60)
  ∧ (∀ x ∈ R 7, wJ w 0 x = 3 ∧ wJ w 120 x ∈ R 6 ∧ ∃ k, k < 3 ∧ wJ w 121 x = o + 10 + 3 * k)
  ∧ ((R 7).Nodup ∧ (R 7).length ≤ 40)
theorem SV.wf {o : Nat} {w : CS} {R : Nat → List Nat} (S : SV o w R) : WF w := S.1
theorem SV.ko {o : Nat} {w : CS} {R : Nat → List Nat} (S : SV o w R) : wJ w 0 o = 6 := S.2.1
theorem SV.fo {o : Nat} {w : CS} {R : Nat → List Nat} (S : SV o w R) : wJ w 240 o = o + 1 ∧ wJ w 241 o = o + 2 ∧ wJ w 242 o = o + 3 ∧ wJ w 243 o = o + 4 ∧ wJ w 244 o = o + 5 := S.2.2.1
theorem SV.ta {o : Nat} {w : CS} {R : Nat → List Nat} (S : SV o w R) : wJ w 0 (o + 1) = 11 ∧ wJ w 1 (o + 1) = 4 ∧ ∀ i, i < 4 → wB w (o + 1) i = o + 6 + i := S.2.2.2.1
theorem SV.sa {o : Nat} {w : CS} {R : Nat → List Nat} (S : SV o w R) : wJ w 0 (o + 2) = 10 ∧ wJ w 1 (o + 2) = 3 ∧ ∀ i, i < 3 → wB w (o + 2) i = o + 10 + 3 * i := S.2.2.2.2.1
theorem SV.ca {o : Nat} {w : CS} {R : Nat → List Nat} (S : SV o w R) : wJ w 0 (o + 3) = 10 ∧ wJ w 1 (o + 3) = 3 ∧ ∀ i, i < 3 → wB w (o + 3) i = o + 19 + 3 * i := S.2.2.2.2.2.1
theorem SV.tb {o : Nat} {w : CS} {R : Nat → List Nat} (S : SV o w R) : ∀ i, i < 4 → wJ w 0 (o + 6 + i) = 4 := S.2.2.2.2.2.2.1
theorem SV.st {o : Nat} {w : CS} {R : Nat → List Nat} (S : SV o w R) : ∀ k, k < 6 → wJ w 0 (o + 10 + 3 * k) = 5 ∧ wJ w 201 (o + 10 + 3 * k) = o + 11 + 3 * k ∧ wJ w 202 (o + 10 + 3 * k) = o + 12 + 3 * k ∧ wJ w 0 (o + 11 + 3 * k) = 8 ∧ wJ w 1 (o + 11 + 3 * k) = 2 := S.2.2.2.2.2.2.2.1
theorem SV.ls {o : Nat} {w : CS} {R : Nat → List Nat} (S : SV o w R) : ∀ j, j < 8 → LOK w (LL o j) (R j) := S.2.2.2.2.2.2.2.2.1
theorem SV.ap {o : Nat} {w : CS} {R : Nat → List Nat} (S : SV o w R) : ∀ i j, i < 8 → j < 8 → i ≠ j → wJ w 0 (wJ w 281 (LL o i)) = 12 → wJ w 281 (LL o i) ≠ wJ w 281 (LL o j) := S.2.2.2.2.2.2.2.2.2.1
theorem SV.rk {o : Nat} {w : CS} {R : Nat → List Nat} (S : SV o w R) : ∀ j, j < 6 → (R j).length ≤ 40 ∧ ∀ x ∈ R j, wJ w 0 x = 1 := S.2.2.2.2.2.2.2.2.2.2.1
theorem SV.tk {o : Nat} {w : CS} {R : Nat → List Nat} (S : SV o w R) : ∀ x ∈ R 6, wJ w 0 x = 2 ∧ ∃ i, i < 4 ∧ wJ w 80 x = o + 6 + i := S.2.2.2.2.2.2.2.2.2.2.2.1
theorem SV.tn {o : Nat} {w : CS} {R : Nat → List Nat} (S : SV o w R) : (R 6).Nodup ∧ (R 6).length ≤ 60 := S.2.2.2.2.2.2.2.2.2.2.2.2.1
theorem SV.ck {o : Nat} {w : CS} {R : Nat → List Nat} (S : SV o w R) : ∀ x ∈ R 7, wJ w 0 x = 3 ∧ wJ w 120 x ∈ R 6 ∧ ∃ k, k < 3 ∧ wJ w 121 x = o + 10 + 3 * k := S.2.2.2.2.2.2.2.2.2.2.2.2.2.1
theorem SV.cn {o : Nat} {w : CS} {R : Nat → List Nat} (S : SV o w R) : (R 7).Nodup ∧ (R 7).length ≤ 40 := S.2.2.2.2.2.2.2.2.2.2.2.2.2.2
theorem LL6 (o : Nat) : LL o 6 = o + 4 := by unfold LL; rw [if_neg (by omega)]; omega
theorem LL7 (o : Nat) : LL o 7 = o + 5 := by unfold LL; rw [if_neg (by omega)]; omega
theorem LLr {o k : Nat} (h : k < 6) : LL o k = o + 12 + 3 * k := if_pos h
theorem LL_inj {o i j : Nat} (hi : i < 8) (hj : j < 8) (h : LL o i = LL o j) : i = j := by
  unfold LL at h
  split at h <;> split at h <;> omega
/-- a list that a change doesn't touch -/
theorem LOK.fr {A : Nat → Prop} {w w' : CS} {l : Nat} {xs : List Nat} (hw : WF w) (h : LOK w l xs) (F : FR A w w') (hl : ¬ A l) (h0 : ¬ A 0) (hd : wJ w 0 (wJ w 281 l) = 12 → ¬ A (wJ w 281 l)) : LOK w' l xs ∧ wJ w' 281 l = wJ w 281 l ∧ cap w' l = cap w l := by
  obtain ⟨h1, h2, h3, h4, h5, h6, h7⟩ := h
  have hlz := hw.le h1
  obtain ⟨F1, F2, F3⟩ := F
  have e281 : wJ w' 281 l = wJ w 281 l := (F3 l hlz.2 hl).2.2.1 281
  have hdz : wJ w 281 l ≤ wz w := by
    rcases h2 with q | q
    · exact (hw.le q.1).2
    · exact q.2.2.2.2
  have ed := F2 _ hdz
  have e20 : wJ w' 2 0 = wJ w 2 0 := (F3 0 (Nat.zero_le _) h0).2.2.1 2
  refine ⟨⟨(F2 l hlz.2).1.trans h1, ?_, ?_, ?_, ?_, fun i hi => ?_, fun i hi => ?_⟩, e281, by unfold cap; rw [e281]; exact ed.2⟩
  · rw [e281, ed.1, ed.2, e20]
    exact h2.imp id fun q => ⟨q.1, q.2.1, q.2.2.1, q.2.2.2.1, Nat.le_trans q.2.2.2.2 F1⟩
  · rw [(F3 l hlz.2 hl).1]; exact h3
  · rw [e281, ed.2]; exact h4
  · rw [e281, ed.2]; exact h5
  · have hk : wJ w 0 (wJ w 281 l) = 12 := by
      rcases h2 with q | q
      · exact q.1
      · have := q.2.1; omega
    rw [e281, (F3 _ hdz (hd hk)).2.2.2.1]; exact h6 i hi
  · have := h7 i hi
    rw [(F2 _ (hw.oK this).2).1]; exact this
/-- a change of the list j keeps all else -/
theorem SV.list {o j : Nat} {w w' : CS} {R : Nat → List Nat} {xs : List Nat} (S : SV o w R) (hj : j < 8) (L : LCH w w' (LL o j)) (h : LOK w' (LL o j) xs) (hr : j < 6 → xs.length ≤ 40 ∧ ∀ x ∈ xs, wJ w 0 x = 1)
    (ht : j = 6 → xs.Nodup ∧ xs.length ≤ 60 ∧ (∀ x ∈ R 6, x ∈ xs) ∧ ∀ x ∈ xs, wJ w 0 x = 2 ∧ ∃ i, i < 4 ∧ wJ w 80 x = o + 6 + i) (hc : j = 7 → xs.Nodup ∧ xs.length ≤ 40 ∧ ∀ x ∈ xs, wJ w 0 x = 3 ∧ wJ w 120 x ∈ R 6 ∧ ∃ k, k < 3 ∧ wJ w 121 x = o + 10 + 3 * k) : SV o w' (fun i => if i = j then xs else R i) := by
  obtain ⟨F, hw', c1, c2, c3, c4, c5⟩ := L
  have hw := S.wf
  have hLj := S.ls j hj
  have hld := hLj.1
  have hlz := hw.le hld
  have hkd : wJ w 0 (wJ w 281 (LL o j)) = 12 ∨ wJ w 0 (wJ w 281 (LL o j)) = 0 := by
    rcases hLj.2.1 with q | q
    · exact Or.inl q.1
    · exact Or.inr q.2.2.1
  have hd0 : 0 < wJ w 281 (LL o j) := by
    rcases hLj.2.1 with q | q
    · exact (hw.le q.1).1
    · exact q.2.2.2.1
  have h0 : ¬ ((0 : Nat) = LL o j ∨ 0 = wJ w 281 (LL o j)) := by omega
  -- what has another kind stays whole
  have keep : ∀ y k, wJ w 0 y = k + 1 → k + 1 ≠ 7 → k + 1 ≠ 12 → (∀ f, wI w' f y = wI w f y) ∧ (∀ i, wA w' y i = wA w y i) ∧ (∀ f, wJ w' f y = wJ w f y) ∧ (∀ i, wB w' y i = wB w y i) := by
    intro y k hk h7 h12
    have a := F.2.2 y (hw.le hk).2 (fun q => by
      rcases q with q | q
      · rw [q, hld] at hk; omega
      · rw [q] at hk; rcases hkd with z | z <;> rw [z] at hk <;> omega)
    exact ⟨a.1, a.2.1, a.2.2.1, a.2.2.2.1⟩
  have kindk : ∀ y k, wJ w 0 y = k + 1 → wJ w' 0 y = k + 1 := fun y k hk => ((F.2.1 y (hw.le hk).2).1).trans hk
  have other : ∀ i, i < 8 → i ≠ j → LOK w' (LL o i) (R i) ∧ wJ w' 281 (LL o i) = wJ w 281 (LL o i) ∧ cap w' (LL o i) = cap w (LL o i) := by
    intro i hi hij
    refine (S.ls i hi).fr hw F (fun q => ?_) h0 (fun hk q => ?_)
    · rcases q with q | q
      · exact hij (LL_inj hi hj q)
      · have := (S.ls i hi).1; rw [q] at this; rcases hkd with z | z <;> omega
    · rcases q with q | q
      · rw [q, hld] at hk; omega
      · exact S.ap i j hi hj hij hk q
  have R6 : ∀ x ∈ R 6, x ∈ (if (6 : Nat) = j then xs else R 6) := by
    intro x hx
    by_cases h6 : (6 : Nat) = j
    · rw [if_pos h6]; exact (ht h6.symm).2.2.1 x hx
    · rw [if_neg h6]; exact hx
  have ko := keep o 5 S.ko (by omega) (by omega)
  have kta := keep (o + 1) 10 S.ta.1 (by omega) (by omega)
  have ksa := keep (o + 2) 9 S.sa.1 (by omega) (by omega)
  have kca := keep (o + 3) 9 S.ca.1 (by omega) (by omega)
  refine ⟨?_, ?_, ?_, ?_, ?_, ?_, ?_, ?_, ?_, ?_, ?_, ?_, ?_, ?_, ?_⟩
  · exact hw'
  · exact kindk o 5 S.ko
  · simp only [ko.2.2.1]; exact S.fo
  · simp only [kta.2.2.1, kta.2.2.2]; exact S.ta
  · simp only [ksa.2.2.1, ksa.2.2.2]; exact S.sa
  · simp only [kca.2.2.1, kca.2.2.2]; exact S.ca
  · exact fun i hi => kindk _ 3 (S.tb i hi)
  · intro k hk
    obtain ⟨a1, a2, a3, a4, a5⟩ := S.st k hk
    have b1 := keep _ 4 a1 (by omega) (by omega)
    have b4 := keep _ 7 a4 (by omega) (by omega)
    simp only [b1.2.2.1, b4.2.2.1]
    exact ⟨a1, a2, a3, a4, a5⟩
  · intro i hi
    show LOK w' (LL o i) (if i = j then xs else R i)
    by_cases hij : i = j
    · rw [if_pos hij, hij]; exact h
    · rw [if_neg hij]; exact (other i hi hij).1
  · intro i k hi hk hik hkind hdd
    by_cases hij : i = j
    · subst hij
      rw [(other k hk (Ne.symm hik)).2.1] at hdd
      have h9 : wJ w 281 (LL o k) ≤ wz w := by
        rcases (S.ls k hk).2.1 with q | q
        · exact (hw.le q.1).2
        · exact q.2.2.2.2
      rcases c2 with q | q
      · rw [q] at hdd hkind
        rw [(F.2.1 _ (by rw [hdd]; exact h9)).1] at hkind
        exact S.ap i k hi hk hik hkind hdd
      · omega
    · rw [(other i hi hij).2.1] at hdd hkind
      have h9 : wJ w 281 (LL o i) ≤ wz w := by
        rcases (S.ls i hi).2.1 with q | q
        · exact (hw.le q.1).2
        · exact q.2.2.2.2
      rw [(F.2.1 _ h9).1] at hkind
      by_cases hkj : k = j
      · subst hkj
        rcases c2 with q | q
        · rw [q] at hdd; exact S.ap i k hi hk hik hkind hdd
        · omega
      · rw [(other k hk hkj).2.1] at hdd
        exact S.ap i k hi hk hik hkind hdd
  · intro i hi
    show (if i = j then xs else R i).length ≤ 40 ∧ _
    by_cases hij : i = j
    · rw [if_pos hij]
      have := hr (by omega)
      exact ⟨this.1, fun x hx => kindk x 0 (this.2 x (by simpa [hij] using hx))⟩
    · rw [if_neg hij]
      have := S.rk i hi
      exact ⟨this.1, fun x hx => kindk x 0 (this.2 x (by simpa [hij] using hx))⟩
  · intro x hx
    have hx2 : wJ w 0 x = 2 ∧ ∃ i, i < 4 ∧ wJ w 80 x = o + 6 + i := by
      by_cases h6 : (6 : Nat) = j
      · exact (ht h6.symm).2.2.2 x (by simpa [h6] using hx)
      · exact S.tk x (by simpa [h6] using hx)
    have b := keep x 1 hx2.1 (by omega) (by omega)
    simp only [b.2.2.1]
    exact hx2
  · show (if (6 : Nat) = j then xs else R 6).Nodup ∧ (if (6 : Nat) = j then xs else R 6).length ≤ 60
    by_cases h6 : (6 : Nat) = j
    · rw [if_pos h6]; exact ⟨(ht h6.symm).1, (ht h6.symm).2.1⟩
    · rw [if_neg h6]; exact S.tn
  · intro x hx
    have hx2 : wJ w 0 x = 3 ∧ wJ w 120 x ∈ R 6 ∧ ∃ k, k < 3 ∧ wJ w 121 x = o + 10 + 3 * k := by
      by_cases h7 : (7 : Nat) = j
      · exact (hc h7.symm).2.2 x (by simpa [h7] using hx)
      · exact S.ck x (by simpa [h7] using hx)
    have b := keep x 2 hx2.1 (by omega) (by omega)
    simp only [b.2.2.1]
    exact ⟨hx2.1, R6 _ hx2.2.1, hx2.2.2⟩
  · show (if (7 : Nat) = j then xs else R 7).Nodup ∧ (if (7 : Nat) = j then xs else R 7).length ≤ 40
    by_cases h7 : (7 : Nat) = j
    · rw [if_pos h7]; exact ⟨(hc h7.symm).1, (hc h7.symm).2.1⟩
    · rw [if_neg h7]; exact S.cn
