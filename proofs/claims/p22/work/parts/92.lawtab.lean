/-! ===== the law's own arrays against the abstract store: tabs, upgrades, what is aborted ===== -/
def MG (m : MS) (g : Int32 × Int32 × Int32) : Prop := ga m 3 12 = g.1 ∧ ga m 3 13 = g.2.1
def MB (m : MS) (B : TQ) : Prop := ∀ j, j < 4 → ga m 3 (3 * j) = (B j).1 ∧ ((B j).1 = 2 ∨ (B j).1 = 3 → ga m 3 (3 * j + 1) = (B j).2.1) ∧ ((B j).1 = 3 → ga m 3 (3 * j + 2) < ga m 3 15 ∧ ∀ k, k < 4 → (B k).1 = 3 → (ga m 3 (3 * j + 2) < ga m 3 (3 * k + 2) ↔ (B j).2.2 < (B k).2.2))
def MHs (m : MS) (u : Int32) (st : Nat → SA) : Prop := (∀ k, k < 3 → ga m 4 k = (st k).1) ∧ (¬ u = -1 → ∀ k, k < 3 → ga m 4 (3 + k) = (st (3 + k)).1)
def MP (m : MS) (a : PA) : Prop := MG m a.1 ∧ MB m a.2.1 ∧ MA m a.2.2.1 ∧ MHs m a.1.2.1 a.2.2.2
def PT (B : TQ) (ts : List TX) : Prop := ∀ i, i < ts.length → pendT (txAt ts i) → insA B (txAt ts i).1
def NX (u : Int32) (B : TQ) : Prop := ¬ u = -1 → ∀ j, j < 4 → ¬ (B j).1 = 1
def PU (u : Int32) (ts : List TX) : Prop := ¬ u = -1 → ∀ i, i < ts.length → pendT (txAt ts i) → u = nI i
def JP (a : PA) : Prop := JT a.1.2.1 a.2.2 ∧ PT a.2.1 a.2.2.1 ∧ NX a.1.2.1 a.2.1 ∧ PU a.1.2.1 a.2.2.1
theorem MG.eq {m m' : MS} {g : Int32 × Int32 × Int32} (V : MG m g) (h : ∀ x, 12 ≤ x → x ≤ 13 → ga m' 3 x = ga m 3 x) : MG m' g := ⟨(h 12 (by omega) (by omega)).trans V.1, (h 13 (by omega) (by omega)).trans V.2⟩
theorem MB.eq {m m' : MS} {B : TQ} (V : MB m B) (h : ∀ x, x < 12 ∨ x = 15 → ga m' 3 x = ga m 3 x) : MB m' B := by
  intro j hj
  obtain ⟨a1, a2, a3⟩ := V j hj
  rw [h (3 * j) (by omega), h (3 * j + 1) (by omega), h (3 * j + 2) (by omega), h 15 (by omega)]
  refine ⟨a1, a2, fun q => ⟨(a3 q).1, fun k hk qk => ?_⟩⟩
  rw [h (3 * k + 2) (by omega)]
  exact (a3 q).2 k hk qk
theorem MA.eq {m m' : MS} {ts : List TX} (V : MA m ts) (h : ∀ x, ga m' 1 x = ga m 1 x ∧ ga m' 2 x = ga m 2 x) (h2 : ga m' 3 14 = ga m 3 14) : MA m' ts := ⟨h2.trans V.1, fun k hk => ⟨(h k).1.trans (V.2 k hk).1, (h k).2.trans (V.2 k hk).2⟩⟩
theorem MHs.eq {m m' : MS} {u : Int32} {st : Nat → SA} (V : MHs m u st) (h : ∀ x, ga m' 4 x = ga m 4 x) : MHs m' u st := ⟨fun k hk => (h k).trans (V.1 k hk), fun q k hk => (h _).trans (V.2 q k hk)⟩
theorem MB.cond {m : MS} {B : TQ} {j : Nat} {v : Int32} (V : MB m B) (hj : j < 4) (hv : ¬ v = 3) (h2 : v = 2 → ga m 3 (3 * j + 1) = (B j).2.1) : MB (sa m 3 (3 * j) v) (upn B j (v, (B j).2)) := by
  intro i hi
  obtain ⟨a1, a2, a3⟩ := V i hi
  rw [gsa_n (x := 3 * i + 1) (Or.inr (by omega)), gsa_n (x := 3 * i + 2) (Or.inr (by omega)), gsa_n (x := 15) (Or.inr (by omega))]
  by_cases hij : i = j
  · subst hij
    rw [upn_s, gsa_s]
    exact ⟨rfl, fun q => q.elim h2 (fun q => absurd q hv), fun q => absurd q hv⟩
  · rw [upn_n _ _ hij, gsa_n (Or.inr (by omega))]
    refine ⟨a1, a2, fun q => ⟨(a3 q).1, fun k hk qk => ?_⟩⟩
    by_cases hkj : k = j
    · subst hkj; rw [upn_s] at qk; exact absurd qk hv
    · rw [upn_n _ _ hkj] at qk ⊢
      rw [gsa_n (Or.inr (by omega))]
      exact (a3 q).2 k hk qk
/-! tabs that are inside -/
theorem l_isBusyL {m : MS} {B : TQ} (V : MB m B) : ∀ (f j : Nat), j ≤ 4 → 4 < f + j → x_L_isBusy_L1 m (-1) f (nI j) (if ∃ q ∈ List.range j, insA B q then 1 else 0) = some (if busyA B then 1 else 0) := by
  intro f
  induction f with
  | zero => intro j h1 h2; omega
  | succ f ih =>
    intro j h1 h2
    rw [x_L_isBusy_L1]
    have z := kx_ge (n := j) (d := 4) (D := 4) rfl (by omega) (by omega)
    by_cases hj : j < 4
    · have hr : vR (nI (3 * j)) 16 := vR16 (by omega)
      rw [if_neg (fun q => by have := z.mp q; omega), nI_1, ← ih (j + 1) (by omega) (by omega)]
      have e := exR (P := fun q => insA B q) j
      by_cases hQ : ∃ q ∈ List.range j, insA B q
      · rw [if_pos hQ, if_neg (by decide), l0_inl, bd_some, if_pos (e.mpr (Or.inl hQ))]
      · rw [if_neg hQ, if_pos rfl, if_neg (fun q => nI_m1 (by omega) q)]
        simp only [n3, if_pos hr, nI_clamp (show 3 * j < 2 ^ 31 by omega), (V j hj).1]
        by_cases c1 : (B j).1 = 1
        · rw [if_pos c1, l0_inr, l0_inl, bd_some, if_pos (e.mpr (Or.inr (Or.inl c1)))]
        · rw [if_neg c1]
          by_cases c2 : (B j).1 = 2
          · rw [if_pos c2, l0_inr, l0_inl, bd_some, if_pos (e.mpr (Or.inr (Or.inr c2)))]
          · rw [if_neg c2, l0_inl, l0_inr, bd_some, if_neg (fun q => (e.mp q).elim hQ (fun q => q.elim c1 c2))]
    · have : j = 4 := by omega
      subst this
      rw [if_pos (z.mpr (by omega))]
theorem l_isBusy {m : MS} {B : TQ} (V : MB m B) : x_L_isBusy (-1) m = some (if busyA B then 1 else 0) := by
  unfold x_L_isBusy
  have h := l_isBusyL V FU 0 (by omega) (by show 4 < 1000 + 0; omega)
  rw [if_neg (by simp), nI_0] at h
  rw [h, bd_some]
  by_cases q : busyA B
  · rw [if_pos q, if_pos isB1]
  · rw [if_neg q, if_pos isB0]
/-! the blocked tab that opened first -/
def fbI (b : Option Nat) : Int32 := match b with
  | none => -1
  | some k => nI k
theorem fbI_n : fbI none < 0 := by decide
theorem l_bestL {m : MS} {B : TQ} (V : MB m B) : ∀ (f n k : Nat) (b : Option Nat), k + n = 4 → n < f → (∀ q, b = some q → q < 4 ∧ (B q).1 = 3) → x_L_looks_L2 m f (nI k) (fbI b) = some (fbI (fbA B n k b)) := by
  intro f
  induction f with
  | zero => intro n k b h1 h2; omega
  | succ f ih =>
    intro n k b h1 h2 hb
    rw [x_L_looks_L2]
    have z := kx_ge (n := k) (d := 4) (D := 4) rfl (by omega) (by omega)
    cases n with
    | zero => rw [if_pos (z.mpr (by omega))]; rfl
    | succ n =>
      have hk : k < 4 := by omega
      have hr : vR (nI (3 * k)) 16 := vR16 (by omega)
      have hr2 : vR (nI (3 * k + 2)) 16 := vR16 (by omega)
      rw [if_neg (fun q => by have := z.mp q; omega)]
      simp only [n3, np2, if_pos hr, if_pos hr2, nI_clamp (show 3 * k < 2 ^ 31 by omega), nI_clamp (show 3 * k + 2 < 2 ^ 31 by omega), (V k hk).1]
      rw [fbA, nI_1]
      by_cases h3 : (B k).1 = 3
      · rw [if_pos h3]
        cases b with
        | none =>
          rw [if_pos fbI_n, l0_inl, l0_inr, bd_some, if_pos ⟨h3, rfl⟩]
          exact ih n (k + 1) (some k) (by omega) (by omega) (fun q hq => by cases hq; exact ⟨hk, h3⟩)
        | some q =>
          obtain ⟨hq4, hq3⟩ := hb q rfl
          have hrq : vR (nI (3 * q + 2)) 16 := vR16 (by omega)
          have ho := ((V k hk).2.2 h3).2 q hq4 hq3
          rw [if_neg (show ¬ fbI (some q) < 0 from nI_pos (by omega))]
          simp only [fbI, n3, np2, if_pos hrq, nI_clamp (show 3 * q + 2 < 2 ^ 31 by omega)]
          by_cases hc : ga m 3 (3 * q + 2) ≤ ga m 3 (3 * k + 2)
          · have h9 : ¬ (B k).2.2 < (B q).2.2 := fun z => Int32.not_le.mpr (ho.mpr z) hc
            rw [if_pos hc, l0_inr, l0_inl, bd_some, if_neg (fun z => h9 (by simpa [fbB] using z.2))]
            exact ih n (k + 1) (some q) (by omega) (by omega) hb
          · have h9 : (B k).2.2 < (B q).2.2 := ho.mp (Int32.not_le.mp hc)
            rw [if_neg hc, l0_inl, l0_inr, bd_some, if_pos ⟨h3, by simpa [fbB] using h9⟩]
            exact ih n (k + 1) (some k) (by omega) (by omega) (fun q hq => by cases hq; exact ⟨hk, h3⟩)
      · rw [if_neg h3, l0_inl, bd_some, if_neg (fun z => h3 z.1)]
        exact ih n (k + 1) b (by omega) (by omega) hb
theorem l_best {m : MS} {B : TQ} (V : MB m B) : x_L_looks_L2 m FU 0 (-1) = some (fbI (fbA B 4 0 none)) := by
  have h := l_bestL V FU 4 0 none rfl (by show 4 < 1000; omega) (fun q hq => by cases hq)
  rw [nI_0] at h
  exact h
/-! the stores that are there: kept for an upgrade, and put back -/
theorem l_cpL : ∀ (f k : Nat) (m : MS), k ≤ 3 → 3 < f + k → ∃ m', x_L_looks_L3 f (nI k) m = some m' ∧ (∀ i, k ≤ i → i < 3 → ga m' 4 (3 + i) = ga m 4 i) ∧ ∀ j x, j ≠ 4 ∨ x < 3 + k → ga m' j x = ga m j x := by
  intro f
  induction f with
  | zero => intro k m h1 h2; omega
  | succ f ih =>
    intro k m h1 h2
    rw [x_L_looks_L3]
    have z := kx_ge (n := k) (d := 3) (D := 3) rfl (by omega) (by omega)
    by_cases hk : k < 3
    · have hr : vR (nI k) 6 := vR6 (by omega)
      have hr2 : vR (nI (3 + k)) 6 := vR6 (by omega)
      rw [if_neg (fun q => by have := z.mp q; omega)]
      simp only [np3, if_pos hr, if_pos hr2, nI_clamp (show k < 2 ^ 31 by omega), nI_clamp (show 3 + k < 2 ^ 31 by omega), bs_eq, nI_1]
      obtain ⟨m', e, h3, h4⟩ := ih (k + 1) (sa m 4 (3 + k) (ga m 4 k)) (by omega) (by omega)
      refine ⟨m', e, fun i hi hi3 => ?_, fun j x hx => ?_⟩
      · by_cases q : i = k
        · subst q
          rw [h4 4 (3 + i) (Or.inr (by omega)), gsa_s]
        · rw [h3 i (by omega) hi3, gsa_n (Or.inr (by omega))]
      · rw [h4 j x (by omega), gsa_n (by omega)]
    · have : k = 3 := by omega
      subst this
      rw [if_pos (z.mpr (by omega))]
      exact ⟨m, rfl, fun i h1 h2 => by omega, fun j x _ => rfl⟩
theorem l_bkL : ∀ (f k : Nat) (m : MS), k ≤ 3 → 3 < f + k → ∃ m', x_L_aborts_L1 f (nI k) m = some m' ∧ (∀ i, k ≤ i → i < 3 → ga m' 4 i = ga m 4 (3 + i)) ∧ ∀ j x, j ≠ 4 ∨ x < k ∨ 3 ≤ x → ga m' j x = ga m j x := by
  intro f
  induction f with
  | zero => intro k m h1 h2; omega
  | succ f ih =>
    intro k m h1 h2
    rw [x_L_aborts_L1]
    have z := kx_ge (n := k) (d := 3) (D := 3) rfl (by omega) (by omega)
    by_cases hk : k < 3
    · have hr : vR (nI k) 6 := vR6 (by omega)
      have hr2 : vR (nI (3 + k)) 6 := vR6 (by omega)
      rw [if_neg (fun q => by have := z.mp q; omega)]
      simp only [np3, if_pos hr, if_pos hr2, nI_clamp (show k < 2 ^ 31 by omega), nI_clamp (show 3 + k < 2 ^ 31 by omega), bs_eq, nI_1]
      obtain ⟨m', e, h3, h4⟩ := ih (k + 1) (sa m 4 k (ga m 4 (3 + k))) (by omega) (by omega)
      refine ⟨m', e, fun i hi hi3 => ?_, fun j x hx => ?_⟩
      · by_cases q : i = k
        · subst q
          rw [h4 4 i (Or.inr (by omega)), gsa_s]
        · rw [h3 i (by omega) hi3, gsa_n (Or.inr (by omega))]
      · rw [h4 j x (by omega), gsa_n (by omega)]
    · have : k = 3 := by omega
      subst this
      rw [if_pos (z.mpr (by omega))]
      exact ⟨m, rfl, fun i h1 h2 => by omega, fun j x _ => rfl⟩
theorem busy_upn0 {B : TQ} {j : Nat} {w : Int32 × Int32} (h : busyA (upn B j (0, w))) : busyA B := by
  obtain ⟨i, hi, q⟩ := h
  refine ⟨i, hi, ?_⟩
  by_cases hij : i = j
  · subst hij
    unfold insA at q
    rw [upn_s] at q
    rcases q with q | q
    · exact absurd q (show ¬ (0 : Int32) = 1 by decide)
    · exact absurd q (show ¬ (0 : Int32) = 2 by decide)
  · unfold insA at q ⊢; rw [upn_n _ _ hij] at q; exact q
theorem PT.free {B : TQ} {ts : List TX} (P : PT B ts) (O : OKS ts) (h : ¬ busyA B) : ∀ k, k < ts.length → ¬ pendT (txAt ts k) := fun k hk q => h ⟨_, List.mem_range.mpr (O k hk).1, P k hk q⟩
theorem PT.set0 {B : TQ} {ts : List TX} (P : PT B ts) {j : Nat} (h : ¬ insA B j) (v : Int32 × Int32 × Int32) : PT (upn B j v) ts := fun i hi q => by
  have := P i hi q
  have e : (txAt ts i).1 ≠ j := fun z => h (z ▸ this)
  unfold insA
  rw [upn_n _ _ e]
  exact this
theorem c16 (j : Nat) : ((16 : Int32) * nI j) + 15 = nI (16 * j + 15) := by
  rw [show (16 : Int32) * nI j = nI (16 * j) from pk_mul 16 j]
  exact nI_add (16 * j) 15
/-- the upgrade of tab j begins -/
theorem l_begin {m : MS} {a : PA} {j : Nat} (hj : j < 4) (h3 : (a.2.1 j).1 = 3) (hb : ¬ busyA a.2.1) (hl : a.2.2.1.length < 60) (hu : a.1.2.1 = -1) (J : JP a) (V : MP m a) :
    ∃ m', x_L_looks_L3 FU 0 (sa (sa (sa (sa (sa m 3 (3 * j) 2) 3 13 (nI a.2.2.1.length)) 1 a.2.2.1.length 1) 2 a.2.2.1.length (nI (16 * j + 15))) 3 14 (nI (a.2.2.1.length + 1))) = some m' ∧ MP m' (beginA j a) ∧ JP (beginA j a) ∧ ga m' 3 15 = ga m 3 15 := by
  obtain ⟨Vg, Vb, Va, Vh⟩ := V
  obtain ⟨J1, J2, J3, J4⟩ := J
  have hfree := J2.free J1.1 hb
  have eu : ∃ u, u = a.2.2.1.length := ⟨_, rfl⟩
  obtain ⟨M, hM⟩ : ∃ M, M = sa (sa (sa (sa (sa m 3 (3 * j) 2) 3 13 (nI a.2.2.1.length)) 1 a.2.2.1.length 1) 2 a.2.2.1.length (nI (16 * j + 15))) 3 14 (nI (a.2.2.1.length + 1)) := ⟨_, rfl⟩
  have hM3 : ∀ x, x ≠ 14 → x ≠ 13 → ga M 3 x = ga (sa m 3 (3 * j) 2) 3 x := fun x h1 h2 => by
    rw [hM, gsa_n (Or.inr h1), gsa_n (Or.inl (by omega)), gsa_n (Or.inl (by omega)), gsa_n (Or.inr h2)]
  have hM4 : ∀ x, ga M 4 x = ga m 4 x := fun x => by
    rw [hM, gsa_n (Or.inl (by omega)), gsa_n (Or.inl (by omega)), gsa_n (Or.inl (by omega)), gsa_n (Or.inl (by omega)), gsa_n (Or.inl (by omega))]
  have hM14 : ga M 3 14 = nI (a.2.2.1.length + 1) := by rw [hM, gsa_s]
  have hM13 : ga M 3 13 = nI a.2.2.1.length := by
    rw [hM, gsa_n (Or.inr (by omega)), gsa_n (Or.inl (by omega)), gsa_n (Or.inl (by omega)), gsa_s]
  have hM1 : ∀ x, ga M 1 x = if x = a.2.2.1.length then 1 else ga m 1 x := fun x => by
    rw [hM, gsa_n (Or.inl (by omega)), gsa_n (Or.inl (by omega))]
    by_cases q : x = a.2.2.1.length
    · rw [if_pos q, q, gsa_s]
    · rw [if_neg q, gsa_n (Or.inr q), gsa_n (Or.inl (by omega)), gsa_n (Or.inl (by omega))]
  have hM2 : ∀ x, ga M 2 x = if x = a.2.2.1.length then nI (16 * j + 15) else ga m 2 x := fun x => by
    rw [hM, gsa_n (Or.inl (by omega))]
    by_cases q : x = a.2.2.1.length
    · rw [if_pos q, q, gsa_s]
    · rw [if_neg q, gsa_n (Or.inr q), gsa_n (Or.inl (by omega)), gsa_n (Or.inl (by omega)), gsa_n (Or.inl (by omega))]
  rw [← hM]
  obtain ⟨m', e, h4, h5⟩ := l_cpL FU 0 M (by omega) (by show 3 < 1000 + 0; omega)
  rw [nI_0] at e
  have hJ : JT (nI a.2.2.1.length) (runA a.2.2.1.length (a.2.2.1 ++ [(j, 7, 1, 0)], a.2.2.2)) := J1.beg j hj hl hu hfree
  have hlt : a.2.2.1.length < (a.2.2.1 ++ [((j, 7, 1, 0) : TX)]).length := by rw [len_1]; omega
  have hins : insA (upn a.2.1 j (2, (a.2.1 j).2)) j := Or.inr (by rw [upn_s])
  refine ⟨m', e, ⟨⟨?_, ?_⟩, ?_, ⟨?_, fun k hk => ?_⟩, ⟨fun k hk => ?_, fun _ k hk => ?_⟩⟩, ⟨hJ, fun i hi hp => ?_, fun _ i hi => ?_, fun _ i hi hp => ?_⟩, ?_⟩
  · rw [h5 3 12 (Or.inl (by omega)), hM3 12 (by omega) (by omega), gsa_n (Or.inr (by omega))]; exact Vg.1
  · rw [h5 3 13 (Or.inl (by omega)), hM13]; rfl
  · refine (Vb.cond hj (v := 2) (by decide) (fun _ => (Vb j hj).2.1 (Or.inr h3))).eq (fun x hx => ?_)
    rw [h5 3 x (Or.inl (by omega)), hM3 x (by omega) (by omega)]
  · rw [h5 3 14 (Or.inl (by omega)), hM14]
    show _ = nI (setP (a.2.2.1 ++ [((j, 7, 1, 0) : TX)]) a.2.2.1.length 1).length
    rw [setP_len, len_1]
  · have hk' : k < (setP (a.2.2.1 ++ [((j, 7, 1, 0) : TX)]) a.2.2.1.length 1).length := hk
    rw [setP_len, len_1] at hk'
    rw [h5 1 k (Or.inl (by omega)), h5 2 k (Or.inl (by omega)), hM1, hM2]
    show _ = (txAt (setP (a.2.2.1 ++ [((j, 7, 1, 0) : TX)]) a.2.2.1.length 1) k).2.2.2 ∧ _ = cod (txAt (setP (a.2.2.1 ++ [((j, 7, 1, 0) : TX)]) a.2.2.1.length 1) k)
    by_cases q : k = a.2.2.1.length
    · subst q
      rw [if_pos rfl, if_pos rfl, setP_s 1 hlt, txA_r]
      refine ⟨rfl, ?_⟩
      show nI (16 * j + 15) = nI (16 * j + ((7 : Int32).toNatClampNeg + (if (1 : Int32) = 0 then 0 else 8)))
      rw [if_neg q10, show (7 : Int32).toNatClampNeg = 7 by decide]
    · rw [if_neg q, if_neg q, setP_n 1 q, txA_l (by omega)]
      exact Va.2 k (by omega)
  · rw [h5 4 k (Or.inr (by omega)), hM4]
    show _ = ((if (txAt (a.2.2.1 ++ [((j, 7, 1, 0) : TX)]) a.2.2.1.length).2.2.1 = 0 then a.2.2.2 else copyA (txAt (a.2.2.1 ++ [((j, 7, 1, 0) : TX)]) a.2.2.1.length).2.1 0 3 a.2.2.2) k).1
    rw [txA_r, if_neg (show ¬ (1 : Int32) = 0 from q10), (cp_hi hk).2]
    exact Vh.1 k hk
  · rw [h4 k (by omega) hk, hM4]
    show _ = ((if (txAt (a.2.2.1 ++ [((j, 7, 1, 0) : TX)]) a.2.2.1.length).2.2.1 = 0 then a.2.2.2 else copyA (txAt (a.2.2.1 ++ [((j, 7, 1, 0) : TX)]) a.2.2.1.length).2.1 0 3 a.2.2.2) (3 + k)).1
    rw [txA_r, if_neg (show ¬ (1 : Int32) = 0 from q10), (cp_hi hk).1, if_pos (in_7 k hk)]
    exact Vh.1 k hk
  · have hi' : i < (setP (a.2.2.1 ++ [((j, 7, 1, 0) : TX)]) a.2.2.1.length 1).length := hi
    rw [setP_len, len_1] at hi'
    have hp' : pendT (txAt (setP (a.2.2.1 ++ [((j, 7, 1, 0) : TX)]) a.2.2.1.length 1) i) := hp
    show insA (upn a.2.1 j (2, (a.2.1 j).2)) (txAt (setP (a.2.2.1 ++ [((j, 7, 1, 0) : TX)]) a.2.2.1.length 1) i).1
    by_cases q : i = a.2.2.1.length
    · subst q
      rw [setP_s 1 hlt, txA_r]
      exact hins
    · rw [setP_n 1 q, txA_l (by omega)] at hp'
      exact absurd hp' (hfree i (by omega))
  · show ¬ (upn a.2.1 j (2, (a.2.1 j).2) i).1 = 1
    by_cases q : i = j
    · subst q; rw [upn_s]; exact (show ¬ (2 : Int32) = 1 by decide)
    · rw [upn_n _ _ q]
      exact fun z => hb ⟨i, List.mem_range.mpr hi, Or.inl z⟩
  · have hi' : i < (setP (a.2.2.1 ++ [((j, 7, 1, 0) : TX)]) a.2.2.1.length 1).length := hi
    rw [setP_len, len_1] at hi'
    have hp' : pendT (txAt (setP (a.2.2.1 ++ [((j, 7, 1, 0) : TX)]) a.2.2.1.length 1) i) := hp
    by_cases q : i = a.2.2.1.length
    · rw [q]; rfl
    · rw [setP_n 1 q, txA_l (by omega)] at hp'
      exact absurd hp' (hfree i (by omega))
  · rw [h5 3 15 (Or.inl (by omega)), hM3 15 (by omega) (by omega), gsa_n (Or.inr (by omega))]
theorem l_looksL : ∀ (f n : Nat) (a : PA) (m : MS), n + 1 < f → nbA a.2.1 ≤ n → a.2.2.1.length < 60 → (¬ busyA a.2.1 → a.1.2.1 = -1) → JP a → MP m a → ∃ m', x_L_looks_L1 f 1 m = some m' ∧ MP m' (looksA n a) ∧ JP (looksA n a) ∧ ga m' 3 15 = ga m 3 15 := by
  intro f
  induction f with
  | zero => intro n a m h; omega
  | succ f ih =>
    intro n a m hf hnb hl hu J V
    obtain ⟨Vg, Vb, Va, Vh⟩ := id V
    rw [x_L_looks_L1, if_neg (show ¬ (1 : Int32) = 0 by decide), l_isBusy Vb, bd_some]
    by_cases hb : busyA a.2.1
    · rw [if_pos hb, if_neg (show ¬ (1 : Int32) = 0 by decide), looks_busy hb]
      exact ⟨m, rfl, V, J, rfl⟩
    · rw [if_neg hb, if_pos rfl, l_best Vb, bd_some]
      cases e : fbA a.2.1 4 0 none with
      | none =>
        rw [if_pos fbI_n, bd_some, if_pos rfl, l0_inl, if_pos rfl, bd_some, looks_none e]
        cases f with
        | zero => omega
        | succ f => rw [x_L_looks_L1, if_pos rfl]; exact ⟨m, rfl, V, J, rfl⟩
      | some j =>
        obtain ⟨hj4, hj3⟩ := fbA_lt a.2.1 4 0 none (by omega) (fun q hq => by cases hq) j e
        have hr : vR (nI (3 * j)) 16 := vR16 (by omega)
        have hr1 : vR (nI (3 * j + 1)) 16 := vR16 (by omega)
        rw [if_neg (show ¬ fbI (some j) < 0 from nI_pos (by omega)), bd_some, if_neg (show ¬ (1 : Int32) = 0 by decide), if_neg (show ¬ (1 : Int32) = 0 by decide)]
        cases n with
        | zero => exact absurd hj3 (nbA_0 (by omega) j hj4)
        | succ n =>
          rw [looksA, if_neg hb, e]
          simp only [fbI, n3, nI_1, if_pos hr, if_pos hr1, if_pos v12, t12c, nI_clamp (show 3 * j < 2 ^ 31 by omega), nI_clamp (show 3 * j + 1 < 2 ^ 31 by omega), (Vb j hj4).2.1 (Or.inr hj3), Vg.1]
          have nins : ¬ insA a.2.1 j := fun z => hb ⟨j, List.mem_range.mpr hj4, z⟩
          by_cases hw : (a.2.1 j).2.1 ≤ a.1.1
          · rw [if_pos hw, if_pos hw, l0_inl, bs_eq, bd_some]
            have V1 : MP (sa m 3 (3 * j) 0) (a.1, upn a.2.1 j (0, (a.2.1 j).2), a.2.2) := ⟨Vg.eq (fun x h1 h2 => gsa_n (Or.inr (by omega))), Vb.cond hj4 (by decide) (fun q => absurd q (by decide)), Va.eq (fun x => ⟨gsa_n (Or.inl (by omega)), gsa_n (Or.inl (by omega))⟩) (gsa_n (Or.inr (by omega))), Vh.eq (fun x => gsa_n (Or.inl (by omega)))⟩
            have J1 : JP (a.1, upn a.2.1 j (0, (a.2.1 j).2), a.2.2) := ⟨J.1, J.2.1.set0 nins _, fun q => absurd (hu hb) q, J.2.2.2⟩
            have hlt := nbA_upn hj4 hj3 (v := (0, (a.2.1 j).2)) (show ¬ (0 : Int32) = 3 by decide)
            obtain ⟨m2, e2, V2, J2, c2⟩ := ih n (a.1, upn a.2.1 j (0, (a.2.1 j).2), a.2.2) (sa m 3 (3 * j) 0) (by omega) (by show nbA (upn a.2.1 j (0, (a.2.1 j).2)) ≤ n; omega) hl (fun _ => hu hb) J1 V1
            exact ⟨m2, e2, V2, J2, c2.trans (gsa_n (Or.inr (by omega)))⟩
          · rw [if_neg hw, if_neg hw]
            have hA : ga (sa m 3 (3 * j) 2) 3 14 = nI a.2.2.1.length := (gsa_n (Or.inr (by omega))).trans Va.1
            have hB : ga (sa (sa m 3 (3 * j) 2) 3 13 (nI a.2.2.1.length)) 3 14 = nI a.2.2.1.length := (gsa_n (Or.inr (by omega))).trans hA
            have hC : ga (sa (sa (sa m 3 (3 * j) 2) 3 13 (nI a.2.2.1.length)) 1 a.2.2.1.length 1) 3 14 = nI a.2.2.1.length := (gsa_n (Or.inl (by omega))).trans hB
            have hD : ga (sa (sa (sa (sa m 3 (3 * j) 2) 3 13 (nI a.2.2.1.length)) 1 a.2.2.1.length 1) 2 a.2.2.1.length (nI (16 * j + 15))) 3 14 = nI a.2.2.1.length := (gsa_n (Or.inl (by omega))).trans hC
            have hrl : vR (nI a.2.2.1.length) 60 := vR60 hl
            obtain ⟨m6, e6, V6, J6, c6⟩ := l_begin hj4 hj3 hb hl (hu hb) J V
            simp only [bs_eq, if_pos v13, if_pos v14, t13c, t14c, hA, hB, hC, hD, if_pos hrl, nI_clamp (show a.2.2.1.length < 2 ^ 31 by omega), c16, nI_1, e6, bd_some, l0_inr]
            have hbusy : busyA (beginA j a).2.1 := ⟨j, List.mem_range.mpr hj4, Or.inr (by show (upn a.2.1 j (2, (a.2.1 j).2) j).1 = 2; rw [upn_s])⟩
            rw [looks_busy hbusy]
            refine ⟨m6, ?_, V6, J6, c6⟩
            cases f with
            | zero => omega
            | succ f => rw [x_L_looks_L1, if_neg (show ¬ (1 : Int32) = 0 by decide), l_isBusy V6.2.1, bd_some, if_pos hbusy, if_neg (show ¬ (1 : Int32) = 0 by decide)]
theorem l_looks {a : PA} {m : MS} (hl : a.2.2.1.length < 60) (hu : ¬ busyA a.2.1 → a.1.2.1 = -1) (J : JP a) (V : MP m a) : ∃ m', x_L_looks m = some m' ∧ MP m' (looksA 4 a) ∧ JP (looksA 4 a) ∧ ga m' 3 15 = ga m 3 15 := by
  obtain ⟨m', e, V', J', c⟩ := l_looksL FU 4 a m (by show 5 < 1000; omega) (nbA_le _) hl hu J V
  exact ⟨m', by unfold x_L_looks; rw [e, bd_some], V', J', c⟩
