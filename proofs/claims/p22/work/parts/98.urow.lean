/-! ===== the law's checks: rows ===== -/
theorem JT.rows {u : Int32} {ts : List TX} {st : Nat → SA} (J : JT u (ts, st)) (k : Nat) (hk : k < 3) {v : SA} (h1 : v.1 = (st k).1) (hv : ∀ r ∈ v.2.2.2, ¬ rng r.2.1 0 9999) : JT u (ts, upn st k v) := by
  obtain ⟨O, D, C, U, X, L⟩ := id J
  refine ⟨O, D, fun a ha pa wa ua j hj ij => ?_, U, fun j hj r hr => ?_, L⟩
  · show (upn st k v (3 + j)).1 = (upn st k v j).1
    rw [upn_n _ _ (by omega)]
    have h2 : (st (3 + j)).1 = (st j).1 := C a ha pa wa ua j hj ij
    rw [h2]
    by_cases e : j = k
    · subst e; rw [upn_s, h1]
    · rw [upn_n _ _ e]
  · by_cases e : j = k
    · subst e
      have hr' : r ∈ (upn st j v j).2.2.2 := hr
      rw [upn_s] at hr'
      exact hv r hr'
    · have hr' : r ∈ (upn st k v j).2.2.2 := hr
      rw [upn_n _ _ e] at hr'
      exact X j hj r hr'
theorem lr_rows {o c s : Nat} {w' : CS} {m : MS} {a : AS} {N' n : Nat} (V : MP m (pa a)) (J : JP (pa a)) (hC : a.2.2.2 = []) (hn : ga m 3 15 = nI n) (hN : n ≤ N') {k : Nat} (hk : k < 3) {v : SA} (h1 : v.1 = (a.2.2.1.2 k).1) (hv : ∀ r ∈ v.2.2.2, ¬ rng r.2.1 0 9999) (S' : ST o N' c s w' (setS a (nI k) v)) : LR o N' c s w' m (setS a (nI k) v) := by
  have hcl : (nI k).toNatClampNeg = k := nI_clamp (by omega)
  have e : setS a (nI k) v = (a.1, a.2.1, (a.2.2.1.1, upn a.2.2.1.2 k v), a.2.2.2) := by unfold setS; rw [hcl]
  rw [e] at S' ⊢
  refine ⟨S', ⟨V.1, V.2.1, V.2.2.1, ⟨fun j hj => ?_, fun q j hj => ?_⟩⟩, ⟨J.1.rows k hk h1 hv, J.2.1, J.2.2.1, J.2.2.2⟩, hC, n, hN, hn⟩
  · show _ = (upn a.2.2.1.2 k v j).1
    by_cases e : j = k
    · subst e; rw [upn_s, h1]; exact V.2.2.2.1 j hj
    · rw [upn_n _ _ e]; exact V.2.2.2.1 j hj
  · show _ = (upn a.2.2.1.2 k v (3 + j)).1
    rw [upn_n _ _ (by omega)]; exact V.2.2.2.2 q j hj
theorem ct_f : ∀ c, c < 10000 → ¬ rng (nI c - nI c / 1000 * 1000) (-1) 999 := by
  intro c hc
  have e : nI c - nI c / 1000 * 1000 = nI (c % 1000) := pk_rem (d := 1000) (by omega) (by omega) (by omega)
  rw [e]
  rintro (q | q)
  · exact Int32.lt_irrefl (Int32.lt_of_lt_of_le q (Int32.le_trans (by decide) (nI_pos' (by omega))))
  · exact q (nI_le (b := 999) (by omega) (by omega))
theorem rng_c {c : Nat} (hc : c ≤ 10000) : rng (nI c) 0 9999 ↔ c = 10000 := by
  constructor
  · rintro (q | q)
    · exact absurd q (nI_pos (by omega))
    · by_cases z : c = 10000
      · exact z
      · exact absurd (nI_le (a := c) (b := 9999) (by omega) (by omega)) q
  · intro z
    subst z
    exact Or.inr (by decide)
/-- the checks of a row that the law makes first -/
abbrev thR (a : AS) (i k : Nat) : Prop := i < lenT a ∧ k < 3 ∧ (a.2.2.1.2 k).1 = 1
abbrev rgR (kk cc : Nat) : Prop := kk % 1000000 < 1000 ∧ cc < 10000
abbrev rdR (a : AS) (i k : Nat) : Prop := (txAt a.2.2.1.1 i).2.2.2 = 1 ∧ inS (txAt a.2.2.1.1 i).2.1 (nI k)
theorem chk10 {m : MS} {a : AS} (V : MP m (pa a)) {i k : Nat} (hi : i ≤ lenT a) (hl : lenT a ≤ 56) (hk : k ≤ 3) : l0 (if nI (lenT a) ≤ nI i then some (Sum.inl ()) else if (3 : Int32) ≤ nI k then some (Sum.inl ()) else bd (if (3 : Int32) ≤ nI k then some (0 : Int32) else some (nI k)) (fun v5 => if vR v5 6 then if ga m 4 v5.toNatClampNeg = 1 then some (Sum.inr (1 : Int32)) else some (Sum.inl ()) else none)) (fun _ => some 0) = some (if thR a i k then 1 else 0) := by
  obtain ⟨z1, z2⟩ := there_cs (a := a) hi hl hk
  by_cases c1 : i = lenT a
  · rw [if_pos (z1.mpr c1), l0_inl, if_neg (fun q => by have := q.1; omega)]
  · rw [if_neg (fun q => c1 (z1.mp q))]
    by_cases c2 : k = 3
    · rw [if_pos (z2.mpr c2), l0_inl, if_neg (fun q => by have := q.2.1; omega)]
    · have hst : ga m 4 k = (a.2.2.1.2 k).1 := V.2.2.2.1 k (by omega)
      rw [if_neg (fun q => c2 (z2.mp q)), if_neg (fun q => c2 (z2.mp q)), bd_some, if_pos (vR6 (show k < 6 by omega)), nI_clamp (show k < 2 ^ 31 by omega), hst]
      by_cases c3 : (a.2.2.1.2 k).1 = 1
      · rw [if_pos c3, l0_inr, if_pos ⟨by omega, by omega, c3⟩]
      · rw [if_neg c3, l0_inl, if_neg (fun q => c3 q.2.2)]
theorem chk16 {kk cc : Nat} (hkk : kk < 2000000) (hcc : cc ≤ 10000) : l0 (if nI kk < 0 then some (Sum.inl ()) else if (1000 : Int32) ≤ (nI kk - nI kk / 1000000 * 1000000) then some (Sum.inl ()) else if (2000000 : Int32) ≤ nI kk then some (Sum.inl ()) else if (10000 : Int32) ≤ nI cc then some (Sum.inl ()) else some (Sum.inr (1 : Int32))) (fun _ => some 0) = some (if rgR kk cc then 1 else 0) := by
  have e1 : nI kk - nI kk / 1000000 * 1000000 = nI (kk % 1000000) := pk_rem (d := 1000000) (by omega) (by omega) (by omega)
  have z1 : (1000 : Int32) ≤ nI (kk % 1000000) ↔ 1000 ≤ kk % 1000000 := kx_ge (d := 1000) rfl (by omega) (by omega)
  have z2 : (2000000 : Int32) ≤ nI kk ↔ 2000000 ≤ kk := kx_ge (d := 2000000) rfl (by omega) (by omega)
  have z3 : (10000 : Int32) ≤ nI cc ↔ 10000 ≤ cc := kx_ge (d := 10000) rfl (by omega) (by omega)
  rw [if_neg (nI_pos (by omega)), e1]
  by_cases c1 : 1000 ≤ kk % 1000000
  · rw [if_pos (z1.mpr c1), l0_inl, if_neg (fun q => by have := q.1; omega)]
  · rw [if_neg (fun q => c1 (z1.mp q)), if_neg (fun q => by have := z2.mp q; omega)]
    by_cases c2 : 10000 ≤ cc
    · rw [if_pos (z3.mpr c2), l0_inl, if_neg (fun q => by have := q.2; omega)]
    · rw [if_neg (fun q => c2 (z3.mp q)), l0_inr, if_pos ⟨by omega, by omega⟩]
theorem chk23 {m : MS} {a : AS} (V : MP m (pa a)) (J : JP (pa a)) {i k : Nat} (hi : i < lenT a) (hl : lenT a ≤ 56) (hk : k < 3) : l0 (if (1 : Int32) = 0 then some (Sum.inl ()) else if vR (nI i) 60 then if ga m 1 (nI i).toNatClampNeg = 1 then if vR (nI i) 60 then if ((ga m 2 (nI i).toNatClampNeg >>> (nI k &&& 31)) &&& 1) = 1 then some (Sum.inr (1 : Int32)) else some (Sum.inl ()) else none else some (Sum.inl ()) else none) (fun _ => some 0) = some (if rdR a i k then 1 else 0) := by
  have h1 : ga m 1 i = (txAt a.2.2.1.1 i).2.2.2 := (V.2.2.1.2 i hi).1
  have h2 : ga m 2 i = cod (txAt a.2.2.1.1 i) := (V.2.2.1.2 i hi).2
  have h3 := (cod_in (show okT (txAt a.2.2.1.1 i) from J.1.1 i hi) hk).1
  rw [if_neg e10, if_pos (vR60 (show i < 60 by omega)), if_pos (vR60 (show i < 60 by omega)), nI_clamp (show i < 2 ^ 31 by omega), h1, h2]
  by_cases c1 : (txAt a.2.2.1.1 i).2.2.2 = 1
  · rw [if_pos c1]
    by_cases c2 : inS (txAt a.2.2.1.1 i).2.1 (nI k)
    · rw [if_pos (h3.mpr c2), l0_inr, if_pos ⟨c1, c2⟩]
    · rw [if_neg (fun q => c2 (h3.mp q)), l0_inl, if_neg (fun q => c2 q.2)]
  · rw [if_neg c1, l0_inl, if_neg (fun q => c1 q.1)]
theorem chk28 {m : MS} {a : AS} (V : MP m (pa a)) (J : JP (pa a)) {i : Nat} (hi : i < lenT a) (hl : lenT a ≤ 56) : l0 (if (1 : Int32) = 0 then some (Sum.inl ()) else if vR (nI i) 60 then if (ga m 2 (nI i).toNatClampNeg &&& 8) = 8 then some (Sum.inr (1 : Int32)) else some (Sum.inl ()) else none) (fun _ => some 0) = some (if ¬ (txAt a.2.2.1.1 i).2.2.1 = 0 then 1 else 0) := by
  have h2 : ga m 2 i = cod (txAt a.2.2.1.1 i) := (V.2.2.1.2 i hi).2
  have h3 := (cod_in (show okT (txAt a.2.2.1.1 i) from J.1.1 i hi) (k := 0) (by omega)).2
  rw [if_neg e10, if_pos (vR60 (show i < 60 by omega)), nI_clamp (show i < 2 ^ 31 by omega), h2]
  by_cases c1 : (txAt a.2.2.1.1 i).2.2.1 = 0
  · rw [if_neg (fun q => h3.mp q c1), l0_inl, if_neg (fun q => q c1)]
  · rw [if_pos (h3.mpr c1), l0_inr, if_pos c1]
/-- what a get of a row answers -/
def gotV (x : Option RW) : Int32 := match x with
  | none => -1
  | some r => r.2.1
theorem got_rng {xs : List RW} {k : Int32} (h : ∀ r ∈ xs, ¬ rng r.2.1 0 9999) : ¬ gotV (findR xs k) < -1 ∧ ¬ (10000 : Int32) ≤ gotV (findR xs k) ∧ ((0 : Int32) ≤ gotV (findR xs k) ↔ ¬ findR xs k = none) := by
  cases e : findR xs k with
  | none => exact ⟨by decide, by decide, fun q => absurd q (by decide), fun q => absurd rfl q⟩
  | some r =>
    have h1 := h r (find_mem e)
    have h2 : ¬ r.2.1 < 0 := fun q => h1 (Or.inl q)
    have h3 : r.2.1 ≤ 9999 := Classical.byContradiction (fun q => h1 (Or.inr q))
    rw [Int32.lt_iff_toInt_lt] at h2
    rw [Int32.le_iff_toInt_le] at h3
    have h4 : ¬ r.2.1.toInt < 0 := h2
    have h5 : r.2.1.toInt ≤ 9999 := h3
    refine ⟨?_, ?_, ⟨fun _ q => (by cases q), fun _ => ?_⟩⟩
    · show ¬ r.2.1 < -1
      rw [Int32.lt_iff_toInt_lt]
      show ¬ r.2.1.toInt < -1
      omega
    · show ¬ (10000 : Int32) ≤ r.2.1
      rw [Int32.le_iff_toInt_le]
      show ¬ (10000 : Int) ≤ r.2.1.toInt
      omega
    · show (0 : Int32) ≤ r.2.1
      rw [Int32.le_iff_toInt_le]
      show (0 : Int) ≤ r.2.1.toInt
      omega
