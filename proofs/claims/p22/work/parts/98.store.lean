/-! ===== the law's checks: stores and indexes ===== -/
theorem JT.setS {u : Int32} {ts : List TX} {st : Nat → SA} (J : JT u (ts, st)) {i : Nat} (hi : i < ts.length) (hu : u = nI i) (k : Nat) {v : SA} (hv : ∀ r ∈ v.2.2.2, ¬ rng r.2.1 0 9999) : JT u (ts, upn st k v) := by
  obtain ⟨O, D, C, U, X, L⟩ := id J
  refine ⟨O, D, fun a ha pa wa ua => absurd ?_ ua, U, fun j hj r hr => ?_, L⟩
  · have := J.alone hi hu ha pa
    rw [this]; exact hu
  · by_cases e : j = k
    · subst e
      have hr' : r ∈ (upn st j v j).2.2.2 := hr
      rw [upn_s] at hr'
      exact hv r hr'
    · have hr' : r ∈ (upn st k v j).2.2.2 := hr
      rw [upn_n _ _ e] at hr'
      exact X j hj r hr'
theorem MHs.setS {m : MS} {u : Int32} {st : Nat → SA} (V : MHs m u st) {k : Nat} (hk : k < 3) (v : SA) : MHs (sa m 4 k v.1) u (upn st k v) := by
  refine ⟨fun j hj => ?_, fun q j hj => ?_⟩
  · by_cases e : j = k
    · subst e; rw [gsa_s, upn_s]
    · rw [gsa_n (Or.inr e), upn_n _ _ e]; exact V.1 j hj
  · rw [gsa_n (Or.inr (by omega)), upn_n _ _ (by omega)]; exact V.2 q j hj
theorem lr_setS {o c s : Nat} {w' : CS} {m : MS} {a : AS} {N' n : Nat} (V : MP m (pa a)) (J : JP (pa a)) (hC : a.2.2.2 = []) (hn : ga m 3 15 = nI n) (hN : n ≤ N') {i k : Nat} (hi : i < lenT a) (hu : a.1.2.1 = nI i) (hk : k < 3) {v : SA} (hv : ∀ r ∈ v.2.2.2, ¬ rng r.2.1 0 9999) (S' : ST o N' c s w' (setS a (nI k) v)) : LR o N' c s w' (sa m 4 k v.1) (setS a (nI k) v) := by
  have hcl : (nI k).toNatClampNeg = k := nI_clamp (by omega)
  have e : setS a (nI k) v = (a.1, a.2.1, (a.2.2.1.1, upn a.2.2.1.2 k v), a.2.2.2) := by unfold setS; rw [hcl]
  rw [e] at S' ⊢
  refine ⟨S', ⟨V.1.eq (fun x h1 h2 => gsa_n (Or.inl (by omega))), V.2.1.eq (fun x h => gsa_n (Or.inl (by omega))), V.2.2.1.eq (fun x => ⟨gsa_n (Or.inl (by omega)), gsa_n (Or.inl (by omega))⟩) (gsa_n (Or.inl (by omega))), V.2.2.2.setS hk v⟩, ⟨J.1.setS hi hu k hv, J.2.1, J.2.2.1, J.2.2.2⟩, hC, n, hN, (gsa_n (Or.inl (by omega))).trans hn⟩
section STORES
variable {o N c s : Nat} {w : CS} {m : MS} {a : AS}
theorem there_cs {i k : Nat} (hi : i ≤ lenT a) (hl : lenT a ≤ 56) (hk : k ≤ 3) : (nI (lenT a) ≤ nI i ↔ i = lenT a) ∧ ((3 : Int32) ≤ nI k ↔ k = 3) := by
  refine ⟨(nI_leI (by omega) (by omega)).trans ⟨fun q => by omega, fun q => by omega⟩, ?_⟩
  have := kx_ge (n := k) (d := 3) (D := 3) rfl (by omega) (by omega)
  rw [this]; omega
theorem l_store0 (H : LR o N (c + 2) (s + 10) w m a) (hl : lenT a ≤ 56) {i k : Nat} (hi : i ≤ lenT a) (hk : k ≤ 3) (f : Int32) : ∃ w' m' a', x_L_isStore o (nI i) (nI k) 0 f w m = some (1, w', m') ∧ LR o (N + 1) c s w' m' a' := by
  obtain ⟨S, V, J, hC, n, hnN, hn⟩ := H
  obtain ⟨w', e, S'⟩ := d_mkS S (nI i) (nI k) f 0
  have hIV := S.2.1.1
  have h14 : ga m 3 14 = nI (lenT a) := V.2.2.1.1
  have h13 : ga m 3 13 = a.1.2.1 := V.1.2
  obtain ⟨z1, z2⟩ := there_cs (a := a) hi hl hk
  unfold x_L_isStore
  simp only [if_pos v14, t14c, h14]
  by_cases c1 : i = lenT a
  · have eo : mkSA (nI i) (nI k) a = (1, 0, a) := by unfold mkSA; rw [if_pos (show oX a (nI i) by rw [c1]; exact oT_n)]
    rw [eo, dz1 rfl] at e
    rw [eo] at S'
    rw [if_pos (z1.mpr c1), l0_inl, bd_some, if_pos rfl, l0_inl, bd_some, e, b2_some, if_pos rfl, if_pos rfl, bd_some, if_pos rfl, bd_some, if_pos isB1]
    exact ⟨w', m, a, rfl, S', V, J, hC, n, by omega, hn⟩
  · have hi' : i < lenT a := by omega
    have hnX : ¬ oX a (nI i) := oT_no hi' (by omega)
    rw [if_neg (fun q => c1 (z1.mp q))]
    by_cases c2 : k = 3
    · have eo : mkSA (nI i) (nI k) a = (1, 0, a) := by unfold mkSA; rw [if_neg hnX, if_pos (show oT (nI k) 3 by rw [c2]; exact oT_n)]
      rw [eo, dz1 rfl] at e
      rw [eo] at S'
      rw [if_pos (z2.mpr c2), l0_inl, bd_some, if_pos rfl, l0_inl, bd_some, e, b2_some, if_pos rfl, if_pos rfl, bd_some, if_pos rfl, bd_some, if_pos isB1]
      exact ⟨w', m, a, rfl, S', V, J, hC, n, by omega, hn⟩
    · have hk' : k < 3 := by omega
      have hnT : ¬ oT (nI k) 3 := oT_no hk' (by omega)
      have hcl : (nI k).toNatClampNeg = k := nI_clamp (by omega)
      have hst : ga m 4 k = (a.2.2.1.2 k).1 := V.2.2.2.1 k hk'
      rw [if_neg (fun q => c2 (z2.mp q)), if_pos trivial, l0_inl, if_neg (show ¬ (0 : Int32) = 1 by decide), l0_inl, l0_inr, bd_some, if_neg e10]
      simp only [if_pos v13, t13c, h13, if_pos (vR6 (show k < 6 by omega)), hcl, hst]
      by_cases c3 : nI i = a.1.2.1
      · rw [if_pos c3, if_pos trivial]
        by_cases c4 : (a.2.2.1.2 k).1 = 0
        · have eo : mkSA (nI i) (nI k) a = (0, 0, setS a (nI k) (1, (stA a (nI k)).2)) := by
            unfold mkSA
            rw [if_neg hnX, if_neg hnT, if_neg (fun q => q c3), if_neg (fun q => q (by unfold stA; rw [hcl]; exact c4))]
          rw [eo, dz0 rfl] at e
          rw [eo] at S'
          rw [if_pos c4, l0_inl, l0_inr, bd_some, e, b2_some, if_neg e10, if_pos trivial, bd_some, bs_eq, if_neg (show ¬ (0 : Int32) = 4 by decide), if_pos trivial, if_pos rfl, b2_some, if_pos isB1]
          exact ⟨w', sa m 4 k 1, _, rfl, lr_setS (v := (1, (stA a (nI k)).2)) V J hC hn (by omega) hi' c3.symm hk' (fun r hr => J.1.2.2.2.2.1 k (by omega) r (by unfold stA at hr; rw [hcl] at hr; exact hr)) S'⟩
        · have eo : mkSA (nI i) (nI k) a = (3, 0, a) := by
            unfold mkSA
            rw [if_neg hnX, if_neg hnT, if_neg (fun q => q c3), if_pos (fun q => c4 (by unfold stA at q; rw [hcl] at q; exact q))]
          rw [eo, dz3 rfl] at e
          rw [eo] at S'
          rw [if_neg c4, l0_inr, l0_inl, bd_some, e, b2_some, if_pos rfl, if_neg e10, bd_some, if_pos rfl, bd_some, if_pos isB1]
          exact ⟨w', m, a, rfl, S', V, J, hC, n, by omega, hn⟩
      · have eo : mkSA (nI i) (nI k) a = (3, 0, a) := by
          unfold mkSA
          rw [if_neg hnX, if_neg hnT, if_pos c3]
        rw [eo, dz3 rfl] at e
        rw [eo] at S'
        rw [if_neg c3, l0_inl, bd_some, e, b2_some, if_pos rfl, if_neg e10, bd_some, if_pos rfl, bd_some, if_pos isB1]
        exact ⟨w', m, a, rfl, S', V, J, hC, n, by omega, hn⟩
theorem l_store4 (H : LR o N (c + 2) (s + 10) w m a) (hl : lenT a ≤ 56) {i k : Nat} (hi : i ≤ lenT a) (hk : k ≤ 3) (f : Int32) : ∃ w' m' a', x_L_isStore o (nI i) (nI k) 4 f w m = some (1, w', m') ∧ LR o (N + 1) c s w' m' a' := by
  obtain ⟨S, V, J, hC, n, hnN, hn⟩ := H
  obtain ⟨w', e, S'⟩ := d_deleteStore S (nI i) (nI k) f 0
  have hIV := S.2.1.1
  have h14 : ga m 3 14 = nI (lenT a) := V.2.2.1.1
  have h13 : ga m 3 13 = a.1.2.1 := V.1.2
  have e40 : ¬ (4 : Int32) = 0 := by decide
  have e41 : ¬ (4 : Int32) = 1 := by decide
  obtain ⟨z1, z2⟩ := there_cs (a := a) hi hl hk
  unfold x_L_isStore
  simp only [if_pos v14, t14c, h14]
  by_cases c1 : i = lenT a
  · have eo : delA (nI i) (nI k) a = (1, 0, a) := by unfold delA; rw [if_pos (show oX a (nI i) by rw [c1]; exact oT_n)]
    rw [eo, dz1 rfl] at e
    rw [eo] at S'
    rw [if_pos (z1.mpr c1), l0_inl, bd_some, if_pos rfl, l0_inl, bd_some, e, b2_some, if_pos rfl, if_pos rfl, bd_some, if_pos rfl, bd_some, if_pos isB1]
    exact ⟨w', m, a, rfl, S', V, J, hC, n, by omega, hn⟩
  · have hi' : i < lenT a := by omega
    have hnX : ¬ oX a (nI i) := oT_no hi' (by omega)
    rw [if_neg (fun q => c1 (z1.mp q))]
    by_cases c2 : k = 3
    · have eo : delA (nI i) (nI k) a = (1, 0, a) := by unfold delA; rw [if_neg hnX, if_pos (show noS a (nI k) by rw [c2]; exact Or.inl oT_n)]
      rw [eo, dz1 rfl] at e
      rw [eo] at S'
      rw [if_pos (z2.mpr c2), l0_inl, bd_some, if_pos rfl, l0_inl, bd_some, e, b2_some, if_pos rfl, if_pos rfl, bd_some, if_pos rfl, bd_some, if_pos isB1]
      exact ⟨w', m, a, rfl, S', V, J, hC, n, by omega, hn⟩
    · have hk' : k < 3 := by omega
      have hnT : ¬ oT (nI k) 3 := oT_no hk' (by omega)
      have hcl : (nI k).toNatClampNeg = k := nI_clamp (by omega)
      have hst : ga m 4 k = (a.2.2.1.2 k).1 := V.2.2.2.1 k hk'
      have hB := (SOK.of hIV hk').1.1
      have hlen := (SOK.of hIV hk').2.2.1
      rw [if_neg (fun q => c2 (z2.mp q)), if_neg e40]
      simp only [if_pos v13, t13c, h13, if_pos (vR6 (show k < 6 by omega)), hcl, hst]
      by_cases c3 : (a.2.2.1.2 k).1 = 1
      · have hnS : ¬ noS a (nI k) := fun q => q.elim hnT (fun z => by rw [hcl, c3] at z; exact e10 z)
        rw [if_pos c3, l0_inl, if_neg e41, l0_inl, l0_inr, bd_some, if_neg e10]
        by_cases c4 : nI i = a.1.2.1
        · have eo : delA (nI i) (nI k) a = (0, nI (a.2.2.1.2 k).2.2.2.length, setS a (nI k) (0, 0, 0, [])) := by
            unfold delA
            rw [if_neg hnX, if_neg hnS, if_neg (fun q => q c4)]
            unfold stA
            rw [hcl]
          rw [eo, dz0 rfl] at e
          rw [eo] at S'
          have hlt : ¬ (41 : Int32) ≤ nI (a.2.2.1.2 k).2.2.2.length := fun q => by
            have := (kx_ge (n := (a.2.2.1.2 k).2.2.2.length) (d := 41) (D := 41) rfl (by omega) (by omega)).mp q
            omega
          rw [if_pos c4, if_neg e40, l0_inl, l0_inr, bd_some, e, b2_some, if_neg e10, if_neg e40, if_pos trivial, bd_some, bs_eq, if_pos trivial, if_neg (show ¬ nI (a.2.2.1.2 k).2.2.2.length < 0 from nI_pos (by omega)), if_neg hlt, l0_inr, b2_some, if_pos isB1]
          exact ⟨w', sa m 4 k 0, _, rfl, lr_setS (v := (0, 0, 0, [])) V J hC hn (by omega) hi' c4.symm hk' (fun r hr => absurd hr List.not_mem_nil) S'⟩
        · have eo : delA (nI i) (nI k) a = (3, 0, a) := by
            unfold delA
            rw [if_neg hnX, if_neg hnS, if_pos c4]
          rw [eo, dz3 rfl] at e
          rw [eo] at S'
          rw [if_neg c4, l0_inl, bd_some, e, b2_some, if_pos rfl, if_neg e10, bd_some, if_pos rfl, bd_some, if_pos isB1]
          exact ⟨w', m, a, rfl, S', V, J, hC, n, by omega, hn⟩
      · have h0 : (a.2.2.1.2 k).1 = 0 := hB.elim id (fun q => absurd q c3)
        have eo : delA (nI i) (nI k) a = (1, 0, a) := by unfold delA; rw [if_neg hnX, if_pos (show noS a (nI k) from Or.inr (by rw [hcl]; exact h0))]
        rw [eo, dz1 rfl] at e
        rw [eo] at S'
        rw [if_neg c3, l0_inr, l0_inl, bd_some, if_pos rfl, l0_inl, bd_some, e, b2_some, if_pos rfl, if_pos rfl, bd_some, if_pos rfl, bd_some, if_pos isB1]
        exact ⟨w', m, a, rfl, S', V, J, hC, n, by omega, hn⟩
theorem l_store1 (H : LR o N (c + 4) (s + 20) w m a) (hl : lenT a ≤ 56) {i k f : Nat} (hi : i ≤ lenT a) (hk : k ≤ 3) (hf : f < 3) : ∃ w' m' a', x_L_isStore o (nI i) (nI k) 1 (nI f) w m = some (1, w', m') ∧ LR o (N + 2) c s w' m' a' := by
  obtain ⟨S, V, J, hC, n, hnN, hn⟩ := H
  obtain ⟨w', e, S'⟩ := d_mkI (c := c + 2) (s := s + 10) S (nI i) (nI k) (nI f)
  have hIV := S.2.1.1
  have h14 : ga m 3 14 = nI (lenT a) := V.2.2.1.1
  have h13 : ga m 3 13 = a.1.2.1 := V.1.2
  have e14 : ¬ (1 : Int32) = 4 := by decide
  obtain ⟨z1, z2⟩ := there_cs (a := a) hi hl hk
  have z3 : (2 : Int32) ≤ nI f ↔ f = 2 := by
    have := kx_ge (n := f) (d := 2) (D := 2) rfl (by omega) (by omega)
    rw [this]; omega
  unfold x_L_isStore
  simp only [if_pos v14, t14c, h14]
  by_cases c1 : i = lenT a
  · have eo : mkIA (nI i) (nI k) (nI f) 0 a = (1, 0, a) := by unfold mkIA; rw [if_pos (show oX a (nI i) by rw [c1]; exact oT_n)]
    rw [eo, dz1 rfl] at e
    rw [eo] at S'
    rw [if_pos (z1.mpr c1), l0_inl, bd_some, if_pos rfl, l0_inl, bd_some, e, b2_some, if_pos rfl, if_pos rfl, bd_some, if_pos rfl, bd_some, if_pos isB1]
    exact ⟨w', m, a, rfl, S'.mono (by omega) (by omega) (by omega), V, J, hC, n, by omega, hn⟩
  · have hi' : i < lenT a := by omega
    have hnX : ¬ oX a (nI i) := oT_no hi' (by omega)
    rw [if_neg (fun q => c1 (z1.mp q))]
    by_cases c2 : k = 3
    · have eo : mkIA (nI i) (nI k) (nI f) 0 a = (1, 0, a) := by unfold mkIA; rw [if_neg hnX, if_pos (show noS a (nI k) by rw [c2]; exact Or.inl oT_n)]
      rw [eo, dz1 rfl] at e
      rw [eo] at S'
      rw [if_pos (z2.mpr c2), l0_inl, bd_some, if_pos rfl, l0_inl, bd_some, e, b2_some, if_pos rfl, if_pos rfl, bd_some, if_pos rfl, bd_some, if_pos isB1]
      exact ⟨w', m, a, rfl, S'.mono (by omega) (by omega) (by omega), V, J, hC, n, by omega, hn⟩
    · have hk' : k < 3 := by omega
      have hnT : ¬ oT (nI k) 3 := oT_no hk' (by omega)
      have hcl : (nI k).toNatClampNeg = k := nI_clamp (by omega)
      have hst : ga m 4 k = (a.2.2.1.2 k).1 := V.2.2.2.1 k hk'
      have hB := (SOK.of hIV hk').1.1
      rw [if_neg (fun q => c2 (z2.mp q)), if_neg e10]
      simp only [if_pos v13, t13c, h13, if_pos (vR6 (show k < 6 by omega)), hcl, hst]
      by_cases c3 : (a.2.2.1.2 k).1 = 1
      · have hnS : ¬ noS a (nI k) := fun q => q.elim hnT (fun z => by rw [hcl, c3] at z; exact e10 z)
        rw [if_pos c3, l0_inl, if_pos trivial]
        by_cases c5 : f = 2
        · have eo : mkIA (nI i) (nI k) (nI f) 0 a = (1, 0, a) := by unfold mkIA; rw [if_neg hnX, if_neg hnS, if_pos (show oT (nI f) 2 by rw [c5]; exact oT_n)]
          rw [eo, dz1 rfl] at e
          rw [eo] at S'
          rw [if_pos (z3.mpr c5), l0_inr, l0_inl, bd_some, if_pos rfl, l0_inl, bd_some, e, b2_some, if_pos rfl, if_pos rfl, bd_some, if_pos rfl, bd_some, if_pos isB1]
          exact ⟨w', m, a, rfl, S'.mono (by omega) (by omega) (by omega), V, J, hC, n, by omega, hn⟩
        · have hnF : ¬ oT (nI f) 2 := oT_no (by omega) (by omega)
          have hfl : (nI f).toNatClampNeg = f := nI_clamp (by omega)
          rw [if_neg (fun q => c5 (z3.mp q)), l0_inl, l0_inr, bd_some, if_neg e10]
          by_cases c4 : nI i = a.1.2.1
          · rw [if_pos c4, if_neg e10, l0_inl, l0_inr, bd_some]
            have hsame : ∀ x y, ga (sa m 4 k (a.2.2.1.2 k).1) x y = ga m x y := fun x y => by
              rw [gsa]
              by_cases q : x = 4 ∧ y = k
              · rw [if_pos q, q.1, q.2, hst]
              · rw [if_neg q]
            by_cases c6 : sIx f (a.2.2.1.2 k) = 0
            · obtain ⟨v, hv⟩ : ∃ v : SA, v = (if nI f = 0 then ((stA a (nI k)).1, (1 : Int32), (stA a (nI k)).2.2) else ((stA a (nI k)).1, (stA a (nI k)).2.1, (1 : Int32), (stA a (nI k)).2.2.2)) := ⟨_, rfl⟩
              have eo : mkIA (nI i) (nI k) (nI f) 0 a = (0, 0, setS a (nI k) v) := by
                unfold mkIA
                rw [if_neg hnX, if_neg hnS, if_neg hnF, if_neg (fun q => q c4), if_neg (fun q => q.elim (fun z => z (by unfold stA; rw [hcl, hfl]; exact c6)) (fun z => z.1 rfl)), hv]
                rfl
              have hv1 : v.1 = (a.2.2.1.2 k).1 ∧ v.2.2.2 = (a.2.2.1.2 k).2.2.2 ∧ sIx f v = 1 := by
                have hf0 : nI f = 0 ↔ f = 0 := kx_eq (d := 0) rfl (by omega) (by omega)
                rw [hv]
                unfold stA
                rw [hcl]
                by_cases q : f = 0
                · rw [if_pos (hf0.mpr q)]
                  exact ⟨rfl, rfl, by unfold sIx; rw [if_pos q]⟩
                · rw [if_neg (fun z => q (hf0.mp z))]
                  exact ⟨rfl, rfl, by unfold sIx; rw [if_neg q]⟩
              rw [eo, dz0 rfl] at e
              rw [eo] at S'
              have L1 : LR o (N + 1) (c + 2) (s + 10) w' (sa m 4 k v.1) (setS a (nI k) v) := lr_setS V J hC hn (by omega) hi' c4.symm hk' (fun r hr => J.1.2.2.2.2.1 k (by omega) r (by rw [hv1.2.1] at hr; exact hr)) S'
              obtain ⟨w2, e2, S2⟩ := d_mkI S' (nI i) (nI k) (nI f)
              have hk2 : stA (setS a (nI k) v) (nI k) = v := by unfold stA setS; rw [hcl]; exact upn_s _ _ _
              have hu2 : (setS a (nI k) v).1.2.1 = a.1.2.1 := rfl
              have eo2 : mkIA (nI i) (nI k) (nI f) 0 (setS a (nI k) v) = (3, 0, setS a (nI k) v) := by
                have x1 : ¬ oX (setS a (nI k) v) (nI i) := hnX
                have x2 : ¬ noS (setS a (nI k) v) (nI k) := fun q => q.elim hnT (fun z => by
                  have z' : (stA (setS a (nI k) v) (nI k)).1 = 0 := z
                  rw [hk2, hv1.1, c3] at z'
                  exact e10 z')
                unfold mkIA
                rw [if_neg x1, if_neg x2, if_neg hnF, if_neg (fun q => q c4), if_pos (Or.inl (by rw [hk2, hfl, hv1.2.2]; exact e10))]
              rw [eo2, dz3 rfl] at e2
              rw [eo2] at S2
              rw [e, b2_some, if_neg e10, if_neg e10, if_neg e14, bd_some, bs_eq, if_neg e14, if_neg e10, if_pos rfl, e2, b2_some, if_pos rfl, l1_inr, l1_inl, b2_some, if_pos isB1]
              rw [← hv1.1]
              exact ⟨w2, _, setS a (nI k) v, rfl, S2, L1.2.1, L1.2.2.1, L1.2.2.2.1, by obtain ⟨n', q1, q2⟩ := L1.2.2.2.2; exact ⟨n', by omega, q2⟩⟩
            · have eo : mkIA (nI i) (nI k) (nI f) 0 a = (3, 0, a) := by
                unfold mkIA
                rw [if_neg hnX, if_neg hnS, if_neg hnF, if_neg (fun q => q c4), if_pos (Or.inl (fun q => c6 (by unfold stA at q; rw [hcl, hfl] at q; exact q)))]
              rw [eo, dz3 rfl] at e
              rw [eo] at S'
              rw [e, b2_some, if_neg e10, if_neg e10, if_neg e14, bd_some, bs_eq, if_neg e14, if_neg e10, if_neg (show ¬ (-10 : Int32) = 0 by decide), l1_inl, if_pos rfl, l1_inl, b2_some, if_pos isB1]
              refine ⟨w', _, a, rfl, S'.mono (by omega) (by omega) (by omega), ⟨V.1.eq (fun x _ _ => hsame 3 x), V.2.1.eq (fun x _ => hsame 3 x), V.2.2.1.eq (fun x => ⟨hsame 1 x, hsame 2 x⟩) (hsame 3 14), V.2.2.2.eq (fun x => hsame 4 x)⟩, J, hC, n, by omega, (hsame 3 15).trans hn⟩
          · have eo : mkIA (nI i) (nI k) (nI f) 0 a = (3, 0, a) := by
              unfold mkIA
              rw [if_neg hnX, if_neg hnS, if_neg hnF, if_pos c4]
            rw [eo, dz3 rfl] at e
            rw [eo] at S'
            rw [if_neg c4, l0_inl, bd_some, e, b2_some, if_pos rfl, if_neg e10, bd_some, if_pos rfl, bd_some, if_pos isB1]
            exact ⟨w', m, a, rfl, S'.mono (by omega) (by omega) (by omega), V, J, hC, n, by omega, hn⟩
      · have h0 : (a.2.2.1.2 k).1 = 0 := hB.elim id (fun q => absurd q c3)
        have eo : mkIA (nI i) (nI k) (nI f) 0 a = (1, 0, a) := by unfold mkIA; rw [if_neg hnX, if_pos (show noS a (nI k) from Or.inr (by rw [hcl]; exact h0))]
        rw [eo, dz1 rfl] at e
        rw [eo] at S'
        rw [if_neg c3, l0_inr, l0_inl, bd_some, if_pos rfl, l0_inl, bd_some, e, b2_some, if_pos rfl, if_pos rfl, bd_some, if_pos rfl, bd_some, if_pos isB1]
        exact ⟨w', m, a, rfl, S'.mono (by omega) (by omega) (by omega), V, J, hC, n, by omega, hn⟩
end STORES
