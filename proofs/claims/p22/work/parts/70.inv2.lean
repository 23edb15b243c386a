/-! ===== PURE: the invariant under the rows' and the cursors' calls ===== -/
theorem putR_len : ∀ (xs : List RW) (r : RW), (putR xs r).length ≤ xs.length + 1 ∧ (findR xs r.1 ≠ none → (putR xs r).length = xs.length) := by
  intro xs r
  induction xs with
  | nil => exact ⟨Nat.le_refl _, fun h => absurd rfl h⟩
  | cons x xs ih =>
    rw [putR]
    by_cases h : x.1 = r.1
    · rw [if_pos h]
      exact ⟨Nat.le_succ _, fun _ => rfl⟩
    · rw [if_neg h]
      refine ⟨Nat.succ_le_succ ih.1, fun hf => congrArg Nat.succ (ih.2 ?_)⟩
      unfold findR at hf ⊢
      rw [List.find?_cons, show decide (x.1 = r.1) = false from decide_eq_false h] at hf
      exact hf
theorem putR_mem : ∀ (xs : List RW) (r y : RW), y ∈ putR xs r → y = r ∨ y ∈ xs := by
  intro xs r
  induction xs with
  | nil => intro y hy; exact Or.inl (List.mem_singleton.mp hy)
  | cons x xs ih =>
    intro y hy
    rw [putR] at hy
    by_cases h : x.1 = r.1
    · rw [if_pos h] at hy
      rcases List.mem_cons.mp hy with z | z
      · exact Or.inl z
      · exact Or.inr (List.mem_cons_of_mem _ z)
    · rw [if_neg h] at hy
      rcases List.mem_cons.mp hy with z | z
      · exact Or.inr (z ▸ List.mem_cons_self)
      · rcases ih y z with u | u
        · exact Or.inl u
        · exact Or.inr (List.mem_cons_of_mem _ u)
theorem putR_nd : ∀ (xs : List RW) (r : RW), (xs.map (fun x => x.1)).Nodup → ((putR xs r).map (fun x => x.1)).Nodup := by
  intro xs r
  induction xs with
  | nil => intro _; exact List.nodup_cons.mpr ⟨List.not_mem_nil, List.nodup_nil⟩
  | cons x xs ih =>
    intro h
    rw [List.map_cons, List.nodup_cons] at h
    rw [putR]
    by_cases e : x.1 = r.1
    · rw [if_pos e, List.map_cons, List.nodup_cons]
      exact ⟨by rw [← e]; exact h.1, h.2⟩
    · rw [if_neg e, List.map_cons, List.nodup_cons]
      refine ⟨fun hm => ?_, ih h.2⟩
      obtain ⟨y, hy, ey⟩ := List.mem_map.mp hm
      rcases putR_mem xs r y hy with z | z
      · exact e (by rw [← ey, z])
      · exact h.1 (List.mem_map.mpr ⟨y, z, ey⟩)
theorem SOK.put {s : SA} (h : SOK s) (h0 : ¬ s.1 = 0) {r : RW} (hk : kP r.1) (h1 : ¬ rng r.2.2.1 (-1) 999) (h2 : ¬ rng r.2.2.2 (-1) 999) (hl : findR s.2.2.2 r.1 = none → s.2.2.2.length < 40) : SOK (s.1, s.2.1, s.2.2.1, putR s.2.2.2 r) := by
  obtain ⟨a1, a2, a3, a4, a5⟩ := h
  refine ⟨a1, fun z => absurd z h0, ?_, putR_nd _ _ a4, fun y hy => ?_⟩
  · show (putR s.2.2.2 r).length ≤ 40
    by_cases z : findR s.2.2.2 r.1 = none
    · have := (putR_len s.2.2.2 r).1
      have := hl z
      omega
    · rw [(putR_len s.2.2.2 r).2 z]; exact a3
  · rcases putR_mem _ _ _ hy with z | z
    · rw [z]; exact ⟨hk, h1, h2⟩
    · exact a5 y z
theorem SOK.rem {s : SA} (h : SOK s) (h0 : ¬ s.1 = 0) (x y : Int32) : SOK (s.1, s.2.1, s.2.2.1, remR s.2.2.2 x y) := by
  obtain ⟨a1, a2, a3, a4, a5⟩ := h
  refine ⟨a1, fun z => absurd z h0, Nat.le_trans (List.length_filter_le _ _) a3, ?_, fun z hz => a5 z (List.mem_filter.mp hz).1⟩
  exact List.Nodup.sublist (List.Sublist.map _ List.filter_sublist) a4
theorem IV.st {a : AS} (I : IV a) {k : Nat} {v : SA} (hv : SOK v) : IV (a.1, a.2.1, (a.2.2.1.1, upn a.2.2.1.2 k v), a.2.2.2) := by
  refine ⟨I.1, I.2.1, ⟨I.2.2.1.1, fun j hj => ?_⟩, I.2.2.2⟩
  show SOK (upn a.2.2.1.2 k v j)
  by_cases e : j = k
  · rw [e, upn_s]; exact hv
  · rw [upn_n _ _ e]; exact I.2.2.1.2 j hj
theorem IW.st {N : Nat} {a : AS} (H : IW N a) {k : Nat} {v : SA} (hv : SOK v) : IW (N + 1) (a.1, a.2.1, (a.2.2.1.1, upn a.2.2.1.2 k v), a.2.2.2) := ⟨H.1.st hv, H.up.2⟩
theorem sok0 : SOK (0, 0, 0, []) := ⟨⟨isB0, Or.inl rfl, Or.inl rfl⟩, fun _ => rfl, Nat.zero_le _, List.nodup_nil, fun r hr => absurd hr List.not_mem_nil⟩
theorem i_makeStore {N : Nat} {a : AS} (H : IW N a) (t s : Int32) : IW (N + 1) (mkSA t s a).2.2 := by
  unfold mkSA
  split
  · exact H.up
  · split
    · exact H.up
    · next h2 =>
      obtain ⟨j, hj, rfl, ej⟩ := oT_at h2 (by omega)
      split
      · exact H.up
      · split
        · exact H.up
        · next h4 =>
          have hz : (stA a (nI j)).1 = 0 := Decidable.byContradiction h4
          have es : stA a (nI j) = a.2.2.1.2 j := by unfold stA; rw [ej]
          rw [es] at hz
          have e0 := (SOK.of H.1 hj).2.1 hz
          show IW (N + 1) (setS a (nI j) (1, (stA a (nI j)).2))
          unfold setS
          rw [es, e0]
          exact H.st ⟨⟨isB1, Or.inl rfl, Or.inl rfl⟩, fun z => absurd z q10, Nat.zero_le _, List.nodup_nil, fun r hr => absurd hr List.not_mem_nil⟩
theorem i_deleteStore {N : Nat} {a : AS} (H : IW N a) (t s : Int32) : IW (N + 1) (delA t s a).2.2 := by
  unfold delA
  split
  · exact H.up
  · split
    · exact H.up
    · split
      · exact H.up
      · exact H.st sok0
theorem i_makeIndex {N : Nat} {a : AS} (H : IW N a) (t s f u : Int32) : IW (N + 1) (mkIA t s f u a).2.2 := by
  unfold mkIA
  split
  · exact H.up
  · split
    · exact H.up
    · next h2 =>
      split
      · exact H.up
      · split
        · exact H.up
        · split
          · exact H.up
          · obtain ⟨j, hj, rfl, ej⟩ := oT_at (fun q => h2 (Or.inl q)) (by omega)
            have hz : ¬ (a.2.2.1.2 j).1 = 0 := fun q => h2 (Or.inr (by rw [ej]; exact q))
            have es : stA a (nI j) = a.2.2.1.2 j := by unfold stA; rw [ej]
            have hS := SOK.of H.1 hj
            have hix : ixB (if u = 0 then (1 : Int32) else 2) := by
              by_cases z : u = 0
              · rw [if_pos z]; exact Or.inr (Or.inl rfl)
              · rw [if_neg z]; exact Or.inr (Or.inr rfl)
            refine H.st ?_
            rw [es]
            obtain ⟨⟨a1, a1', a1''⟩, a2, a3, a4, a5⟩ := hS
            by_cases hf : f = 0
            · rw [if_pos hf]; exact ⟨⟨a1, hix, a1''⟩, fun z => absurd z hz, a3, a4, a5⟩
            · rw [if_neg hf]; exact ⟨⟨a1, a1', hix⟩, fun z => absurd z hz, a3, a4, a5⟩
theorem i_put {N : Nat} {a : AS} (H : IW N a) (t s k c f g : Int32) : IW (N + 1) (putA t s k c f g a).2.2 := by
  unfold putA
  split
  · exact H.up
  · split
    · exact H.up
    · next h2 =>
      split
      · exact H.up
      · next h3 =>
        split
        · exact H.up
        · split
          · exact H.up
          · next h5 =>
            split
            · exact H.up
            · next h6 =>
              split
              · exact H.up
              · split
                · exact H.up
                · next h8 =>
                  obtain ⟨j, hj, rfl, ej⟩ := oT_at (fun q => h2 (Or.inl q)) (by omega)
                  have hz : ¬ (a.2.2.1.2 j).1 = 0 := fun q => h2 (Or.inr (by rw [ej]; exact q))
                  have es : stA a (nI j) = a.2.2.1.2 j := by unfold stA; rw [ej]
                  rw [es] at h8 ⊢
                  refine H.st (SOK.put (SOK.of H.1 hj) hz (Decidable.byContradiction h3) h5 h6 (fun z => ?_))
                  have hlt : allR a < 40 := Decidable.byContradiction fun y => h8 (Or.inr ⟨z, y⟩)
                  unfold allR at hlt
                  rcases (show j = 0 ∨ j = 1 ∨ j = 2 by omega) with q | q | q <;> subst q <;> omega
theorem i_remove {N : Nat} {a : AS} (H : IW N a) (t s x y : Int32) : IW (N + 1) (rmvA t s x y a).2.2 := by
  unfold rmvA
  split
  · exact H.up
  · split
    · exact H.up
    · next h2 =>
      split
      · exact H.up
      · split
        · exact H.up
        · split
          · exact H.up
          · obtain ⟨j, hj, rfl, ej⟩ := oT_at (fun q => h2 (Or.inl q)) (by omega)
            have hz : ¬ (a.2.2.1.2 j).1 = 0 := fun q => h2 (Or.inr (by rw [ej]; exact q))
            have es : stA a (nI j) = a.2.2.1.2 j := by unfold stA; rw [ej]
            rw [es]
            exact H.st (SOK.rem (SOK.of H.1 hj) hz x y)
theorem IW.rd {N : Nat} {a b : AS} (H : IW N a) (e : b = a) : IW (N + 1) b := e ▸ H.up
theorem IW.cs {N : Nat} {a : AS} {cs : List CU} (H : IW N a) (hl : cs.length ≤ 40) (hc : ∀ c ∈ cs, COK a.2.2.1.1 c) : IW (N + 1) (a.1, a.2.1, a.2.2.1, cs) := ⟨⟨H.1.1, H.1.2.1, H.1.2.2.1, hl, hc⟩, H.up.2⟩
theorem kP0 : kP 0 := by decide +kernel
theorem i_cursor {N : Nat} {a : AS} (H : IW N a) (t s f d : Int32) : IW (N + 1) (curA t s f d a).2.2 := by
  unfold curA
  split
  · exact H.up
  · next h1 =>
    split
    · exact H.up
    · next h2 =>
      split
      · exact H.up
      · next h3 =>
        split
        · exact H.up
        · next h4 =>
          split
          · exact H.up
          · next h5 =>
            split
            · exact H.up
            · next h6 =>
              have hn : lenT a ≤ 60 := H.1.2.2.1.1.1
              obtain ⟨i, hi, rfl, ei⟩ := oT_at h1 (show lenT a < 2 ^ 31 by omega)
              obtain ⟨j, hj, rfl, ej⟩ := oT_at (fun q => h2 (Or.inl q)) (by omega)
              have hre : reA a (nI i) (nI j) := Decidable.byContradiction h5
              have hlt : a.2.2.2.length < 40 := Decidable.byContradiction fun z => h6 (Or.inr z)
              refine H.cs (by rw [List.length_append]; exact hlt) (fun c hc => ?_)
              rcases List.mem_append.mp hc with z | z
              · exact H.1.2.2.2.2 c z
              · rw [List.mem_singleton.mp z, ei, ej]
                refine ⟨hi, hj, ?_, ?_, rng03 h4, Or.inl rfl, by show ¬ rng 0 0 999; decide, kP0⟩
                · have := hre.2
                  unfold txA at this
                  rw [ei] at this
                  exact this
                · by_cases z : f = -1
                  · exact Or.inl z
                  · obtain ⟨x, hx, e, -⟩ := oT_at (fun y => h3 ⟨z, y⟩) (by omega)
                    rcases (show x = 0 ∨ x = 1 by omega) with y | y <;> subst y
                    · exact Or.inr (Or.inl e)
                    · exact Or.inr (Or.inr e)
theorem cs_set {cs : List CU} {ts : List TX} (h : ∀ c ∈ cs, COK ts c) {i : Nat} {c : CU} (hc : COK ts c) : ∀ x ∈ cs.set i c, COK ts x := fun x hx => (List.mem_or_eq_of_mem_set hx).elim (h x) (fun z => z ▸ hc)
theorem i_step {N : Nat} {a : AS} (H : IW N a) (ci : Int32) : IW (N + 1) (steA ci a).2.2 := by
  unfold steA
  split
  · exact H.up
  · next h1 =>
    obtain ⟨i, hi, rfl, ei⟩ := oT_at h1 (by have := H.1.2.2.2.1; omega)
    rw [ei]
    show IW (N + 1) (if ¬ (txAt a.2.2.1.1 (cuAt a.2.2.2 i).1).2.2.2 = 1 ∨ (a.2.2.1.2 (cuAt a.2.2.2 i).2.1).1 = 0 ∨ (cuAt a.2.2.2 i).2.2.2.2.1 = 2 then (3, 0, a) else (match nextR (cuAt a.2.2.2 i) (a.2.2.1.2 (cuAt a.2.2.2 i).2.1).2.2.2 with
      | none => (0, -1, setC a i ((cuAt a.2.2.2 i).1, (cuAt a.2.2.2 i).2.1, (cuAt a.2.2.2 i).2.2.1, (cuAt a.2.2.2 i).2.2.2.1, 2, (cuAt a.2.2.2 i).2.2.2.2.2))
      | some r => (0, r.1, setC a i ((cuAt a.2.2.2 i).1, (cuAt a.2.2.2 i).2.1, (cuAt a.2.2.2 i).2.2.1, (cuAt a.2.2.2 i).2.2.2.1, 1, entR (cuAt a.2.2.2 i).2.2.1 r, r.1))) : OUT).2.2
    have hck := H.1.2.2.2.2 _ (cuAt_mem hi)
    generalize cuAt a.2.2.2 i = cu at *
    obtain ⟨k1, k2, k3, k4, k5, k6, k7, k8⟩ := hck
    split
    · exact H.up
    · cases e : nextR cu (a.2.2.1.2 cu.2.1).2.2.2 with
      | none => exact H.cs (by rw [List.length_set]; exact H.1.2.2.2.1) (cs_set H.1.2.2.2.2 ⟨k1, k2, k3, k4, k5, Or.inr (Or.inr rfl), k7, k8⟩)
      | some r =>
        obtain ⟨hm, hb⟩ := nextR_mem e
        have hS := SOK.of H.1 k2
        have hE := EN.of hS k4 r hm
        have hent := beh_ent hb
        obtain ⟨-, -, x3, x4 | ⟨x4, x5, x6, -⟩⟩ := hE
        · exact absurd x4.1 hent
        refine H.cs (by rw [List.length_set]; exact H.1.2.2.2.1) (cs_set H.1.2.2.2.2 ⟨k1, k2, k3, k4, k5, Or.inr (Or.inl rfl), ?_, (hS.2.2.2.2 r hm).1⟩)
        show ¬ rng (entR cu.2.2.1 r) 0 999
        rw [x5]
        intro z
        exact ((rng_oT (n := 1000) _ (by omega)).mp z).elim (nI_pos (by omega)) (nI_ge (by omega) (by omega))
theorem i_update {N : Nat} {a : AS} (H : IW N a) (ci v : Int32) : IW (N + 1) (updA ci v a).2.2 := by
  unfold updA
  split
  · exact H.up
  · next h1 =>
    split
    · exact H.up
    · obtain ⟨i, hi, rfl, ei⟩ := oT_at h1 (by have := H.1.2.2.2.1; omega)
      rw [ei]
      show IW (N + 1) (if ¬ (txAt a.2.2.1.1 (cuAt a.2.2.2 i).1).2.2.2 = 1 ∨ (txAt a.2.2.1.1 (cuAt a.2.2.2 i).1).2.2.1 = 0 ∨ ¬ (cuAt a.2.2.2 i).2.2.2.2.1 = 1 then (3, 0, a) else (match findR (a.2.2.1.2 (cuAt a.2.2.2 i).2.1).2.2.2 (cuAt a.2.2.2 i).2.2.2.2.2.2 with
        | none => (3, 0, a)
        | some r => (0, r.2.1, (a.1, a.2.1, (a.2.2.1.1, upn a.2.2.1.2 (cuAt a.2.2.2 i).2.1 ((a.2.2.1.2 (cuAt a.2.2.2 i).2.1).1, (a.2.2.1.2 (cuAt a.2.2.2 i).2.1).2.1, (a.2.2.1.2 (cuAt a.2.2.2 i).2.1).2.2.1, putR (a.2.2.1.2 (cuAt a.2.2.2 i).2.1).2.2.2 (r.1, v, r.2.2))), a.2.2.2))) : OUT).2.2
      have hck := H.1.2.2.2.2 _ (cuAt_mem hi)
      generalize cuAt a.2.2.2 i = cu at *
      obtain ⟨k1, k2, k3, k4, k5, k6, k7, k8⟩ := hck
      split
      · exact H.up
      · cases e : findR (a.2.2.1.2 cu.2.1).2.2.2 cu.2.2.2.2.2.2 with
        | none => exact H.up
        | some r =>
          have hm : r ∈ (a.2.2.1.2 cu.2.1).2.2.2 := List.mem_of_find?_eq_some e
          have e' : List.find? (fun x : RW => decide (x.1 = cu.2.2.2.2.2.2)) (a.2.2.1.2 cu.2.1).2.2.2 = some r := e
          have hkey : r.1 = cu.2.2.2.2.2.2 := by
            have h9 := List.find?_some e'
            exact of_decide_eq_true h9
          have hS := SOK.of H.1 k2
          have hr := hS.2.2.2.2 r hm
          refine H.st (SOK.put hS (fun z => ?_) hr.1 hr.2.1 hr.2.2 (fun z => ?_))
          · have := hS.2.1 z
            rw [this] at hm
            exact absurd hm List.not_mem_nil
          · have z' : findR (a.2.2.1.2 cu.2.1).2.2.2 r.1 = none := z
            rw [hkey, e] at z'; cases z'
