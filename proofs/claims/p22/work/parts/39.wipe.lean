/-! ===== PURE: an index is added, a store is wiped ===== -/
theorem s_addIndex {o : Nat} {w : CS} {R : Nat → List Nat} (S : SV o w R) {k f : Nat} (hk : k < 6) (hf : f < 2) (u : Int32) : x_X3_addIndex (o + 10 + 3 * k) (nI f) u w = some (sA w (o + 11 + 3 * k) f (if u = 0 then 1 else 2)) := by
  obtain ⟨a1, a2, a3, a4, a5⟩ := S.st k hk
  unfold x_X3_addIndex
  have e : (if u = 0 then some (1 : Int32) else some (2 : Int32)) = some (if u = 0 then 1 else 2) := by split <;> rfl
  rw [if_neg (nI_pos (by omega)), if_pos a1, a2, if_pos a4, a5, if_neg (nI_ge hf (by omega)), e, bd_some, if_pos (show vR (nI f) 2 from nI_in hf (by omega)), nI_clamp (by omega), bs_eq, bd_some]
theorem s_wipeA {o : Nat} {w : CS} {R : Nat → List Nat} (S : SV o w R) {k : Nat} (hk : k < 6) (n i : Nat) (hi : i < 2) : x_X3_wipe_L1 (o + 10 + 3 * k) (n + 1) (nI i) w = x_X3_wipe_L1 (o + 10 + 3 * k) n (nI (i + 1)) (sA w (o + 11 + 3 * k) i 0) := by
  obtain ⟨a1, a2, a3, a4, a5⟩ := S.st k hk
  rw [x_X3_wipe_L1, if_pos a1, a2, if_pos a4, a5, if_neg (nI_ge hi (by omega)), if_pos (show vR (nI i) 2 from nI_in hi (by omega)), nI_clamp (by omega), bs_eq, nI_1]
theorem s_wipeE {o : Nat} {w : CS} {R : Nat → List Nat} (S : SV o w R) {k : Nat} (hk : k < 6) (n : Nat) : x_X3_wipe_L1 (o + 10 + 3 * k) (n + 1) (nI 2) w = some w := by
  obtain ⟨a1, a2, a3, a4, a5⟩ := S.st k hk
  rw [x_X3_wipe_L1, if_pos a1, a2, if_pos a4, a5, if_pos (nI_le (Nat.le_refl _) (by omega))]
theorem s_wipeL {o : Nat} {w : CS} {R : Nat → List Nat} (S : SV o w R) {k : Nat} (hk : k < 6) (n : Nat) : x_X3_wipe_L1 (o + 10 + 3 * k) (n + 3) 0 w = some (sA (sA w (o + 11 + 3 * k) 0 0) (o + 11 + 3 * k) 1 0) := by
  rw [show (0 : Int32) = nI 0 from nI_0.symm]
  exact ((s_wipeA S hk (n + 2) 0 (by omega)).trans (s_wipeA S.sA hk (n + 1) 1 (by omega))).trans (s_wipeE S.sA.sA hk n)
/-- a store is wiped: not there, no rows, no index -/
theorem s_wipe {o : Nat} {w : CS} {R : Nat → List Nat} (S : SV o w R) {k : Nat} (hk : k < 6) : ∃ w1, x_X3_wipe (o + 10 + 3 * k) w = some (sA (sA w1 (o + 11 + 3 * k) 0 0) (o + 11 + 3 * k) 1 0) ∧ SV o (sA (sA w1 (o + 11 + 3 * k) 0 0) (o + 11 + 3 * k) 1 0) (fun i => if i = k then [] else R i) ∧ LCS (sI w 200 (o + 10 + 3 * k) 0) w1 (LL o k) := by
  have S1 : SV o (sI w 200 (o + 10 + 3 * k) 0) R := S.sI (by omega)
  obtain ⟨h1, h2, h3, h4⟩ := s_rows S1 hk
  have e202 : wJ (sI w 200 (o + 10 + 3 * k) 0) 202 (o + 10 + 3 * k) = LL o k := by rw [(S1.st k hk).2.2.1, LLr hk]
  rw [e202] at h3
  obtain ⟨w1, e1, l1, l2⟩ := p_clear S1.wf h3
  have S2 := S1.list (xs := []) (by omega) l2.1 l1 (fun _ => ⟨Nat.zero_le _, fun x hx => absurd hx List.not_mem_nil⟩) (fun q => by omega) (fun q => by omega)
  have e2 := s_wipeL S2 hk 997
  refine ⟨w1, ?_, S2.sA.sA, l2.s⟩
  unfold x_X3_wipe
  rw [if_pos (show wJ w 0 (o + 10 + 3 * k) = 5 from h1), if_pos (by decide), bs_eq, if_pos h1, if_pos h2, e202, e1, bd_some, show FU = 997 + 3 from rfl, e2, bd_some]
