/-! ===== PURE: the tabs together ===== -/
theorem s_hasRoom {o : Nat} {w : CS} {R : Nat → List Nat} (S : SV o w R) : x_X6_hasRoom o w = some (if (R 6).length < 60 then 1 else 0) := by
  have hL := S.ls 6 (by omega)
  rw [LL6] at hL
  have hk : wJ w 0 (o + 4) = 7 := hL.1
  have hn := S.tn.2
  unfold x_X6_hasRoom
  rw [if_pos S.ko, S.fo.2.2.2.1, if_pos hk, p_size hL, bd_some]
  by_cases h : (R 6).length < 60
  · rw [if_neg (show ¬ (60 : Int32) ≤ nI (R 6).length from nI_ge (b := 60) h (by omega)), bd_some, if_pos (by decide), if_pos h]
  · rw [if_pos (show (60 : Int32) ≤ nI (R 6).length from nI_le (a := 60) (by omega) (by omega)), bd_some, if_pos (by decide), if_neg h]
theorem s_umwL {o : Nat} {w : CS} {R : Nat → List Nat} (S : SV o w R) : ∀ (n i : Nat), 4 < n + i → i ≤ 4 → x_X6_upgradesMustWait_L1 o w n (nI i) = some (if ∃ j ∈ (List.range 4).drop i, insd w (o + 6 + j) then .inr 1 else .inl ()) := by
  intro n
  induction n with
  | zero => intro i a b; omega
  | succ n ih =>
    intro i a b
    rw [x_X6_upgradesMustWait_L1, if_pos S.ko, S.fo.1, if_pos S.ta.1, S.ta.2.1]
    by_cases hi : i < 4
    · have hB : wB w (o + 1) (nI i).toNatClampNeg = o + 6 + i := by rw [nI_clamp (by omega)]; exact S.ta.2.2 i hi
      rw [if_neg (nI_ge hi (by omega)), if_pos (show vR (nI i) 4 from nI_in hi (by omega)), hB, if_pos (S.tb i hi), s_isInside (S.tb i hi), bd_some]
      have hd : (List.range 4).drop i = i :: (List.range 4).drop (i + 1) := by
        rw [List.drop_eq_getElem_cons (by rw [List.length_range]; exact hi), List.getElem_range]
      rw [hd]
      by_cases hT : insd w (o + 6 + i)
      · rw [if_pos hT, if_neg (by decide), if_pos (by decide), if_pos ⟨i, List.mem_cons_self, hT⟩]
      · rw [if_neg hT, if_pos rfl, nI_1, ih (i + 1) (by omega) (by omega)]
        exact congrArg some (ite_congr (propext (ex_cons (P := fun j => insd w (o + 6 + j)) hT).symm) (fun _ => rfl) (fun _ => rfl))
    · rw [if_pos (nI_le (by omega) (by omega)), List.drop_eq_nil_of_le (by rw [List.length_range]; omega)]
      simp
theorem s_upgradesMustWait {o : Nat} {w : CS} {R : Nat → List Nat} (S : SV o w R) : x_X6_upgradesMustWait o w = some (if ∃ j ∈ List.range 4, insd w (o + 6 + j) then 1 else 0) := by
  unfold x_X6_upgradesMustWait
  have h := s_umwL S FU 0 (by show 4 < 1000 + 0; omega) (by omega)
  rw [show nI 0 = 0 from nI_0, List.drop_zero] at h
  rw [h]
  by_cases hE : ∃ j ∈ List.range 4, insd w (o + 6 + j)
  · rw [if_pos hE, l0_inr, if_pos hE]
  · rw [if_neg hE, l0_inl, if_pos (by decide), if_neg hE]
