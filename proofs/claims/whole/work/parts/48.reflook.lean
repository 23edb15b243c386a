/-! ===== PURE: the reference looks for a blocked tab whose upgrade can begin ===== -/
def MVP (m : MS) (D : Nat) (a : PA) : Prop := MVg m a.1 ∧ MVt m D a.2.1 ∧ MVT m a.2.2
def nbA (B : TQ) : Nat := (if (B 0).1 = 3 then 1 else 0) + (if (B 1).1 = 3 then 1 else 0) + (if (B 2).1 = 3 then 1 else 0) + (if (B 3).1 = 3 then 1 else 0)
theorem nbA_le (B : TQ) : nbA B ≤ 4 := by unfold nbA; split <;> split <;> split <;> split <;> omega
theorem nbA_upn {B : TQ} {j : Nat} (hj : j < 4) (h : (B j).1 = 3) {v : Int32 × Int32 × Int32} (hv : ¬ v.1 = 3) : nbA (upn B j v) < nbA B := by
  unfold nbA upn
  rcases (show j = 0 ∨ j = 1 ∨ j = 2 ∨ j = 3 by omega) with q | q | q | q <;> subst q <;> simp [h, hv] <;> omega
theorem nbA_0 {B : TQ} (h : nbA B = 0) : ∀ j, j < 4 → ¬ (B j).1 = 3 := by
  unfold nbA at h
  intro j hj q
  rcases (show j = 0 ∨ j = 1 ∨ j = 2 ∨ j = 3 by omega) with z | z | z | z <;> subst z <;> simp [q] at h
theorem fbA_none {B : TQ} (h : ∀ j, j < 4 → ¬ (B j).1 = 3) : fbA B 4 0 none = none := by
  cases e : fbA B 4 0 none with
  | none => rfl
  | some q =>
    have := fbA_lt B 4 0 none (by omega) (fun q hq => by cases hq) q e
    exact absurd this.2 (h q this.1)
theorem MVt.cond {m : MS} {D : Nat} {B : TQ} {j : Nat} {v : Int32} (V : MVt m D B) (hj : j < 4) (hv : ¬ v = 3) (h2 : v = 2 → ga m 2 j = (B j).2.1) : MVt (sa m 1 j v) D (upn B j (v, (B j).2)) := by
  refine ⟨V.1, fun i hi => ?_⟩
  simp only [ga_sa2]
  by_cases hij : i = j
  · subst hij
    rw [upn_s]
    exact ⟨by simp, fun q => by rw [if_neg (by omega)]; exact q.elim h2 (fun q => absurd q hv), fun q => absurd q hv⟩
  · rw [upn_n _ _ hij, if_neg (fun q => hij q.2), if_neg (by omega), if_neg (by omega)]
    obtain ⟨a1, a2, a3⟩ := V.2 i hi
    refine ⟨a1, a2, fun q => ⟨(a3 q).1, fun k hk qk => ?_⟩⟩
    by_cases hkj : k = j
    · subst hkj; rw [upn_s] at qk; exact absurd qk hv
    · rw [upn_n _ _ hkj] at qk ⊢
      rw [if_neg (by omega)]
      exact (a3 q).2 k hk qk
theorem MVg.ga {m m' : MS} {g : Int32 × Int32 × Int32} (V : MVg m g) (h : ∀ j, gs m' j = gs m j) : MVg m' g := ⟨(h 0).trans V.1, (h 5).trans V.2⟩
theorem MVT.off {m m' : MS} {T : TS} (V : MVT m T) (h18 : gs m' 18 = gs m 18) (h : ∀ j x, 6 ≤ j → j < 23 → ga m' j x = ga m j x) : MVT m' T := ⟨V.1.eqs h18 (fun j x h1 h2 => h j x (by omega) h2), fun k hk => (V.2.1 k hk).eqs (fun j x h1 h2 => h j x h1 (by omega)), fun k hk => (V.2.2 k hk).eqs (fun j x h1 h2 => h j x (by omega) (by omega))⟩
theorem MVt.off {m m' : MS} {D : Nat} {B : TQ} (V : MVt m D B) (h4 : gs m' 4 = gs m 4) (h : ∀ j x, j < 4 → ga m' j x = ga m j x) : MVt m' D B := by
  refine ⟨h4.trans V.1, fun i hi => ?_⟩
  obtain ⟨a1, a2, a3⟩ := V.2 i hi
  rw [h 1 i (by omega), h 2 i (by omega), h 3 i (by omega)]
  exact ⟨a1, a2, fun q => ⟨(a3 q).1, fun k hk qk => by rw [h 3 k (by omega)]; exact (a3 q).2 k hk qk⟩⟩
theorem looks_busy {a : PA} (h : busyA a.2.1) : ∀ n, looksA n a = a := by
  intro n
  cases n with
  | zero => rfl
  | succ n => rw [looksA, if_pos h]
theorem looks_none {a : PA} (h : fbA a.2.1 4 0 none = none) : ∀ n, looksA n a = a := by
  intro n
  cases n with
  | zero => rfl
  | succ n =>
    rw [looksA]
    split
    · rfl
    · rw [h]
/-- what the look for a tab leaves alone -/
def FL (m m' : MS) : Prop := (∀ j, j ≠ 18 → j ≠ 5 → gs m' j = gs m j) ∧ ∀ j x, j = 2 ∨ j = 3 ∨ 23 ≤ j → ga m' j x = ga m j x
theorem FL.rf {m : MS} : FL m m := ⟨fun _ _ _ => rfl, fun _ _ _ => rfl⟩
theorem FL.tr {m m1 m2 : MS} (h : FL m m1) (h2 : FL m1 m2) : FL m m2 := ⟨fun j hj hj5 => (h2.1 j hj hj5).trans (h.1 j hj hj5), fun j x hj => (h2.2 j x hj).trans (h.2 j x hj)⟩
theorem FM.fl {m m' : MS} (h : FM m m') : FL m m' := ⟨fun j h1 _ => h.1 j h1, fun j x hj => h.2 j x (by omega)⟩
theorem MVc.fl {m m' : MS} {cs : List CU} (V : MVc m cs) (F : FL m m') : MVc m' cs := by
  refine ⟨(F.1 23 (by omega) (by omega)).trans V.1, fun i hi => ?_, fun i hi => ?_⟩
  · rw [F.2 24 i (by omega), F.2 25 i (by omega), F.2 26 i (by omega), F.2 27 i (by omega), F.2 28 i (by omega), F.2 29 i (by omega), F.2 30 i (by omega)]
    exact V.2.1 i hi
  · rw [F.2 29 i (by omega), F.2 30 i (by omega)]
    exact V.2.2 i hi
abbrev roomA (a : PA) : Prop := ¬ busyA a.2.1 → (∃ j, j < 4 ∧ (a.2.1 j).1 = 3 ∧ a.1.1 < (a.2.1 j).2.1) → a.2.2.1.length < 60
theorem busy_upn0 {B : TQ} {j : Nat} {w : Int32 × Int32} (h : busyA (upn B j (0, w))) : busyA B := by
  obtain ⟨i, hi, q⟩ := h
  refine ⟨i, hi, ?_⟩
  by_cases hij : i = j
  · subst hij
    unfold insA at q
    rw [upn_s] at q
    rcases q with q | q
    · exact absurd q (show ¬ (0 : Int32) = 1 by decide)
    · exact absurd q (show ¬ (0 : Int32) = 2 by decide)
  · unfold insA at q ⊢; rw [upn_n _ _ hij] at q; exact q
theorem TSK.add {T : TS} (h : TSK T) (hn : T.1.length < 60) {t : TX} (ht : t.1 < 4 ∧ isB t.2.2.1) : TSK (T.1 ++ [t], T.2) := by
  refine ⟨⟨by rw [List.length_append]; exact hn, fun x hx => ?_⟩, h.2⟩
  rcases List.mem_append.mp hx with q | q
  · exact h.1.2 x q
  · rw [List.mem_singleton.mp q]; exact ht
theorem m_looksL : ∀ (f n : Nat) (a : PA) (m : MS) (D : Nat), n < f → nbA a.2.1 ≤ n → roomA a → TSK a.2.2 → MVP m D a → ∃ m', x_X7_looks_L1 f (fbI (fbA a.2.1 4 0 none)) m = some m' ∧ MVP m' D (looksA n a) ∧ FL m m' := by
  intro f
  induction f with
  | zero => intro n a m D h; omega
  | succ f ih =>
    intro n a m D hf hnb hroom hT V
    obtain ⟨Vg, Vt, VT⟩ := id V
    rw [x_X7_looks_L1]
    cases e : fbA a.2.1 4 0 none with
    | none => exact ⟨m, by rw [if_pos (show fbI none = -1 from rfl)], by rw [looks_none e]; exact V, FL.rf⟩
    | some j =>
      obtain ⟨hj4, hj3⟩ := fbA_lt a.2.1 4 0 none (by omega) (fun q hq => by cases hq) j e
      have hr : vR (nI j) 4 := nI_in hj4 (by omega)
      rw [if_neg (show ¬ fbI (some j) = -1 from nI_m1 (by omega)), m_isBusyN Vt, bd_some]
      by_cases hb : busyA a.2.1
      · rw [if_pos hb, if_neg (by decide)]
        exact ⟨m, rfl, by rw [looks_busy hb]; exact V, FL.rf⟩
      · rw [if_neg hb, if_pos rfl]
        cases n with
        | zero =>
          exact absurd hj3 (nbA_0 (by omega) j hj4)
        | succ n =>
          simp only [fbI, if_pos hr, nI_clamp (show j < 2 ^ 31 by omega), (Vt.2 j hj4).2.1 (Or.inr hj3), Vg.1]
          rw [looksA, if_neg hb, e]
          by_cases hw : (a.2.1 j).2.1 ≤ a.1.1
          · rw [if_pos hw]
            show ∃ m', _ ∧ MVP m' D (looksA n (if (a.2.1 j).2.1 ≤ a.1.1 then (a.1, upn a.2.1 j (0, (a.2.1 j).2), a.2.2) else beginA j a)) ∧ _
            rw [if_pos hw, bs_eq, bd_some]
            have V1 : MVP (sa m 1 j 0) D (a.1, upn a.2.1 j (0, (a.2.1 j).2), a.2.2) := ⟨Vg.ga (fun _ => rfl), Vt.cond hj4 (by decide) (fun q => absurd q (by decide)), VT.off rfl (fun i x h1 h2 => by rw [ga_sa2, if_neg (by omega)])⟩
            have F1 : FL m (sa m 1 j 0) := ⟨fun _ _ _ => rfl, fun i x h => by rw [ga_sa2, if_neg (by omega)]⟩
            rw [m_firstBlocked V1.2.1, bd_some]
            have hlt := nbA_upn hj4 hj3 (v := (0, (a.2.1 j).2)) (show ¬ (0 : Int32) = 3 by decide)
            obtain ⟨m2, e2, V2, F2⟩ := ih n (a.1, upn a.2.1 j (0, (a.2.1 j).2), a.2.2) (sa m 1 j 0) D (by omega) (by show nbA (upn a.2.1 j (0, (a.2.1 j).2)) ≤ n; omega) (fun h1 h2 => hroom hb (by
              obtain ⟨i, q1, q2, q3⟩ := h2
              refine ⟨i, q1, ?_⟩
              by_cases hij : i = j
              · subst hij; exact absurd (show (upn a.2.1 i (0, (a.2.1 i).2) i).1 = 3 from q2) (by rw [upn_s]; exact (show ¬ (0 : Int32) = 3 by decide))
              · have q2' : (upn a.2.1 j (0, (a.2.1 j).2) i).1 = 3 := q2
                have q3' : a.1.1 < (upn a.2.1 j (0, (a.2.1 j).2) i).2.1 := q3
                rw [upn_n _ _ hij] at q2' q3'; exact ⟨q2', q3'⟩)) hT V1
            exact ⟨m2, e2, V2, F1.tr F2⟩
          · rw [if_neg hw]
            show ∃ m', _ ∧ MVP m' D (looksA n (if (a.2.1 j).2.1 ≤ a.1.1 then (a.1, upn a.2.1 j (0, (a.2.1 j).2), a.2.2) else beginA j a)) ∧ _
            rw [if_neg hw, bs_eq]
            have hlen := hroom hb ⟨j, hj4, hj3, Int32.not_le.mp hw⟩
            have Vt1 : MVt (sa m 1 j 2) D (upn a.2.1 j (2, (a.2.1 j).2)) := Vt.cond hj4 (by decide) (fun _ => (Vt.2 j hj4).2.1 (Or.inr hj3))
            have VT1 : MVT (sa m 1 j 2) a.2.2 := VT.off rfl (fun i x h1 h2 => by rw [ga_sa2, if_neg (by omega)])
            obtain ⟨m3, e3, VT3, F3, k3⟩ := m_adds hlen VT1 j 7 1 isB1
            have VT4 : MVT (ss m3 5 (nI a.2.2.1.length)) (a.2.2.1 ++ [(j, 7, 1, 0)], a.2.2.2) := VT3.off rfl (fun i x h1 h2 => rfl)
            have hT4 : TSK (a.2.2.1 ++ [(j, 7, 1, 0)], a.2.2.2) := hT.add hlen ⟨hj4, isB1⟩
            obtain ⟨m5, e5, VT5, F5⟩ := m_runs (i := a.2.2.1.length) (by show _ < (a.2.2.1 ++ [(j, 7, 1, 0)]).length; rw [List.length_append]; exact Nat.lt_succ_self _) hT4 VT4
            rw [e3, b2_some, bs_eq, gs_ss, if_pos rfl, e5, bd_some, bd_some]
            have Vt3 := Vt1.fm F3
            have Vt4 : MVt (ss m3 5 (nI a.2.2.1.length)) D (upn a.2.1 j (2, (a.2.1 j).2)) := Vt3.off rfl (fun i x h => rfl)
            have Vt5 := Vt4.fm F5
            have Vg5 : MVg m5 (a.1.1, nI a.2.2.1.length, a.1.2.2) := ⟨(F5.1 0 (by omega)).trans (((gs_ss _ _ _ _).trans (if_neg (by omega))).trans ((F3.1 0 (by omega)).trans Vg.1)), (F5.1 5 (by omega)).trans ((gs_ss _ _ _ _).trans (if_pos rfl))⟩
            have FL1 : FL m m5 := by
              refine FL.tr ⟨fun i h1 h2 => ?_, fun i x h => ?_⟩ F5.fl
              · rw [gs_ss, if_neg h2, F3.1 i h1]; rfl
              · rw [ga_ss, F3.2 i x (by omega), ga_sa2, if_neg (by omega)]
            have hbusy : busyA (beginA j a).2.1 := ⟨j, List.mem_range.mpr hj4, Or.inr (by show (upn a.2.1 j (2, (a.2.1 j).2) j).1 = 2; rw [upn_s])⟩
            rw [m_firstBlocked Vt5, bd_some, looks_busy hbusy]
            refine ⟨m5, ?_, ⟨Vg5, Vt5, VT5⟩, FL1⟩
            cases f with
            | zero => omega
            | succ f =>
              rw [x_X7_looks_L1]
              by_cases q : fbI (fbA (upn a.2.1 j (2, (a.2.1 j).2)) 4 0 none) = -1
              · rw [if_pos q]
              · rw [if_neg q, m_isBusyN Vt5, bd_some, if_pos (show busyA (upn a.2.1 j (2, (a.2.1 j).2)) from hbusy), if_neg (by decide)]
theorem m_looks {a : PA} {m : MS} {D : Nat} (hroom : roomA a) (hT : TSK a.2.2) (V : MVP m D a) : ∃ m', x_X7_looks m = some m' ∧ MVP m' D (looksA 4 a) ∧ FL m m' := by
  obtain ⟨m', e, V', F⟩ := m_looksL FU 4 a m D (by show 4 < 1000; omega) (nbA_le _) hroom hT V
  exact ⟨m', by unfold x_X7_looks; rw [m_firstBlocked V.2.1, bd_some, e, bd_some], V', F⟩
