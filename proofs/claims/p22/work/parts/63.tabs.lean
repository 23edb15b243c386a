/-! ===== PURE: a new object; the class's tabs ===== -/
/-- one object more; all that was there is as it was -/
def AGR (w w2 : CS) : Prop := wz w2 = wz w + 1 ∧ (∀ y, wz w + 1 < y → wJ w2 0 y = 0) ∧ ∀ y, y ≤ wz w → (∀ f, wI w2 f y = wI w f y) ∧ (∀ i, wA w2 y i = wA w y i) ∧ (∀ f, wJ w2 f y = wJ w f y) ∧ (∀ i, wB w2 y i = wB w y i) ∧ (∀ f, wL w2 f y = wL w f y)
theorem AGR.nw {w : CS} {k l n : Nat} (hw : WF w) : AGR w (nw w k l n) := by
  refine ⟨rfl, fun y hy => ?_, fun y hy => ⟨fun f => ?_, fun i => ?_, fun f => ?_, fun i => ?_, fun f => ?_⟩⟩
  · rw [wJ_nw, if_neg (by omega)]; exact hw.2 y (by omega)
  · rw [wI_nw, if_neg (by omega)]
  · rw [wA_nw, if_neg (by omega)]
  · rw [wJ_nw, if_neg (by omega)]
  · rw [wB_nw, if_neg (by omega)]
  · rw [wL_nw, if_neg (by omega)]
theorem AGR.sI {w w2 : CS} (h : AGR w w2) (f : Nat) (v : Int32) : AGR w (sI w2 f (wz w + 1) v) := by
  refine ⟨h.1, h.2.1, fun y hy => ⟨fun g => ?_, (h.2.2 y hy).2⟩⟩
  rw [wI_off (Or.inr (by omega))]; exact (h.2.2 y hy).1 g
theorem AGR.sJ {w w2 : CS} (h : AGR w w2) {f : Nat} (v : Nat) (hf : f ≠ 0) : AGR w (sJ w2 f (wz w + 1) v) := by
  refine ⟨h.1, fun y hy => ?_, fun y hy => ⟨(h.2.2 y hy).1, (h.2.2 y hy).2.1, fun g => ?_, (h.2.2 y hy).2.2.2⟩⟩
  · rw [wJ_sJ, if_neg (by omega)]; exact h.2.1 y hy
  · rw [wJ_sJ, if_neg (by omega)]; exact (h.2.2 y hy).2.2.1 g
theorem AGR.sL {w w2 : CS} (h : AGR w w2) (f : Nat) (v : Int64) : AGR w (sL w2 f (wz w + 1) v) := by
  refine ⟨h.1, h.2.1, fun y hy => ⟨(h.2.2 y hy).1, (h.2.2 y hy).2.1, (h.2.2 y hy).2.2.1, (h.2.2 y hy).2.2.2.1, fun g => ?_⟩⟩
  rw [wL_sL, if_neg (by omega)]; exact (h.2.2 y hy).2.2.2.2 g
theorem AGR.sv {o : Nat} {w w2 : CS} {R : Nat → List Nat} (h : AGR w w2) (S : SV o w R) : SV o w2 R := by
  refine S.keep ⟨?_, fun y hy => h.2.1 y (by have := h.1; omega)⟩ (by have := h.1; omega) (fun f y hy => (h.2.2 y hy).2.2.1 f) (fun y i hy => (h.2.2 y hy).2.2.2.1 i) (fun y hy _ => (h.2.2 y hy).1 282)
  rw [(h.2.2 0 (Nat.zero_le _)).2.2.1]; exact S.wf.1
theorem AGR.eq {w w2 : CS} (h : AGR w w2) (hw : WF w) : EQ w w2 := fun y k hk _ _ => ⟨(h.2.2 y (hw.le hk).2).1, (h.2.2 y (hw.le hk).2).2.1, (h.2.2 y (hw.le hk).2).2.2.1, (h.2.2 y (hw.le hk).2).2.2.2.2⟩
theorem AGR.bd {o c s n : Nat} {w w2 : CS} {R : Nat → List Nat} (h : AGR w w2) (S : SV o w R) (hl : wl w2 = wl w - 1 ∧ wk w2 = wk w - n) (B : Bd o w (c + 1) (s + n)) : Bd o w2 c s := by
  have hcap : ∀ j, j < 8 → cap w2 (LL o j) = cap w (LL o j) := by
    intro j hj
    have hz := (S.wf.le (S.ls j hj).1).2
    have dz : wJ w 281 (LL o j) ≤ wz w := by
      rcases (S.ls j hj).2.1 with q | q
      · exact (S.wf.le q.1).2
      · exact q.2.2.2.2
    unfold cap
    rw [(h.2.2 _ hz).2.2.1, (h.2.2 _ dz).2.2.1]
  obtain ⟨h1, h2⟩ := B
  have e : pot o w2 = pot o w := by
    unfold pot
    rw [hcap 0 (by omega), hcap 1 (by omega), hcap 2 (by omega), hcap 3 (by omega), hcap 4 (by omega), hcap 5 (by omega), hcap 6 (by omega), hcap 7 (by omega)]
  unfold Bd
  rw [e, hl.1, hl.2]
  constructor <;> omega
theorem AGR.vp {o q : Nat} {w w2 : CS} {R : Nat → List Nat} {a : PA} {cs : List CU} (h : AGR w w2) (V : VP o q w R a cs) : VP o q w2 R a cs := V.eq (h.sv V.1) (h.eq V.1.wf)
/-- a transaction is made and stands behind the others -/
theorem s_newT {o q j c s : Nat} {sc u : Int32} {w : CS} {R : Nat → List Nat} {a : PA} {cs : List CU} (V : VP o q w R a cs) (hj : j < 4) (hu : isB u) (hn : a.2.2.1.length < 60) (hcq : ∀ c ∈ cs, c.1 < a.2.2.1.length) (B : Bd o w (c + 1) (s + 4)) :
    ∃ w2 w3, wJ (nw w 2 0 4) 0 (wz w + 1) = 2 ∧ x_X5_init (wz w + 1) (o + 6 + j) sc u (nw w 2 0 4) = some w2 ∧ VP o q w2 R a cs ∧ x_Jx4a65c_add_9ea2d (o + 4) (wz w + 1) w2 = some (1, w3) ∧ VP o q w3 (fun i => if i = 6 then R 6 ++ [wz w + 1] else R i) (a.1, a.2.1, (a.2.2.1 ++ [(j, sc, u, 0)], a.2.2.2)) cs ∧ Bd o w3 c s := by
  have S := V.1
  have hk1 : wJ (nw w 2 0 4) 0 (wz w + 1) = 2 := by rw [wJ_nw, if_pos rfl, if_pos rfl]
  have G1 : AGR w (nw w 2 0 4) := AGR.nw S.wf
  have G2 := (((G1.sI 83 0).sJ (o + 6 + j) (f := 80) (by omega)).sI 82 sc).sI 81 u
  have e2 : x_X5_init (wz w + 1) (o + 6 + j) sc u (nw w 2 0 4) = some (sI (sI (sJ (sI (nw w 2 0 4) 83 (wz w + 1) 0) 80 (wz w + 1) (o + 6 + j)) 82 (wz w + 1) sc) 81 (wz w + 1) u) := by
    unfold x_X5_init
    have k2 : wJ (sJ (sI (nw w 2 0 4) 83 (wz w + 1) 0) 80 (wz w + 1) (o + 6 + j)) 0 (wz w + 1) = 2 := by rw [wJ_sJ, if_neg (by omega)]; exact hk1
    rw [if_pos hk1, bs_eq, if_pos (show wJ (sI (nw w 2 0 4) 83 (wz w + 1) 0) 0 (wz w + 1) = 2 from hk1), bs_eq, if_pos k2, bs_eq, if_pos (show wJ (sI (sJ (sI (nw w 2 0 4) 83 (wz w + 1) 0) 80 (wz w + 1) (o + 6 + j)) 82 (wz w + 1) sc) 0 (wz w + 1) = 2 from k2), if_pos hu, bs_eq]
  generalize hw2 : sI (sI (sJ (sI (nw w 2 0 4) 83 (wz w + 1) 0) 80 (wz w + 1) (o + 6 + j)) 82 (wz w + 1) sc) 81 (wz w + 1) u = w2 at *
  have V2 := G2.vp V
  have S2 := V2.1
  have hkx : wJ w2 0 (wz w + 1) = 2 := by rw [← hw2]; show wJ (sJ (sI (nw w 2 0 4) 83 (wz w + 1) 0) 80 (wz w + 1) (o + 6 + j)) 0 (wz w + 1) = 2; rw [wJ_sJ, if_neg (by omega)]; exact hk1
  have h80 : wJ w2 80 (wz w + 1) = o + 6 + j := by rw [← hw2]; show wJ (sJ (sI (nw w 2 0 4) 83 (wz w + 1) 0) 80 (wz w + 1) (o + 6 + j)) 80 (wz w + 1) = _; rw [wJ_sJ, if_pos ⟨rfl, rfl⟩]
  have h82 : wI w2 82 (wz w + 1) = sc := by rw [← hw2, wI_off (Or.inl (by omega)), wI_on]
  have h81 : wI w2 81 (wz w + 1) = u := by rw [← hw2, wI_on]
  have h83 : wI w2 83 (wz w + 1) = 0 := by rw [← hw2, wI_off (Or.inl (by omega)), wI_off (Or.inl (by omega))]; show wI (sI (nw w 2 0 4) 83 (wz w + 1) 0) 83 (wz w + 1) = 0; rw [wI_on]
  have hB2 : Bd o w2 c s := G2.bd S (by rw [← hw2]; exact ⟨rfl, rfl⟩) B
  obtain ⟨t1, t2, t3⟩ := S2.tlist
  have hl : (R 6).length = a.2.2.1.length := V.2.2.2.2.1.len
  have hBa := hB2.add (j := 6) (by omega)
  rw [LL6] at hBa
  obtain ⟨w3, e3, l1, l2⟩ := p_add S2.wf t3 (Or.inr (Or.inl hkx)) (by omega) hBa
  have hnew : wz w + 1 ∉ R 6 := fun h => by
    have := (S.wf.le (S.tk _ h).1).2
    omega
  have l1' : LOK w3 (LL o 6) (R 6 ++ [wz w + 1]) := by rw [LL6]; exact l1
  have l2' : LCH w2 w3 (LL o 6) := by rw [LL6]; exact l2
  have S3 := S2.list (by omega) l2' l1' (fun q => by omega) (fun _ => ⟨List.nodup_append.mpr ⟨S.tn.1, List.nodup_cons.mpr ⟨List.not_mem_nil, List.nodup_nil⟩, fun x hx y hy e => hnew (by rw [List.mem_singleton] at hy; rw [← hy, ← e]; exact hx)⟩, by rw [List.length_append]; show (R 6).length + 1 ≤ 60; omega, fun x hx => List.mem_append_left _ hx, fun x hx => by
    rcases List.mem_append.mp hx with q | q
    · exact S2.tk x q
    · rw [List.mem_singleton] at q
      rw [q]
      exact ⟨hkx, j, hj, h80⟩⟩) (fun q => by omega)
  have E3 := S2.eq (by omega) l2'.1
  have B3 := hB2.list S2 (by omega) l2' l1'
  obtain ⟨-, v1, v2, v3, v4, v5, v6⟩ := V2
  refine ⟨w2, w3, hk1, e2, ⟨S2, v1, v2, v3, v4, v5, v6⟩, e3, ⟨S3, v1.eq S2.ko E3, v2.eq S2 E3, ?_, ?_, ?_, v6.eq E3⟩, B3⟩
  · intro k hk
    have := (v3.eq S2 E3) k hk
    have e9 : (if k = 6 then R 6 ++ [wz w + 1] else R k) = R k := if_neg (by omega)
    show _ ∧ _ ∧ _ ∧ (if k = 6 then R 6 ++ [wz w + 1] else R k).map (rwv w3) = _
    rw [e9]; exact this
  · show (if (6 : Nat) = 6 then R 6 ++ [wz w + 1] else R 6).map (txv o w3) = a.2.2.1 ++ [(j, sc, u, 0)]
    rw [if_pos rfl, List.map_append]
    have h4 : (R 6).map (txv o w3) = a.2.2.1 := v4.eq S2 E3
    rw [h4, List.map_cons, List.map_nil, txv_eq hkx E3]
    unfold txv
    rw [h80, h82, h81, h83, show o + 6 + j - (o + 6) = j by omega]
  · have h5 := v5.eq S2 E3
    have e7 : (if (7 : Nat) = 6 then R 6 ++ [wz w + 1] else R 7) = R 7 := if_neg (by omega)
    have e6 : (if (6 : Nat) = 6 then R 6 ++ [wz w + 1] else R 6) = R 6 ++ [wz w + 1] := if_pos rfl
    unfold VQ
    show (if (7 : Nat) = 6 then R 6 ++ [wz w + 1] else R 7).length = _ ∧ ∀ i, i < cs.length → cuv o w3 (if (6 : Nat) = 6 then R 6 ++ [wz w + 1] else R 6) ((if (7 : Nat) = 6 then R 6 ++ [wz w + 1] else R 7).getD i 0) (cuAt cs i)
    rw [e7, e6]
    refine ⟨h5.1, fun i hi => ?_⟩
    obtain ⟨z1, z2, z3⟩ := h5.2 i hi
    refine ⟨by rw [List.length_append]; omega, ?_, z3⟩
    rw [z2, List.getD_eq_getElem?_getD, List.getD_eq_getElem?_getD, List.getElem?_append_left z1]
theorem insd_iff {o : Nat} {w : CS} {B : TQ} (h : VB o w B) {j : Nat} (hj : j < 4) : insd w (o + 6 + j) ↔ insA B j := by
  unfold insA
  rw [← (h j hj).1]
theorem s_busy {o : Nat} {w : CS} {R : Nat → List Nat} {B : TQ} (S : SV o w R) (h : VB o w B) : x_X6_upgradesMustWait o w = some (if busyA B then 1 else 0) := by
  rw [s_upgradesMustWait S]
  have e : (∃ j ∈ List.range 4, insd w (o + 6 + j)) ↔ busyA B := ⟨fun ⟨j, hj, q⟩ => ⟨j, hj, (insd_iff h (List.mem_range.mp hj)).mp q⟩, fun ⟨j, hj, q⟩ => ⟨j, hj, (insd_iff h (List.mem_range.mp hj)).mpr q⟩⟩
  by_cases q : busyA B
  · rw [if_pos (e.mpr q), if_pos q]
  · rw [if_neg (fun z => q (e.mp z)), if_neg q]
theorem SV.tab {o i : Nat} {w : CS} {R : Nat → List Nat} (S : SV o w R) (hi : i < 4) : vR (nI i) 4 ∧ wB w (o + 1) (nI i).toNatClampNeg = o + 6 + i ∧ wJ w 0 (o + 6 + i) = 4 := ⟨nI_in hi (by omega), by rw [nI_clamp (by omega)]; exact S.ta.2.2 i hi, S.tb i hi⟩
theorem s_followsL {o p : Nat} {w : CS} {R : Nat → List Nat} {B : TQ} (S : SV o w R) (h : VB o w B) (hp : p < 4) : ∀ (n i : Nat), i ≤ 4 → 4 < n + i → (¬ ∃ q ∈ List.range i, q ≠ p ∧ insA B q) → x_X6_upgradeFollows_L1 o (o + 6 + p) w n (nI i) (if ∃ q ∈ List.range i, q ≠ p ∧ (B q).1 = 3 ∧ wI w 245 o < (B q).2.1 then 1 else 0) = some (if busyX B p then .inr 0 else .inl (if folA (wI w 245 o) B p then 1 else 0)) := by
  intro n
  induction n with
  | zero => intro i h1 h2; omega
  | succ n ih =>
    intro i h1 h2 h3
    rw [x_X6_upgradeFollows_L1, if_pos S.ko, S.fo.1, if_pos S.ta.1, S.ta.2.1]
    by_cases hi : i < 4
    · obtain ⟨t1, t2, t3⟩ := S.tab hi
      rw [if_neg (nI_ge hi (by omega)), if_pos t1, t2, if_pos t3]
      have eB := exR (P := fun q => q ≠ p ∧ insA B q) i
      have eF := exR (P := fun q => q ≠ p ∧ (B q).1 = 3 ∧ wI w 245 o < (B q).2.1) i
      have key : ∀ v : Int32, (v = 1 ∧ ((∃ q ∈ List.range i, q ≠ p ∧ (B q).1 = 3 ∧ wI w 245 o < (B q).2.1) ∨ (i ≠ p ∧ (B i).1 = 3 ∧ wI w 245 o < (B i).2.1)) ∨ v = 0 ∧ ¬ ((∃ q ∈ List.range i, q ≠ p ∧ (B q).1 = 3 ∧ wI w 245 o < (B q).2.1) ∨ (i ≠ p ∧ (B i).1 = 3 ∧ wI w 245 o < (B i).2.1))) → (¬ ∃ q ∈ List.range (i + 1), q ≠ p ∧ insA B q) → x_X6_upgradeFollows_L1 o (o + 6 + p) w n (nI (i + 1)) v = some (if busyX B p then .inr 0 else .inl (if folA (wI w 245 o) B p then 1 else 0)) := by
        intro v hv hq
        rw [← ih (i + 1) (by omega) (by omega) hq]
        rcases hv with ⟨rfl, z⟩ | ⟨rfl, z⟩
        · rw [if_pos (eF.mpr z)]
        · rw [if_neg (fun y => z (eF.mp y))]
      have old : ∀ z : Prop, ¬ z → ((if ∃ q ∈ List.range i, q ≠ p ∧ (B q).1 = 3 ∧ wI w 245 o < (B q).2.1 then (1 : Int32) else 0) = 1 ∧ ((∃ q ∈ List.range i, q ≠ p ∧ (B q).1 = 3 ∧ wI w 245 o < (B q).2.1) ∨ z) ∨ (if ∃ q ∈ List.range i, q ≠ p ∧ (B q).1 = 3 ∧ wI w 245 o < (B q).2.1 then (1 : Int32) else 0) = 0 ∧ ¬ ((∃ q ∈ List.range i, q ≠ p ∧ (B q).1 = 3 ∧ wI w 245 o < (B q).2.1) ∨ z)) := by
        intro z hz
        by_cases y : ∃ q ∈ List.range i, q ≠ p ∧ (B q).1 = 3 ∧ wI w 245 o < (B q).2.1
        · rw [if_pos y]; exact Or.inl ⟨rfl, Or.inl y⟩
        · rw [if_neg y]; exact Or.inr ⟨rfl, fun x => x.elim y hz⟩
      by_cases e : i = p
      · rw [if_pos (by rw [e]), l0_inl, if_pos (by rw [e]), bd_some, nI_1]
        exact key _ (old _ (fun q => q.1 e)) (fun q => (eB.mp q).elim h3 (fun q => q.1 e))
      · have hne : ¬ o + 6 + i = o + 6 + p := by omega
        rw [if_neg hne, s_isInside t3, bd_some]
        by_cases hin : insd w (o + 6 + i)
        · have hx : busyX B p := ⟨i, List.mem_range.mpr hi, e, (insd_iff h hi).mp hin⟩
          rw [if_pos hin, if_neg q10, if_pos isB0, l0_inr, if_pos hx]
        · have hnB : ¬ ∃ q ∈ List.range (i + 1), q ≠ p ∧ insA B q := fun q => (eB.mp q).elim h3 (fun q => hin ((insd_iff h hi).mpr q.2))
          rw [if_neg hin, if_pos q00, l0_inl, if_neg hne, (h i hi).1, (h i hi).2.1, nI_1, if_pos t3]
          by_cases c1 : (B i).1 = 3
          · by_cases c2 : (B i).2.1 ≤ wI w 245 o
            · rw [if_pos c1, if_pos c2, bd_some]
              exact key _ (old _ (fun q => Int32.not_lt.mpr c2 q.2.2)) hnB
            · rw [if_pos c1, if_neg c2, bd_some]
              exact key _ (Or.inl ⟨rfl, Or.inr ⟨e, c1, Int32.not_le.mp c2⟩⟩) hnB
          · rw [if_neg c1, bd_some]
            exact key _ (old _ (fun q => c1 q.2.1)) hnB
    · have : i = 4 := by omega
      subst this
      rw [if_pos (nI_le (by omega) (by omega)), if_neg h3]
theorem s_hasRoomAfter {o p : Nat} {w : CS} {R : Nat → List Nat} {B : TQ} (S : SV o w R) (h : VB o w B) (hp : p < 4) : x_X6_hasRoomAfter o (o + 6 + p) w = some (if (R 6).length = 60 ∧ ¬ busyX B p ∧ folA (wI w 245 o) B p then 0 else 1) := by
  have hn := S.tn.2
  unfold x_X6_hasRoomAfter x_X6_upgradeFollows
  have hF := s_followsL S h hp FU 0 (by omega) (by show 4 < 1000 + 0; omega) (by simp)
  rw [if_neg (by simp), nI_0] at hF
  rw [if_pos S.ko, s_hasRoom S, bd_some, hF]
  by_cases h1 : (R 6).length < 60
  · rw [if_pos h1, if_neg q10, l0_inl, bd_some, if_pos isB1, if_neg (fun q => by have := q.1; omega)]
  · rw [if_neg h1, if_pos q00]
    by_cases h2 : busyX B p
    · rw [if_pos h2, l1_inr, bd_some, if_pos q00, l0_inl, bd_some, if_pos isB1, if_neg (fun q => q.2.1 h2)]
    · by_cases h3 : folA (wI w 245 o) B p
      · rw [if_neg h2, if_pos h3, l1_inl, if_pos isB1, bd_some, if_neg q10, l0_inr, bd_some, if_pos isB0, if_pos ⟨by omega, h2, h3⟩]
      · rw [if_neg h2, if_neg h3, l1_inl, if_pos isB0, bd_some, if_pos q00, l0_inl, bd_some, if_pos isB1, if_neg (fun q => h3 q.2.2)]
/-- the best blocked tab, as the class holds it -/
def fbO (o : Nat) (b : Option Nat) : Nat := match b with
  | none => 0
  | some k => o + 6 + k
theorem s_firstBlockedL {o : Nat} {w : CS} {R : Nat → List Nat} {B : TQ} (S : SV o w R) (h : VB o w B) : ∀ (f n k : Nat) (b : Option Nat), k + n = 4 → n < f → (∀ q, b = some q → q < 4 ∧ (B q).1 = 3) → x_X6_firstBlocked_L1 o w f (nI k) (fbO o b) = some (fbO o (fbA B n k b)) := by
  intro f
  induction f with
  | zero => intro n k b h1 h2; omega
  | succ f ih =>
    intro n k b h1 h2 hb
    rw [x_X6_firstBlocked_L1, if_pos S.ko, S.fo.1, if_pos S.ta.1, S.ta.2.1]
    cases n with
    | zero => rw [if_pos (nI_le (by omega) (by omega))]; rfl
    | succ n =>
      have hk : k < 4 := by omega
      obtain ⟨t1, t2, t3⟩ := S.tab hk
      rw [if_neg (nI_ge hk (by omega)), if_pos t1, t2, if_pos t3, (h k hk).1, (h k hk).2.2, fbA, nI_1]
      by_cases h3 : (B k).1 = 3
      · rw [if_pos h3]
        cases b with
        | none =>
          rw [if_pos (show fbO o none = 0 from rfl), l0_inl, bd_some, if_pos ⟨h3, rfl⟩]
          exact ih n (k + 1) (some k) (by omega) (by omega) (fun q hq => by cases hq; exact ⟨hk, h3⟩)
        | some q =>
          obtain ⟨hq4, hq3⟩ := hb q rfl
          rw [if_neg (show ¬ fbO o (some q) = 0 by show ¬ o + 6 + q = 0; omega)]
          rw [show fbO o (some q) = o + 6 + q from rfl, if_pos (S.tb q hq4), (h q hq4).2.2]
          by_cases hc : (B q).2.2 ≤ (B k).2.2
          · rw [if_pos hc, l0_inr, bd_some, if_neg (fun z => Int32.not_lt.mpr hc (by simpa [fbB] using z.2))]
            exact ih n (k + 1) (some q) (by omega) (by omega) hb
          · rw [if_neg hc, l0_inl, bd_some, if_pos ⟨h3, by simpa [fbB] using hc⟩]
            exact ih n (k + 1) (some k) (by omega) (by omega) (fun q hq => by cases hq; exact ⟨hk, h3⟩)
      · rw [if_neg h3, bd_some, if_neg (fun z => h3 z.1)]
        exact ih n (k + 1) b (by omega) (by omega) hb
theorem s_firstBlocked {o : Nat} {w : CS} {R : Nat → List Nat} {B : TQ} (S : SV o w R) (h : VB o w B) : x_X6_firstBlocked o w = some (fbO o (fbA B 4 0 none)) := by
  unfold x_X6_firstBlocked
  have h := s_firstBlockedL S h FU 4 0 none rfl (by show 4 < 1000; omega) (fun q hq => by cases hq)
  rw [nI_0] at h
  have h9 : x_X6_firstBlocked_L1 o w FU 0 0 = some (fbO o (fbA B 4 0 none)) := h
  rw [h9, bd_some]
theorem s_beginUpgrade {o q j c s : Nat} {w : CS} {R : Nat → List Nat} {a : PA} {cs : List CU} (V : VP o q w R a cs) (hT : TSK a.2.2) (hj : j < 4) (hn : a.2.2.1.length < 60) (hcq : ∀ c ∈ cs, c.1 < a.2.2.1.length) (B : Bd o w (c + 1) (s + 4)) :
    ∃ w' R', x_X6_beginUpgrade o (o + 6 + j) w = some w' ∧ VP o q w' R' (beginA j a) cs ∧ Bd o w' c s := by
  have S := V.1
  obtain ⟨t1, t2, t3⟩ := S.tlist
  have hl : (R 6).length = a.2.2.1.length := V.2.2.2.2.1.len
  have V1 := (V.b (v := 2) (f := 160) hj (Or.inl rfl)).g (v := nI a.2.2.1.length) (f := 246) (Or.inr (Or.inl rfl))
  have B1 : Bd o (sI (sI w 160 (o + 6 + j) 2) 246 o (nI a.2.2.1.length)) (c + 1) (s + 4) := B
  obtain ⟨w2, w3, k1, e2, V2, e3, V3, B3⟩ := s_newT (sc := 7) (u := 1) V1 hj isB1 hn hcq B1
  have hB := B1
  have hRE : 1 ≤ wl (sI (sI w 160 (o + 6 + j) 2) 246 o (nI a.2.2.1.length)) ∧ 4 ≤ wk (sI (sI w 160 (o + 6 + j) 2) 246 o (nI a.2.2.1.length)) := by
    obtain ⟨h1, h2⟩ := hB
    constructor <;> omega
  have hT3 : TSK (a.2.2.1 ++ [(j, 7, 1, 0)], a.2.2.2) := hT.add hn ⟨hj, isB1⟩
  obtain ⟨w4, R4, e4, V4, B4, r6, r7⟩ := s_run (i := a.2.2.1.length) V3 hT3 (by show _ < (a.2.2.1 ++ [(j, 7, 1, 0)]).length; rw [List.length_append]; exact Nat.lt_succ_self _) B3
  have ex : (if (6 : Nat) = 6 then R 6 ++ [wz (sI (sI w 160 (o + 6 + j) 2) 246 o (nI a.2.2.1.length)) + 1] else R 6).getD a.2.2.1.length 0 = wz (sI (sI w 160 (o + 6 + j) 2) 246 o (nI a.2.2.1.length)) + 1 := by
    rw [if_pos rfl, List.getD_eq_getElem?_getD, List.getElem?_append_right (by omega), hl, Nat.sub_self]; rfl
  have e4' : x_X6_run o (wz (sI (sI w 160 (o + 6 + j) 2) 246 o (nI a.2.2.1.length)) + 1) w3 = some w4 := by rw [← ex]; exact e4
  refine ⟨w4, R4, ?_, V4.to ?_, B4⟩
  · unfold x_X6_beginUpgrade
    have t1' : wJ (sI w 160 (o + 6 + j) 2) 243 o = o + 4 := t1
    have t1'' : wJ w2 243 o = o + 4 := V2.1.tlist.1
    have t3' : LOK (sI w 160 (o + 6 + j) 2) (o + 4) (R 6) := by
      have := (S.sI (f := 160) (x := o + 6 + j) (v := 2) (by omega)).tlist
      exact this.2.2
    rw [if_pos (S.tb j hj), bs_eq, if_pos (show wJ (sI w 160 (o + 6 + j) 2) 0 o = 6 from S.ko), t1', if_pos (show wJ (sI w 160 (o + 6 + j) 2) 0 (o + 4) = 7 from t2), p_size t3', bd_some, bs_eq, hl, if_pos hRE, bs_eq, if_pos k1, e2, bd_some, if_pos V2.1.ko, t1'', if_pos V2.1.tlist.2.1, e3, b2_some, if_pos V3.1.ko, e4', bd_some]
  · unfold beginA
    rfl
theorem s_dueL {o q c s : Nat} {cs : List CU} : ∀ (f n : Nat) (a : PA) (i : Nat) (w : CS) (R : Nat → List Nat), i + n = 4 → n < f → nbA a.2.1 ≤ n → roomA a → TSK a.2.2 → (∀ c ∈ cs, c.1 < a.2.2.1.length) → VP o q w R a cs → Bd o w (c + 1) (s + 4) →
    ∃ w' R', (x_X6_beginDueUpgrade_L1 o f (nI i) w = some (.inl w') ∨ x_X6_beginDueUpgrade_L1 o f (nI i) w = some (.inr w')) ∧ VP o q w' R' (looksA n a) cs ∧ Bd o w' c s := by
  intro f
  induction f with
  | zero => intro n a i w R h1 h2; omega
  | succ f ih =>
    intro n a i w R h1 h2 hnb hroom hT hcq V B
    have S := V.1
    rw [x_X6_beginDueUpgrade_L1, if_pos S.ko, S.fo.1, if_pos S.ta.1, S.ta.2.1]
    cases n with
    | zero => exact ⟨w, R, Or.inl (by rw [if_pos (nI_le (by omega) (by omega))]), V, B.mono (by omega) (by omega)⟩
    | succ n =>
      rw [if_neg (nI_ge (show i < 4 by omega) (by omega)), s_busy S V.2.2.1, bd_some]
      by_cases hb : busyA a.2.1
      · rw [if_pos hb, if_neg q10]
        exact ⟨w, R, Or.inl rfl, by rw [looks_busy hb]; exact V, B.mono (by omega) (by omega)⟩
      · rw [if_neg hb, if_pos q00, s_firstBlocked S V.2.2.1, bd_some]
        cases e : fbA a.2.1 4 0 none with
        | none => exact ⟨w, R, Or.inr (by rw [if_pos (show fbO o none = 0 from rfl)]), by rw [looks_none e]; exact V, B.mono (by omega) (by omega)⟩
        | some j =>
          obtain ⟨hj4, hj3⟩ := fbA_lt a.2.1 4 0 none (by omega) (fun q hq => by cases hq) j e
          rw [if_neg (show ¬ fbO o (some j) = 0 by show ¬ o + 6 + j = 0; omega)]
          rw [show fbO o (some j) = o + 6 + j from rfl, if_pos (S.tb j hj4), (V.2.2.1 j hj4).2.1, V.2.1.1, looksA, if_neg hb, e]
          by_cases hw : (a.2.1 j).2.1 ≤ a.1.1
          · rw [if_pos hw]
            show ∃ w' R', _ ∧ VP o q w' R' (looksA n (if (a.2.1 j).2.1 ≤ a.1.1 then (a.1, upn a.2.1 j (0, (a.2.1 j).2), a.2.2) else beginA j a)) cs ∧ _
            rw [if_pos hw, bs_eq, bd_some, nI_1]
            have V1 := V.b (v := 0) (f := 160) hj4 (Or.inl rfl)
            have hlt := nbA_upn hj4 hj3 (v := (0, (a.2.1 j).2)) (show ¬ (0 : Int32) = 3 by decide)
            exact ih n (a.1, upn a.2.1 j (0, (a.2.1 j).2), a.2.2) (i + 1) _ R (by omega) (by omega) (by show nbA (upn a.2.1 j (0, (a.2.1 j).2)) ≤ n; omega) (fun h1 h2 => hroom hb (by
              obtain ⟨x, q1, q2, q3⟩ := h2
              refine ⟨x, q1, ?_⟩
              by_cases hij : x = j
              · subst hij; exact absurd (show (upn a.2.1 x (0, (a.2.1 x).2) x).1 = 3 from q2) (by rw [upn_s]; exact (show ¬ (0 : Int32) = 3 by decide))
              · have q2' : (upn a.2.1 j (0, (a.2.1 j).2) x).1 = 3 := q2
                have q3' : a.1.1 < (upn a.2.1 j (0, (a.2.1 j).2) x).2.1 := q3
                rw [upn_n _ _ hij] at q2' q3'; exact ⟨q2', q3'⟩)) hT hcq V1 B
          · rw [if_neg hw]
            show ∃ w' R', _ ∧ VP o q w' R' (looksA n (if (a.2.1 j).2.1 ≤ a.1.1 then (a.1, upn a.2.1 j (0, (a.2.1 j).2), a.2.2) else beginA j a)) cs ∧ _
            rw [if_neg hw]
            have hlen := hroom hb ⟨j, hj4, hj3, Int32.not_le.mp hw⟩
            obtain ⟨w1, R1, e1, V1, B1⟩ := s_beginUpgrade V hT hj4 hlen hcq B
            have hbusy : busyA (beginA j a).2.1 := ⟨j, List.mem_range.mpr hj4, Or.inr (by show (upn a.2.1 j (2, (a.2.1 j).2) j).1 = 2; rw [upn_s])⟩
            rw [e1, bd_some, bd_some, nI_1, looks_busy hbusy]
            refine ⟨w1, R1, ?_, V1, B1⟩
            cases f with
            | zero => omega
            | succ f =>
              have S1 := V1.1
              rw [x_X6_beginDueUpgrade_L1, if_pos S1.ko, S1.fo.1, if_pos S1.ta.1, S1.ta.2.1]
              by_cases q : nI 4 ≤ nI (i + 1)
              · exact Or.inl (by rw [if_pos q])
              · exact Or.inl (by rw [if_neg q, s_busy S1 V1.2.2.1, bd_some, if_pos hbusy, if_neg q10])
theorem s_due {o q c s : Nat} {cs : List CU} {a : PA} {w : CS} {R : Nat → List Nat} (hroom : roomA a) (hT : TSK a.2.2) (hcq : ∀ c ∈ cs, c.1 < a.2.2.1.length) (V : VP o q w R a cs) (B : Bd o w (c + 1) (s + 4)) : ∃ w' R', x_X6_beginDueUpgrade o w = some w' ∧ VP o q w' R' (looksA 4 a) cs ∧ Bd o w' c s := by
  obtain ⟨w', R', e, V', B'⟩ := s_dueL (o := o) (q := q) (c := c) (s := s) (cs := cs) FU 4 a 0 w R rfl (by show 4 < 1000; omega) (nbA_le _) hroom hT hcq V B
  rw [nI_0] at e
  refine ⟨w', R', ?_, V', B'⟩
  unfold x_X6_beginDueUpgrade
  rcases e with e | e
  · rw [e, l1_inl]
  · rw [e, l1_inr]
theorem s_leave {o q p c s : Nat} {cs : List CU} {a : PA} {w : CS} {R : Nat → List Nat} (hp : p < 4) (hroom : roomA ((a.1.1, (if (a.2.1 p).1 = 2 then -1 else a.1.2.1), a.1.2.2), upn a.2.1 p (0, (a.2.1 p).2), a.2.2)) (hT : TSK a.2.2) (hcq : ∀ c ∈ cs, c.1 < a.2.2.1.length) (V : VP o q w R a cs) (B : Bd o w (c + 1) (s + 4)) :
    ∃ w' R', x_X6_leave o (o + 6 + p) w = some w' ∧ VP o q w' R' (looksA 4 ((a.1.1, (if (a.2.1 p).1 = 2 then -1 else a.1.2.1), a.1.2.2), upn a.2.1 p (0, (a.2.1 p).2), a.2.2)) cs ∧ Bd o w' c s := by
  have S := V.1
  unfold x_X6_leave
  rw [if_pos (S.tb p hp), (V.2.2.1 p hp).1]
  by_cases h2 : (a.2.1 p).1 = 2
  · have V1 := (V.g (v := -1) (f := 246) (Or.inr (Or.inl rfl))).b (v := 0) (f := 160) hp (Or.inl rfl)
    rw [if_pos h2, if_pos S.ko, bs_eq, bd_some, if_pos (show wJ (sI w 246 o (-1)) 0 (o + 6 + p) = 4 from S.tb p hp), bs_eq, if_pos (show wJ (sI (sI w 246 o (-1)) 160 (o + 6 + p) 0) 0 o = 6 from S.ko)]
    rw [if_pos h2] at hroom
    rw [if_pos h2]
    obtain ⟨w', R', e, V', B'⟩ := s_due (c := c) (s := s) hroom hT hcq V1 B
    exact ⟨w', R', by rw [e, bd_some], V', B'⟩
  · have V1 := V.b (v := 0) (f := 160) hp (Or.inl rfl)
    rw [if_neg h2, bd_some, if_pos (S.tb p hp), bs_eq, if_pos (show wJ (sI w 160 (o + 6 + p) 0) 0 o = 6 from S.ko)]
    rw [if_neg h2] at hroom
    rw [if_neg h2]
    obtain ⟨w', R', e, V', B'⟩ := s_due (c := c) (s := s) hroom hT hcq V1 B
    exact ⟨w', R', by rw [e, bd_some], V', B'⟩
