/-! ===== PURE: a call of the law on both sides (printed by gen71.py) ===== -/
def LO (c : Nat → Int32) (x : Option (Int32 × CS)) (o q cc s : Nat) (r : OUT) : Prop := ∃ w' R', x = some (c r.1, w') ∧ VC o q w' R' r.2.2 ∧ Bd o w' cc s ∧ (r.1 = 0 → wM w' q 0 = r.2.1.toInt64)
def LV (c : Nat → Int32) (x : Option (Int32 × CS)) (o q cc s : Nat) (r : OUT) : Prop := ∃ w' R', x = some (c r.1, w') ∧ VC o q w' R' r.2.2 ∧ Bd o w' cc s
theorem OQ.in {q : Nat} {w : CS} (h : OQ q w) : vR 0 (wJ w 1 q) := by rw [h.2]; decide
theorem sM_on {w : CS} {q : Nat} {v : Int64} : wM (sM w q (0 : Int32).toNatClampNeg v) q 0 = v := if_pos ⟨rfl, rfl⟩
theorem VC.sM {o q : Nat} {w : CS} {R : Nat → List Nat} {a : AS} {v : Int64} (V : VC o q w R a) : VC o q (sM w q (0 : Int32).toNatClampNeg v) R a := V.eq (V.1.keep V.1.wf (Nat.le_refl _) (fun _ _ _ => rfl) (fun _ _ _ => rfl) (fun _ _ _ => rfl)) (fun _ _ _ _ _ => ⟨fun _ => rfl, fun _ => rfl, fun _ => rfl, fun _ => rfl⟩)
theorem OQ.of {o q : Nat} {w : CS} {R : Nat → List Nat} {a : AS} (V : VC o q w R a) : OQ q w := V.2.2.2.2.2.2
theorem bh2_l {α ρ : Type} (k : Nat) (w : CS) (he : Nat → CS → Option ρ) (f : α → CS → Option ρ) : bh2 (some (Sum.inl (k, w))) he f = he k w := rfl
theorem bh2_r {α ρ : Type} (v : α) (w : CS) (he : Nat → CS → Option ρ) (f : α → CS → Option ρ) : bh2 (some (Sum.inr (v, w))) he f = f v w := rfl
theorem bh3_l {α ρ : Type} (k : Nat) (w : CS) (he : Nat → CS → Option ρ) (f : α → Option ρ) : bh3 (some (Sum.inl (k, w))) he f = he k w := rfl
theorem bh3_r {α ρ : Type} (v : α) (he : Nat → CS → Option ρ) (f : α → Option ρ) : bh3 (some (Sum.inr v)) he f = f v := rfl
theorem bh1_l {ρ : Type} (k : Nat) (w : CS) (he : Nat → CS → Option ρ) (f : CS → Option ρ) : bh1 (some (Sum.inl (k, w))) he f = he k w := rfl
theorem bh1_r {ρ : Type} (w : CS) (he : Nat → CS → Option ρ) (f : CS → Option ρ) : bh1 (some (Sum.inr w)) he f = f w := rfl
abbrev K3 (r : OUT) : Prop := r.1 = 0 ∨ r.1 = 1 ∨ r.1 = 2 ∨ r.1 = 3
abbrev K2 (r : OUT) : Prop := r.1 = 0 ∨ r.1 = 1 ∨ r.1 = 3
abbrev K1 (r : OUT) : Prop := r.1 = 0 ∨ r.1 = 1
theorem l_A3 {X : Option ((Nat × CS) ⊕ (Int32 × CS))} {o q c s : Nat} {r : OUT} (h : CO X o q c s r) (k : K3 r) : LO c3 (bh2 X (fun k9 w9 => if k9 = 1 then some ((1 : Int32), w9) else if k9 = 2 then some ((2 : Int32), w9) else if k9 = 3 then some ((3 : Int32), w9) else none) (fun (v3 : Int32) (w4 : CS) => if wJ w4 0 q = 15 then if vR 0 (wJ w4 1 q) then bs (sM w4 q (0 : Int32).toNatClampNeg v3.toInt64) (fun (w7 : CS) => some (((0 : Int32), w7))) else none else none)) o q c s r := by
  obtain ⟨w', R', V, B, h | h⟩ := h
  · obtain ⟨h1, h2⟩ := h
    rw [h2, bh2_r, if_pos (OQ.of V).1, if_pos (OQ.of V).in, bs_eq]
    exact ⟨_, R', by rw [h1]; rfl, V.sM, B, fun _ => sM_on⟩
  · obtain ⟨h1, h2⟩ := h
    rw [h2, bh2_l]
    rcases k with k | k | k | k
    · exact absurd k h1
    · rw [k, if_pos rfl]; exact ⟨w', R', by rw [k]; rfl, V, B, fun z => by rw [k] at z; cases z⟩
    · rw [k, if_neg (by omega), if_pos rfl]; exact ⟨w', R', by rw [k]; rfl, V, B, fun z => by rw [k] at z; cases z⟩
    · rw [k, if_neg (by omega), if_neg (by omega), if_pos rfl]; exact ⟨w', R', by rw [k]; rfl, V, B, fun z => by rw [k] at z; cases z⟩
theorem l_A2 {X : Option ((Nat × CS) ⊕ (Int32 × CS))} {o q c s : Nat} {r : OUT} (h : CO X o q c s r) (k : K2 r) : LO c2 (bh2 X (fun k9 w9 => if k9 = 1 then some ((1 : Int32), w9) else if k9 = 3 then some ((2 : Int32), w9) else none) (fun (v3 : Int32) (w4 : CS) => if wJ w4 0 q = 15 then if vR 0 (wJ w4 1 q) then bs (sM w4 q (0 : Int32).toNatClampNeg v3.toInt64) (fun (w7 : CS) => some (((0 : Int32), w7))) else none else none)) o q c s r := by
  obtain ⟨w', R', V, B, h | h⟩ := h
  · obtain ⟨h1, h2⟩ := h
    rw [h2, bh2_r, if_pos (OQ.of V).1, if_pos (OQ.of V).in, bs_eq]
    exact ⟨_, R', by rw [h1]; rfl, V.sM, B, fun _ => sM_on⟩
  · obtain ⟨h1, h2⟩ := h
    rw [h2, bh2_l]
    rcases k with k | k | k
    · exact absurd k h1
    · rw [k, if_pos rfl]; exact ⟨w', R', by rw [k]; rfl, V, B, fun z => by rw [k] at z; cases z⟩
    · rw [k, if_neg (by omega), if_pos rfl]; exact ⟨w', R', by rw [k]; rfl, V, B, fun z => by rw [k] at z; cases z⟩
theorem l_V2 {X : Option ((Nat × CS) ⊕ CS)} {o q c s : Nat} {r : OUT} (h : CV X o q c s r) (k : K2 r) : LV c2 (bh1 X (fun k9 w9 => if k9 = 1 then some ((1 : Int32), w9) else if k9 = 3 then some ((2 : Int32), w9) else none) (fun (w3 : CS) => some (((0 : Int32), w3)))) o q c s r := by
  obtain ⟨w', R', V, B, h | h⟩ := h
  · obtain ⟨h1, h2⟩ := h
    rw [h2, bh1_r]
    exact ⟨_, R', by rw [h1]; rfl, V, B⟩
  · obtain ⟨h1, h2⟩ := h
    rw [h2, bh1_l]
    rcases k with k | k | k
    · exact absurd k h1
    · rw [k, if_pos rfl]; exact ⟨w', R', by rw [k]; rfl, V, B⟩
    · rw [k, if_neg (by omega), if_pos rfl]; exact ⟨w', R', by rw [k]; rfl, V, B⟩
theorem l_R3 {X : Option ((Nat × CS) ⊕ Int32)} {o q c s : Nat} {w : CS} {R : Nat → List Nat} {a : AS} {r : OUT} (V : VC o q w R a) (B : Bd o w (c + 2) (s + 10)) (h : CR X w a r) (k : K3 r) : LO c3 (bh3 X (fun k9 w9 => if k9 = 1 then some ((1 : Int32), w9) else if k9 = 2 then some ((2 : Int32), w9) else if k9 = 3 then some ((3 : Int32), w9) else none) (fun (v3 : Int32) => if wJ w 0 q = 15 then if vR 0 (wJ w 1 q) then bs (sM w q (0 : Int32).toNatClampNeg v3.toInt64) (fun (w7 : CS) => some (((0 : Int32), w7))) else none else none)) o q c s r := by
  obtain ⟨ea, h | h⟩ := h
  · obtain ⟨h1, h2⟩ := h
    rw [h2, bh3_r, if_pos (OQ.of V).1, if_pos (OQ.of V).in, bs_eq]
    exact ⟨sM w q (0 : Int32).toNatClampNeg r.2.1.toInt64, R, by rw [h1]; rfl, by rw [ea]; exact V.sM, B.mono (c' := c) (s' := s) (by omega) (by omega), fun _ => sM_on⟩
  · obtain ⟨h1, h2⟩ := h
    have B' : Bd o (bump w) c s := (B.mono (c' := c + 1) (s' := s + 6) (by omega) (by omega)).bump
    have V' : VC o q (bump w) R r.2.2 := by rw [ea]; exact VP.bump V
    rw [h2, bh3_l]
    rcases k with k | k | k | k
    · exact absurd k h1
    · rw [k, if_pos rfl]; exact ⟨_, R, by rw [k]; rfl, V', B', fun z => by rw [k] at z; cases z⟩
    · rw [k, if_neg (by omega), if_pos rfl]; exact ⟨_, R, by rw [k]; rfl, V', B', fun z => by rw [k] at z; cases z⟩
    · rw [k, if_neg (by omega), if_neg (by omega), if_pos rfl]; exact ⟨_, R, by rw [k]; rfl, V', B', fun z => by rw [k] at z; cases z⟩
theorem l_R1 {X : Option ((Nat × CS) ⊕ Int32)} {o q c s : Nat} {w : CS} {R : Nat → List Nat} {a : AS} {r : OUT} (V : VC o q w R a) (B : Bd o w (c + 2) (s + 10)) (h : CR X w a r) (k : K1 r) : LO c3 (bh3 X (fun k9 w9 => if k9 = 1 then some ((1 : Int32), w9) else none) (fun (v3 : Int32) => if wJ w 0 q = 15 then if vR 0 (wJ w 1 q) then bs (sM w q (0 : Int32).toNatClampNeg v3.toInt64) (fun (w7 : CS) => some (((0 : Int32), w7))) else none else none)) o q c s r := by
  obtain ⟨ea, h | h⟩ := h
  · obtain ⟨h1, h2⟩ := h
    rw [h2, bh3_r, if_pos (OQ.of V).1, if_pos (OQ.of V).in, bs_eq]
    exact ⟨sM w q (0 : Int32).toNatClampNeg r.2.1.toInt64, R, by rw [h1]; rfl, by rw [ea]; exact V.sM, B.mono (c' := c) (s' := s) (by omega) (by omega), fun _ => sM_on⟩
  · obtain ⟨h1, h2⟩ := h
    have B' : Bd o (bump w) c s := (B.mono (c' := c + 1) (s' := s + 6) (by omega) (by omega)).bump
    have V' : VC o q (bump w) R r.2.2 := by rw [ea]; exact VP.bump V
    rw [h2, bh3_l]
    rcases k with k | k
    · exact absurd k h1
    · rw [k, if_pos rfl]; exact ⟨_, R, by rw [k]; rfl, V', B', fun z => by rw [k] at z; cases z⟩
theorem k_openA {a : AS} (p v : Int32) : K3 (openA p v a) := by
  unfold openA
  repeat' (first | exact Or.inl rfl | exact Or.inr (Or.inl rfl) | exact Or.inr (Or.inr (Or.inl rfl)) | exact Or.inr (Or.inr (Or.inr rfl)) | split | dsimp only)
theorem k_closA {a : AS} (p : Int32) : K2 (closA p a) := by
  unfold closA
  repeat' (first | exact Or.inl rfl | exact Or.inr (Or.inl rfl) | exact Or.inr (Or.inr rfl) | split | dsimp only)
theorem k_statA {a : AS} (p : Int32) : K1 (statA p a) := by
  unfold statA
  repeat' (first | exact Or.inl rfl | exact Or.inr rfl | split | dsimp only)
theorem k_mkSA {a : AS} (t s : Int32) : K2 (mkSA t s a) := by
  unfold mkSA
  repeat' (first | exact Or.inl rfl | exact Or.inr (Or.inl rfl) | exact Or.inr (Or.inr rfl) | split | dsimp only)
theorem k_delA {a : AS} (t s : Int32) : K2 (delA t s a) := by
  unfold delA
  repeat' (first | exact Or.inl rfl | exact Or.inr (Or.inl rfl) | exact Or.inr (Or.inr rfl) | split | dsimp only)
theorem k_mkIA {a : AS} (t s f u : Int32) : K2 (mkIA t s f u a) := by
  unfold mkIA
  repeat' (first | exact Or.inl rfl | exact Or.inr (Or.inl rfl) | exact Or.inr (Or.inr rfl) | split | dsimp only)
theorem k_begA {a : AS} (p sc u : Int32) : K3 (begA p sc u a) := by
  unfold begA
  repeat' (first | exact Or.inl rfl | exact Or.inr (Or.inl rfl) | exact Or.inr (Or.inr (Or.inl rfl)) | exact Or.inr (Or.inr (Or.inr rfl)) | split | dsimp only)
theorem k_staA {a : AS} (t : Int32) : K1 (staA t a) := by
  unfold staA
  repeat' (first | exact Or.inl rfl | exact Or.inr rfl | split | dsimp only)
theorem k_comA {a : AS} (t : Int32) : K2 (comA t a) := by
  unfold comA
  repeat' (first | exact Or.inl rfl | exact Or.inr (Or.inl rfl) | exact Or.inr (Or.inr rfl) | split | dsimp only)
theorem k_aboA {a : AS} (t : Int32) : K2 (aboA t a) := by
  unfold aboA
  repeat' (first | exact Or.inl rfl | exact Or.inr (Or.inl rfl) | exact Or.inr (Or.inr rfl) | split | dsimp only)
theorem k_putA {a : AS} (t s k c f g : Int32) : K3 (putA t s k c f g a) := by
  unfold putA
  repeat' (first | exact Or.inl rfl | exact Or.inr (Or.inl rfl) | exact Or.inr (Or.inr (Or.inl rfl)) | exact Or.inr (Or.inr (Or.inr rfl)) | split | dsimp only)
theorem k_rmvA {a : AS} (t s x y : Int32) : K3 (rmvA t s x y a) := by
  unfold rmvA
  repeat' (first | exact Or.inl rfl | exact Or.inr (Or.inl rfl) | exact Or.inr (Or.inr (Or.inl rfl)) | exact Or.inr (Or.inr (Or.inr rfl)) | split | dsimp only)
theorem k_getA {a : AS} (t s k : Int32) : K3 (getA t s k a) := by
  unfold getA
  repeat' (first | exact Or.inl rfl | exact Or.inr (Or.inl rfl) | exact Or.inr (Or.inr (Or.inl rfl)) | exact Or.inr (Or.inr (Or.inr rfl)) | split | dsimp only)
theorem k_cntA {a : AS} (t s x y : Int32) : K3 (cntA t s x y a) := by
  unfold cntA
  repeat' (first | exact Or.inl rfl | exact Or.inr (Or.inl rfl) | exact Or.inr (Or.inr (Or.inl rfl)) | exact Or.inr (Or.inr (Or.inr rfl)) | split | dsimp only)
theorem k_curA {a : AS} (t s f d : Int32) : K3 (curA t s f d a) := by
  unfold curA
  repeat' (first | exact Or.inl rfl | exact Or.inr (Or.inl rfl) | exact Or.inr (Or.inr (Or.inl rfl)) | exact Or.inr (Or.inr (Or.inr rfl)) | split | dsimp only)
theorem k_steA {a : AS} (i : Int32) : K2 (steA i a) := by
  unfold steA
  repeat' (first | exact Or.inl rfl | exact Or.inr (Or.inl rfl) | exact Or.inr (Or.inr rfl) | split | dsimp only)
theorem k_updA {a : AS} (i v : Int32) : K3 (updA i v a) := by
  unfold updA
  repeat' (first | exact Or.inl rfl | exact Or.inr (Or.inl rfl) | exact Or.inr (Or.inr (Or.inl rfl)) | exact Or.inr (Or.inr (Or.inr rfl)) | split | dsimp only)
theorem k_putB {a : AS} (t s k c f g : Int32) : (putA t s k c f g a).1 = 0 → (putA t s k c f g a).2.1 = 0 ∨ (putA t s k c f g a).2.1 = 1 := by
  unfold putA
  repeat' (first | (intro z; exact absurd z (by decide)) | (intro _; exact (isBe true).imp id id) | split | dsimp only)
theorem w_open {o q c s : Nat} {w : CS} {R : Nat → List Nat} {a : AS} (V : VC o q w R a) (I : IV a) (B : Bd o w (c + 2) (s + 10)) (p v : Int32) : LO c3 (x_L_open o p v q w) o q c s (openA p v a) := by
  unfold x_L_open
  rw [if_pos V.1.ko]
  exact l_A3 (c_open V I B p v) (k_openA p v)
theorem w_close {o q c s : Nat} {w : CS} {R : Nat → List Nat} {a : AS} (V : VC o q w R a) (I : IV a) (B : Bd o w (c + 2) (s + 10)) (p : Int32) : LO c2 (x_L_close o p q w) o q c s (closA p a) := by
  unfold x_L_close
  rw [if_pos V.1.ko]
  exact l_A2 (c_close V I B p) (k_closA p)
theorem w_state {o q c s : Nat} {w : CS} {R : Nat → List Nat} {a : AS} (V : VC o q w R a) (I : IV a) (B : Bd o w (c + 2) (s + 10)) (p : Int32) : LO c3 (x_L_state o p q w) o q c s (statA p a) := by
  unfold x_L_state
  rw [if_pos V.1.ko]
  exact l_R1 V B (c_state V B.re2 p) (k_statA p)
theorem w_makeStore {o q c s : Nat} {w : CS} {R : Nat → List Nat} {a : AS} (V : VC o q w R a) (I : IV a) (B : Bd o w (c + 2) (s + 10)) (t sn : Int32) : LV c2 (x_L_makeStore o t sn w) o q c s (mkSA t sn a) := by
  unfold x_L_makeStore
  rw [if_pos V.1.ko]
  exact l_V2 (c_makeStore V I B t sn) (k_mkSA t sn)
theorem w_deleteStore {o q c s : Nat} {w : CS} {R : Nat → List Nat} {a : AS} (V : VC o q w R a) (I : IV a) (B : Bd o w (c + 2) (s + 10)) (t sn : Int32) : LO c2 (x_L_deleteStore o t sn q w) o q c s (delA t sn a) := by
  unfold x_L_deleteStore
  rw [if_pos V.1.ko]
  exact l_A2 (c_deleteStore V I B t sn) (k_delA t sn)
theorem w_makeIndex {o q c s : Nat} {w : CS} {R : Nat → List Nat} {a : AS} (V : VC o q w R a) (I : IV a) (B : Bd o w (c + 2) (s + 10)) (t sn f u : Int32) : LV c2 (x_L_makeIndex o t sn f u w) o q c s (mkIA t sn f u a) := by
  unfold x_L_makeIndex
  rw [if_pos V.1.ko]
  exact l_V2 (c_makeIndex V I B t sn f u) (k_mkIA t sn f u)
theorem w_begin {o q c s : Nat} {w : CS} {R : Nat → List Nat} {a : AS} (V : VC o q w R a) (I : IV a) (B : Bd o w (c + 2) (s + 10)) (p sc u : Int32) (hu : isB u) : LO c3 (x_L_begin o p sc u q w) o q c s (begA p sc u a) := by
  unfold x_L_begin
  rw [if_pos V.1.ko]
  exact l_A3 (c_begin V I B p sc u hu) (k_begA p sc u)
theorem w_standing {o q c s : Nat} {w : CS} {R : Nat → List Nat} {a : AS} (V : VC o q w R a) (I : IV a) (B : Bd o w (c + 2) (s + 10)) (t : Int32) : LO c3 (x_L_standing o t q w) o q c s (staA t a) := by
  unfold x_L_standing
  rw [if_pos V.1.ko]
  exact l_R1 V B (c_standing V I B.re2 t) (k_staA t)
theorem w_commit {o q c s : Nat} {w : CS} {R : Nat → List Nat} {a : AS} (V : VC o q w R a) (I : IV a) (B : Bd o w (c + 2) (s + 10)) (t : Int32) : LO c2 (x_L_commit o t q w) o q c s (comA t a) := by
  unfold x_L_commit
  rw [if_pos V.1.ko]
  exact l_A2 (c_commit V I B t) (k_comA t)
theorem w_abort {o q c s : Nat} {w : CS} {R : Nat → List Nat} {a : AS} (V : VC o q w R a) (I : IV a) (B : Bd o w (c + 2) (s + 10)) (t : Int32) : LO c2 (x_L_abort o t q w) o q c s (aboA t a) := by
  unfold x_L_abort
  rw [if_pos V.1.ko]
  exact l_A2 (c_abort V I B t) (k_aboA t)
theorem w_remove {o q c s : Nat} {w : CS} {R : Nat → List Nat} {a : AS} (V : VC o q w R a) (I : IV a) (B : Bd o w (c + 2) (s + 10)) (t sn x y : Int32) : LO c3 (x_L_remove o t sn x y q w) o q c s (rmvA t sn x y a) := by
  unfold x_L_remove
  rw [if_pos V.1.ko]
  exact l_A3 (c_remove V I B t sn x y) (k_rmvA t sn x y)
theorem w_get {o q c s : Nat} {w : CS} {R : Nat → List Nat} {a : AS} (V : VC o q w R a) (I : IV a) (B : Bd o w (c + 2) (s + 10)) (t sn k : Int32) : LO c3 (x_L_get o t sn k q w) o q c s (getA t sn k a) := by
  unfold x_L_get
  rw [if_pos V.1.ko]
  exact l_R3 V B (c_get V I B.re2 t sn k) (k_getA t sn k)
theorem w_count {o q c s : Nat} {w : CS} {R : Nat → List Nat} {a : AS} (V : VC o q w R a) (I : IV a) (B : Bd o w (c + 2) (s + 10)) (t sn x y : Int32) : LO c3 (x_L_count o t sn x y q w) o q c s (cntA t sn x y a) := by
  unfold x_L_count
  rw [if_pos V.1.ko]
  exact l_R3 V B (c_cnt V I B.re2 t sn x y) (k_cntA t sn x y)
theorem w_cursor {o q c s : Nat} {w : CS} {R : Nat → List Nat} {a : AS} (V : VC o q w R a) (I : IV a) (B : Bd o w (c + 2) (s + 10)) (t sn f d : Int32) : LO c3 (x_L_cursor o t sn f d q w) o q c s (curA t sn f d a) := by
  unfold x_L_cursor
  rw [if_pos V.1.ko]
  exact l_A3 (c_cursor V I B t sn f d) (k_curA t sn f d)
theorem w_step {o q c s : Nat} {w : CS} {R : Nat → List Nat} {a : AS} (V : VC o q w R a) (I : IV a) (B : Bd o w (c + 2) (s + 10)) (t : Int32) : LO c2 (x_L_step o t q w) o q c s (steA t a) := by
  unfold x_L_step
  rw [if_pos V.1.ko]
  exact l_A2 (c_step V I B t) (k_steA t)
theorem w_update {o q c s : Nat} {w : CS} {R : Nat → List Nat} {a : AS} (V : VC o q w R a) (I : IV a) (B : Bd o w (c + 2) (s + 10)) (t v : Int32) : LO c3 (x_L_update o t v q w) o q c s (updA t v a) := by
  unfold x_L_update
  rw [if_pos V.1.ko]
  exact l_A3 (c_update V I B t v) (k_updA t v)
theorem w_put {o q c s : Nat} {w : CS} {R : Nat → List Nat} {a : AS} (V : VC o q w R a) (I : IV a) (B : Bd o w (c + 2) (s + 10)) (t sn k ct f g : Int32) : LO c3 (x_L_put o t sn k ct f g q w) o q c s (putA t sn k ct f g a) := by
  unfold x_L_put
  rw [if_pos V.1.ko]
  have h := c_put V I B t sn k ct f g
  have hk := k_putA (a := a) t sn k ct f g
  have hb := k_putB (a := a) t sn k ct f g
  generalize putA t sn k ct f g a = r at *
  obtain ⟨w', R', V, B, h | h⟩ := h
  · obtain ⟨h1, h2⟩ := h
    have e : (if r.2.1 = 0 then some (0 : Int64) else some (1 : Int64)) = some r.2.1.toInt64 := by
      rcases hb h1 with z | z <;> rw [z] <;> rfl
    rw [h2, bh2_r, e, bd_some, if_pos (OQ.of V).1, if_pos (OQ.of V).in, bs_eq]
    exact ⟨_, R', by rw [h1]; rfl, V.sM, B, fun _ => sM_on⟩
  · obtain ⟨h1, h2⟩ := h
    rw [h2, bh2_l]
    rcases hk with k | k | k | k
    · exact absurd k h1
    · rw [k, if_pos rfl]; exact ⟨w', R', by rw [k]; rfl, V, B, fun z => by rw [k] at z; cases z⟩
    · rw [k, if_neg (by omega), if_pos rfl]; exact ⟨w', R', by rw [k]; rfl, V, B, fun z => by rw [k] at z; cases z⟩
    · rw [k, if_neg (by omega), if_neg (by omega), if_pos rfl]; exact ⟨w', R', by rw [k]; rfl, V, B, fun z => by rw [k] at z; cases z⟩
