def x_J3_checkIndex_8e157 (p0 : Int32) (p1 : Int32) (p2 : Nat) : Option (Int32) :=
  l0 (
    if (p0 : Int32) < 0 then
      some (.inl ())
    else
      if (p0 : Int32) < p1 then
        some (.inr (p0))
      else
        some (.inl ())) (fun (_ : Unit) =>
  none)

def x_J15_checkIndex_7cf53 (p0 : Int32) (p1 : Int32) : Option (Int32) :=
  bd (x_J3_checkIndex_8e157 p0 p1 0) (fun (v2 : Int32) =>
  some (v2))

def x_Jx4a65c_size_8abf5 (o : Nat) (w : CS) : Option (Int32) :=
  if wJ w 0 o = 7 then
  some ((wI w 282 o))
  else none

def x_Jx4a65c_elementData_915e3 (o : Nat) (p0 : Int32) (w : CS) : Option (Nat) :=
  if wJ w 0 o = 7 then
  if wJ w 0 (wJ w 281 o) = 12 then
  if vR p0 (wJ w 1 (wJ w 281 o)) then
  some ((wB w (wJ w 281 o) p0.toNatClampNeg))
  else none
  else none
  else none

def x_Jx4a65c_get_915e3 (o : Nat) (p0 : Int32) (w : CS) : Option (Nat) :=
  if wJ w 0 o = 7 then
  bd (x_J15_checkIndex_7cf53 p0 (wI w 282 o)) (fun (v3 : Int32) =>
  bd (x_Jx4a65c_elementData_915e3 o p0 w) (fun (v5 : Nat) =>
  some (v5)))
  else none

def x_Jxa1e45_init_da8c8 (o : Nat) (w : CS) : Option (Unit) :=
  if wJ w 0 o = 7 then
  some (())
  else none

def x_Jxc12de_init_da8c8 (o : Nat) (w : CS) : Option (CS) :=
  if wJ w 0 o = 7 then
  bd (x_Jxa1e45_init_da8c8 o w) (fun (_ : Unit) =>
  bs (sI w 280 o 0) (fun (w3 : CS) =>
  some (w3)))
  else none

def x_Jx4a65c_init_da8c8 (o : Nat) (w : CS) : Option (CS) :=
  if wJ w 0 o = 7 then
  bd (x_Jxc12de_init_da8c8 o w) (fun (w3 : CS) =>
  if wJ w3 0 o = 7 then
  bs (sJ w3 281 o (wJ w3 2 0)) (fun (w5 : CS) =>
  some (w5))
  else none)
  else none

def x_J8_newLength_cabcc (p0 : Int32) (p1 : Int32) (p2 : Int32) (w : CS) : Option (Int32) :=
  l0 (
    if ((p0 + (if p1 < p2 then p2 else p1)) : Int32) ≤ 0 then
      some (.inl ())
    else
      if (2147483639 : Int32) < (p0 + (if p1 < p2 then p2 else p1)) then
        some (.inl ())
      else
        some (.inr ((p0 + (if p1 < p2 then p2 else p1))))) (fun (_ : Unit) =>
  none)

def x_J7_copyOf_6403c (p0 : Nat) (p1 : Int32) (p2 : Nat) (w : CS) : Option (Nat × CS) :=
  bd (
    if (p2 : Nat) = (wJ w 3 0) then
      if ¬ p1 < 0 ∧ p1.toNatClampNeg ≤ 1000 then
      if 1 ≤ wl w ∧ p1.toNatClampNeg ≤ wk w then
      bs (nw w 12 p1.toNatClampNeg p1.toNatClampNeg) (fun (w4 : CS) =>
      some w4)
      else none
      else none
    else
      none) (fun (w5 : CS) =>
  if wJ w5 0 p0 = 12 ∨ p0 = wJ w5 2 0 ∧ wJ w5 1 p0 = 0 then
  if wJ w5 0 p0 = 12 then
  if wJ w5 0 (wz w + 1) = 12 then
  if ¬ (0 : Int32) < 0 then
  if ¬ (0 : Int32) < 0 then
  if ¬ (if p1 < (nI (wJ w5 1 p0)) then p1 else (nI (wJ w5 1 p0))) < 0 then
  if (0 : Int32).toNatClampNeg + (if p1 < (nI (wJ w5 1 p0)) then p1 else (nI (wJ w5 1 p0))).toNatClampNeg ≤ wJ w5 1 p0 then
  if (0 : Int32).toNatClampNeg + (if p1 < (nI (wJ w5 1 p0)) then p1 else (nI (wJ w5 1 p0))).toNatClampNeg ≤ wJ w5 1 (wz w + 1) then
  if ∀ i, i < (if p1 < (nI (wJ w5 1 p0)) then p1 else (nI (wJ w5 1 p0))).toNatClampNeg → wB w5 p0 ((0 : Int32).toNatClampNeg + i) = 0 ∨ oK (wJ w5 0 (wB w5 p0 ((0 : Int32).toNatClampNeg + i))) then
  bs (cpB w5 p0 (wz w + 1) (0 : Int32).toNatClampNeg (0 : Int32).toNatClampNeg (if p1 < (nI (wJ w5 1 p0)) then p1 else (nI (wJ w5 1 p0))).toNatClampNeg) (fun (w15 : CS) =>
  some (((wz w + 1), w15)))
  else none
  else none
  else none
  else none
  else none
  else none
  else none
  else none
  else none)

def x_J7_copyOf_1904c (p0 : Nat) (p1 : Int32) (w : CS) : Option (Nat × CS) :=
  if wJ w 0 p0 = 12 then
  b2 (x_J7_copyOf_6403c p0 p1 (wJ w 3 0) w) (fun (v3 : Nat) (w4 : CS) =>
  some ((v3, w4)))
  else none

def x_Jx4a65c_grow_92f84 (o : Nat) (p0 : Int32) (w : CS) : Option (Nat × CS) :=
  if wJ w 0 o = 7 then
  if wJ w 0 (wJ w 281 o) = 12 ∨ (wJ w 281 o) = wJ w 2 0 ∧ wJ w 1 (wJ w 281 o) = 0 then
  l0 (
    if (0 : Int32) < (nI (wJ w 1 (wJ w 281 o))) then
      some (.inl ())
    else
      if ((wJ w 281 o) : Nat) = (wJ w 2 0) then
        if ¬ (if (10 : Int32) < p0 then p0 else 10) < 0 ∧ (if (10 : Int32) < p0 then p0 else 10).toNatClampNeg ≤ 1000 then
        if 1 ≤ wl w ∧ (if (10 : Int32) < p0 then p0 else 10).toNatClampNeg ≤ wk w then
        bs (nw w 12 (if (10 : Int32) < p0 then p0 else 10).toNatClampNeg (if (10 : Int32) < p0 then p0 else 10).toNatClampNeg) (fun (w7 : CS) =>
        if wJ w7 0 o = 7 then
        bs (sJ w7 281 o (wz w + 1)) (fun (w9 : CS) =>
        some (.inr (((wz w + 1), w9))))
        else none)
        else none
        else none
      else
        some (.inl ())) (fun (_ : Unit) =>
  bd (x_J8_newLength_cabcc (nI (wJ w 1 (wJ w 281 o))) (p0 - (nI (wJ w 1 (wJ w 281 o)))) ((nI (wJ w 1 (wJ w 281 o))) >>> (1 &&& 31)) w) (fun (v11 : Int32) =>
  b2 (x_J7_copyOf_1904c (wJ w 281 o) v11 w) (fun (v13 : Nat) (w14 : CS) =>
  if wJ w14 0 o = 7 then
  bs (sJ w14 281 o v13) (fun (w16 : CS) =>
  some ((v13, w16)))
  else none)))
  else none
  else none

def x_Jx4a65c_grow_d5877 (o : Nat) (w : CS) : Option (Nat × CS) :=
  if wJ w 0 o = 7 then
  b2 (x_Jx4a65c_grow_92f84 o ((wI w 282 o) + 1) w) (fun (v3 : Nat) (w4 : CS) =>
  some ((v3, w4)))
  else none

def x_Jx4a65c_add_72be8 (o : Nat) (p0 : Nat) (p1 : Nat) (p2 : Int32) (w : CS) : Option (CS) :=
  if wJ w 0 p1 = 12 ∨ p1 = wJ w 2 0 ∧ wJ w 1 p1 = 0 then
  b2 (
    if (p2 : Int32) = (nI (wJ w 1 p1)) then
      if wJ w 0 o = 7 then
      b2 (x_Jx4a65c_grow_d5877 o w) (fun (v5 : Nat) (w6 : CS) =>
      some (v5, w6))
      else none
    else
      some (p1, w)) (fun (v7 : Nat) (w8 : CS) =>
  if wJ w8 0 v7 = 12 then
  if vR p2 (wJ w8 1 v7) then
  if p0 = 0 ∨ oK (wJ w8 0 p0) then
  bs (sB w8 v7 p2.toNatClampNeg p0) (fun (w12 : CS) =>
  if wJ w12 0 o = 7 then
  bs (sI w12 282 o (p2 + 1)) (fun (w14 : CS) =>
  some (w14))
  else none)
  else none
  else none
  else none)
  else none

def x_Jx4a65c_add_9ea2d (o : Nat) (p0 : Nat) (w : CS) : Option (Int32 × CS) :=
  if wJ w 0 o = 7 then
  bs (sI w 280 o ((wI w 280 o) + 1)) (fun (w2 : CS) =>
  if wJ w2 0 o = 7 then
  bd (x_Jx4a65c_add_72be8 o p0 (wJ w2 281 o) (wI w2 282 o) w2) (fun (w5 : CS) =>
  if isB 1 then
  some (((1 : Int32), w5))
  else none)
  else none)
  else none

def x_Jx4a65c_set_bcc79 (o : Nat) (p0 : Int32) (p1 : Nat) (w : CS) : Option (Nat × CS) :=
  if wJ w 0 o = 7 then
  bd (x_J15_checkIndex_7cf53 p0 (wI w 282 o)) (fun (v3 : Int32) =>
  bd (x_Jx4a65c_elementData_915e3 o p0 w) (fun (v5 : Nat) =>
  if wJ w 0 (wJ w 281 o) = 12 then
  if vR p0 (wJ w 1 (wJ w 281 o)) then
  if p1 = 0 ∨ oK (wJ w 0 p1) then
  bs (sB w (wJ w 281 o) p0.toNatClampNeg p1) (fun (w9 : CS) =>
  some ((v5, w9)))
  else none
  else none
  else none))
  else none

def x_Jx4a65c_clear_da8c8_L1 (o : Nat) (w2 : CS) : Nat → Int32 → CS → Option (CS)
  | 0, _, _ => none
  | n + 1, v5, w6 =>
    if ((wI w2 282 o) : Int32) ≤ v5 then
      some w6
    else
      if wJ w6 0 (wJ w2 281 o) = 12 then
      if vR v5 (wJ w6 1 (wJ w2 281 o)) then
      bs (sB w6 (wJ w2 281 o) v5.toNatClampNeg 0) (fun (w10 : CS) =>
      x_Jx4a65c_clear_da8c8_L1 o w2 n (v5 + 1) w10)
      else none
      else none
def x_Jx4a65c_clear_da8c8 (o : Nat) (w : CS) : Option (CS) :=
  if wJ w 0 o = 7 then
  bs (sI w 280 o ((wI w 280 o) + 1)) (fun (w2 : CS) =>
  if wJ w2 0 o = 7 then
  bs (sI w2 282 o 0) (fun (w4 : CS) =>
  bd (x_Jx4a65c_clear_da8c8_L1 o w2 FU 0 w4) (fun (w11 : CS) =>
  some (w11)))
  else none)
  else none

def x_Jx4a65c_fastRemove_b59b0 (o : Nat) (p0 : Nat) (p1 : Int32) (w : CS) : Option (CS) :=
  if wJ w 0 o = 7 then
  bs (sI w 280 o ((wI w 280 o) + 1)) (fun (w2 : CS) =>
  if wJ w2 0 o = 7 then
  bd (
    if (((wI w2 282 o) - 1) : Int32) ≤ p1 then
      some w2
    else
      if wJ w2 0 p0 = 12 then
      if ¬ (p1 + 1) < 0 then
      if ¬ p1 < 0 then
      if ¬ (((wI w2 282 o) - 1) - p1) < 0 then
      if (p1 + 1).toNatClampNeg + (((wI w2 282 o) - 1) - p1).toNatClampNeg ≤ wJ w2 1 p0 then
      if p1.toNatClampNeg + (((wI w2 282 o) - 1) - p1).toNatClampNeg ≤ wJ w2 1 p0 then
      if ∀ i, i < (((wI w2 282 o) - 1) - p1).toNatClampNeg → wB w2 p0 ((p1 + 1).toNatClampNeg + i) = 0 ∨ oK (wJ w2 0 (wB w2 p0 ((p1 + 1).toNatClampNeg + i))) then
      bs (cpB w2 p0 p0 (p1 + 1).toNatClampNeg p1.toNatClampNeg (((wI w2 282 o) - 1) - p1).toNatClampNeg) (fun (w12 : CS) =>
      some w12)
      else none
      else none
      else none
      else none
      else none
      else none
      else none) (fun (w13 : CS) =>
  if wJ w13 0 o = 7 then
  bs (sI w13 282 o ((wI w2 282 o) - 1)) (fun (w15 : CS) =>
  if wJ w15 0 p0 = 12 then
  if vR ((wI w2 282 o) - 1) (wJ w15 1 p0) then
  bs (sB w15 p0 ((wI w2 282 o) - 1).toNatClampNeg 0) (fun (w18 : CS) =>
  some (w18))
  else none
  else none)
  else none)
  else none)
  else none

def x_Jx4a65c_remove_915e3 (o : Nat) (p0 : Int32) (w : CS) : Option (Nat × CS) :=
  if wJ w 0 o = 7 then
  bd (x_J15_checkIndex_7cf53 p0 (wI w 282 o)) (fun (v3 : Int32) =>
  if wJ w 0 (wJ w 281 o) = 12 then
  if vR p0 (wJ w 1 (wJ w 281 o)) then
  bd (x_Jx4a65c_fastRemove_b59b0 o (wJ w 281 o) p0 w) (fun (w7 : CS) =>
  some (((wB w (wJ w 281 o) p0.toNatClampNeg), w7)))
  else none
  else none)
  else none

def x_X1_isLetter (p0 : Int32) : Option (Int32) :=
  bd (
    l0 (
      if (p0 : Int32) < 1 then
        some (.inl ())
      else
        if (26 : Int32) < p0 then
          some (.inl ())
        else
          some (.inr ((1 : Int32)))) (fun (_ : Unit) =>
    some (0 : Int32))) (fun (v4 : Int32) =>
  if isB v4 then
  some (v4)
  else none)

def x_X1_isText (p0 : Int32) : Option (Int32) :=
  bd (
    l0 (
      if (((p0 / 100) - (p0 / 100) / 100 * 100) : Int32) = 0 then
        if (((p0 / 100) / 100) : Int32) = 0 then
          some (.inr ((1 : Int32)))
        else
          some (.inl ())
      else
        some (.inl ())) (fun (_ : Unit) =>
    some (0 : Int32))) (fun (v4 : Int32) =>
  bd (x_X1_isLetter (p0 - p0 / 100 * 100)) (fun (v6 : Int32) =>
  bd (
    l0 (
      if (v6 : Int32) = 0 then
        some (.inl ())
      else
        bd (x_X1_isLetter ((p0 / 100) - (p0 / 100) / 100 * 100)) (fun (v9 : Int32) =>
        l0 (
          if (v9 : Int32) = 0 then
            if (v4 : Int32) = 0 then
              some (.inr (.inl ()))
            else
              some (.inl ())
          else
            some (.inl ())) (fun (_ : Unit) =>
        bd (x_X1_isLetter ((p0 / 100) / 100)) (fun (v13 : Int32) =>
        l0 (
          if (v13 : Int32) = 0 then
            if (((p0 / 100) / 100) : Int32) = 0 then
              some (.inl ())
            else
              some (.inr (.inl ()))
          else
            some (.inl ())) (fun (_ : Unit) =>
        some (.inr ((1 : Int32)))))))) (fun (_ : Unit) =>
    some (0 : Int32))) (fun (v19 : Int32) =>
  if isB v19 then
  some (v19)
  else none)))

def x_X1_isKey (p0 : Int32) : Option (Int32) :=
  l0 (
    if (p0 : Int32) < 0 then
      some (.inl ())
    else
      if (p0 : Int32) < 4000000 then
        if ((p0 / 1000000) : Int32) = 2 then
          bd (x_X1_isText (p0 - p0 / 1000000 * 1000000)) (fun (v11 : Int32) =>
          if isB v11 then
          some (.inr (v11))
          else none)
        else
          bd (
            l0 (
              if ((p0 / 1000000) : Int32) = 3 then
                some (.inl ())
              else
                if (999 : Int32) < (p0 - p0 / 1000000 * 1000000) then
                  some (.inr ((0 : Int32)))
                else
                  some (.inl ())) (fun (_ : Unit) =>
            some (1 : Int32))) (fun (v7 : Int32) =>
          if isB v7 then
          some (.inr (v7))
          else none)
      else
        some (.inl ())) (fun (_ : Unit) =>
  if isB 0 then
  some ((0 : Int32))
  else none)

def x_X1_rank (p0 : Int32) : Option (Int32) :=
  if ((p0 / 1000000) : Int32) = 2 then
    bd (
      if (100 : Int32) ≤ (p0 - p0 / 1000000 * 1000000) then
        some (p0 - p0 / 1000000 * 1000000)
      else
        some ((p0 - p0 / 1000000 * 1000000) * 100)) (fun (v3 : Int32) =>
    bd (
      if (10000 : Int32) ≤ v3 then
        some v3
      else
        some (v3 * 100)) (fun (v5 : Int32) =>
    some ((2000000 + v5))))
  else
    some (p0)

def x_X4_isInside (o : Nat) (w : CS) : Option (Int32) :=
  if wJ w 0 o = 4 then
  bd (
    l0 (
      if ((wI w 160 o) : Int32) = 1 then
        some (.inl ())
      else
        if ((wI w 160 o) : Int32) = 2 then
          some (.inl ())
        else
          some (.inr ((0 : Int32)))) (fun (_ : Unit) =>
    some (1 : Int32))) (fun (v5 : Int32) =>
  if isB v5 then
  some (v5)
  else none)
  else none

def x_X5_init (o : Nat) (p0 : Nat) (p1 : Int32) (p2 : Int32) (w : CS) : Option (CS) :=
  if wJ w 0 o = 2 then
  bs (sI w 83 o 0) (fun (w2 : CS) =>
  if wJ w2 0 o = 2 then
  bs (sJ w2 80 o p0) (fun (w4 : CS) =>
  if wJ w4 0 o = 2 then
  bs (sI w4 82 o p1) (fun (w6 : CS) =>
  if wJ w6 0 o = 2 then
  if isB p2 then
  bs (sI w6 81 o p2) (fun (w9 : CS) =>
  some (w9))
  else none
  else none)
  else none)
  else none)
  else none

def x_X5_isPending (o : Nat) (w : CS) : Option (Int32) :=
  if wJ w 0 o = 2 then
  bd (
    l0 (
      if ((wI w 83 o) : Int32) = 0 then
        some (.inl ())
      else
        if ((wI w 83 o) : Int32) = 1 then
          some (.inl ())
        else
          some (.inr ((0 : Int32)))) (fun (_ : Unit) =>
    some (1 : Int32))) (fun (v5 : Int32) =>
  if isB v5 then
  some (v5)
  else none)
  else none

def x_X5_hasInScope (o : Nat) (p0 : Int32) (w : CS) : Option (Int32) :=
  if wJ w 0 o = 2 then
  bd (
    if ((((wI w 82 o) >>> (p0 &&& 31)) &&& 1) : Int32) = 1 then
      some (1 : Int32)
    else
      some (0 : Int32)) (fun (v3 : Int32) =>
  if isB v3 then
  some (v3)
  else none)
  else none

def x_X5_conflictsWith (o : Nat) (p0 : Nat) (w : CS) : Option (Int32) :=
  if wJ w 0 o = 2 then
  if wJ w 0 p0 = 2 then
  bd (
    l0 (
      if (((wI w 82 o) &&& (wI w 82 p0)) : Int32) = 0 then
        some (.inl ())
      else
        l0 (
          if ((wI w 81 o) : Int32) = 0 then
            if ((wI w 81 p0) : Int32) = 0 then
              some (.inr (.inl ()))
            else
              some (.inl ())
          else
            some (.inl ())) (fun (_ : Unit) =>
        some (.inr ((1 : Int32))))) (fun (_ : Unit) =>
    some (0 : Int32))) (fun (v8 : Int32) =>
  if isB v8 then
  some (v8)
  else none)
  else none
  else none

def x_X2_init (o : Nat) (p0 : Int32) (p1 : Int32) (p2 : Int32) (p3 : Int32) (w : CS) : Option (CS) :=
  if wJ w 0 o = 1 then
  bs (sI w 40 o p0) (fun (w2 : CS) =>
  if wJ w2 0 o = 1 then
  bs (sI w2 41 o p1) (fun (w4 : CS) =>
  if wJ w4 0 o = 1 then
  bs (sI w4 42 o p2) (fun (w6 : CS) =>
  if wJ w6 0 o = 1 then
  bs (sI w6 43 o p3) (fun (w8 : CS) =>
  some (w8))
  else none)
  else none)
  else none)
  else none

def x_X2_number (o : Nat) (p0 : Int32) (w : CS) : Option (Int32) :=
  bd (
    if (p0 : Int32) = 0 then
      if wJ w 0 o = 1 then
      some (wI w 42 o)
      else none
    else
      if wJ w 0 o = 1 then
      some (wI w 43 o)
      else none) (fun (v4 : Int32) =>
  some (v4))

def x_X2_isBetween (o : Nat) (p0 : Int32) (p1 : Int32) (w : CS) : Option (Int32) :=
  if wJ w 0 o = 1 then
  bd (x_X1_rank (wI w 40 o)) (fun (v3 : Int32) =>
  bd (x_X1_rank p0) (fun (v5 : Int32) =>
  bd (
    l0 (
      if (v3 : Int32) < v5 then
        some (.inl ())
      else
        bd (x_X1_rank p1) (fun (v8 : Int32) =>
        if (v8 : Int32) < v3 then
          some (.inl ())
        else
          some (.inr ((1 : Int32))))) (fun (_ : Unit) =>
    some (0 : Int32))) (fun (v11 : Int32) =>
  if isB v11 then
  some (v11)
  else none)))
  else none

def x_X2_place (o : Nat) (p0 : Int32) (w : CS) : Option (Int64) :=
  if (p0 : Int32) = (-1) then
    if wJ w 0 o = 1 then
    bd (x_X1_rank (wI w 40 o)) (fun (v12 : Int32) =>
    some (v12.toInt64))
    else none
  else
    if wJ w 0 o = 1 then
    bd (x_X2_number o p0 w) (fun (v4 : Int32) =>
    bd (
      if (v4 : Int32) = (-1) then
        some ((-1) : Int64)
      else
        bd (x_X1_rank (wI w 40 o)) (fun (v7 : Int32) =>
        some ((v4.toInt64 * 4000000) + v7.toInt64))) (fun (v8 : Int64) =>
    some (v8)))
    else none

def x_X2_startOfNumber (p0 : Int64) : Option (Int64) :=
  some ((p0 - (p0 - p0 / 4000000 * 4000000)))

def x_X3_size (o : Nat) (w : CS) : Option (Int32) :=
  if wJ w 0 o = 5 then
  if wJ w 0 (wJ w 202 o) = 7 then
  bd (x_Jx4a65c_size_8abf5 (wJ w 202 o) w) (fun (v4 : Int32) =>
  some (v4))
  else none
  else none

def x_X3_wipe_L1 (o : Nat) : Nat → Int32 → CS → Option (CS)
  | 0, _, _ => none
  | n + 1, v8, w9 =>
    if wJ w9 0 o = 5 then
    if wJ w9 0 (wJ w9 201 o) = 8 then
    if ((nI (wJ w9 1 (wJ w9 201 o))) : Int32) ≤ v8 then
      some w9
    else
      if vR v8 (wJ w9 1 (wJ w9 201 o)) then
      bs (sA w9 (wJ w9 201 o) v8.toNatClampNeg 0) (fun (w14 : CS) =>
      x_X3_wipe_L1 o n (v8 + 1) w14)
      else none
    else none
    else none
def x_X3_wipe (o : Nat) (w : CS) : Option (CS) :=
  if wJ w 0 o = 5 then
  if isB 0 then
  bs (sI w 200 o 0) (fun (w3 : CS) =>
  if wJ w3 0 o = 5 then
  if wJ w3 0 (wJ w3 202 o) = 7 then
  bd (x_Jx4a65c_clear_da8c8 (wJ w3 202 o) w3) (fun (w7 : CS) =>
  bd (x_X3_wipe_L1 o FU 0 w7) (fun (w15 : CS) =>
  some (w15)))
  else none
  else none)
  else none
  else none

def x_X3_takeOver_L1 (o : Nat) (p0 : Nat) : Nat → Int32 → CS → Option (CS)
  | 0, _, _ => none
  | n + 1, v5, w6 =>
    if wJ w6 0 o = 5 then
    if wJ w6 0 (wJ w6 201 o) = 8 then
    if ((nI (wJ w6 1 (wJ w6 201 o))) : Int32) ≤ v5 then
      some w6
    else
      if wJ w6 0 p0 = 5 then
      if wJ w6 0 (wJ w6 201 p0) = 8 then
      if ((nI (wJ w6 1 (wJ w6 201 p0))) : Int32) ≤ v5 then
        some w6
      else
        if vR v5 (wJ w6 1 (wJ w6 201 p0)) then
        if vR v5 (wJ w6 1 (wJ w6 201 o)) then
        bs (sA w6 (wJ w6 201 o) v5.toNatClampNeg (wA w6 (wJ w6 201 p0) v5.toNatClampNeg)) (fun (w15 : CS) =>
        x_X3_takeOver_L1 o p0 n (v5 + 1) w15)
        else none
        else none
      else none
      else none
    else none
    else none
def x_X3_takeOver_L2 (o : Nat) (p0 : Nat) : Nat → Int32 → CS → Option (CS)
  | 0, _, _ => none
  | n + 1, v21, w22 =>
    if wJ w22 0 p0 = 5 then
    if wJ w22 0 (wJ w22 202 p0) = 7 then
    bd (x_Jx4a65c_size_8abf5 (wJ w22 202 p0) w22) (fun (v26 : Int32) =>
    if (v26 : Int32) ≤ v21 then
      some w22
    else
      if wJ w22 0 o = 5 then
      bd (x_Jx4a65c_get_915e3 (wJ w22 202 p0) v21 w22) (fun (v30 : Nat) =>
      if v30 = 0 ∨ wJ w22 0 v30 = 1 then
      if wJ w22 0 (wJ w22 202 o) = 7 then
      b2 (x_Jx4a65c_add_9ea2d (wJ w22 202 o) v30 w22) (fun (v34 : Int32) (w35 : CS) =>
      x_X3_takeOver_L2 o p0 n (v21 + 1) w35)
      else none
      else none)
      else none)
    else none
    else none
def x_X3_takeOver (o : Nat) (p0 : Nat) (w : CS) : Option (CS) :=
  if wJ w 0 p0 = 5 then
  if wJ w 0 o = 5 then
  if isB (wI w 200 p0) then
  bs (sI w 200 o (wI w 200 p0)) (fun (w4 : CS) =>
  bd (x_X3_takeOver_L1 o p0 FU 0 w4) (fun (w16 : CS) =>
  if wJ w16 0 o = 5 then
  if wJ w16 0 (wJ w16 202 o) = 7 then
  bd (x_Jx4a65c_clear_da8c8 (wJ w16 202 o) w16) (fun (w20 : CS) =>
  bd (x_X3_takeOver_L2 o p0 FU 0 w20) (fun (w36 : CS) =>
  some (w36)))
  else none
  else none))
  else none
  else none
  else none

def x_X3_hasIndex (o : Nat) (p0 : Int32) (w : CS) : Option (Int32) :=
  bd (
    l0 (
      if (p0 : Int32) < 0 then
        some (.inl ())
      else
        if wJ w 0 o = 5 then
        if wJ w 0 (wJ w 201 o) = 8 then
        if ((nI (wJ w 1 (wJ w 201 o))) : Int32) ≤ p0 then
          some (.inl ())
        else
          if vR p0 (wJ w 1 (wJ w 201 o)) then
          if ((wA w (wJ w 201 o) p0.toNatClampNeg) : Int32) = 0 then
            some (.inl ())
          else
            some (.inr ((1 : Int32)))
          else none
        else none
        else none) (fun (_ : Unit) =>
    some (0 : Int32))) (fun (v8 : Int32) =>
  if isB v8 then
  some (v8)
  else none)

def x_X3_addIndex (o : Nat) (p0 : Int32) (p1 : Int32) (w : CS) : Option (CS) :=
  bd (
    if (p0 : Int32) < 0 then
      some w
    else
      if wJ w 0 o = 5 then
      if wJ w 0 (wJ w 201 o) = 8 then
      if ((nI (wJ w 1 (wJ w 201 o))) : Int32) ≤ p0 then
        some w
      else
        bd (
          if (p1 : Int32) = 0 then
            some (1 : Int32)
          else
            some (2 : Int32)) (fun (v6 : Int32) =>
        if vR p0 (wJ w 1 (wJ w 201 o)) then
        bs (sA w (wJ w 201 o) p0.toNatClampNeg v6) (fun (w8 : CS) =>
        some w8)
        else none)
      else none
      else none) (fun (w10 : CS) =>
  some (w10))

def x_X3_isTaken_L1 (o : Nat) (p0 : Int32) (p1 : Nat) (v3 : Int32) (w : CS) : Nat → Int32 → Option ((Unit) ⊕ (Int32))
  | 0, _ => none
  | n + 1, v5 =>
    if wJ w 0 o = 5 then
    if wJ w 0 (wJ w 202 o) = 7 then
    bd (x_Jx4a65c_size_8abf5 (wJ w 202 o) w) (fun (v9 : Int32) =>
    if (v9 : Int32) ≤ v5 then
      some (.inl ())
    else
      bd (x_Jx4a65c_get_915e3 (wJ w 202 o) v5 w) (fun (v12 : Nat) =>
      if v12 = 0 ∨ wJ w 0 v12 = 1 then
      if wJ w 0 v12 = 1 then
      l0 (
        if ((wI w 40 v12) : Int32) = (wI w 40 p1) then
          some (.inl ())
        else
          bd (x_X2_number v12 p0 w) (fun (v17 : Int32) =>
          if (v17 : Int32) = v3 then
            if isB 1 then
            some (.inr (.inr ((1 : Int32))))
            else none
          else
            some (.inl ()))) (fun (_ : Unit) =>
      x_X3_isTaken_L1 o p0 p1 v3 w n (v5 + 1))
      else none
      else none))
    else none
    else none
def x_X3_isTaken (o : Nat) (p0 : Int32) (p1 : Nat) (w : CS) : Option (Int32) :=
  if wJ w 0 p1 = 1 then
  bd (x_X2_number p1 p0 w) (fun (v3 : Int32) =>
  if (v3 : Int32) = (-1) then
    if isB 0 then
    some ((0 : Int32))
    else none
  else
    l0 (x_X3_isTaken_L1 o p0 p1 v3 w FU 0) (fun (_ : Unit) =>
    if isB 0 then
    some ((0 : Int32))
    else none))
  else none

def x_X3_hasDoubles_L1 (o : Nat) (p0 : Int32) (w : CS) : Nat → Int32 → Option ((Unit) ⊕ (Int32))
  | 0, _ => none
  | n + 1, v1 =>
    if wJ w 0 o = 5 then
    if wJ w 0 (wJ w 202 o) = 7 then
    bd (x_Jx4a65c_size_8abf5 (wJ w 202 o) w) (fun (v5 : Int32) =>
    if (v5 : Int32) ≤ v1 then
      some (.inl ())
    else
      bd (x_Jx4a65c_get_915e3 (wJ w 202 o) v1 w) (fun (v8 : Nat) =>
      if v8 = 0 ∨ wJ w 0 v8 = 1 then
      bd (x_X3_isTaken o p0 v8 w) (fun (v11 : Int32) =>
      if (v11 : Int32) = 0 then
        x_X3_hasDoubles_L1 o p0 w n (v1 + 1)
      else
        if isB 1 then
        some (.inr ((1 : Int32)))
        else none)
      else none))
    else none
    else none
def x_X3_hasDoubles (o : Nat) (p0 : Int32) (w : CS) : Option (Int32) :=
  l0 (x_X3_hasDoubles_L1 o p0 w FU 0) (fun (_ : Unit) =>
  if isB 0 then
  some ((0 : Int32))
  else none)

def x_X3_clashes_L1 (o : Nat) (p0 : Nat) (w : CS) : Nat → Int32 → Option ((Unit) ⊕ (Int32))
  | 0, _ => none
  | n + 1, v1 =>
    if wJ w 0 o = 5 then
    if wJ w 0 (wJ w 201 o) = 8 then
    if ((nI (wJ w 1 (wJ w 201 o))) : Int32) ≤ v1 then
      some (.inl ())
    else
      if vR v1 (wJ w 1 (wJ w 201 o)) then
      l0 (
        if ((wA w (wJ w 201 o) v1.toNatClampNeg) : Int32) = 2 then
          bd (x_X3_isTaken o v1 p0 w) (fun (v8 : Int32) =>
          if (v8 : Int32) = 0 then
            some (.inl ())
          else
            if isB 1 then
            some (.inr (.inr ((1 : Int32))))
            else none)
        else
          some (.inl ())) (fun (_ : Unit) =>
      x_X3_clashes_L1 o p0 w n (v1 + 1))
      else none
    else none
    else none
def x_X3_clashes (o : Nat) (p0 : Nat) (w : CS) : Option (Int32) :=
  l0 (x_X3_clashes_L1 o p0 w FU 0) (fun (_ : Unit) =>
  if isB 0 then
  some ((0 : Int32))
  else none)

def x_X3_find_L1 (o : Nat) (p0 : Int32) (w : CS) : Nat → Int32 → Option ((Unit) ⊕ (Nat))
  | 0, _ => none
  | n + 1, v1 =>
    if wJ w 0 o = 5 then
    if wJ w 0 (wJ w 202 o) = 7 then
    bd (x_Jx4a65c_size_8abf5 (wJ w 202 o) w) (fun (v5 : Int32) =>
    if (v5 : Int32) ≤ v1 then
      some (.inl ())
    else
      bd (x_Jx4a65c_get_915e3 (wJ w 202 o) v1 w) (fun (v8 : Nat) =>
      if v8 = 0 ∨ wJ w 0 v8 = 1 then
      if wJ w 0 v8 = 1 then
      if ((wI w 40 v8) : Int32) = p0 then
        some (.inr (v8))
      else
        x_X3_find_L1 o p0 w n (v1 + 1)
      else none
      else none))
    else none
    else none
def x_X3_find (o : Nat) (p0 : Int32) (w : CS) : Option (Nat) :=
  l0 (x_X3_find_L1 o p0 w FU 0) (fun (_ : Unit) =>
  some ((0 : Nat)))

def x_X3_set_L1 (o : Nat) (p0 : Nat) (w : CS) : Nat → Int32 → Option ((Unit) ⊕ (CS))
  | 0, _ => none
  | n + 1, v1 =>
    if wJ w 0 o = 5 then
    if wJ w 0 (wJ w 202 o) = 7 then
    bd (x_Jx4a65c_size_8abf5 (wJ w 202 o) w) (fun (v5 : Int32) =>
    if (v5 : Int32) ≤ v1 then
      some (.inl ())
    else
      bd (x_Jx4a65c_get_915e3 (wJ w 202 o) v1 w) (fun (v8 : Nat) =>
      if v8 = 0 ∨ wJ w 0 v8 = 1 then
      if wJ w 0 v8 = 1 then
      if wJ w 0 p0 = 1 then
      if ((wI w 40 v8) : Int32) = (wI w 40 p0) then
        b2 (x_Jx4a65c_set_bcc79 (wJ w 202 o) v1 p0 w) (fun (v14 : Nat) (w15 : CS) =>
        some (.inr (w15)))
      else
        x_X3_set_L1 o p0 w n (v1 + 1)
      else none
      else none
      else none))
    else none
    else none
def x_X3_set (o : Nat) (p0 : Nat) (w : CS) : Option (CS) :=
  l0 (x_X3_set_L1 o p0 w FU 0) (fun (_ : Unit) =>
  if wJ w 0 o = 5 then
  if wJ w 0 (wJ w 202 o) = 7 then
  b2 (x_Jx4a65c_add_9ea2d (wJ w 202 o) p0 w) (fun (v19 : Int32) (w20 : CS) =>
  some (w20))
  else none
  else none)

def x_X3_countBetween_L1 (o : Nat) (p0 : Int32) (p1 : Int32) (w : CS) : Nat → Int32 → Int32 → Option (Int32)
  | 0, _, _ => none
  | n + 1, v1, v2 =>
    if wJ w 0 o = 5 then
    if wJ w 0 (wJ w 202 o) = 7 then
    bd (x_Jx4a65c_size_8abf5 (wJ w 202 o) w) (fun (v6 : Int32) =>
    if (v6 : Int32) ≤ v1 then
      some v2
    else
      bd (x_Jx4a65c_get_915e3 (wJ w 202 o) v1 w) (fun (v9 : Nat) =>
      if v9 = 0 ∨ wJ w 0 v9 = 1 then
      if wJ w 0 v9 = 1 then
      bd (x_X2_isBetween v9 p0 p1 w) (fun (v13 : Int32) =>
      bd (
        if (v13 : Int32) = 0 then
          some v2
        else
          some (v2 + 1)) (fun (v15 : Int32) =>
      x_X3_countBetween_L1 o p0 p1 w n (v1 + 1) v15))
      else none
      else none))
    else none
    else none
def x_X3_countBetween (o : Nat) (p0 : Int32) (p1 : Int32) (w : CS) : Option (Int32) :=
  bd (x_X3_countBetween_L1 o p0 p1 w FU 0 0) (fun (v17 : Int32) =>
  some (v17))

def x_X3_removeBetween_L1 (o : Nat) (p0 : Int32) (p1 : Int32) : Nat → Int32 → Int32 → CS → Option (Int32 × CS)
  | 0, _, _, _ => none
  | n + 1, v5, v6, w7 =>
    if (v5 : Int32) < 0 then
      some (v6, w7)
    else
      if wJ w7 0 o = 5 then
      if wJ w7 0 (wJ w7 202 o) = 7 then
      bd (x_Jx4a65c_get_915e3 (wJ w7 202 o) v5 w7) (fun (v12 : Nat) =>
      if v12 = 0 ∨ wJ w7 0 v12 = 1 then
      if wJ w7 0 v12 = 1 then
      bd (x_X2_isBetween v12 p0 p1 w7) (fun (v16 : Int32) =>
      b2 (
        if (v16 : Int32) = 0 then
          some (v6, w7)
        else
          b2 (x_Jx4a65c_remove_915e3 (wJ w7 202 o) v5 w7) (fun (v19 : Nat) (w20 : CS) =>
          some ((v6 + 1), w20))) (fun (v21 : Int32) (w22 : CS) =>
      x_X3_removeBetween_L1 o p0 p1 n (v5 + (-1)) v21 w22))
      else none
      else none)
      else none
      else none
def x_X3_removeBetween (o : Nat) (p0 : Int32) (p1 : Int32) (w : CS) : Option (Int32 × CS) :=
  if wJ w 0 o = 5 then
  if wJ w 0 (wJ w 202 o) = 7 then
  bd (x_Jx4a65c_size_8abf5 (wJ w 202 o) w) (fun (v4 : Int32) =>
  b2 (x_X3_removeBetween_L1 o p0 p1 FU (v4 - 1) 0 w) (fun (v24 : Int32) (w25 : CS) =>
  some ((v24, w25))))
  else none
  else none

def x_X3_firstFrom_L1 (o : Nat) (p0 : Int32) (p1 : Int64) (w : CS) : Nat → Int32 → Nat → Option (Nat)
  | 0, _, _ => none
  | n + 1, v1, v2 =>
    if wJ w 0 o = 5 then
    if wJ w 0 (wJ w 202 o) = 7 then
    bd (x_Jx4a65c_size_8abf5 (wJ w 202 o) w) (fun (v6 : Int32) =>
    if (v6 : Int32) ≤ v1 then
      some v2
    else
      bd (x_Jx4a65c_get_915e3 (wJ w 202 o) v1 w) (fun (v9 : Nat) =>
      if v9 = 0 ∨ wJ w 0 v9 = 1 then
      if wJ w 0 v9 = 1 then
      bd (x_X2_place v9 p0 w) (fun (v13 : Int64) =>
      bd (
        if ((lg_cmp v13 p1) : Int32) < 0 then
          some v2
        else
          l0 (
            if (v2 : Nat) = 0 then
              some (.inl ())
            else
              if wJ w 0 v2 = 1 then
              bd (x_X2_place v2 p0 w) (fun (v18 : Int64) =>
              if (0 : Int32) ≤ (lg_cmp v13 v18) then
                some (.inr (v2))
              else
                some (.inl ()))
              else none) (fun (_ : Unit) =>
          some v9)) (fun (v21 : Nat) =>
      x_X3_firstFrom_L1 o p0 p1 w n (v1 + 1) v21))
      else none
      else none))
    else none
    else none
def x_X3_firstFrom (o : Nat) (p0 : Int32) (p1 : Int64) (w : CS) : Option (Nat) :=
  bd (x_X3_firstFrom_L1 o p0 p1 w FU 0 0) (fun (v23 : Nat) =>
  some (v23))

def x_X3_lastBelow_L1 (o : Nat) (p0 : Int32) (p1 : Int64) (w : CS) : Nat → Int32 → Nat → Option (Nat)
  | 0, _, _ => none
  | n + 1, v1, v2 =>
    if wJ w 0 o = 5 then
    if wJ w 0 (wJ w 202 o) = 7 then
    bd (x_Jx4a65c_size_8abf5 (wJ w 202 o) w) (fun (v6 : Int32) =>
    if (v6 : Int32) ≤ v1 then
      some v2
    else
      bd (x_Jx4a65c_get_915e3 (wJ w 202 o) v1 w) (fun (v9 : Nat) =>
      if v9 = 0 ∨ wJ w 0 v9 = 1 then
      if wJ w 0 v9 = 1 then
      bd (x_X2_place v9 p0 w) (fun (v13 : Int64) =>
      bd (
        if ((lg_cmp v13 0) : Int32) < 0 then
          some v2
        else
          if (0 : Int32) ≤ (lg_cmp v13 p1) then
            some v2
          else
            l0 (
              if (v2 : Nat) = 0 then
                some (.inl ())
              else
                if wJ w 0 v2 = 1 then
                bd (x_X2_place v2 p0 w) (fun (v19 : Int64) =>
                if ((lg_cmp v13 v19) : Int32) ≤ 0 then
                  some (.inr (v2))
                else
                  some (.inl ()))
                else none) (fun (_ : Unit) =>
            some v9)) (fun (v22 : Nat) =>
      x_X3_lastBelow_L1 o p0 p1 w n (v1 + 1) v22))
      else none
      else none))
    else none
    else none
def x_X3_lastBelow (o : Nat) (p0 : Int32) (p1 : Int64) (w : CS) : Option (Nat) :=
  bd (x_X3_lastBelow_L1 o p0 p1 w FU 0 0) (fun (v24 : Nat) =>
  some (v24))

def x_X0_init (o : Nat) (p0 : Nat) (p1 : Nat) (p2 : Int32) (p3 : Int32) (w : CS) : Option (CS) :=
  if wJ w 0 o = 3 then
  bs (sI w 125 o 0) (fun (w2 : CS) =>
  if wJ w2 0 o = 3 then
  bs (sI w2 126 o 0) (fun (w4 : CS) =>
  if wJ w4 0 o = 3 then
  bs (sL w4 127 o 0) (fun (w6 : CS) =>
  if wJ w6 0 o = 3 then
  bs (sJ w6 120 o p0) (fun (w8 : CS) =>
  if wJ w8 0 o = 3 then
  bs (sJ w8 121 o p1) (fun (w10 : CS) =>
  if wJ w10 0 o = 3 then
  bs (sI w10 122 o p2) (fun (w12 : CS) =>
  bd (
    l0 (
      if (p3 : Int32) = 1 then
        some (.inl ())
      else
        if (p3 : Int32) = 3 then
          some (.inl ())
        else
          some (.inr ((0 : Int32)))) (fun (_ : Unit) =>
    some (1 : Int32))) (fun (v16 : Int32) =>
  if wJ w12 0 o = 3 then
  if isB v16 then
  bs (sI w12 123 o v16) (fun (w19 : CS) =>
  bd (
    l0 (
      if (p3 : Int32) < 2 then
        some (.inl ())
      else
        if (p2 : Int32) = (-1) then
          some (.inl ())
        else
          some (.inr ((1 : Int32)))) (fun (_ : Unit) =>
    some (0 : Int32))) (fun (v23 : Int32) =>
  if wJ w19 0 o = 3 then
  if isB v23 then
  bs (sI w19 124 o v23) (fun (w26 : CS) =>
  some (w26))
  else none
  else none))
  else none
  else none))
  else none)
  else none)
  else none)
  else none)
  else none)
  else none

def x_X0_nextForward (o : Nat) (w : CS) : Option (Nat) :=
  if wJ w 0 o = 3 then
  if ((wI w 125 o) : Int32) = 0 then
    if wJ w 0 (wJ w 121 o) = 5 then
    bd (x_X3_firstFrom (wJ w 121 o) (wI w 122 o) 0 w) (fun (v13 : Nat) =>
    some (v13))
    else none
  else
    bd (
      if ((wI w 124 o) : Int32) = 0 then
        some ((wL w 127 o) + 1)
      else
        bd (x_X2_startOfNumber (wL w 127 o)) (fun (v5 : Int64) =>
        some (v5 + 4000000))) (fun (v6 : Int64) =>
    if wJ w 0 (wJ w 121 o) = 5 then
    bd (x_X3_firstFrom (wJ w 121 o) (wI w 122 o) v6 w) (fun (v9 : Nat) =>
    some (v9))
    else none)
  else none

def x_X0_nextBackward (o : Nat) (w : CS) : Option (Nat) :=
  if wJ w 0 o = 3 then
  bd (
    if ((wI w 125 o) : Int32) = 0 then
      some (4000000000 : Int64)
    else
      bd (
        if ((wI w 124 o) : Int32) = 0 then
          some (wL w 127 o)
        else
          bd (x_X2_startOfNumber (wL w 127 o)) (fun (v5 : Int64) =>
          some v5)) (fun (v6 : Int64) =>
      some v6)) (fun (v8 : Int64) =>
  if wJ w 0 (wJ w 121 o) = 5 then
  bd (x_X3_lastBelow (wJ w 121 o) (wI w 122 o) v8 w) (fun (v11 : Nat) =>
  l0 (
    if (v11 : Nat) = 0 then
      some (.inl ())
    else
      if ((wI w 124 o) : Int32) = 0 then
        some (.inl ())
      else
        if wJ w 0 v11 = 1 then
        bd (x_X2_place v11 (wI w 122 o) w) (fun (v16 : Int64) =>
        bd (x_X2_startOfNumber v16) (fun (v18 : Int64) =>
        bd (x_X3_firstFrom (wJ w 121 o) (wI w 122 o) v18 w) (fun (v20 : Nat) =>
        some (.inr (v20)))))
        else none) (fun (_ : Unit) =>
  some (v11)))
  else none)
  else none

def x_X0_nextRow (o : Nat) (w : CS) : Option (Nat) :=
  if wJ w 0 o = 3 then
  bd (
    if ((wI w 123 o) : Int32) = 0 then
      bd (x_X0_nextForward o w) (fun (v4 : Nat) =>
      some v4)
    else
      bd (x_X0_nextBackward o w) (fun (v6 : Nat) =>
      some v6)) (fun (v7 : Nat) =>
  some (v7))
  else none

def x_X0_moveTo (o : Nat) (p0 : Nat) (w : CS) : Option (CS) :=
  bd (
    if (p0 : Nat) = 0 then
      if wJ w 0 o = 3 then
      bs (sI w 125 o 2) (fun (w13 : CS) =>
      some w13)
      else none
    else
      if wJ w 0 o = 3 then
      bs (sI w 125 o 1) (fun (w3 : CS) =>
      if wJ w3 0 p0 = 1 then
      if wJ w3 0 o = 3 then
      bs (sI w3 126 o (wI w3 40 p0)) (fun (w6 : CS) =>
      if wJ w6 0 o = 3 then
      if wJ w6 0 p0 = 1 then
      bd (x_X2_place p0 (wI w6 122 o) w6) (fun (v10 : Int64) =>
      bs (sL w6 127 o v10) (fun (w11 : CS) =>
      some w11))
      else none
      else none)
      else none
      else none)
      else none) (fun (w14 : CS) =>
  some (w14))

def x_X6_tabAt (o : Nat) (p0 : Int32) (w : CS) : Option ((Nat × CS) ⊕ (Nat)) :=
  l0 (
    if (p0 : Int32) < 0 then
      some (.inl ())
    else
      if wJ w 0 o = 6 then
      if wJ w 0 (wJ w 240 o) = 11 then
      if (p0 : Int32) < (nI (wJ w 1 (wJ w 240 o))) then
        if vR p0 (wJ w 1 (wJ w 240 o)) then
        some (.inr (.inr ((wB w (wJ w 240 o) p0.toNatClampNeg))))
        else none
      else
        some (.inl ())
      else none
      else none) (fun (_ : Unit) =>
  if 1 ≤ wl w ∧ 6 ≤ wk w then
  some (.inl (1, bump w))
  else none)

def x_X6_transactionAt (o : Nat) (p0 : Int32) (w : CS) : Option ((Nat × CS) ⊕ (Nat)) :=
  l0 (
    if (p0 : Int32) < 0 then
      some (.inl ())
    else
      if wJ w 0 o = 6 then
      if wJ w 0 (wJ w 243 o) = 7 then
      bd (x_Jx4a65c_size_8abf5 (wJ w 243 o) w) (fun (v5 : Int32) =>
      if (p0 : Int32) < v5 then
        bd (x_Jx4a65c_get_915e3 (wJ w 243 o) p0 w) (fun (v8 : Nat) =>
        if v8 = 0 ∨ wJ w 0 v8 = 2 then
        some (.inr (.inr (v8)))
        else none)
      else
        some (.inl ()))
      else none
      else none) (fun (_ : Unit) =>
  if 1 ≤ wl w ∧ 6 ≤ wk w then
  some (.inl (1, bump w))
  else none)

def x_X6_storeAt (o : Nat) (p0 : Int32) (w : CS) : Option ((Nat × CS) ⊕ (Nat)) :=
  l0 (
    if (p0 : Int32) < 0 then
      some (.inl ())
    else
      if wJ w 0 o = 6 then
      if wJ w 0 (wJ w 241 o) = 10 then
      if ((nI (wJ w 1 (wJ w 241 o))) : Int32) ≤ p0 then
        some (.inl ())
      else
        if vR p0 (wJ w 1 (wJ w 241 o)) then
        if wJ w 0 (wB w (wJ w 241 o) p0.toNatClampNeg) = 5 then
        if ((wI w 200 (wB w (wJ w 241 o) p0.toNatClampNeg)) : Int32) = 0 then
          some (.inl ())
        else
          if vR p0 (wJ w 1 (wJ w 241 o)) then
          some (.inr (.inr ((wB w (wJ w 241 o) p0.toNatClampNeg))))
          else none
        else none
        else none
      else none
      else none) (fun (_ : Unit) =>
  if 1 ≤ wl w ∧ 6 ≤ wk w then
  some (.inl (1, bump w))
  else none)

def x_X6_cursorAt (o : Nat) (p0 : Int32) (w : CS) : Option ((Nat × CS) ⊕ (Nat)) :=
  l0 (
    if (p0 : Int32) < 0 then
      some (.inl ())
    else
      if wJ w 0 o = 6 then
      if wJ w 0 (wJ w 244 o) = 7 then
      bd (x_Jx4a65c_size_8abf5 (wJ w 244 o) w) (fun (v5 : Int32) =>
      if (p0 : Int32) < v5 then
        bd (x_Jx4a65c_get_915e3 (wJ w 244 o) p0 w) (fun (v8 : Nat) =>
        if v8 = 0 ∨ wJ w 0 v8 = 3 then
        some (.inr (.inr (v8)))
        else none)
      else
        some (.inl ()))
      else none
      else none) (fun (_ : Unit) =>
  if 1 ≤ wl w ∧ 6 ≤ wk w then
  some (.inl (1, bump w))
  else none)

def x_X6_requireInRange (p0 : Int32) (p1 : Int32) (p2 : Int32) (w : CS) : Option ((Nat × CS) ⊕ (Unit)) :=
  l0 (
    if (p0 : Int32) < p1 then
      some (.inl ())
    else
      if (p0 : Int32) ≤ p2 then
        some (.inr (.inr (())))
      else
        some (.inl ())) (fun (_ : Unit) =>
  if 1 ≤ wl w ∧ 6 ≤ wk w then
  some (.inl (2, bump w))
  else none)

def x_X6_requireKey (p0 : Int32) (w : CS) : Option ((Nat × CS) ⊕ (Unit)) :=
  bd (x_X1_isKey p0) (fun (v2 : Int32) =>
  if (v2 : Int32) = 0 then
    if 1 ≤ wl w ∧ 6 ≤ wk w then
    some (.inl (2, bump w))
    else none
  else
    some (.inr (())))

def x_X6_requireUpgrade (o : Nat) (p0 : Int32) (w : CS) : Option ((Nat × CS) ⊕ (Unit)) :=
  if wJ w 0 o = 6 then
  if (p0 : Int32) = (wI w 246 o) then
    some (.inr (()))
  else
    if 1 ≤ wl w ∧ 6 ≤ wk w then
    some (.inl (3, bump w))
    else none
  else none

def x_X6_requireRunning (p0 : Nat) (w : CS) : Option ((Nat × CS) ⊕ (Unit)) :=
  if wJ w 0 p0 = 2 then
  if ((wI w 83 p0) : Int32) = 1 then
    some (.inr (()))
  else
    if 1 ≤ wl w ∧ 6 ≤ wk w then
    some (.inl (3, bump w))
    else none
  else none

def x_X6_requireReading (p0 : Nat) (p1 : Int32) (w : CS) : Option ((Nat × CS) ⊕ (Unit)) :=
  bx1 (fun e9 => .inl e9) (x_X6_requireRunning p0 w) (fun (_ : Unit) =>
  if wJ w 0 p0 = 2 then
  bd (x_X5_hasInScope p0 p1 w) (fun (v6 : Int32) =>
  if (v6 : Int32) = 0 then
    if 1 ≤ wl w ∧ 6 ≤ wk w then
    some (.inl (3, bump w))
    else none
  else
    some (.inr (())))
  else none)

def x_X6_requireWriting (p0 : Nat) (p1 : Int32) (w : CS) : Option ((Nat × CS) ⊕ (Unit)) :=
  bx1 (fun e9 => .inl e9) (x_X6_requireReading p0 p1 w) (fun (_ : Unit) =>
  if wJ w 0 p0 = 2 then
  if ((wI w 81 p0) : Int32) = 0 then
    if 1 ≤ wl w ∧ 6 ≤ wk w then
    some (.inl (3, bump w))
    else none
  else
    some (.inr (()))
  else none)

def x_X6_upgradesMustWait_L1 (o : Nat) (w : CS) : Nat → Int32 → Option ((Unit) ⊕ (Int32))
  | 0, _ => none
  | n + 1, v1 =>
    if wJ w 0 o = 6 then
    if wJ w 0 (wJ w 240 o) = 11 then
    if ((nI (wJ w 1 (wJ w 240 o))) : Int32) ≤ v1 then
      some (.inl ())
    else
      if vR v1 (wJ w 1 (wJ w 240 o)) then
      if wJ w 0 (wB w (wJ w 240 o) v1.toNatClampNeg) = 4 then
      bd (x_X4_isInside (wB w (wJ w 240 o) v1.toNatClampNeg) w) (fun (v8 : Int32) =>
      if (v8 : Int32) = 0 then
        x_X6_upgradesMustWait_L1 o w n (v1 + 1)
      else
        if isB 1 then
        some (.inr ((1 : Int32)))
        else none)
      else none
      else none
    else none
    else none
def x_X6_upgradesMustWait (o : Nat) (w : CS) : Option (Int32) :=
  l0 (x_X6_upgradesMustWait_L1 o w FU 0) (fun (_ : Unit) =>
  if isB 0 then
  some ((0 : Int32))
  else none)

def x_X6_hasRoom (o : Nat) (w : CS) : Option (Int32) :=
  if wJ w 0 o = 6 then
  if wJ w 0 (wJ w 243 o) = 7 then
  bd (x_Jx4a65c_size_8abf5 (wJ w 243 o) w) (fun (v4 : Int32) =>
  bd (
    if (60 : Int32) ≤ v4 then
      some (0 : Int32)
    else
      some (1 : Int32)) (fun (v6 : Int32) =>
  if isB v6 then
  some (v6)
  else none))
  else none
  else none

def x_X6_canOpen (o : Nat) (p0 : Nat) (p1 : Int32) (w : CS) : Option (Int32) :=
  if wJ w 0 p0 = 4 then
  l0 (
    if ((wI w 160 p0) : Int32) = 0 then
      if wJ w 0 o = 6 then
      if ((wI w 245 o) : Int32) ≤ p1 then
        if (p1 : Int32) = (wI w 245 o) then
          bd (
            if ((wI w 246 o) : Int32) = (-1) then
              some (1 : Int32)
            else
              some (0 : Int32)) (fun (v17 : Int32) =>
          if isB v17 then
          some (.inr (v17))
          else none)
        else
          bd (x_X6_hasRoom o w) (fun (v7 : Int32) =>
          bd (
            l0 (
              if (v7 : Int32) = 0 then
                bd (x_X6_upgradesMustWait o w) (fun (v10 : Int32) =>
                if (v10 : Int32) = 0 then
                  some (.inr ((0 : Int32)))
                else
                  some (.inl ()))
              else
                some (.inl ())) (fun (_ : Unit) =>
            some (1 : Int32))) (fun (v13 : Int32) =>
          if isB v13 then
          some (.inr (v13))
          else none))
      else
        some (.inl ())
      else none
    else
      some (.inl ())) (fun (_ : Unit) =>
  if isB 0 then
  some ((0 : Int32))
  else none)
  else none

def x_X6_upgradeFollows_L1 (o : Nat) (p0 : Nat) (w : CS) : Nat → Int32 → Int32 → Option ((Int32) ⊕ (Int32))
  | 0, _, _ => none
  | n + 1, v1, v2 =>
    if wJ w 0 o = 6 then
    if wJ w 0 (wJ w 240 o) = 11 then
    if ((nI (wJ w 1 (wJ w 240 o))) : Int32) ≤ v1 then
      some (.inl v2)
    else
      if vR v1 (wJ w 1 (wJ w 240 o)) then
      l0 (
        if ((wB w (wJ w 240 o) v1.toNatClampNeg) : Nat) = p0 then
          some (.inl ())
        else
          if wJ w 0 (wB w (wJ w 240 o) v1.toNatClampNeg) = 4 then
          bd (x_X4_isInside (wB w (wJ w 240 o) v1.toNatClampNeg) w) (fun (v10 : Int32) =>
          if (v10 : Int32) = 0 then
            some (.inl ())
          else
            if isB 0 then
            some (.inr (.inr ((0 : Int32))))
            else none)
          else none) (fun (_ : Unit) =>
      bd (
        if ((wB w (wJ w 240 o) v1.toNatClampNeg) : Nat) = p0 then
          some v2
        else
          if wJ w 0 (wB w (wJ w 240 o) v1.toNatClampNeg) = 4 then
          if ((wI w 160 (wB w (wJ w 240 o) v1.toNatClampNeg)) : Int32) = 3 then
            if ((wI w 161 (wB w (wJ w 240 o) v1.toNatClampNeg)) : Int32) ≤ (wI w 245 o) then
              some v2
            else
              some (1 : Int32)
          else
            some v2
          else none) (fun (v17 : Int32) =>
      x_X6_upgradeFollows_L1 o p0 w n (v1 + 1) v17))
      else none
    else none
    else none
def x_X6_upgradeFollows (o : Nat) (p0 : Nat) (w : CS) : Option (Int32) :=
  l1 (x_X6_upgradeFollows_L1 o p0 w FU 0 0) (fun (v20 : Int32) =>
  if isB v20 then
  some (v20)
  else none)

def x_X6_hasRoomAfter (o : Nat) (p0 : Nat) (w : CS) : Option (Int32) :=
  if wJ w 0 o = 6 then
  bd (x_X6_hasRoom o w) (fun (v3 : Int32) =>
  bd (
    l0 (
      if (v3 : Int32) = 0 then
        bd (x_X6_upgradeFollows o p0 w) (fun (v6 : Int32) =>
        if (v6 : Int32) = 0 then
          some (.inl ())
        else
          some (.inr ((0 : Int32))))
      else
        some (.inl ())) (fun (_ : Unit) =>
    some (1 : Int32))) (fun (v9 : Int32) =>
  if isB v9 then
  some (v9)
  else none))
  else none

def x_X6_mustWait_L1 (o : Nat) (p0 : Nat) (w : CS) : Nat → Int32 → Option ((Unit) ⊕ (Int32))
  | 0, _ => none
  | n + 1, v1 =>
    if wJ w 0 o = 6 then
    if wJ w 0 (wJ w 243 o) = 7 then
    bd (x_Jx4a65c_size_8abf5 (wJ w 243 o) w) (fun (v5 : Int32) =>
    if (v5 : Int32) ≤ v1 then
      some (.inl ())
    else
      bd (x_Jx4a65c_get_915e3 (wJ w 243 o) v1 w) (fun (v8 : Nat) =>
      if v8 = 0 ∨ wJ w 0 v8 = 2 then
      if (v8 : Nat) = p0 then
        if isB 0 then
        some (.inr ((0 : Int32)))
        else none
      else
        if wJ w 0 v8 = 2 then
        bd (x_X5_isPending v8 w) (fun (v13 : Int32) =>
        l0 (
          if (v13 : Int32) = 0 then
            some (.inl ())
          else
            bd (x_X5_conflictsWith v8 p0 w) (fun (v16 : Int32) =>
            if (v16 : Int32) = 0 then
              some (.inl ())
            else
              if isB 1 then
              some (.inr (.inr ((1 : Int32))))
              else none)) (fun (_ : Unit) =>
        x_X6_mustWait_L1 o p0 w n (v1 + 1)))
        else none
      else none))
    else none
    else none
def x_X6_mustWait (o : Nat) (p0 : Nat) (w : CS) : Option (Int32) :=
  l0 (x_X6_mustWait_L1 o p0 w FU 0) (fun (_ : Unit) =>
  if isB 0 then
  some ((0 : Int32))
  else none)

def x_X6_copyScope_L1 (p0 : Nat) (p1 : Nat) (p2 : Nat) : Nat → Int32 → CS → Option (CS)
  | 0, _, _ => none
  | n + 1, v1, w2 =>
    if wJ w2 0 p1 = 10 then
    if ((nI (wJ w2 1 p1)) : Int32) ≤ v1 then
      some w2
    else
      if wJ w2 0 p2 = 10 then
      if ((nI (wJ w2 1 p2)) : Int32) ≤ v1 then
        some w2
      else
        if wJ w2 0 p0 = 2 then
        bd (x_X5_hasInScope p0 v1 w2) (fun (v9 : Int32) =>
        bd (
          if (v9 : Int32) = 0 then
            some w2
          else
            if vR v1 (wJ w2 1 p2) then
            if vR v1 (wJ w2 1 p1) then
            if wJ w2 0 (wB w2 p2 v1.toNatClampNeg) = 5 then
            bd (x_X3_takeOver (wB w2 p2 v1.toNatClampNeg) (wB w2 p1 v1.toNatClampNeg) w2) (fun (w15 : CS) =>
            some w15)
            else none
            else none
            else none) (fun (w16 : CS) =>
        x_X6_copyScope_L1 p0 p1 p2 n (v1 + 1) w16))
        else none
      else none
    else none
def x_X6_copyScope (p0 : Nat) (p1 : Nat) (p2 : Nat) (w : CS) : Option (CS) :=
  bd (x_X6_copyScope_L1 p0 p1 p2 FU 0 w) (fun (w18 : CS) =>
  some (w18))

def x_X6_run (o : Nat) (p0 : Nat) (w : CS) : Option (CS) :=
  if wJ w 0 p0 = 2 then
  bs (sI w 83 p0 1) (fun (w2 : CS) =>
  if wJ w2 0 p0 = 2 then
  bd (
    if ((wI w2 81 p0) : Int32) = 0 then
      some w2
    else
      if wJ w2 0 o = 6 then
      bd (x_X6_copyScope p0 (wJ w2 241 o) (wJ w2 242 o) w2) (fun (w7 : CS) =>
      some w7)
      else none) (fun (w8 : CS) =>
  some (w8))
  else none)
  else none

def x_X6_giveUp (o : Nat) (p0 : Nat) (w : CS) : Option (CS) :=
  if wJ w 0 p0 = 2 then
  bd (
    if ((wI w 83 p0) : Int32) = 1 then
      if ((wI w 81 p0) : Int32) = 0 then
        some w
      else
        if wJ w 0 o = 6 then
        bd (x_X6_copyScope p0 (wJ w 242 o) (wJ w 241 o) w) (fun (w6 : CS) =>
        some w6)
        else none
    else
      some w) (fun (w7 : CS) =>
  if wJ w7 0 p0 = 2 then
  bs (sI w7 83 p0 3) (fun (w9 : CS) =>
  some (w9))
  else none)
  else none

def x_X6_runFreed_L1 (o : Nat) : Nat → Int32 → Int32 → CS → Option (Int32 × CS)
  | 0, _, _, _ => none
  | n + 1, v1, v2, w3 =>
    if wJ w3 0 o = 6 then
    if wJ w3 0 (wJ w3 243 o) = 7 then
    bd (x_Jx4a65c_size_8abf5 (wJ w3 243 o) w3) (fun (v7 : Int32) =>
    if (v7 : Int32) ≤ v1 then
      some (v2, w3)
    else
      bd (x_Jx4a65c_get_915e3 (wJ w3 243 o) v1 w3) (fun (v10 : Nat) =>
      if v10 = 0 ∨ wJ w3 0 v10 = 2 then
      if wJ w3 0 v10 = 2 then
      b2 (
        if ((wI w3 83 v10) : Int32) = 0 then
          bd (x_X6_mustWait o v10 w3) (fun (v15 : Int32) =>
          if (v15 : Int32) = 0 then
            bd (x_X6_run o v10 w3) (fun (w18 : CS) =>
            some ((v2 + 1), w18))
          else
            some (v2, w3))
        else
          some (v2, w3)) (fun (v19 : Int32) (w20 : CS) =>
      x_X6_runFreed_L1 o n (v1 + 1) v19 w20)
      else none
      else none))
    else none
    else none
def x_X6_runFreed (o : Nat) (w : CS) : Option (Int32 × CS) :=
  b2 (x_X6_runFreed_L1 o FU 0 0 w) (fun (v22 : Int32) (w23 : CS) =>
  some ((v22, w23)))

def x_X6_areThere_L1 (o : Nat) (p0 : Int32) (w : CS) : Nat → Int32 → Option ((Unit) ⊕ (Int32))
  | 0, _ => none
  | n + 1, v1 =>
    if wJ w 0 o = 6 then
    if wJ w 0 (wJ w 241 o) = 10 then
    if ((nI (wJ w 1 (wJ w 241 o))) : Int32) ≤ v1 then
      some (.inl ())
    else
      l0 (
        if (((p0 >>> (v1 &&& 31)) &&& 1) : Int32) = 1 then
          if vR v1 (wJ w 1 (wJ w 241 o)) then
          if wJ w 0 (wB w (wJ w 241 o) v1.toNatClampNeg) = 5 then
          if ((wI w 200 (wB w (wJ w 241 o) v1.toNatClampNeg)) : Int32) = 0 then
            if isB 0 then
            some (.inr (.inr ((0 : Int32))))
            else none
          else
            some (.inl ())
          else none
          else none
        else
          some (.inl ())) (fun (_ : Unit) =>
      x_X6_areThere_L1 o p0 w n (v1 + 1))
    else none
    else none
def x_X6_areThere (o : Nat) (p0 : Int32) (w : CS) : Option (Int32) :=
  l0 (x_X6_areThere_L1 o p0 w FU 0) (fun (_ : Unit) =>
  if isB 1 then
  some ((1 : Int32))
  else none)

def x_X6_rowsInAll_L1 (o : Nat) (w : CS) : Nat → Int32 → Int32 → Option (Int32)
  | 0, _, _ => none
  | n + 1, v1, v2 =>
    if wJ w 0 o = 6 then
    if wJ w 0 (wJ w 241 o) = 10 then
    if ((nI (wJ w 1 (wJ w 241 o))) : Int32) ≤ v1 then
      some v2
    else
      if vR v1 (wJ w 1 (wJ w 241 o)) then
      if wJ w 0 (wB w (wJ w 241 o) v1.toNatClampNeg) = 5 then
      bd (x_X3_size (wB w (wJ w 241 o) v1.toNatClampNeg) w) (fun (v9 : Int32) =>
      x_X6_rowsInAll_L1 o w n (v1 + 1) (v2 + v9))
      else none
      else none
    else none
    else none
def x_X6_rowsInAll (o : Nat) (w : CS) : Option (Int32) :=
  bd (x_X6_rowsInAll_L1 o w FU 0 0) (fun (v10 : Int32) =>
  some (v10))

def x_X6_firstBlocked_L1 (o : Nat) (w : CS) : Nat → Int32 → Nat → Option (Nat)
  | 0, _, _ => none
  | n + 1, v1, v2 =>
    if wJ w 0 o = 6 then
    if wJ w 0 (wJ w 240 o) = 11 then
    if ((nI (wJ w 1 (wJ w 240 o))) : Int32) ≤ v1 then
      some v2
    else
      if vR v1 (wJ w 1 (wJ w 240 o)) then
      if wJ w 0 (wB w (wJ w 240 o) v1.toNatClampNeg) = 4 then
      bd (
        if ((wI w 160 (wB w (wJ w 240 o) v1.toNatClampNeg)) : Int32) = 3 then
          l0 (
            if (v2 : Nat) = 0 then
              some (.inl ())
            else
              if wJ w 0 v2 = 4 then
              if ((wI w 162 v2) : Int32) ≤ (wI w 162 (wB w (wJ w 240 o) v1.toNatClampNeg)) then
                some (.inr (v2))
              else
                some (.inl ())
              else none) (fun (_ : Unit) =>
          some (wB w (wJ w 240 o) v1.toNatClampNeg))
        else
          some v2) (fun (v13 : Nat) =>
      x_X6_firstBlocked_L1 o w n (v1 + 1) v13)
      else none
      else none
    else none
    else none
def x_X6_firstBlocked (o : Nat) (w : CS) : Option (Nat) :=
  bd (x_X6_firstBlocked_L1 o w FU 0 0) (fun (v15 : Nat) =>
  some (v15))

def x_X6_beginUpgrade (o : Nat) (p0 : Nat) (w : CS) : Option (CS) :=
  if wJ w 0 p0 = 4 then
  bs (sI w 160 p0 2) (fun (w2 : CS) =>
  if wJ w2 0 o = 6 then
  if wJ w2 0 (wJ w2 243 o) = 7 then
  bd (x_Jx4a65c_size_8abf5 (wJ w2 243 o) w2) (fun (v6 : Int32) =>
  bs (sI w2 246 o v6) (fun (w7 : CS) =>
  if 1 ≤ wl w7 ∧ 4 ≤ wk w7 then
  bs (nw w7 2 0 4) (fun (w9 : CS) =>
  if wJ w9 0 (wz w7 + 1) = 2 then
  bd (x_X5_init (wz w7 + 1) p0 7 1 w9) (fun (w12 : CS) =>
  if wJ w12 0 o = 6 then
  if wJ w12 0 (wJ w12 243 o) = 7 then
  b2 (x_Jx4a65c_add_9ea2d (wJ w12 243 o) (wz w7 + 1) w12) (fun (v16 : Int32) (w17 : CS) =>
  if wJ w17 0 o = 6 then
  bd (x_X6_run o (wz w7 + 1) w17) (fun (w20 : CS) =>
  some (w20))
  else none)
  else none
  else none)
  else none)
  else none))
  else none
  else none)
  else none

def x_X6_beginDueUpgrade_L1 (o : Nat) : Nat → Int32 → CS → Option ((CS) ⊕ (CS))
  | 0, _, _ => none
  | n + 1, v1, w2 =>
    if wJ w2 0 o = 6 then
    if wJ w2 0 (wJ w2 240 o) = 11 then
    if ((nI (wJ w2 1 (wJ w2 240 o))) : Int32) ≤ v1 then
      some (.inl w2)
    else
      bd (x_X6_upgradesMustWait o w2) (fun (v7 : Int32) =>
      if (v7 : Int32) = 0 then
        bd (x_X6_firstBlocked o w2) (fun (v10 : Nat) =>
        if (v10 : Nat) = 0 then
          some (.inr (w2))
        else
          if wJ w2 0 v10 = 4 then
          bd (
            if ((wI w2 161 v10) : Int32) ≤ (wI w2 245 o) then
              bs (sI w2 160 v10 0) (fun (w14 : CS) =>
              some w14)
            else
              bd (x_X6_beginUpgrade o v10 w2) (fun (w16 : CS) =>
              some w16)) (fun (w17 : CS) =>
          x_X6_beginDueUpgrade_L1 o n (v1 + 1) w17)
          else none)
      else
        some (.inl w2))
    else none
    else none
def x_X6_beginDueUpgrade (o : Nat) (w : CS) : Option (CS) :=
  l1 (x_X6_beginDueUpgrade_L1 o FU 0 w) (fun (w19 : CS) =>
  some (w19))

def x_X6_leave (o : Nat) (p0 : Nat) (w : CS) : Option (CS) :=
  if wJ w 0 p0 = 4 then
  bd (
    if ((wI w 160 p0) : Int32) = 2 then
      if wJ w 0 o = 6 then
      bs (sI w 246 o (-1)) (fun (w4 : CS) =>
      some w4)
      else none
    else
      some w) (fun (w5 : CS) =>
  if wJ w5 0 p0 = 4 then
  bs (sI w5 160 p0 0) (fun (w7 : CS) =>
  if wJ w7 0 o = 6 then
  bd (x_X6_beginDueUpgrade o w7) (fun (w10 : CS) =>
  some (w10))
  else none)
  else none)
  else none

def x_X6_open (o : Nat) (p0 : Int32) (p1 : Int32) (w : CS) : Option ((Nat × CS) ⊕ (Int32 × CS)) :=
  if wJ w 0 o = 6 then
  bx1 (fun e9 => .inl e9) (x_X6_tabAt o p0 w) (fun (v3 : Nat) =>
  bx1 (fun e9 => .inl e9) (x_X6_requireInRange p1 1 100 w) (fun (_ : Unit) =>
  bd (x_X6_canOpen o v3 p1 w) (fun (v10 : Int32) =>
  if (v10 : Int32) = 0 then
    if 1 ≤ wl w ∧ 6 ≤ wk w then
    some (.inl (3, bump w))
    else none
  else
    bd (
      if (p1 : Int32) = (wI w 245 o) then
        if wJ w 0 v3 = 4 then
        bs (sI w 160 v3 1) (fun (w26 : CS) =>
        some w26)
        else none
      else
        if wJ w 0 v3 = 4 then
        bs (sI w 160 v3 3) (fun (w14 : CS) =>
        if wJ w14 0 v3 = 4 then
        bs (sI w14 161 v3 p1) (fun (w16 : CS) =>
        if wJ w16 0 o = 6 then
        if wJ w16 0 v3 = 4 then
        bs (sI w16 162 v3 (wI w16 247 o)) (fun (w19 : CS) =>
        if wJ w19 0 o = 6 then
        bs (sI w19 247 o ((wI w19 247 o) + 1)) (fun (w21 : CS) =>
        if wJ w21 0 o = 6 then
        bd (x_X6_beginDueUpgrade o w21) (fun (w24 : CS) =>
        some w24)
        else none)
        else none)
        else none
        else none)
        else none)
        else none) (fun (w27 : CS) =>
    if wJ w27 0 v3 = 4 then
    some (.inr (((wI w27 160 v3), w27)))
    else none))))
  else none

def x_X6_close_L1 (o : Nat) (v3 : Nat) : Nat → Int32 → CS → Option (CS)
  | 0, _, _ => none
  | n + 1, v14, w15 =>
    if (v14 : Int32) < 0 then
      some w15
    else
      if wJ w15 0 o = 6 then
      if wJ w15 0 (wJ w15 243 o) = 7 then
      bd (x_Jx4a65c_get_915e3 (wJ w15 243 o) v14 w15) (fun (v20 : Nat) =>
      if v20 = 0 ∨ wJ w15 0 v20 = 2 then
      if wJ w15 0 v20 = 2 then
      bd (
        if ((wJ w15 80 v20) : Nat) = v3 then
          bd (x_X5_isPending v20 w15) (fun (v25 : Int32) =>
          if (v25 : Int32) = 0 then
            some w15
          else
            bd (x_X6_giveUp o v20 w15) (fun (w28 : CS) =>
            some w28))
        else
          some w15) (fun (w29 : CS) =>
      x_X6_close_L1 o v3 n (v14 + (-1)) w29)
      else none
      else none)
      else none
      else none
def x_X6_close (o : Nat) (p0 : Int32) (w : CS) : Option ((Nat × CS) ⊕ (Int32 × CS)) :=
  if wJ w 0 o = 6 then
  bx1 (fun e9 => .inl e9) (x_X6_tabAt o p0 w) (fun (v3 : Nat) =>
  if wJ w 0 v3 = 4 then
  l0 (
    if ((wI w 160 v3) : Int32) = 0 then
      some (.inl ())
    else
      bd (x_X6_hasRoomAfter o v3 w) (fun (v9 : Int32) =>
      if (v9 : Int32) = 0 then
        some (.inl ())
      else
        if wJ w 0 (wJ w 243 o) = 7 then
        bd (x_Jx4a65c_size_8abf5 (wJ w 243 o) w) (fun (v13 : Int32) =>
        bd (x_X6_close_L1 o v3 FU (v13 - 1) w) (fun (w31 : CS) =>
        if wJ w31 0 o = 6 then
        b2 (x_X6_runFreed o w31) (fun (v34 : Int32) (w35 : CS) =>
        if wJ w35 0 o = 6 then
        bd (x_X6_leave o v3 w35) (fun (w38 : CS) =>
        some (.inr (.inr (((wI w 160 v3), w38)))))
        else none)
        else none))
        else none)) (fun (_ : Unit) =>
  if 1 ≤ wl w ∧ 6 ≤ wk w then
  some (.inl (3, bump w))
  else none)
  else none)
  else none

def x_X6_state (o : Nat) (p0 : Int32) (w : CS) : Option ((Nat × CS) ⊕ (Int32)) :=
  if wJ w 0 o = 6 then
  bx1 (fun e9 => .inl e9) (x_X6_tabAt o p0 w) (fun (v3 : Nat) =>
  if wJ w 0 v3 = 4 then
  some (.inr ((wI w 160 v3)))
  else none)
  else none

def x_X6_version (o : Nat) (w : CS) : Option (Int32) :=
  if wJ w 0 o = 6 then
  some ((wI w 245 o))
  else none

def x_X6_upgrade (o : Nat) (w : CS) : Option (Int32) :=
  if wJ w 0 o = 6 then
  some ((wI w 246 o))
  else none

def x_X6_makeStore (o : Nat) (p0 : Int32) (p1 : Int32) (w : CS) : Option ((Nat × CS) ⊕ (CS)) :=
  if wJ w 0 o = 6 then
  bx1 (fun e9 => .inl e9) (x_X6_transactionAt o p0 w) (fun (v3 : Nat) =>
  l0 (
    if (p1 : Int32) < 0 then
      some (.inl ())
    else
      if wJ w 0 (wJ w 241 o) = 10 then
      if (p1 : Int32) < (nI (wJ w 1 (wJ w 241 o))) then
        bx1 (fun e9 => .inr (.inl e9)) (x_X6_requireUpgrade o p0 w) (fun (_ : Unit) =>
        if vR p1 (wJ w 1 (wJ w 241 o)) then
        if wJ w 0 (wB w (wJ w 241 o) p1.toNatClampNeg) = 5 then
        if ((wI w 200 (wB w (wJ w 241 o) p1.toNatClampNeg)) : Int32) = 0 then
          if isB 1 then
          bs (sI w 200 (wB w (wJ w 241 o) p1.toNatClampNeg) 1) (fun (w16 : CS) =>
          some (.inr (.inr (w16))))
          else none
        else
          if 1 ≤ wl w ∧ 6 ≤ wk w then
          some (.inr (.inl (3, bump w)))
          else none
        else none
        else none)
      else
        some (.inl ())
      else none) (fun (_ : Unit) =>
  if 1 ≤ wl w ∧ 6 ≤ wk w then
  some (.inl (1, bump w))
  else none))
  else none

def x_X6_deleteStore (o : Nat) (p0 : Int32) (p1 : Int32) (w : CS) : Option ((Nat × CS) ⊕ (Int32 × CS)) :=
  if wJ w 0 o = 6 then
  bx1 (fun e9 => .inl e9) (x_X6_transactionAt o p0 w) (fun (v3 : Nat) =>
  bx1 (fun e9 => .inl e9) (x_X6_storeAt o p1 w) (fun (v7 : Nat) =>
  bx1 (fun e9 => .inl e9) (x_X6_requireUpgrade o p0 w) (fun (_ : Unit) =>
  if wJ w 0 v7 = 5 then
  bd (x_X3_size v7 w) (fun (v15 : Int32) =>
  bd (x_X3_wipe v7 w) (fun (w17 : CS) =>
  some (.inr ((v15, w17)))))
  else none)))
  else none

def x_X6_makeIndex (o : Nat) (p0 : Int32) (p1 : Int32) (p2 : Int32) (p3 : Int32) (w : CS) : Option ((Nat × CS) ⊕ (CS)) :=
  if wJ w 0 o = 6 then
  bx1 (fun e9 => .inl e9) (x_X6_transactionAt o p0 w) (fun (v3 : Nat) =>
  bx1 (fun e9 => .inl e9) (x_X6_storeAt o p1 w) (fun (v7 : Nat) =>
  l0 (
    if (p2 : Int32) < 0 then
      some (.inl ())
    else
      if (p2 : Int32) < 2 then
        bx1 (fun e9 => .inr (.inl e9)) (x_X6_requireUpgrade o p0 w) (fun (_ : Unit) =>
        if wJ w 0 v7 = 5 then
        bd (x_X3_hasIndex v7 p2 w) (fun (v17 : Int32) =>
        l0 (
          if (v17 : Int32) = 0 then
            l0 (
              if (p3 : Int32) = 0 then
                some (.inl ())
              else
                bd (x_X3_hasDoubles v7 p2 w) (fun (v21 : Int32) =>
                if (v21 : Int32) = 0 then
                  some (.inl ())
                else
                  some (.inr (.inl ())))) (fun (_ : Unit) =>
            bd (x_X3_addIndex v7 p2 p3 w) (fun (w24 : CS) =>
            some (.inr (.inr (.inr (w24))))))
          else
            some (.inl ())) (fun (_ : Unit) =>
        if 1 ≤ wl w ∧ 6 ≤ wk w then
        some (.inr (.inl (3, bump w)))
        else none))
        else none)
      else
        some (.inl ())) (fun (_ : Unit) =>
  if 1 ≤ wl w ∧ 6 ≤ wk w then
  some (.inl (1, bump w))
  else none)))
  else none

def x_X6_begin (o : Nat) (p0 : Int32) (p1 : Int32) (p2 : Int32) (w : CS) : Option ((Nat × CS) ⊕ (Int32 × CS)) :=
  if wJ w 0 o = 6 then
  bx1 (fun e9 => .inl e9) (x_X6_tabAt o p0 w) (fun (v3 : Nat) =>
  l0 (
    if (p1 : Int32) < 1 then
      some (.inl ())
    else
      if (7 : Int32) < p1 then
        some (.inl ())
      else
        bd (x_X6_areThere o p1 w) (fun (v9 : Int32) =>
        if (v9 : Int32) = 0 then
          if 1 ≤ wl w ∧ 6 ≤ wk w then
          some (.inr (.inl (1, bump w)))
          else none
        else
          some (.inl ()))) (fun (_ : Unit) =>
  bx1 (fun e9 => .inl e9) (x_X6_requireInRange p1 1 7 w) (fun (_ : Unit) =>
  if wJ w 0 v3 = 4 then
  l0 (
    if ((wI w 160 v3) : Int32) = 1 then
      bd (x_X6_hasRoom o w) (fun (v18 : Int32) =>
      if (v18 : Int32) = 0 then
        some (.inl ())
      else
        if wJ w 0 (wJ w 243 o) = 7 then
        bd (x_Jx4a65c_size_8abf5 (wJ w 243 o) w) (fun (v22 : Int32) =>
        if 1 ≤ wl w ∧ 4 ≤ wk w then
        bs (nw w 2 0 4) (fun (w24 : CS) =>
        if wJ w24 0 (wz w + 1) = 2 then
        bd (x_X5_init (wz w + 1) v3 p1 p2 w24) (fun (w27 : CS) =>
        if wJ w27 0 (wJ w 243 o) = 7 then
        b2 (x_Jx4a65c_add_9ea2d (wJ w 243 o) (wz w + 1) w27) (fun (v30 : Int32) (w31 : CS) =>
        if wJ w31 0 o = 6 then
        b2 (x_X6_runFreed o w31) (fun (v34 : Int32) (w35 : CS) =>
        some (.inr (.inr ((v22, w35)))))
        else none)
        else none)
        else none)
        else none)
        else none)
    else
      some (.inl ())) (fun (_ : Unit) =>
  if 1 ≤ wl w ∧ 6 ≤ wk w then
  some (.inl (3, bump w))
  else none)
  else none)))
  else none

def x_X6_standing (o : Nat) (p0 : Int32) (w : CS) : Option ((Nat × CS) ⊕ (Int32)) :=
  if wJ w 0 o = 6 then
  bx1 (fun e9 => .inl e9) (x_X6_transactionAt o p0 w) (fun (v3 : Nat) =>
  if wJ w 0 v3 = 2 then
  some (.inr ((wI w 83 v3)))
  else none)
  else none

def x_X6_commit (o : Nat) (p0 : Int32) (w : CS) : Option ((Nat × CS) ⊕ (Int32 × CS)) :=
  if wJ w 0 o = 6 then
  bx1 (fun e9 => .inl e9) (x_X6_transactionAt o p0 w) (fun (v3 : Nat) =>
  bx1 (fun e9 => .inl e9) (x_X6_requireRunning v3 w) (fun (_ : Unit) =>
  if wJ w 0 v3 = 2 then
  bs (sI w 83 v3 2) (fun (w10 : CS) =>
  if wJ w10 0 o = 6 then
  bd (
    if (p0 : Int32) = (wI w10 246 o) then
      bs (sI w10 246 o (-1)) (fun (w13 : CS) =>
      if wJ w13 0 v3 = 2 then
      if wJ w13 0 (wJ w13 80 v3) = 4 then
      if wJ w13 0 o = 6 then
      bs (sI w13 245 o (wI w13 161 (wJ w13 80 v3))) (fun (w17 : CS) =>
      if wJ w17 0 v3 = 2 then
      if wJ w17 0 (wJ w17 80 v3) = 4 then
      bs (sI w17 160 (wJ w17 80 v3) 1) (fun (w20 : CS) =>
      some w20)
      else none
      else none)
      else none
      else none
      else none)
    else
      some w10) (fun (w21 : CS) =>
  if wJ w21 0 o = 6 then
  b2 (x_X6_runFreed o w21) (fun (v24 : Int32) (w25 : CS) =>
  some (.inr ((v24, w25))))
  else none)
  else none)
  else none))
  else none

def x_X6_abort (o : Nat) (p0 : Int32) (w : CS) : Option ((Nat × CS) ⊕ (Int32 × CS)) :=
  if wJ w 0 o = 6 then
  bx1 (fun e9 => .inl e9) (x_X6_transactionAt o p0 w) (fun (v3 : Nat) =>
  bd (
    if (p0 : Int32) = (wI w 246 o) then
      some (1 : Int32)
    else
      some (0 : Int32)) (fun (v7 : Int32) =>
  if wJ w 0 v3 = 2 then
  bd (x_X5_isPending v3 w) (fun (v10 : Int32) =>
  l0 (
    if (v10 : Int32) = 0 then
      some (.inl ())
    else
      l0 (
        if (v7 : Int32) = 0 then
          some (.inl ())
        else
          bd (x_X6_hasRoomAfter o (wJ w 80 v3) w) (fun (v14 : Int32) =>
          if (v14 : Int32) = 0 then
            some (.inr (.inl ()))
          else
            some (.inl ()))) (fun (_ : Unit) =>
      bd (x_X6_giveUp o v3 w) (fun (w17 : CS) =>
      if wJ w17 0 o = 6 then
      b2 (x_X6_runFreed o w17) (fun (v20 : Int32) (w21 : CS) =>
      bd (
        if (v7 : Int32) = 0 then
          some w21
        else
          if wJ w21 0 v3 = 2 then
          if wJ w21 0 o = 6 then
          bd (x_X6_leave o (wJ w21 80 v3) w21) (fun (w26 : CS) =>
          some w26)
          else none
          else none) (fun (w27 : CS) =>
      some (.inr (.inr ((v20, w27))))))
      else none))) (fun (_ : Unit) =>
  if 1 ≤ wl w ∧ 6 ≤ wk w then
  some (.inl (3, bump w))
  else none))
  else none))
  else none

def x_X6_put (o : Nat) (p0 : Int32) (p1 : Int32) (p2 : Int32) (p3 : Int32) (p4 : Int32) (p5 : Int32) (w : CS) : Option ((Nat × CS) ⊕ (Int32 × CS)) :=
  if wJ w 0 o = 6 then
  bx1 (fun e9 => .inl e9) (x_X6_transactionAt o p0 w) (fun (v3 : Nat) =>
  bx1 (fun e9 => .inl e9) (x_X6_storeAt o p1 w) (fun (v7 : Nat) =>
  bx1 (fun e9 => .inl e9) (x_X6_requireKey p2 w) (fun (_ : Unit) =>
  bx1 (fun e9 => .inl e9) (x_X6_requireInRange p3 0 9999 w) (fun (_ : Unit) =>
  bx1 (fun e9 => .inl e9) (x_X6_requireInRange p4 (-1) 999 w) (fun (_ : Unit) =>
  bx1 (fun e9 => .inl e9) (x_X6_requireInRange p5 (-1) 999 w) (fun (_ : Unit) =>
  bx1 (fun e9 => .inl e9) (x_X6_requireWriting v3 p1 w) (fun (_ : Unit) =>
  if 1 ≤ wl w ∧ 4 ≤ wk w then
  bs (nw w 1 0 4) (fun (w26 : CS) =>
  if wJ w26 0 (wz w + 1) = 1 then
  bd (x_X2_init (wz w + 1) p2 p3 p4 p5 w26) (fun (w29 : CS) =>
  if wJ w29 0 v7 = 5 then
  bd (x_X3_find v7 p2 w29) (fun (v32 : Nat) =>
  bd (
    if (v32 : Nat) = 0 then
      some (1 : Int32)
    else
      some (0 : Int32)) (fun (v34 : Int32) =>
  bd (x_X3_clashes v7 (wz w + 1) w29) (fun (v36 : Int32) =>
  l0 (
    if (v36 : Int32) = 0 then
      l0 (
        if (v34 : Int32) = 0 then
          some (.inl ())
        else
          if wJ w29 0 o = 6 then
          bd (x_X6_rowsInAll o w29) (fun (v41 : Int32) =>
          if (v41 : Int32) < 40 then
            some (.inl ())
          else
            some (.inr (.inl ())))
          else none) (fun (_ : Unit) =>
      bd (x_X3_set v7 (wz w + 1) w29) (fun (w44 : CS) =>
      if isB v34 then
      some (.inr (.inr ((v34, w44))))
      else none))
    else
      some (.inl ())) (fun (_ : Unit) =>
  if 1 ≤ wl w29 ∧ 6 ≤ wk w29 then
  some (.inl (3, bump w29))
  else none))))
  else none)
  else none)
  else none)))))))
  else none

def x_X6_remove (o : Nat) (p0 : Int32) (p1 : Int32) (p2 : Int32) (p3 : Int32) (w : CS) : Option ((Nat × CS) ⊕ (Int32 × CS)) :=
  if wJ w 0 o = 6 then
  bx1 (fun e9 => .inl e9) (x_X6_transactionAt o p0 w) (fun (v3 : Nat) =>
  bx1 (fun e9 => .inl e9) (x_X6_storeAt o p1 w) (fun (v7 : Nat) =>
  bx1 (fun e9 => .inl e9) (x_X6_requireKey p2 w) (fun (_ : Unit) =>
  bx1 (fun e9 => .inl e9) (x_X6_requireKey p3 w) (fun (_ : Unit) =>
  bx1 (fun e9 => .inl e9) (x_X6_requireWriting v3 p1 w) (fun (_ : Unit) =>
  if wJ w 0 v7 = 5 then
  b2 (x_X3_removeBetween v7 p2 p3 w) (fun (v21 : Int32) (w22 : CS) =>
  some (.inr ((v21, w22))))
  else none)))))
  else none

def x_X6_get (o : Nat) (p0 : Int32) (p1 : Int32) (p2 : Int32) (w : CS) : Option ((Nat × CS) ⊕ (Int32)) :=
  if wJ w 0 o = 6 then
  bx1 (fun e9 => .inl e9) (x_X6_transactionAt o p0 w) (fun (v3 : Nat) =>
  bx1 (fun e9 => .inl e9) (x_X6_storeAt o p1 w) (fun (v7 : Nat) =>
  bx1 (fun e9 => .inl e9) (x_X6_requireKey p2 w) (fun (_ : Unit) =>
  bx1 (fun e9 => .inl e9) (x_X6_requireReading v3 p1 w) (fun (_ : Unit) =>
  if wJ w 0 v7 = 5 then
  bd (x_X3_find v7 p2 w) (fun (v18 : Nat) =>
  bd (
    if (v18 : Nat) = 0 then
      some ((-1) : Int32)
    else
      if wJ w 0 v18 = 1 then
      some (wI w 41 v18)
      else none) (fun (v21 : Int32) =>
  some (.inr (v21))))
  else none))))
  else none

def x_X6_count (o : Nat) (p0 : Int32) (p1 : Int32) (p2 : Int32) (p3 : Int32) (w : CS) : Option ((Nat × CS) ⊕ (Int32)) :=
  if wJ w 0 o = 6 then
  bx1 (fun e9 => .inl e9) (x_X6_transactionAt o p0 w) (fun (v3 : Nat) =>
  bx1 (fun e9 => .inl e9) (x_X6_storeAt o p1 w) (fun (v7 : Nat) =>
  bx1 (fun e9 => .inl e9) (x_X6_requireKey p2 w) (fun (_ : Unit) =>
  bx1 (fun e9 => .inl e9) (x_X6_requireKey p3 w) (fun (_ : Unit) =>
  bx1 (fun e9 => .inl e9) (x_X6_requireReading v3 p1 w) (fun (_ : Unit) =>
  if wJ w 0 v7 = 5 then
  bd (x_X3_countBetween v7 p2 p3 w) (fun (v21 : Int32) =>
  some (.inr (v21)))
  else none)))))
  else none

def x_X6_cursor (o : Nat) (p0 : Int32) (p1 : Int32) (p2 : Int32) (p3 : Int32) (w : CS) : Option ((Nat × CS) ⊕ (Int32 × CS)) :=
  if wJ w 0 o = 6 then
  bx1 (fun e9 => .inl e9) (x_X6_transactionAt o p0 w) (fun (v3 : Nat) =>
  bx1 (fun e9 => .inl e9) (x_X6_storeAt o p1 w) (fun (v7 : Nat) =>
  l0 (
    if (p2 : Int32) = (-1) then
      some (.inl ())
    else
      l0 (
        if (p2 : Int32) < 0 then
          some (.inl ())
        else
          if (p2 : Int32) < 2 then
            some (.inr (.inl ()))
          else
            some (.inl ())) (fun (_ : Unit) =>
      if 1 ≤ wl w ∧ 6 ≤ wk w then
      some (.inr (.inl (1, bump w)))
      else none)) (fun (_ : Unit) =>
  bx1 (fun e9 => .inl e9) (x_X6_requireInRange p3 0 3 w) (fun (_ : Unit) =>
  bx1 (fun e9 => .inl e9) (x_X6_requireReading v3 p1 w) (fun (_ : Unit) =>
  l0 (
    l0 (
      if (p2 : Int32) = (-1) then
        some (.inl ())
      else
        if wJ w 0 v7 = 5 then
        bd (x_X3_hasIndex v7 p2 w) (fun (v24 : Int32) =>
        if (v24 : Int32) = 0 then
          some (.inr (.inl ()))
        else
          some (.inl ()))
        else none) (fun (_ : Unit) =>
    if wJ w 0 (wJ w 244 o) = 7 then
    bd (x_Jx4a65c_size_8abf5 (wJ w 244 o) w) (fun (v28 : Int32) =>
    if (v28 : Int32) < 40 then
      bd (x_Jx4a65c_size_8abf5 (wJ w 244 o) w) (fun (v31 : Int32) =>
      if 1 ≤ wl w ∧ 8 ≤ wk w then
      bs (nw w 3 0 8) (fun (w33 : CS) =>
      if wJ w33 0 (wz w + 1) = 3 then
      bd (x_X0_init (wz w + 1) v3 v7 p2 p3 w33) (fun (w36 : CS) =>
      if wJ w36 0 (wJ w 244 o) = 7 then
      b2 (x_Jx4a65c_add_9ea2d (wJ w 244 o) (wz w + 1) w36) (fun (v39 : Int32) (w40 : CS) =>
      some (.inr (.inr ((v31, w40)))))
      else none)
      else none)
      else none)
    else
      some (.inl ()))
    else none)) (fun (_ : Unit) =>
  if 1 ≤ wl w ∧ 6 ≤ wk w then
  some (.inl (3, bump w))
  else none))))))
  else none

def x_X6_step (o : Nat) (p0 : Int32) (w : CS) : Option ((Nat × CS) ⊕ (Int32 × CS)) :=
  if wJ w 0 o = 6 then
  bx1 (fun e9 => .inl e9) (x_X6_cursorAt o p0 w) (fun (v3 : Nat) =>
  if wJ w 0 v3 = 3 then
  bx1 (fun e9 => .inl e9) (x_X6_requireRunning (wJ w 120 v3) w) (fun (_ : Unit) =>
  if wJ w 0 (wJ w 121 v3) = 5 then
  l0 (
    if ((wI w 200 (wJ w 121 v3)) : Int32) = 0 then
      some (.inl ())
    else
      if ((wI w 125 v3) : Int32) = 2 then
        some (.inl ())
      else
        bd (x_X0_nextRow v3 w) (fun (v14 : Nat) =>
        bd (x_X0_moveTo v3 v14 w) (fun (w16 : CS) =>
        bd (
          if (v14 : Nat) = 0 then
            some ((-1) : Int32)
          else
            if wJ w16 0 v14 = 1 then
            some (wI w16 40 v14)
            else none) (fun (v19 : Int32) =>
        some (.inr (.inr ((v19, w16)))))))) (fun (_ : Unit) =>
  if 1 ≤ wl w ∧ 6 ≤ wk w then
  some (.inl (3, bump w))
  else none)
  else none)
  else none)
  else none

def x_X6_update (o : Nat) (p0 : Int32) (p1 : Int32) (w : CS) : Option ((Nat × CS) ⊕ (Int32 × CS)) :=
  if wJ w 0 o = 6 then
  bx1 (fun e9 => .inl e9) (x_X6_cursorAt o p0 w) (fun (v3 : Nat) =>
  bx1 (fun e9 => .inl e9) (x_X6_requireInRange p1 0 9999 w) (fun (_ : Unit) =>
  if wJ w 0 v3 = 3 then
  bx1 (fun e9 => .inl e9) (x_X6_requireRunning (wJ w 120 v3) w) (fun (_ : Unit) =>
  if wJ w 0 (wJ w 120 v3) = 2 then
  l0 (
    if ((wI w 81 (wJ w 120 v3)) : Int32) = 0 then
      some (.inl ())
    else
      if ((wI w 125 v3) : Int32) = 1 then
        if wJ w 0 (wJ w 121 v3) = 5 then
        bd (x_X3_find (wJ w 121 v3) (wI w 126 v3) w) (fun (v18 : Nat) =>
        if (v18 : Nat) = 0 then
          if 1 ≤ wl w ∧ 6 ≤ wk w then
          some (.inr (.inl (3, bump w)))
          else none
        else
          if 1 ≤ wl w ∧ 4 ≤ wk w then
          bs (nw w 1 0 4) (fun (w21 : CS) =>
          if wJ w21 0 v18 = 1 then
          if wJ w21 0 (wz w + 1) = 1 then
          bd (x_X2_init (wz w + 1) (wI w21 40 v18) p1 (wI w21 42 v18) (wI w21 43 v18) w21) (fun (w25 : CS) =>
          if wJ w25 0 (wJ w 121 v3) = 5 then
          bd (x_X3_set (wJ w 121 v3) (wz w + 1) w25) (fun (w28 : CS) =>
          if wJ w28 0 v18 = 1 then
          some (.inr (.inr (((wI w28 41 v18), w28))))
          else none)
          else none)
          else none
          else none)
          else none)
        else none
      else
        some (.inl ())) (fun (_ : Unit) =>
  if 1 ≤ wl w ∧ 6 ≤ wk w then
  some (.inl (3, bump w))
  else none)
  else none)
  else none))
  else none
