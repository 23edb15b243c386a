def x_X7_isIn (p0 : Int32) (p1 : Int32) (p2 : Int32) : Option (Int32) :=
  bd (
    l0 (
      if (p0 : Int32) < p1 then
        some (.inl ())
      else
        if (p2 : Int32) < p0 then
          some (.inl ())
        else
          some (.inr ((1 : Int32)))) (fun (_ : Unit) =>
    some (0 : Int32))) (fun (v4 : Int32) =>
  if isB v4 then
  some v4
  else none)

def x_X7_fails (p0 : Int32) (t : MS) : Option (Int32 × MS) :=
  bs (ss t 31 p0) (fun (t1 : MS) =>
  bd (
    if (p0 : Int32) ≤ 0 then
      some (0 : Int32)
    else
      some (1 : Int32)) (fun (v3 : Int32) =>
  if isB v3 then
  some (v3, t1)
  else none))

def x_X7_isTab (p0 : Int32) : Option (Int32) :=
  bd (x_X7_isIn p0 0 3) (fun (v2 : Int32) =>
  if isB v2 then
  some v2
  else none)

def x_X7_isTransaction (p0 : Int32) (t : MS) : Option (Int32) :=
  bd (x_X7_isIn p0 0 ((gs t 18) - 1)) (fun (v2 : Int32) =>
  if isB v2 then
  some v2
  else none)

def x_X7_isStore (p0 : Int32) (t : MS) : Option (Int32) :=
  bd (x_X7_isIn p0 0 2) (fun (v2 : Int32) =>
  bd (
    l0 (
      if (v2 : Int32) = 0 then
        some (.inl ())
      else
        if vR p0 3 then
        if ((ga t 6 p0.toNatClampNeg) : Int32) = 0 then
          some (.inl ())
        else
          some (.inr ((1 : Int32)))
        else none) (fun (_ : Unit) =>
    some (0 : Int32))) (fun (v7 : Int32) =>
  if isB v7 then
  some v7
  else none))

def x_X7_isKey_L1 (p0 : Int32) : Nat → Int32 → Int32 → Option (Int32)
  | 0, _, _ => none
  | n + 1, v9, v10 =>
    if (v9 : Int32) ≤ 0 then
      some v10
    else
      if ((p0 / 1000000) : Int32) = 2 then
        bd (
          l0 (
            if (v10 : Int32) = 0 then
              some (.inl ())
            else
              bd (x_X7_isIn (v9 - v9 / 100 * 100) 1 26) (fun (v15 : Int32) =>
              if (v15 : Int32) = 0 then
                some (.inl ())
              else
                some (.inr ((1 : Int32))))) (fun (_ : Unit) =>
          some (0 : Int32))) (fun (v18 : Int32) =>
        x_X7_isKey_L1 p0 n (v9 / 100) v18)
      else
        some v10
def x_X7_isKey (p0 : Int32) : Option (Int32) :=
  bd (x_X7_isIn p0 0 3999999) (fun (v2 : Int32) =>
  l0 (
    if (v2 : Int32) = 0 then
      some (.inl ())
    else
      if (2 : Int32) ≤ (p0 / 1000000) then
        bd (
          l0 (
            if ((p0 / 1000000) : Int32) = 3 then
              some (.inl ())
            else
              if ((p0 - p0 / 1000000 * 1000000) : Int32) ≤ 0 then
                some (.inr ((0 : Int32)))
              else
                some (.inl ())) (fun (_ : Unit) =>
          some (1 : Int32))) (fun (v8 : Int32) =>
        bd (x_X7_isKey_L1 p0 FU (p0 - p0 / 1000000 * 1000000) v8) (fun (v20 : Int32) =>
        if isB v20 then
        some (.inr (v20))
        else none))
      else
        some (.inl ())) (fun (_ : Unit) =>
  bd (x_X7_isIn p0 0 1999999) (fun (v25 : Int32) =>
  bd (
    l0 (
      if (v25 : Int32) = 0 then
        some (.inl ())
      else
        if (1000 : Int32) ≤ (p0 - p0 / 1000000 * 1000000) then
          some (.inl ())
        else
          some (.inr ((1 : Int32)))) (fun (_ : Unit) =>
    some (0 : Int32))) (fun (v29 : Int32) =>
  if isB v29 then
  some v29
  else none))))

def x_X7_rank_L1 (p0 : Int32) : Nat → Int32 → Option (Int32)
  | 0, _ => none
  | n + 1, v1 =>
    if ((p0 / 1000000) : Int32) = 2 then
      if (10000 : Int32) ≤ v1 then
        some v1
      else
        if (v1 : Int32) ≤ 0 then
          some v1
        else
          bd (
            if (100 : Int32) ≤ v1 then
              some (v1 * 100)
            else
              some (v1 * 10000)) (fun (v6 : Int32) =>
          x_X7_rank_L1 p0 n v6)
    else
      some v1
def x_X7_rank (p0 : Int32) : Option (Int32) :=
  bd (x_X7_rank_L1 p0 FU (p0 - p0 / 1000000 * 1000000)) (fun (v8 : Int32) =>
  some (((p0 - (p0 - p0 / 1000000 * 1000000)) + v8) : Int32))

def x_X7_copies_L1 (p0 : Int32) : Nat → Int32 → MS → Option (MS)
  | 0, _, _ => none
  | n + 1, v7, t8 =>
    if (2 : Int32) ≤ v7 then
      some t8
    else
      if vR ((2 * p0) + v7) 6 then
      if vR ((2 * p0) + v7) 6 then
      bs (sa t8 13 ((2 * p0) + v7).toNatClampNeg (ga t8 7 ((2 * p0) + v7).toNatClampNeg)) (fun (t12 : MS) =>
      x_X7_copies_L1 p0 n (v7 + 1) t12)
      else none
      else none
def x_X7_copies_L2 (p0 : Int32) : Nat → Int32 → MS → Option (MS)
  | 0, _, _ => none
  | n + 1, v14, t15 =>
    if (((40 * p0) + 40) : Int32) ≤ v14 then
      some t15
    else
      if vR v14 120 then
      if vR v14 120 then
      bs (sa t15 15 v14.toNatClampNeg (ga t15 9 v14.toNatClampNeg)) (fun (t19 : MS) =>
      if vR v14 120 then
      if vR v14 120 then
      bs (sa t19 16 v14.toNatClampNeg (ga t19 10 v14.toNatClampNeg)) (fun (t22 : MS) =>
      if vR (2 * v14) 240 then
      if vR (2 * v14) 240 then
      bs (sa t22 17 (2 * v14).toNatClampNeg (ga t22 11 (2 * v14).toNatClampNeg)) (fun (t25 : MS) =>
      if vR ((2 * v14) + 1) 240 then
      if vR ((2 * v14) + 1) 240 then
      bs (sa t25 17 ((2 * v14) + 1).toNatClampNeg (ga t25 11 ((2 * v14) + 1).toNatClampNeg)) (fun (t28 : MS) =>
      x_X7_copies_L2 p0 n (v14 + 1) t28)
      else none
      else none)
      else none
      else none)
      else none
      else none)
      else none
      else none
def x_X7_copies (p0 : Int32) (t : MS) : Option (MS) :=
  if vR p0 3 then
  if vR p0 3 then
  if isB (ga t 6 p0.toNatClampNeg) then
  bs (sa t 12 p0.toNatClampNeg (ga t 6 p0.toNatClampNeg)) (fun (t3 : MS) =>
  if vR p0 3 then
  if vR p0 3 then
  bs (sa t3 14 p0.toNatClampNeg (ga t3 8 p0.toNatClampNeg)) (fun (t6 : MS) =>
  bd (x_X7_copies_L1 p0 FU 0 t6) (fun (t13 : MS) =>
  bd (x_X7_copies_L2 p0 FU (40 * p0) t13) (fun (t29 : MS) =>
  some t29)))
  else none
  else none)
  else none
  else none
  else none

def x_X7_restores_L1 (p0 : Int32) : Nat → Int32 → MS → Option (MS)
  | 0, _, _ => none
  | n + 1, v7, t8 =>
    if (2 : Int32) ≤ v7 then
      some t8
    else
      if vR ((2 * p0) + v7) 6 then
      if vR ((2 * p0) + v7) 6 then
      bs (sa t8 7 ((2 * p0) + v7).toNatClampNeg (ga t8 13 ((2 * p0) + v7).toNatClampNeg)) (fun (t12 : MS) =>
      x_X7_restores_L1 p0 n (v7 + 1) t12)
      else none
      else none
def x_X7_restores_L2 (p0 : Int32) : Nat → Int32 → MS → Option (MS)
  | 0, _, _ => none
  | n + 1, v14, t15 =>
    if (((40 * p0) + 40) : Int32) ≤ v14 then
      some t15
    else
      if vR v14 120 then
      if vR v14 120 then
      bs (sa t15 9 v14.toNatClampNeg (ga t15 15 v14.toNatClampNeg)) (fun (t19 : MS) =>
      if vR v14 120 then
      if vR v14 120 then
      bs (sa t19 10 v14.toNatClampNeg (ga t19 16 v14.toNatClampNeg)) (fun (t22 : MS) =>
      if vR (2 * v14) 240 then
      if vR (2 * v14) 240 then
      bs (sa t22 11 (2 * v14).toNatClampNeg (ga t22 17 (2 * v14).toNatClampNeg)) (fun (t25 : MS) =>
      if vR ((2 * v14) + 1) 240 then
      if vR ((2 * v14) + 1) 240 then
      bs (sa t25 11 ((2 * v14) + 1).toNatClampNeg (ga t25 17 ((2 * v14) + 1).toNatClampNeg)) (fun (t28 : MS) =>
      x_X7_restores_L2 p0 n (v14 + 1) t28)
      else none
      else none)
      else none
      else none)
      else none
      else none)
      else none
      else none
def x_X7_restores (p0 : Int32) (t : MS) : Option (MS) :=
  if vR p0 3 then
  if vR p0 3 then
  if isB (ga t 12 p0.toNatClampNeg) then
  bs (sa t 6 p0.toNatClampNeg (ga t 12 p0.toNatClampNeg)) (fun (t3 : MS) =>
  if vR p0 3 then
  if vR p0 3 then
  bs (sa t3 8 p0.toNatClampNeg (ga t3 14 p0.toNatClampNeg)) (fun (t6 : MS) =>
  bd (x_X7_restores_L1 p0 FU 0 t6) (fun (t13 : MS) =>
  bd (x_X7_restores_L2 p0 FU (40 * p0) t13) (fun (t29 : MS) =>
  some t29)))
  else none
  else none)
  else none
  else none
  else none

def x_X7_runs_L1 (p0 : Int32) : Nat → Int32 → MS → Option (MS)
  | 0, _, _ => none
  | n + 1, v3, t4 =>
    if (3 : Int32) ≤ v3 then
      some t4
    else
      if vR p0 60 then
      if ((ga t4 21 p0.toNatClampNeg) : Int32) = 0 then
        some t4
      else
        if vR p0 60 then
        bd (
          if ((((ga t4 20 p0.toNatClampNeg) >>> (v3 &&& 31)) &&& 1) : Int32) = 1 then
            bd (x_X7_copies v3 t4) (fun (t11 : MS) =>
            some t11)
          else
            some t4) (fun (t12 : MS) =>
        x_X7_runs_L1 p0 n (v3 + 1) t12)
        else none
      else none
def x_X7_runs (p0 : Int32) (t : MS) : Option (MS) :=
  if vR p0 60 then
  bs (sa t 22 p0.toNatClampNeg 1) (fun (t2 : MS) =>
  bd (x_X7_runs_L1 p0 FU 0 t2) (fun (t14 : MS) =>
  some t14))
  else none

def x_X7_isAlive (p0 : Int32) (t : MS) : Option (Int32) :=
  if vR p0 60 then
  bd (
    l0 (
      if ((ga t 22 p0.toNatClampNeg) : Int32) = 0 then
        some (.inl ())
      else
        if vR p0 60 then
        if ((ga t 22 p0.toNatClampNeg) : Int32) = 1 then
          some (.inl ())
        else
          some (.inr ((0 : Int32)))
        else none) (fun (_ : Unit) =>
    some (1 : Int32))) (fun (v6 : Int32) =>
  if isB v6 then
  some v6
  else none)
  else none

def x_X7_mustWait_L1 (p0 : Int32) (t : MS) : Nat → Int32 → Int32 → Option (Int32)
  | 0, _, _ => none
  | n + 1, v1, v2 =>
    if (p0 : Int32) ≤ v1 then
      some v2
    else
      bd (
        l0 (
          if (v2 : Int32) = 0 then
            bd (x_X7_isAlive v1 t) (fun (v6 : Int32) =>
            l0 (
              if (v6 : Int32) = 0 then
                some (.inl ())
              else
                if vR v1 60 then
                if vR p0 60 then
                if (((ga t 20 v1.toNatClampNeg) &&& (ga t 20 p0.toNatClampNeg)) : Int32) = 0 then
                  some (.inl ())
                else
                  if vR v1 60 then
                  if ((ga t 21 v1.toNatClampNeg) : Int32) = 0 then
                    if vR p0 60 then
                    if ((ga t 21 p0.toNatClampNeg) : Int32) = 0 then
                      some (.inl ())
                    else
                      some (.inr (.inl ()))
                    else none
                  else
                    some (.inr (.inl ()))
                  else none
                else none
                else none) (fun (_ : Unit) =>
            some (.inr ((0 : Int32)))))
          else
            some (.inl ())) (fun (_ : Unit) =>
        some (1 : Int32))) (fun (v17 : Int32) =>
      x_X7_mustWait_L1 p0 t n (v1 + 1) v17)
def x_X7_mustWait (p0 : Int32) (t : MS) : Option (Int32) :=
  bd (x_X7_mustWait_L1 p0 t FU 0 0) (fun (v19 : Int32) =>
  if isB v19 then
  some v19
  else none)

def x_X7_goesOn_L1 : Nat → Int32 → Int32 → MS → Option (Int32 × MS)
  | 0, _, _, _ => none
  | n + 1, v1, v2, t3 =>
    if ((gs t3 18) : Int32) ≤ v1 then
      some (v2, t3)
    else
      if vR v1 60 then
      b2 (
        if ((ga t3 22 v1.toNatClampNeg) : Int32) = 0 then
          bd (x_X7_mustWait v1 t3) (fun (v8 : Int32) =>
          if (v8 : Int32) = 0 then
            bd (x_X7_runs v1 t3) (fun (t11 : MS) =>
            some ((v2 + 1), t11))
          else
            some (v2, t3))
        else
          some (v2, t3)) (fun (v12 : Int32) (t13 : MS) =>
      x_X7_goesOn_L1 n (v1 + 1) v12 t13)
      else none
def x_X7_goesOn (t : MS) : Option (Int32 × MS) :=
  b2 (x_X7_goesOn_L1 FU 0 0 t) (fun (v15 : Int32) (t16 : MS) =>
  some (v15, t16))

def x_X7_adds (p0 : Int32) (p1 : Int32) (p2 : Int32) (t : MS) : Option (Int32 × MS) :=
  if vR (gs t 18) 60 then
  bs (sa t 19 (gs t 18).toNatClampNeg p0) (fun (t2 : MS) =>
  if vR (gs t2 18) 60 then
  bs (sa t2 20 (gs t2 18).toNatClampNeg p1) (fun (t4 : MS) =>
  if vR (gs t4 18) 60 then
  if isB p2 then
  bs (sa t4 21 (gs t4 18).toNatClampNeg p2) (fun (t6 : MS) =>
  if vR (gs t6 18) 60 then
  bs (sa t6 22 (gs t6 18).toNatClampNeg 0) (fun (t8 : MS) =>
  bs (ss t8 18 ((gs t8 18) + 1)) (fun (t9 : MS) =>
  some (((gs t9 18) - 1), t9)))
  else none)
  else none
  else none)
  else none)
  else none

def x_X7_firstBlocked_L1 (t : MS) : Nat → Int32 → Int32 → Option (Int32)
  | 0, _, _ => none
  | n + 1, v1, v2 =>
    if (4 : Int32) ≤ v1 then
      some v2
    else
      if vR v1 4 then
      bd (
        l0 (
          if ((ga t 1 v1.toNatClampNeg) : Int32) = 3 then
            l0 (
              if (v2 : Int32) = (-1) then
                some (.inl ())
              else
                if vR v1 4 then
                if vR v2 4 then
                if ((ga t 3 v2.toNatClampNeg) : Int32) ≤ (ga t 3 v1.toNatClampNeg) then
                  some (.inr (.inl ()))
                else
                  some (.inl ())
                else none
                else none) (fun (_ : Unit) =>
            some (.inr (v1)))
          else
            some (.inl ())) (fun (_ : Unit) =>
        some v2)) (fun (v12 : Int32) =>
      x_X7_firstBlocked_L1 t n (v1 + 1) v12)
      else none
def x_X7_firstBlocked (t : MS) : Option (Int32) :=
  bd (x_X7_firstBlocked_L1 t FU 0 (-1)) (fun (v14 : Int32) =>
  some v14)

def x_X7_isBusy_L1 (p0 : Int32) (t : MS) : Nat → Int32 → Int32 → Option (Int32)
  | 0, _, _ => none
  | n + 1, v1, v2 =>
    if (4 : Int32) ≤ v1 then
      some v2
    else
      bd (
        l0 (
          if (v2 : Int32) = 0 then
            l0 (
              if (v1 : Int32) = p0 then
                some (.inl ())
              else
                if vR v1 4 then
                bd (x_X7_isIn (ga t 1 v1.toNatClampNeg) 1 2) (fun (v8 : Int32) =>
                if (v8 : Int32) = 0 then
                  some (.inl ())
                else
                  some (.inr (.inl ())))
                else none) (fun (_ : Unit) =>
            some (.inr ((0 : Int32))))
          else
            some (.inl ())) (fun (_ : Unit) =>
        some (1 : Int32))) (fun (v12 : Int32) =>
      x_X7_isBusy_L1 p0 t n (v1 + 1) v12)
def x_X7_isBusy (p0 : Int32) (t : MS) : Option (Int32) :=
  bd (x_X7_isBusy_L1 p0 t FU 0 0) (fun (v14 : Int32) =>
  if isB v14 then
  some v14
  else none)

def x_X7_wouldBegin_L1 (p0 : Int32) (t : MS) : Nat → Int32 → Int32 → Option (Int32)
  | 0, _, _ => none
  | n + 1, v1, v2 =>
    if (4 : Int32) ≤ v1 then
      some v2
    else
      bd (
        l0 (
          if (v2 : Int32) = 0 then
            l0 (
              if (v1 : Int32) = p0 then
                some (.inl ())
              else
                if vR v1 4 then
                if ((ga t 1 v1.toNatClampNeg) : Int32) = 3 then
                  if vR v1 4 then
                  if ((ga t 2 v1.toNatClampNeg) : Int32) ≤ (gs t 0) then
                    some (.inl ())
                  else
                    some (.inr (.inl ()))
                  else none
                else
                  some (.inl ())
                else none) (fun (_ : Unit) =>
            some (.inr ((0 : Int32))))
          else
            some (.inl ())) (fun (_ : Unit) =>
        some (1 : Int32))) (fun (v12 : Int32) =>
      x_X7_wouldBegin_L1 p0 t n (v1 + 1) v12)
def x_X7_wouldBegin (p0 : Int32) (t : MS) : Option (Int32) :=
  bd (x_X7_wouldBegin_L1 p0 t FU 0 0) (fun (v14 : Int32) =>
  bd (
    l0 (
      if (v14 : Int32) = 0 then
        some (.inl ())
      else
        if vR p0 4 then
        bd (x_X7_isIn (ga t 1 p0.toNatClampNeg) 1 2) (fun (v18 : Int32) =>
        if (v18 : Int32) = 0 then
          some (.inl ())
        else
          bd (x_X7_isBusy p0 t) (fun (v21 : Int32) =>
          if (v21 : Int32) = 0 then
            some (.inr ((1 : Int32)))
          else
            some (.inl ())))
        else none) (fun (_ : Unit) =>
    some (0 : Int32))) (fun (v24 : Int32) =>
  if isB v24 then
  some v24
  else none))

def x_X7_looks_L1 : Nat → Int32 → MS → Option (MS)
  | 0, _, _ => none
  | n + 1, v3, t4 =>
    if (v3 : Int32) = (-1) then
      some t4
    else
      bd (x_X7_isBusy (-1) t4) (fun (v7 : Int32) =>
      if (v7 : Int32) = 0 then
        if vR v3 4 then
        bd (
          if ((ga t4 2 v3.toNatClampNeg) : Int32) ≤ (gs t4 0) then
            if vR v3 4 then
            bs (sa t4 1 v3.toNatClampNeg 0) (fun (t12 : MS) =>
            some t12)
            else none
          else
            if vR v3 4 then
            bs (sa t4 1 v3.toNatClampNeg 2) (fun (t14 : MS) =>
            b2 (x_X7_adds v3 7 1 t14) (fun (v16 : Int32) (t17 : MS) =>
            bs (ss t17 5 v16) (fun (t18 : MS) =>
            bd (x_X7_runs (gs t18 5) t18) (fun (t20 : MS) =>
            some t20))))
            else none) (fun (t21 : MS) =>
        bd (x_X7_firstBlocked t21) (fun (v23 : Int32) =>
        x_X7_looks_L1 n v23 t21))
        else none
      else
        some t4)
def x_X7_looks (t : MS) : Option (MS) :=
  bd (x_X7_firstBlocked t) (fun (v2 : Int32) =>
  bd (x_X7_looks_L1 FU v2 t) (fun (t25 : MS) =>
  some t25))

def x_X7_aborts_L1 (p0 : Int32) : Nat → Int32 → MS → Option (MS)
  | 0, _, _ => none
  | n + 1, v1, t2 =>
    if (3 : Int32) ≤ v1 then
      some t2
    else
      if vR p0 60 then
      if ((ga t2 22 p0.toNatClampNeg) : Int32) = 1 then
        if vR p0 60 then
        if ((ga t2 21 p0.toNatClampNeg) : Int32) = 0 then
          some t2
        else
          if vR p0 60 then
          bd (
            if ((((ga t2 20 p0.toNatClampNeg) >>> (v1 &&& 31)) &&& 1) : Int32) = 1 then
              bd (x_X7_restores v1 t2) (fun (t11 : MS) =>
              some t11)
            else
              some t2) (fun (t12 : MS) =>
          x_X7_aborts_L1 p0 n (v1 + 1) t12)
          else none
        else none
      else
        some t2
      else none
def x_X7_aborts (p0 : Int32) (t : MS) : Option (MS) :=
  bd (x_X7_aborts_L1 p0 FU 0 t) (fun (t14 : MS) =>
  if vR p0 60 then
  bs (sa t14 22 p0.toNatClampNeg 3) (fun (t16 : MS) =>
  bd (
    if (p0 : Int32) = (gs t16 5) then
      bs (ss t16 5 (-1)) (fun (t18 : MS) =>
      if vR p0 60 then
      if vR (ga t18 19 p0.toNatClampNeg) 4 then
      bs (sa t18 1 (ga t18 19 p0.toNatClampNeg).toNatClampNeg 0) (fun (t21 : MS) =>
      some t21)
      else none
      else none)
    else
      some t16) (fun (t22 : MS) =>
  some t22))
  else none)

def x_X7_hasDoubles_L2 (p1 : Int32) (t : MS) (v1 : Int32) : Nat → Int32 → Int32 → Option (Int32)
  | 0, _, _ => none
  | n + 1, v5, v6 =>
    if (v1 : Int32) ≤ v5 then
      some v6
    else
      bd (
        l0 (
          if (v6 : Int32) = 0 then
            if vR ((2 * v1) + p1) 240 then
            l0 (
              if ((ga t 11 ((2 * v1) + p1).toNatClampNeg) : Int32) = (-1) then
                some (.inl ())
              else
                if vR ((2 * v1) + p1) 240 then
                if vR ((2 * v5) + p1) 240 then
                if ((ga t 11 ((2 * v1) + p1).toNatClampNeg) : Int32) = (ga t 11 ((2 * v5) + p1).toNatClampNeg) then
                  some (.inr (.inl ()))
                else
                  some (.inl ())
                else none
                else none) (fun (_ : Unit) =>
            some (.inr ((0 : Int32))))
            else none
          else
            some (.inl ())) (fun (_ : Unit) =>
        some (1 : Int32))) (fun (v16 : Int32) =>
      x_X7_hasDoubles_L2 p1 t v1 n (v5 + 1) v16)
def x_X7_hasDoubles_L1 (p0 : Int32) (p1 : Int32) (t : MS) : Nat → Int32 → Int32 → Option (Int32)
  | 0, _, _ => none
  | n + 1, v1, v2 =>
    if vR p0 3 then
    if (((40 * p0) + (ga t 8 p0.toNatClampNeg)) : Int32) ≤ v1 then
      some v2
    else
      bd (x_X7_hasDoubles_L2 p1 t v1 FU (40 * p0) v2) (fun (v18 : Int32) =>
      x_X7_hasDoubles_L1 p0 p1 t n (v1 + 1) v18)
    else none
def x_X7_hasDoubles (p0 : Int32) (p1 : Int32) (t : MS) : Option (Int32) :=
  bd (x_X7_hasDoubles_L1 p0 p1 t FU (40 * p0) 0) (fun (v20 : Int32) =>
  if isB v20 then
  some v20
  else none)

def x_X7_can (p0 : Int32) (p1 : Int32) (p2 : Int32) (t : MS) : Option (Int32) :=
  if vR p0 60 then
  bd (
    l0 (
      if ((ga t 22 p0.toNatClampNeg) : Int32) = 1 then
        if vR p0 60 then
        if ((((ga t 20 p0.toNatClampNeg) >>> (p1 &&& 31)) &&& 1) : Int32) = 1 then
          if vR p0 60 then
          l0 (
            if ((ga t 21 p0.toNatClampNeg) : Int32) = 0 then
              if (p2 : Int32) = 0 then
                some (.inl ())
              else
                some (.inr (.inl ()))
            else
              some (.inl ())) (fun (_ : Unit) =>
          some (.inr ((1 : Int32))))
          else none
        else
          some (.inl ())
        else none
      else
        some (.inl ())) (fun (_ : Unit) =>
    some (0 : Int32))) (fun (v10 : Int32) =>
  if isB v10 then
  some v10
  else none)
  else none

def x_X7_find_L1 (p0 : Int32) (p1 : Int32) (t : MS) : Nat → Int32 → Option ((Unit) ⊕ (Int32))
  | 0, _ => none
  | n + 1, v1 =>
    if vR p0 3 then
    if (((40 * p0) + (ga t 8 p0.toNatClampNeg)) : Int32) ≤ v1 then
      some (.inl ())
    else
      if vR v1 120 then
      if ((ga t 9 v1.toNatClampNeg) : Int32) = p1 then
        some (.inr (v1))
      else
        x_X7_find_L1 p0 p1 t n (v1 + 1)
      else none
    else none
def x_X7_find (p0 : Int32) (p1 : Int32) (t : MS) : Option (Int32) :=
  l0 (x_X7_find_L1 p0 p1 t FU (40 * p0)) (fun (_ : Unit) =>
  some ((-1) : Int32))

def x_X7_isTaken_L1 (p0 : Int32) (p1 : Int32) (p2 : Int32) (p3 : Int32) (t : MS) : Nat → Int32 → Int32 → Option (Int32)
  | 0, _, _ => none
  | n + 1, v1, v2 =>
    if vR p0 3 then
    if (((40 * p0) + (ga t 8 p0.toNatClampNeg)) : Int32) ≤ v1 then
      some v2
    else
      bd (
        l0 (
          if (v2 : Int32) = 0 then
            if vR v1 120 then
            l0 (
              if ((ga t 9 v1.toNatClampNeg) : Int32) = p1 then
                some (.inl ())
              else
                if (p3 : Int32) = (-1) then
                  some (.inl ())
                else
                  if vR ((2 * v1) + p2) 240 then
                  if ((ga t 11 ((2 * v1) + p2).toNatClampNeg) : Int32) = p3 then
                    some (.inr (.inl ()))
                  else
                    some (.inl ())
                  else none) (fun (_ : Unit) =>
            some (.inr ((0 : Int32))))
            else none
          else
            some (.inl ())) (fun (_ : Unit) =>
        some (1 : Int32))) (fun (v13 : Int32) =>
      x_X7_isTaken_L1 p0 p1 p2 p3 t n (v1 + 1) v13)
    else none
def x_X7_isTaken (p0 : Int32) (p1 : Int32) (p2 : Int32) (p3 : Int32) (t : MS) : Option (Int32) :=
  bd (x_X7_isTaken_L1 p0 p1 p2 p3 t FU (40 * p0) 0) (fun (v15 : Int32) =>
  bd (
    l0 (
      if (v15 : Int32) = 0 then
        some (.inl ())
      else
        if vR ((2 * p0) + p2) 6 then
        if ((ga t 7 ((2 * p0) + p2).toNatClampNeg) : Int32) = 2 then
          some (.inr ((1 : Int32)))
        else
          some (.inl ())
        else none) (fun (_ : Unit) =>
    some (0 : Int32))) (fun (v20 : Int32) =>
  if isB v20 then
  some v20
  else none))

def x_X7_isBetween (p0 : Int32) (p1 : Int32) (p2 : Int32) : Option (Int32) :=
  bd (x_X7_rank p0) (fun (v2 : Int32) =>
  bd (x_X7_rank p1) (fun (v4 : Int32) =>
  bd (
    l0 (
      if (v2 : Int32) < v4 then
        some (.inl ())
      else
        bd (x_X7_rank p0) (fun (v7 : Int32) =>
        bd (x_X7_rank p2) (fun (v9 : Int32) =>
        if (v9 : Int32) < v7 then
          some (.inl ())
        else
          some (.inr ((1 : Int32)))))) (fun (_ : Unit) =>
    some (0 : Int32))) (fun (v12 : Int32) =>
  if isB v12 then
  some v12
  else none)))

def x_X7_misses (p0 : Int32) (p1 : Int32) (p2 : Int32) (p3 : Int32) (p4 : Int32) (t : MS) : Option (Int32) :=
  bd (x_X7_isTransaction p0 t) (fun (v2 : Int32) =>
  bd (
    l0 (
      if (v2 : Int32) = 0 then
        some (.inl ())
      else
        bd (x_X7_isStore p1 t) (fun (v5 : Int32) =>
        if (v5 : Int32) = 0 then
          some (.inl ())
        else
          some (.inr ((1 : Int32))))) (fun (_ : Unit) =>
    some (0 : Int32))) (fun (v8 : Int32) =>
  bd (
    if (v8 : Int32) = 0 then
      some (1 : Int32)
    else
      bd (x_X7_isKey p2) (fun (v11 : Int32) =>
      l0 (
        if (v11 : Int32) = 0 then
          some (.inl ())
        else
          bd (x_X7_isKey p3) (fun (v14 : Int32) =>
          if (v14 : Int32) = 0 then
            some (.inl ())
          else
            bd (x_X7_can p0 p1 p4 t) (fun (v17 : Int32) =>
            if (v17 : Int32) = 0 then
              some (.inr ((3 : Int32)))
            else
              some (.inr ((0 : Int32)))))) (fun (_ : Unit) =>
      some (2 : Int32)))) (fun (v20 : Int32) =>
  some v20)))

def x_X7_isCursor (p0 : Int32) (t : MS) : Option (Int32) :=
  bd (x_X7_isIn p0 0 ((gs t 23) - 1)) (fun (v2 : Int32) =>
  if isB v2 then
  some v2
  else none)

def x_X7_entry (p0 : Int32) (p1 : Int32) (t : MS) : Option (Int32) :=
  if vR p0 40 then
  bd (
    if ((ga t 26 p0.toNatClampNeg) : Int32) = (-1) then
      some (0 : Int32)
    else
      if vR p0 40 then
      if vR ((2 * p1) + (ga t 26 p0.toNatClampNeg)) 240 then
      some (ga t 11 ((2 * p1) + (ga t 26 p0.toNatClampNeg)).toNatClampNeg)
      else none
      else none) (fun (v5 : Int32) =>
  some v5)
  else none

def x_X7_apart (p0 : Int32) (p1 : Int32) (p2 : Int32) (p3 : Int32) : Option (Int32) :=
  bd (
    if (p0 : Int32) = p2 then
      bd (x_X7_rank p1) (fun (v3 : Int32) =>
      bd (x_X7_rank p3) (fun (v5 : Int32) =>
      if (v5 : Int32) ≤ v3 then
        if (p1 : Int32) = p3 then
          some (0 : Int32)
        else
          some (1 : Int32)
      else
        some ((-1) : Int32)))
    else
      if (p2 : Int32) ≤ p0 then
        some (1 : Int32)
      else
        some ((-1) : Int32)) (fun (v9 : Int32) =>
  some v9)

def x_X7_isBehind (p0 : Int32) (p1 : Int32) (t : MS) : Option (Int32) :=
  bd (x_X7_entry p0 p1 t) (fun (v2 : Int32) =>
  if vR p0 40 then
  bd (
    if (((ga t 27 p0.toNatClampNeg) - (ga t 27 p0.toNatClampNeg) / 2 * 2) : Int32) = 1 then
      some (1 : Int32)
    else
      some (0 : Int32)) (fun (v5 : Int32) =>
  l0 (
    if (v2 : Int32) = (-1) then
      some (.inl ())
    else
      if vR p0 40 then
      if ((ga t 28 p0.toNatClampNeg) : Int32) = 0 then
        some (.inl ())
      else
        if vR p0 40 then
        l0 (
          if ((ga t 27 p0.toNatClampNeg) : Int32) ≤ 1 then
            some (.inl ())
          else
            if vR p0 40 then
            if ((ga t 26 p0.toNatClampNeg) : Int32) = (-1) then
              some (.inl ())
            else
              bd (
                if (v5 : Int32) = 0 then
                  if vR p0 40 then
                  if (v2 : Int32) ≤ (ga t 29 p0.toNatClampNeg) then
                    some (0 : Int32)
                  else
                    some (1 : Int32)
                  else none
                else
                  if vR p0 40 then
                  if ((ga t 29 p0.toNatClampNeg) : Int32) ≤ v2 then
                    some (0 : Int32)
                  else
                    some (1 : Int32)
                  else none) (fun (v18 : Int32) =>
              if isB v18 then
              some (.inr (.inr (v18)))
              else none)
            else none) (fun (_ : Unit) =>
        if vR p1 120 then
        if vR p0 40 then
        if vR p0 40 then
        bd (x_X7_apart v2 (ga t 9 p1.toNatClampNeg) (ga t 29 p0.toNatClampNeg) (ga t 30 p0.toNatClampNeg)) (fun (v25 : Int32) =>
        bd (
          if (v5 : Int32) = 0 then
            if (v25 : Int32) ≤ 0 then
              some (0 : Int32)
            else
              some (1 : Int32)
          else
            if (0 : Int32) ≤ v25 then
              some (0 : Int32)
            else
              some (1 : Int32)) (fun (v29 : Int32) =>
        if isB v29 then
        some (.inr (v29))
        else none))
        else none
        else none
        else none)
        else none
      else none) (fun (_ : Unit) =>
  bd (
    if (v2 : Int32) = (-1) then
      some (0 : Int32)
    else
      some (1 : Int32)) (fun (v34 : Int32) =>
  if isB v34 then
  some v34
  else none)))
  else none)

def x_X7_isSooner (p0 : Int32) (p1 : Int32) (p2 : Int32) (t : MS) : Option (Int32) :=
  bd (x_X7_entry p0 p1 t) (fun (v2 : Int32) =>
  bd (x_X7_entry p0 p2 t) (fun (v4 : Int32) =>
  if vR p0 40 then
  bd (
    if (((ga t 27 p0.toNatClampNeg) - (ga t 27 p0.toNatClampNeg) / 2 * 2) : Int32) = 1 then
      some (1 : Int32)
    else
      some (0 : Int32)) (fun (v7 : Int32) =>
  if vR p0 40 then
  l0 (
    if ((ga t 27 p0.toNatClampNeg) : Int32) ≤ 1 then
      some (.inl ())
    else
      if vR p0 40 then
      if ((ga t 26 p0.toNatClampNeg) : Int32) = (-1) then
        some (.inl ())
      else
        if (v2 : Int32) = v4 then
          if vR p1 120 then
          bd (x_X7_rank (ga t 9 p1.toNatClampNeg)) (fun (v15 : Int32) =>
          if vR p2 120 then
          bd (x_X7_rank (ga t 9 p2.toNatClampNeg)) (fun (v18 : Int32) =>
          bd (
            if (v18 : Int32) ≤ v15 then
              some (0 : Int32)
            else
              some (1 : Int32)) (fun (v20 : Int32) =>
          if isB v20 then
          some (.inr (v20))
          else none))
          else none)
          else none
        else
          some (.inl ())
      else none) (fun (_ : Unit) =>
  if vR p1 120 then
  if vR p2 120 then
  bd (x_X7_apart v2 (ga t 9 p1.toNatClampNeg) v4 (ga t 9 p2.toNatClampNeg)) (fun (v26 : Int32) =>
  bd (
    if (v7 : Int32) = 0 then
      if (0 : Int32) ≤ v26 then
        some (0 : Int32)
      else
        some (1 : Int32)
    else
      if (v26 : Int32) ≤ 0 then
        some (0 : Int32)
      else
        some (1 : Int32)) (fun (v30 : Int32) =>
  if isB v30 then
  some v30
  else none))
  else none
  else none)
  else none)
  else none))

def x_X7_thrown (t : MS) : Option (Int32) :=
  some ((gs t 31) : Int32)

def x_X7_open (p0 : Int32) (p1 : Int32) (t : MS) : Option (Int32 × MS) :=
  bd (x_X7_isTab p0) (fun (v2 : Int32) =>
  bd (x_X7_isIn p1 1 100) (fun (v4 : Int32) =>
  bd (
    l0 (
      if (v2 : Int32) = 0 then
        some (.inl ())
      else
        if vR p0 4 then
        l0 (
          if ((ga t 1 p0.toNatClampNeg) : Int32) = 0 then
            if (p1 : Int32) < (gs t 0) then
              some (.inl ())
            else
              if (p1 : Int32) = (gs t 0) then
                if ((gs t 5) : Int32) = (-1) then
                  some (.inr (.inl ()))
                else
                  some (.inl ())
              else
                some (.inr (.inl ()))
          else
            some (.inl ())) (fun (_ : Unit) =>
        some (.inr ((1 : Int32))))
        else none) (fun (_ : Unit) =>
    some (0 : Int32))) (fun (v13 : Int32) =>
  bd (
    l0 (
      if (v2 : Int32) = 0 then
        some (.inl ())
      else
        if (p1 : Int32) ≤ (gs t 0) then
          some (.inl ())
        else
          bd (x_X7_isBusy (-1) t) (fun (v17 : Int32) =>
          if (v17 : Int32) = 0 then
            if ((gs t 18) : Int32) = 60 then
              some (.inr ((1 : Int32)))
            else
              some (.inl ())
          else
            some (.inl ()))) (fun (_ : Unit) =>
    some (0 : Int32))) (fun (v21 : Int32) =>
  bd (
    if (v2 : Int32) = 0 then
      some (1 : Int32)
    else
      if (v4 : Int32) = 0 then
        some (2 : Int32)
      else
        l0 (
          if (v13 : Int32) = 0 then
            if (v21 : Int32) = 0 then
              some (.inr ((0 : Int32)))
            else
              some (.inl ())
          else
            some (.inl ())) (fun (_ : Unit) =>
        some (3 : Int32))) (fun (v27 : Int32) =>
  b2 (x_X7_fails v27 t) (fun (v29 : Int32) (t30 : MS) =>
  if (v29 : Int32) = 0 then
    bd (
      if (p1 : Int32) = (gs t30 0) then
        some (1 : Int32)
      else
        some (3 : Int32)) (fun (v33 : Int32) =>
    if vR p0 4 then
    bs (sa t30 1 p0.toNatClampNeg v33) (fun (t35 : MS) =>
    if vR p0 4 then
    bs (sa t35 2 p0.toNatClampNeg p1) (fun (t37 : MS) =>
    if vR p0 4 then
    bs (sa t37 3 p0.toNatClampNeg (gs t37 4)) (fun (t39 : MS) =>
    bs (ss t39 4 ((gs t39 4) + 1)) (fun (t40 : MS) =>
    bd (x_X7_looks t40) (fun (t42 : MS) =>
    if vR p0 4 then
    some ((ga t42 1 p0.toNatClampNeg), t42)
    else none)))
    else none)
    else none)
    else none)
  else
    some (0, t30)))))))

def x_X7_close_L1 (p0 : Int32) : Nat → Int32 → MS → Option (MS)
  | 0, _, _ => none
  | n + 1, v18, t19 =>
    if (v18 : Int32) < 0 then
      some t19
    else
      if vR v18 60 then
      bd (
        if ((ga t19 19 v18.toNatClampNeg) : Int32) = p0 then
          bd (x_X7_isAlive v18 t19) (fun (v24 : Int32) =>
          if (v24 : Int32) = 0 then
            some t19
          else
            bd (x_X7_aborts v18 t19) (fun (t27 : MS) =>
            some t27))
        else
          some t19) (fun (t28 : MS) =>
      x_X7_close_L1 p0 n (v18 + (-1)) t28)
      else none
def x_X7_close (p0 : Int32) (t : MS) : Option (Int32 × MS) :=
  bd (x_X7_isTab p0) (fun (v2 : Int32) =>
  bd (
    if (v2 : Int32) = 0 then
      some (1 : Int32)
    else
      if vR p0 4 then
      l0 (
        if ((ga t 1 p0.toNatClampNeg) : Int32) = 0 then
          some (.inl ())
        else
          bd (x_X7_wouldBegin p0 t) (fun (v7 : Int32) =>
          l0 (
            if (v7 : Int32) = 0 then
              some (.inl ())
            else
              if ((gs t 18) : Int32) = 60 then
                some (.inr (.inl ()))
              else
                some (.inl ())) (fun (_ : Unit) =>
          some (.inr ((0 : Int32)))))) (fun (_ : Unit) =>
      some (2 : Int32))
      else none) (fun (v12 : Int32) =>
  b2 (x_X7_fails v12 t) (fun (v14 : Int32) (t15 : MS) =>
  if (v14 : Int32) = 0 then
    if vR p0 4 then
    bd (x_X7_close_L1 p0 FU ((gs t15 18) - 1) t15) (fun (t30 : MS) =>
    if vR p0 4 then
    bs (sa t30 1 p0.toNatClampNeg 0) (fun (t32 : MS) =>
    b2 (x_X7_goesOn t32) (fun (v34 : Int32) (t35 : MS) =>
    bd (x_X7_looks t35) (fun (t37 : MS) =>
    some ((ga t15 1 p0.toNatClampNeg), t37))))
    else none)
    else none
  else
    some (0, t15))))

def x_X7_state (p0 : Int32) (t : MS) : Option (Int32 × MS) :=
  bd (x_X7_isTab p0) (fun (v2 : Int32) =>
  bd (
    if (v2 : Int32) = 0 then
      some (1 : Int32)
    else
      some (0 : Int32)) (fun (v4 : Int32) =>
  b2 (x_X7_fails v4 t) (fun (v6 : Int32) (t7 : MS) =>
  bd (
    if (v6 : Int32) = 0 then
      if vR p0 4 then
      some (ga t7 1 p0.toNatClampNeg)
      else none
    else
      some (0 : Int32)) (fun (v10 : Int32) =>
  some (v10, t7)))))

def x_X7_version (t : MS) : Option (Int32 × MS) :=
  bs (ss t 31 0) (fun (t1 : MS) =>
  some ((gs t1 0), t1))

def x_X7_upgrade (t : MS) : Option (Int32 × MS) :=
  bs (ss t 31 0) (fun (t1 : MS) =>
  some ((gs t1 5), t1))

def x_X7_makeStore (p0 : Int32) (p1 : Int32) (t : MS) : Option (MS) :=
  bd (x_X7_isTransaction p0 t) (fun (v2 : Int32) =>
  bd (
    l0 (
      if (v2 : Int32) = 0 then
        some (.inl ())
      else
        bd (x_X7_isIn p1 0 2) (fun (v5 : Int32) =>
        if (v5 : Int32) = 0 then
          some (.inl ())
        else
          some (.inr ((1 : Int32))))) (fun (_ : Unit) =>
    some (0 : Int32))) (fun (v8 : Int32) =>
  bd (
    if (v8 : Int32) = 0 then
      some (1 : Int32)
    else
      l0 (
        if (p0 : Int32) = (gs t 5) then
          if vR p1 3 then
          if ((ga t 6 p1.toNatClampNeg) : Int32) = 0 then
            some (.inr ((0 : Int32)))
          else
            some (.inl ())
          else none
        else
          some (.inl ())) (fun (_ : Unit) =>
      some (2 : Int32))) (fun (v14 : Int32) =>
  b2 (x_X7_fails v14 t) (fun (v16 : Int32) (t17 : MS) =>
  bd (
    if (v16 : Int32) = 0 then
      if vR p1 3 then
      if isB 1 then
      bs (sa t17 6 p1.toNatClampNeg 1) (fun (t20 : MS) =>
      if vR p1 3 then
      bs (sa t20 8 p1.toNatClampNeg 0) (fun (t22 : MS) =>
      if vR (2 * p1) 6 then
      bs (sa t22 7 (2 * p1).toNatClampNeg 0) (fun (t24 : MS) =>
      if vR ((2 * p1) + 1) 6 then
      bs (sa t24 7 ((2 * p1) + 1).toNatClampNeg 0) (fun (t26 : MS) =>
      some t26)
      else none)
      else none)
      else none)
      else none
      else none
    else
      some t17) (fun (t28 : MS) =>
  some t28)))))

def x_X7_deleteStore (p0 : Int32) (p1 : Int32) (t : MS) : Option (Int32 × MS) :=
  bd (x_X7_isTransaction p0 t) (fun (v2 : Int32) =>
  bd (
    l0 (
      if (v2 : Int32) = 0 then
        some (.inl ())
      else
        bd (x_X7_isStore p1 t) (fun (v5 : Int32) =>
        if (v5 : Int32) = 0 then
          some (.inl ())
        else
          some (.inr ((1 : Int32))))) (fun (_ : Unit) =>
    some (0 : Int32))) (fun (v8 : Int32) =>
  bd (
    if (v8 : Int32) = 0 then
      some (1 : Int32)
    else
      if (p0 : Int32) = (gs t 5) then
        some (0 : Int32)
      else
        some (2 : Int32)) (fun (v11 : Int32) =>
  b2 (x_X7_fails v11 t) (fun (v13 : Int32) (t14 : MS) =>
  if (v13 : Int32) = 0 then
    if vR p1 3 then
    if vR p1 3 then
    if isB 0 then
    bs (sa t14 6 p1.toNatClampNeg 0) (fun (t18 : MS) =>
    if vR p1 3 then
    bs (sa t18 8 p1.toNatClampNeg 0) (fun (t20 : MS) =>
    some ((ga t14 8 p1.toNatClampNeg), t20))
    else none)
    else none
    else none
    else none
  else
    some (0, t14)))))

def x_X7_makeIndex (p0 : Int32) (p1 : Int32) (p2 : Int32) (p3 : Int32) (t : MS) : Option (MS) :=
  bd (x_X7_isTransaction p0 t) (fun (v2 : Int32) =>
  bd (
    l0 (
      if (v2 : Int32) = 0 then
        some (.inl ())
      else
        bd (x_X7_isStore p1 t) (fun (v5 : Int32) =>
        if (v5 : Int32) = 0 then
          some (.inl ())
        else
          bd (x_X7_isIn p2 0 1) (fun (v8 : Int32) =>
          if (v8 : Int32) = 0 then
            some (.inl ())
          else
            some (.inr ((1 : Int32)))))) (fun (_ : Unit) =>
    some (0 : Int32))) (fun (v11 : Int32) =>
  bd (
    l0 (
      if (v11 : Int32) = 0 then
        some (.inl ())
      else
        if (p0 : Int32) = (gs t 5) then
          if vR ((2 * p1) + p2) 6 then
          if ((ga t 7 ((2 * p1) + p2).toNatClampNeg) : Int32) = 0 then
            l0 (
              if (p3 : Int32) = 0 then
                some (.inl ())
              else
                bd (x_X7_hasDoubles p1 p2 t) (fun (v18 : Int32) =>
                if (v18 : Int32) = 0 then
                  some (.inl ())
                else
                  some (.inr (.inl ())))) (fun (_ : Unit) =>
            some (.inr ((1 : Int32))))
          else
            some (.inl ())
          else none
        else
          some (.inl ())) (fun (_ : Unit) =>
    some (0 : Int32))) (fun (v22 : Int32) =>
  bd (
    if (v11 : Int32) = 0 then
      some (1 : Int32)
    else
      if (v22 : Int32) = 0 then
        some (2 : Int32)
      else
        some (0 : Int32)) (fun (v25 : Int32) =>
  b2 (x_X7_fails v25 t) (fun (v27 : Int32) (t28 : MS) =>
  bd (
    if (v27 : Int32) = 0 then
      bd (
        if (p3 : Int32) = 0 then
          some (1 : Int32)
        else
          some (2 : Int32)) (fun (v31 : Int32) =>
      if vR ((2 * p1) + p2) 6 then
      bs (sa t28 7 ((2 * p1) + p2).toNatClampNeg v31) (fun (t33 : MS) =>
      some t33)
      else none)
    else
      some t28) (fun (t35 : MS) =>
  some t35))))))

def x_X7_begin_L1 (p1 : Int32) (t : MS) (v2 : Int32) : Nat → Int32 → Int32 → Option (Int32)
  | 0, _, _ => none
  | n + 1, v5, v6 =>
    if (3 : Int32) ≤ v5 then
      some v6
    else
      if (v2 : Int32) = 0 then
        some v6
      else
        bd (
          l0 (
            if (v6 : Int32) = 0 then
              some (.inl ())
            else
              l0 (
                if (((p1 >>> (v5 &&& 31)) &&& 1) : Int32) = 0 then
                  some (.inl ())
                else
                  if vR v5 3 then
                  if ((ga t 6 v5.toNatClampNeg) : Int32) = 0 then
                    some (.inr (.inl ()))
                  else
                    some (.inl ())
                  else none) (fun (_ : Unit) =>
              some (.inr ((1 : Int32))))) (fun (_ : Unit) =>
          some (0 : Int32))) (fun (v15 : Int32) =>
        x_X7_begin_L1 p1 t v2 n (v5 + 1) v15)
def x_X7_begin (p0 : Int32) (p1 : Int32) (p2 : Int32) (t : MS) : Option (Int32 × MS) :=
  bd (x_X7_isIn p1 1 7) (fun (v2 : Int32) =>
  bd (x_X7_isTab p0) (fun (v4 : Int32) =>
  bd (x_X7_begin_L1 p1 t v2 FU 0 v4) (fun (v17 : Int32) =>
  bd (
    if (v17 : Int32) = 0 then
      some (1 : Int32)
    else
      if (v2 : Int32) = 0 then
        some (2 : Int32)
      else
        if vR p0 4 then
        l0 (
          if ((ga t 1 p0.toNatClampNeg) : Int32) = 1 then
            if ((gs t 18) : Int32) = 60 then
              some (.inl ())
            else
              some (.inr ((0 : Int32)))
          else
            some (.inl ())) (fun (_ : Unit) =>
        some (3 : Int32))
        else none) (fun (v24 : Int32) =>
  b2 (x_X7_fails v24 t) (fun (v26 : Int32) (t27 : MS) =>
  if (v26 : Int32) = 0 then
    b2 (x_X7_adds p0 p1 p2 t27) (fun (v30 : Int32) (t31 : MS) =>
    b2 (x_X7_goesOn t31) (fun (v33 : Int32) (t34 : MS) =>
    some (v30, t34)))
  else
    some (0, t27))))))

def x_X7_standing (p0 : Int32) (t : MS) : Option (Int32 × MS) :=
  bd (x_X7_isTransaction p0 t) (fun (v2 : Int32) =>
  bd (
    if (v2 : Int32) = 0 then
      some (1 : Int32)
    else
      some (0 : Int32)) (fun (v4 : Int32) =>
  b2 (x_X7_fails v4 t) (fun (v6 : Int32) (t7 : MS) =>
  bd (
    if (v6 : Int32) = 0 then
      if vR p0 60 then
      some (ga t7 22 p0.toNatClampNeg)
      else none
    else
      some (0 : Int32)) (fun (v10 : Int32) =>
  some (v10, t7)))))

def x_X7_commit (p0 : Int32) (t : MS) : Option (Int32 × MS) :=
  bd (x_X7_isTransaction p0 t) (fun (v2 : Int32) =>
  bd (
    if (v2 : Int32) = 0 then
      some (1 : Int32)
    else
      if vR p0 60 then
      if ((ga t 22 p0.toNatClampNeg) : Int32) = 1 then
        some (0 : Int32)
      else
        some (2 : Int32)
      else none) (fun (v6 : Int32) =>
  b2 (x_X7_fails v6 t) (fun (v8 : Int32) (t9 : MS) =>
  if (v8 : Int32) = 0 then
    if vR p0 60 then
    bs (sa t9 22 p0.toNatClampNeg 2) (fun (t12 : MS) =>
    bd (
      if (p0 : Int32) = (gs t12 5) then
        bs (ss t12 5 (-1)) (fun (t14 : MS) =>
        if vR p0 60 then
        if vR (ga t14 19 p0.toNatClampNeg) 4 then
        bs (ss t14 0 (ga t14 2 (ga t14 19 p0.toNatClampNeg).toNatClampNeg)) (fun (t17 : MS) =>
        if vR p0 60 then
        if vR (ga t17 19 p0.toNatClampNeg) 4 then
        bs (sa t17 1 (ga t17 19 p0.toNatClampNeg).toNatClampNeg 1) (fun (t20 : MS) =>
        some t20)
        else none
        else none)
        else none
        else none)
      else
        some t12) (fun (t21 : MS) =>
    b2 (x_X7_goesOn t21) (fun (v23 : Int32) (t24 : MS) =>
    some (v23, t24))))
    else none
  else
    some (0, t9))))

def x_X7_abort (p0 : Int32) (t : MS) : Option (Int32 × MS) :=
  bd (x_X7_isTransaction p0 t) (fun (v2 : Int32) =>
  bd (
    l0 (
      if (v2 : Int32) = 0 then
        some (.inl ())
      else
        bd (x_X7_isAlive p0 t) (fun (v5 : Int32) =>
        if (v5 : Int32) = 0 then
          some (.inl ())
        else
          l0 (
            if (p0 : Int32) = (gs t 5) then
              if vR p0 60 then
              bd (x_X7_wouldBegin (ga t 19 p0.toNatClampNeg) t) (fun (v10 : Int32) =>
              if (v10 : Int32) = 0 then
                some (.inl ())
              else
                if ((gs t 18) : Int32) = 60 then
                  some (.inr (.inl ()))
                else
                  some (.inl ()))
              else none
            else
              some (.inl ())) (fun (_ : Unit) =>
          some (.inr ((1 : Int32)))))) (fun (_ : Unit) =>
    some (0 : Int32))) (fun (v15 : Int32) =>
  bd (
    if (v2 : Int32) = 0 then
      some (1 : Int32)
    else
      if (v15 : Int32) = 0 then
        some (2 : Int32)
      else
        some (0 : Int32)) (fun (v18 : Int32) =>
  b2 (x_X7_fails v18 t) (fun (v20 : Int32) (t21 : MS) =>
  if (v20 : Int32) = 0 then
    bd (x_X7_aborts p0 t21) (fun (t24 : MS) =>
    b2 (x_X7_goesOn t24) (fun (v26 : Int32) (t27 : MS) =>
    bd (x_X7_looks t27) (fun (t29 : MS) =>
    some (v26, t29))))
  else
    some (0, t21)))))

def x_X7_put (p0 : Int32) (p1 : Int32) (p2 : Int32) (p3 : Int32) (p4 : Int32) (p5 : Int32) (t : MS) : Option (Int32 × MS) :=
  bd (x_X7_isTransaction p0 t) (fun (v2 : Int32) =>
  bd (
    l0 (
      if (v2 : Int32) = 0 then
        some (.inl ())
      else
        bd (x_X7_isStore p1 t) (fun (v5 : Int32) =>
        if (v5 : Int32) = 0 then
          some (.inl ())
        else
          some (.inr ((1 : Int32))))) (fun (_ : Unit) =>
    some (0 : Int32))) (fun (v8 : Int32) =>
  bd (x_X7_isKey p2) (fun (v10 : Int32) =>
  bd (
    l0 (
      if (v10 : Int32) = 0 then
        some (.inl ())
      else
        bd (x_X7_isIn p3 0 9999) (fun (v13 : Int32) =>
        if (v13 : Int32) = 0 then
          some (.inl ())
        else
          bd (x_X7_isIn p4 (-1) 999) (fun (v16 : Int32) =>
          if (v16 : Int32) = 0 then
            some (.inl ())
          else
            bd (x_X7_isIn p5 (-1) 999) (fun (v19 : Int32) =>
            if (v19 : Int32) = 0 then
              some (.inl ())
            else
              some (.inr ((1 : Int32))))))) (fun (_ : Unit) =>
    some (0 : Int32))) (fun (v22 : Int32) =>
  bd (
    if (v8 : Int32) = 0 then
      some ((-1) : Int32)
    else
      bd (x_X7_find p1 p2 t) (fun (v25 : Int32) =>
      some v25)) (fun (v26 : Int32) =>
  bd (
    l0 (
      if (v26 : Int32) = (-1) then
        if vR 0 3 then
        if vR 1 3 then
        if vR 2 3 then
        if ((((ga t 8 (0 : Int32).toNatClampNeg) + (ga t 8 (1 : Int32).toNatClampNeg)) + (ga t 8 (2 : Int32).toNatClampNeg)) : Int32) < 40 then
          some (.inl ())
        else
          some (.inr ((1 : Int32)))
        else none
        else none
        else none
      else
        some (.inl ())) (fun (_ : Unit) =>
    some (0 : Int32))) (fun (v33 : Int32) =>
  bd (
    l0 (
      if (v8 : Int32) = 0 then
        some (.inl ())
      else
        if (v22 : Int32) = 0 then
          some (.inl ())
        else
          bd (x_X7_can p0 p1 1 t) (fun (v37 : Int32) =>
          if (v37 : Int32) = 0 then
            some (.inl ())
          else
            bd (x_X7_isTaken p1 p2 0 p4 t) (fun (v40 : Int32) =>
            if (v40 : Int32) = 0 then
              bd (x_X7_isTaken p1 p2 1 p5 t) (fun (v43 : Int32) =>
              if (v43 : Int32) = 0 then
                if (v33 : Int32) = 0 then
                  some (.inr ((1 : Int32)))
                else
                  some (.inl ())
              else
                some (.inl ()))
            else
              some (.inl ())))) (fun (_ : Unit) =>
    some (0 : Int32))) (fun (v47 : Int32) =>
  bd (
    if (v8 : Int32) = 0 then
      some (1 : Int32)
    else
      if (v22 : Int32) = 0 then
        some (2 : Int32)
      else
        if (v47 : Int32) = 0 then
          some (3 : Int32)
        else
          some (0 : Int32)) (fun (v51 : Int32) =>
  b2 (x_X7_fails v51 t) (fun (v53 : Int32) (t54 : MS) =>
  if (v53 : Int32) = 0 then
    b2 (
      if (v26 : Int32) = (-1) then
        if vR p1 3 then
        if vR p1 3 then
        if vR p1 3 then
        bs (sa t54 8 p1.toNatClampNeg ((ga t54 8 p1.toNatClampNeg) + 1)) (fun (t60 : MS) =>
        some (((40 * p1) + (ga t54 8 p1.toNatClampNeg)), t60))
        else none
        else none
        else none
      else
        some (v26, t54)) (fun (v61 : Int32) (t62 : MS) =>
    if vR v61 120 then
    bs (sa t62 9 v61.toNatClampNeg p2) (fun (t64 : MS) =>
    if vR v61 120 then
    bs (sa t64 10 v61.toNatClampNeg p3) (fun (t66 : MS) =>
    if vR (2 * v61) 240 then
    bs (sa t66 11 (2 * v61).toNatClampNeg p4) (fun (t68 : MS) =>
    if vR ((2 * v61) + 1) 240 then
    bs (sa t68 11 ((2 * v61) + 1).toNatClampNeg p5) (fun (t70 : MS) =>
    bd (
      if (v26 : Int32) = (-1) then
        some (1 : Int32)
      else
        some (0 : Int32)) (fun (v72 : Int32) =>
    if isB v72 then
    some (v72, t70)
    else none))
    else none)
    else none)
    else none)
    else none)
  else
    if isB 0 then
    some (0, t54)
    else none)))))))))

def x_X7_remove_L1 (p1 : Int32) (p2 : Int32) (p3 : Int32) : Nat → Int32 → Int32 → MS → Option (Int32 × MS)
  | 0, _, _, _ => none
  | n + 1, v7, v8, t9 =>
    if vR p1 3 then
    if (((40 * p1) + (ga t9 8 p1.toNatClampNeg)) : Int32) ≤ v7 then
      some (v8, t9)
    else
      if vR v7 120 then
      bd (x_X7_isBetween (ga t9 9 v7.toNatClampNeg) p2 p3) (fun (v14 : Int32) =>
      b2 (
        if (v14 : Int32) = 0 then
          if vR v7 120 then
          if vR v8 120 then
          bs (sa t9 9 v8.toNatClampNeg (ga t9 9 v7.toNatClampNeg)) (fun (t18 : MS) =>
          if vR v7 120 then
          if vR v8 120 then
          bs (sa t18 10 v8.toNatClampNeg (ga t18 10 v7.toNatClampNeg)) (fun (t21 : MS) =>
          if vR (2 * v7) 240 then
          if vR (2 * v8) 240 then
          bs (sa t21 11 (2 * v8).toNatClampNeg (ga t21 11 (2 * v7).toNatClampNeg)) (fun (t24 : MS) =>
          if vR ((2 * v7) + 1) 240 then
          if vR ((2 * v8) + 1) 240 then
          bs (sa t24 11 ((2 * v8) + 1).toNatClampNeg (ga t24 11 ((2 * v7) + 1).toNatClampNeg)) (fun (t27 : MS) =>
          some ((v8 + 1), t27))
          else none
          else none)
          else none
          else none)
          else none
          else none)
          else none
          else none
        else
          some (v8, t9)) (fun (v28 : Int32) (t29 : MS) =>
      x_X7_remove_L1 p1 p2 p3 n (v7 + 1) v28 t29))
      else none
    else none
def x_X7_remove (p0 : Int32) (p1 : Int32) (p2 : Int32) (p3 : Int32) (t : MS) : Option (Int32 × MS) :=
  bd (x_X7_misses p0 p1 p2 p3 1 t) (fun (v2 : Int32) =>
  b2 (x_X7_fails v2 t) (fun (v4 : Int32) (t5 : MS) =>
  if (v4 : Int32) = 0 then
    b2 (x_X7_remove_L1 p1 p2 p3 FU (40 * p1) (40 * p1) t5) (fun (v31 : Int32) (t32 : MS) =>
    if vR p1 3 then
    if vR p1 3 then
    if vR p1 3 then
    bs (sa t32 8 p1.toNatClampNeg ((ga t32 8 p1.toNatClampNeg) - (((40 * p1) + (ga t32 8 p1.toNatClampNeg)) - v31))) (fun (t36 : MS) =>
    some ((((40 * p1) + (ga t32 8 p1.toNatClampNeg)) - v31), t36))
    else none
    else none
    else none)
  else
    some (0, t5)))

def x_X7_get (p0 : Int32) (p1 : Int32) (p2 : Int32) (t : MS) : Option (Int32 × MS) :=
  bd (x_X7_misses p0 p1 p2 p2 0 t) (fun (v2 : Int32) =>
  b2 (x_X7_fails v2 t) (fun (v4 : Int32) (t5 : MS) =>
  if (v4 : Int32) = 0 then
    bd (x_X7_find p1 p2 t5) (fun (v8 : Int32) =>
    bd (
      if (v8 : Int32) = (-1) then
        some ((-1) : Int32)
      else
        if vR v8 120 then
        some (ga t5 10 v8.toNatClampNeg)
        else none) (fun (v11 : Int32) =>
    some (v11, t5)))
  else
    some (0, t5)))

def x_X7_count_L1 (p1 : Int32) (p2 : Int32) (p3 : Int32) (t5 : MS) : Nat → Int32 → Int32 → Option (Int32)
  | 0, _, _ => none
  | n + 1, v7, v8 =>
    if vR p1 3 then
    if (((40 * p1) + (ga t5 8 p1.toNatClampNeg)) : Int32) ≤ v7 then
      some v8
    else
      if vR v7 120 then
      bd (x_X7_isBetween (ga t5 9 v7.toNatClampNeg) p2 p3) (fun (v13 : Int32) =>
      bd (
        if (v13 : Int32) = 0 then
          some (0 : Int32)
        else
          some (1 : Int32)) (fun (v15 : Int32) =>
      x_X7_count_L1 p1 p2 p3 t5 n (v7 + 1) (v8 + v15)))
      else none
    else none
def x_X7_count (p0 : Int32) (p1 : Int32) (p2 : Int32) (p3 : Int32) (t : MS) : Option (Int32 × MS) :=
  bd (x_X7_misses p0 p1 p2 p3 0 t) (fun (v2 : Int32) =>
  b2 (x_X7_fails v2 t) (fun (v4 : Int32) (t5 : MS) =>
  if (v4 : Int32) = 0 then
    bd (x_X7_count_L1 p1 p2 p3 t5 FU (40 * p1) 0) (fun (v17 : Int32) =>
    some (v17, t5))
  else
    some (0, t5)))

def x_X7_cursor (p0 : Int32) (p1 : Int32) (p2 : Int32) (p3 : Int32) (t : MS) : Option (Int32 × MS) :=
  bd (x_X7_isTransaction p0 t) (fun (v2 : Int32) =>
  bd (
    l0 (
      if (v2 : Int32) = 0 then
        some (.inl ())
      else
        bd (x_X7_isStore p1 t) (fun (v5 : Int32) =>
        if (v5 : Int32) = 0 then
          some (.inl ())
        else
          bd (x_X7_isIn p2 (-1) 1) (fun (v8 : Int32) =>
          if (v8 : Int32) = 0 then
            some (.inl ())
          else
            some (.inr ((1 : Int32)))))) (fun (_ : Unit) =>
    some (0 : Int32))) (fun (v11 : Int32) =>
  bd (
    l0 (
      if (v11 : Int32) = 0 then
        some (.inl ())
      else
        bd (x_X7_can p0 p1 0 t) (fun (v14 : Int32) =>
        if (v14 : Int32) = 0 then
          some (.inl ())
        else
          l0 (
            if (p2 : Int32) = (-1) then
              some (.inl ())
            else
              if vR ((2 * p1) + p2) 6 then
              if ((ga t 7 ((2 * p1) + p2).toNatClampNeg) : Int32) ≤ 0 then
                some (.inr (.inl ()))
              else
                some (.inl ())
              else none) (fun (_ : Unit) =>
          if (40 : Int32) ≤ (gs t 23) then
            some (.inl ())
          else
            some (.inr ((1 : Int32)))))) (fun (_ : Unit) =>
    some (0 : Int32))) (fun (v22 : Int32) =>
  bd (
    if (v11 : Int32) = 0 then
      some (1 : Int32)
    else
      bd (x_X7_isIn p3 0 3) (fun (v25 : Int32) =>
      if (v25 : Int32) = 0 then
        some (2 : Int32)
      else
        if (v22 : Int32) = 0 then
          some (3 : Int32)
        else
          some (0 : Int32))) (fun (v28 : Int32) =>
  b2 (x_X7_fails v28 t) (fun (v30 : Int32) (t31 : MS) =>
  if (v30 : Int32) = 0 then
    if vR (gs t31 23) 40 then
    bs (sa t31 24 (gs t31 23).toNatClampNeg p0) (fun (t34 : MS) =>
    if vR (gs t34 23) 40 then
    bs (sa t34 25 (gs t34 23).toNatClampNeg p1) (fun (t36 : MS) =>
    if vR (gs t36 23) 40 then
    bs (sa t36 26 (gs t36 23).toNatClampNeg p2) (fun (t38 : MS) =>
    if vR (gs t38 23) 40 then
    bs (sa t38 27 (gs t38 23).toNatClampNeg p3) (fun (t40 : MS) =>
    if vR (gs t40 23) 40 then
    bs (sa t40 28 (gs t40 23).toNatClampNeg 0) (fun (t42 : MS) =>
    bs (ss t42 23 ((gs t42 23) + 1)) (fun (t43 : MS) =>
    some (((gs t43 23) - 1), t43)))
    else none)
    else none)
    else none)
    else none)
    else none
  else
    some (0, t31))))))

def x_X7_step_L1 (p0 : Int32) (t19 : MS) : Nat → Int32 → Int32 → Option (Int32)
  | 0, _, _ => none
  | n + 1, v22, v23 =>
    if vR (ga t19 25 p0.toNatClampNeg) 3 then
    if (((40 * (ga t19 25 p0.toNatClampNeg)) + (ga t19 8 (ga t19 25 p0.toNatClampNeg).toNatClampNeg)) : Int32) ≤ v22 then
      some v23
    else
      bd (x_X7_isBehind p0 v22 t19) (fun (v27 : Int32) =>
      bd (
        l0 (
          if (v27 : Int32) = 0 then
            some (.inl ())
          else
            l0 (
              if (v23 : Int32) = (-1) then
                some (.inl ())
              else
                bd (x_X7_isSooner p0 v22 v23 t19) (fun (v31 : Int32) =>
                if (v31 : Int32) = 0 then
                  some (.inr (.inl ()))
                else
                  some (.inl ()))) (fun (_ : Unit) =>
            some (.inr (v22)))) (fun (_ : Unit) =>
        some v23)) (fun (v35 : Int32) =>
      x_X7_step_L1 p0 t19 n (v22 + 1) v35))
    else none
def x_X7_step (p0 : Int32) (t : MS) : Option (Int32 × MS) :=
  bd (x_X7_isCursor p0 t) (fun (v2 : Int32) =>
  bd (
    l0 (
      if (v2 : Int32) = 0 then
        some (.inl ())
      else
        if vR p0 40 then
        if vR (ga t 24 p0.toNatClampNeg) 60 then
        if ((ga t 22 (ga t 24 p0.toNatClampNeg).toNatClampNeg) : Int32) = 1 then
          if vR p0 40 then
          if vR (ga t 25 p0.toNatClampNeg) 3 then
          if ((ga t 6 (ga t 25 p0.toNatClampNeg).toNatClampNeg) : Int32) = 0 then
            some (.inl ())
          else
            if vR p0 40 then
            if (2 : Int32) ≤ (ga t 28 p0.toNatClampNeg) then
              some (.inl ())
            else
              some (.inr ((1 : Int32)))
            else none
          else none
          else none
        else
          some (.inl ())
        else none
        else none) (fun (_ : Unit) =>
    some (0 : Int32))) (fun (v13 : Int32) =>
  bd (
    if (v2 : Int32) = 0 then
      some (1 : Int32)
    else
      if (v13 : Int32) = 0 then
        some (2 : Int32)
      else
        some (0 : Int32)) (fun (v16 : Int32) =>
  b2 (x_X7_fails v16 t) (fun (v18 : Int32) (t19 : MS) =>
  if (v18 : Int32) = 0 then
    if vR p0 40 then
    bd (x_X7_step_L1 p0 t19 FU (40 * (ga t19 25 p0.toNatClampNeg)) (-1)) (fun (v37 : Int32) =>
    bd (
      if (v37 : Int32) = (-1) then
        some (2 : Int32)
      else
        some (1 : Int32)) (fun (v39 : Int32) =>
    if vR p0 40 then
    bs (sa t19 28 p0.toNatClampNeg v39) (fun (t41 : MS) =>
    if (v37 : Int32) = (-1) then
      some ((-1), t41)
    else
      bd (x_X7_entry p0 v37 t41) (fun (v44 : Int32) =>
      if vR p0 40 then
      bs (sa t41 29 p0.toNatClampNeg v44) (fun (t46 : MS) =>
      if vR v37 120 then
      if vR p0 40 then
      bs (sa t46 30 p0.toNatClampNeg (ga t46 9 v37.toNatClampNeg)) (fun (t49 : MS) =>
      if vR v37 120 then
      some ((ga t49 9 v37.toNatClampNeg), t49)
      else none)
      else none
      else none)
      else none))
    else none))
    else none
  else
    some (0, t19)))))

def x_X7_update (p0 : Int32) (p1 : Int32) (t : MS) : Option (Int32 × MS) :=
  bd (x_X7_isCursor p0 t) (fun (v2 : Int32) =>
  bd (
    l0 (
      if (v2 : Int32) = 0 then
        some (.inl ())
      else
        if vR p0 40 then
        if vR p0 40 then
        bd (x_X7_can (ga t 24 p0.toNatClampNeg) (ga t 25 p0.toNatClampNeg) 1 t) (fun (v7 : Int32) =>
        if (v7 : Int32) = 0 then
          some (.inl ())
        else
          if vR p0 40 then
          if ((ga t 28 p0.toNatClampNeg) : Int32) = 1 then
            if vR p0 40 then
            if vR (ga t 25 p0.toNatClampNeg) 3 then
            if ((ga t 6 (ga t 25 p0.toNatClampNeg).toNatClampNeg) : Int32) = 0 then
              some (.inl ())
            else
              some (.inr ((1 : Int32)))
            else none
            else none
          else
            some (.inl ())
          else none)
        else none
        else none) (fun (_ : Unit) =>
    some (0 : Int32))) (fun (v15 : Int32) =>
  bd (
    if (v15 : Int32) = 0 then
      some ((-1) : Int32)
    else
      if vR p0 40 then
      if vR p0 40 then
      bd (x_X7_find (ga t 25 p0.toNatClampNeg) (ga t 30 p0.toNatClampNeg) t) (fun (v20 : Int32) =>
      some v20)
      else none
      else none) (fun (v21 : Int32) =>
  bd (
    if (v2 : Int32) = 0 then
      some (1 : Int32)
    else
      bd (x_X7_isIn p1 0 9999) (fun (v24 : Int32) =>
      if (v24 : Int32) = 0 then
        some (2 : Int32)
      else
        if (v21 : Int32) = (-1) then
          some (3 : Int32)
        else
          some (0 : Int32))) (fun (v27 : Int32) =>
  b2 (x_X7_fails v27 t) (fun (v29 : Int32) (t30 : MS) =>
  if (v29 : Int32) = 0 then
    if vR v21 120 then
    if vR v21 120 then
    bs (sa t30 10 v21.toNatClampNeg p1) (fun (t34 : MS) =>
    some ((ga t30 10 v21.toNatClampNeg), t34))
    else none
    else none
  else
    some (0, t30))))))
