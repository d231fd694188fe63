def fX5_equationOf (M : Mem) (a1 : Int32) : Option (Option Nat) :=
  if a1 = 0 then
    some (some 1)
  else
    if a1 = (1 : Int32) then
      some (some 6)
    else
      some none
def fX5_within (a0 : Int32) (a1 : Int32) (a2 : Int32) : Option Int32 :=
  if a0 < a1 then
    okZ (0 : Int32)
  else
    if a2 < a0 then
      okZ (0 : Int32)
    else
      okZ (1 : Int32)
def fX5_isFactor (a0 : Int32) : Option Int32 :=
  if a0 = 0 then
    okZ (0 : Int32)
  else
    Option.bind (fX5_within  a0 (-20 : Int32) (20 : Int32)) fun v1 =>
    if v1 = 0 then
      okZ (0 : Int32)
    else
      okZ (1 : Int32)
def sX0_holds_2 (M : Mem) (a0 : Nat) (a1 : Int32) (a2 : Int32) (cont2 : Int32 → Option Int32) (v1 : Int32) : Option Int32 :=
  if (M.1 a0 4) ≤ v1 then
    okZ (0 : Int32)
  else
    (ldI M (a0 + 1) 8 v1).bind fun v2 =>
    if v2 = a1 then
      (ldI M (a0 + 2) 8 v1).bind fun v3 =>
      if v3 = a2 then
        okZ (1 : Int32)
      else
        cont2 (v1 + 1)
    else
      cont2 (v1 + 1)
def fX0_holds (N : Nat) (M : Mem) (a0 : Nat) (a1 : Int32) (a2 : Int32) : Option Int32 :=
  lp (fun _ => none) (sX0_holds_2 M a0 a1 a2) N (0 : Int32)
def fX5_forgetFound (M : Mem)  : Option Mem :=
  (stZ M 16 2 (0 : Int32)).bind fun M1 =>
  (some (setI M1 21 2 (0 : Int32))).bind fun M2 =>
  some M2
def fX0_add (M : Mem) (a0 : Nat) (a1 : Int32) (a2 : Int32) (a3 : Int32) : Option (Int32 × Mem) :=
  if (M.1 a0 4) < (8 : Int32) then
    (stI M (a0 + 1) 8 (M.1 a0 4) a1).bind fun M1 =>
    (stI M1 (a0 + 2) 8 (M.1 a0 4) a2).bind fun M2 =>
    (stI M2 (a0 + 3) 8 (M.1 a0 4) a3).bind fun M3 =>
    (stI M3 (a0 + 4) 8 (M.1 a0 4) (0 : Int32)).bind fun M4 =>
    (some (setI M4 a0 4 ((M4.1 a0 4) + (1 : Int32)))).bind fun M5 =>
    some ((M.1 a0 4), M5)
  else
    some ((-4 : Int32), M)
def fX5_term (N : Nat) (M : Mem) (a1 : Int32) (a2 : Int32) (a3 : Int32) (a4 : Int32) : Option (Int32 × Mem) :=
  Option.bind (fX5_equationOf M a1) fun q1 =>
  match q1 with
  | none =>
    some ((-1 : Int32), M)
  | some e2 =>
    Option.bind (fX5_within  a2 (0 : Int32) (6 : Int32)) fun v3 =>
    if v3 = 0 then
      some ((-2 : Int32), M)
    else
      Option.bind (fX5_within  a3 (0 : Int32) (6 : Int32)) fun v4 =>
      if v4 = 0 then
        some ((-2 : Int32), M)
      else
        Option.bind (fX5_isFactor  a4) fun v5 =>
        if v5 = 0 then
          some ((-2 : Int32), M)
        else
          if (M.1 e2 4) < (8 : Int32) then
            Option.bind (fX0_holds N M e2 a2 a3) fun v6 =>
            if v6 = 0 then
              Option.bind (fX5_forgetFound M ) fun M7 =>
              Option.bind (fX0_add M7 e2 a2 a3 a4) fun t10 =>
              some (t10.1, t10.2)
            else
              some ((-5 : Int32), M)
          else
            some ((-4 : Int32), M)
def fX0_has (M : Mem) (a0 : Nat) (a1 : Int32) : Option Int32 :=
  Option.bind (fX5_within  a1 (0 : Int32) ((M.1 a0 4) - (1 : Int32))) fun v1 =>
  okZ v1
def fX5_about (M : Mem) (a1 : Int32) (a2 : Int32) (a3 : Int32) : Option Int32 :=
  Option.bind (fX5_equationOf M a1) fun q1 =>
  match q1 with
  | none =>
    some (-101 : Int32)
  | some e2 =>
    Option.bind (fX0_has M e2 a2) fun v3 =>
    if v3 = 0 then
      some (-101 : Int32)
    else
      if a3 = 0 then
        (ldI M (e2 + 1) 8 a2).bind fun v4 =>
        some v4
      else
        if a3 = 1 then
          (ldI M (e2 + 2) 8 a2).bind fun v5 =>
          some v5
        else
          if a3 = 2 then
            (ldI M (e2 + 3) 8 a2).bind fun v6 =>
            some v6
          else
            if a3 = 3 then
              (ldI M (e2 + 4) 8 a2).bind fun v7 =>
              some v7
            else
              some (-102 : Int32)
def fX5_change (M : Mem) (a1 : Int32) (a2 : Int32) (a3 : Int32) : Option (Int32 × Mem) :=
  Option.bind (fX5_equationOf M a1) fun q1 =>
  match q1 with
  | none =>
    some ((-101 : Int32), M)
  | some e2 =>
    Option.bind (fX0_has M e2 a2) fun v3 =>
    if v3 = 0 then
      some ((-101 : Int32), M)
    else
      Option.bind (fX5_isFactor  a3) fun v4 =>
      if v4 = 0 then
        some ((-102 : Int32), M)
      else
        (ldI M (e2 + 3) 8 a2).bind fun v5 =>
        (stI M (e2 + 3) 8 a2 a3).bind fun M6 =>
        Option.bind (fX5_forgetFound M6 ) fun M7 =>
        some (v5, M7)
def fX5_clear (M : Mem) (a1 : Int32) : Option (Int32 × Mem) :=
  Option.bind (fX5_equationOf M a1) fun q1 =>
  match q1 with
  | none =>
    some ((-1 : Int32), M)
  | some e2 =>
    (some (setI M e2 4 (0 : Int32))).bind fun M3 =>
    Option.bind (fX5_forgetFound M3 ) fun M4 =>
    some ((M.1 e2 4), M4)
def fX5_anyEmpty (M : Mem)  : Option Int32 :=
  if (M.1 1 4) = 0 then
    okZ (1 : Int32)
  else
    if (M.1 6 4) = 0 then
      okZ (1 : Int32)
    else
      okZ (0 : Int32)
def fX1_put (M : Mem) (a1 : Int32) (a2 : Int32) : Option Mem :=
  if (64 : Int32) ≤ (M.1 11 5) then
    some M
  else
    (stI M 14 64 (M.1 11 5) a1).bind fun M1 =>
    (stI M1 15 64 (M1.1 11 5) a2).bind fun M2 =>
    (some (setI M2 11 5 ((M2.1 11 5) + (1 : Int32)))).bind fun M3 =>
    some M3
def sX1_firstPoint_4 (M : Mem) (cont4 : Int32 → Int32 → Option Int32) (v1 : Int32) (v2 : Int32) : Option Int32 :=
  if (M.1 11 5) ≤ v2 then
    some v1
  else
    (ldI M 14 64 v2).bind fun v3 =>
    (ldI M 14 64 v1).bind fun v4 =>
    Option.bind (
      if v3 = v4 then
        some (1 : Int32)
      else
        some (0 : Int32)
    ) fun v5 =>
    (ldI M 14 64 v2).bind fun v6 =>
    (ldI M 14 64 v1).bind fun v7 =>
    Option.bind (
      if v6 < v7 then
        some v2
      else
        if v5 = 0 then
          some v1
        else
          (ldI M 15 64 v2).bind fun v10 =>
          (ldI M 15 64 v1).bind fun v11 =>
          if v11 ≤ v10 then
            some v1
          else
            some v2
    ) fun v8 =>
    cont4 v8 (v2 + 1)
def fX1_firstPoint (N : Nat) (M : Mem)  : Option Int32 :=
  lp (fun _ _ => none) (sX1_firstPoint_4 M) N (0 : Int32) (1 : Int32)
def fX1_same (M : Mem) (a1 : Int32) (a2 : Int32) : Option Int32 :=
  (ldI M 14 64 a1).bind fun v1 =>
  (ldI M 14 64 a2).bind fun v2 =>
  if v1 = v2 then
    (ldI M 15 64 a1).bind fun v3 =>
    (ldI M 15 64 a2).bind fun v4 =>
    if v3 = v4 then
      okZ (1 : Int32)
    else
      okZ (0 : Int32)
  else
    okZ (0 : Int32)
def fX1_sideOf (M : Mem) (a1 : Int32) (a2 : Int32) (a3 : Int32) : Option Int32 :=
  (ldI M 14 64 a2).bind fun v1 =>
  (ldI M 14 64 a1).bind fun v2 =>
  (ldI M 15 64 a3).bind fun v3 =>
  (ldI M 15 64 a1).bind fun v4 =>
  (ldI M 15 64 a2).bind fun v5 =>
  (ldI M 15 64 a1).bind fun v6 =>
  (ldI M 14 64 a3).bind fun v7 =>
  (ldI M 14 64 a1).bind fun v8 =>
  some (((v1 - v2) * (v3 - v4)) - ((v5 - v6) * (v7 - v8)))
def fX1_far (M : Mem) (a1 : Int32) (a2 : Int32) : Option Int32 :=
  (ldI M 14 64 a2).bind fun v1 =>
  (ldI M 14 64 a1).bind fun v2 =>
  (ldI M 15 64 a2).bind fun v3 =>
  (ldI M 15 64 a1).bind fun v4 =>
  some ((if 0 ≤ (v1 - v2) then (v1 - v2) else 0 - (v1 - v2)) + (if 0 ≤ (v3 - v4) then (v3 - v4) else 0 - (v3 - v4)))
def sX1_nextCorner_4 (M : Mem) (a1 : Int32) (cont4 : Int32 → Int32 → Option Int32) (v1 : Int32) (v2 : Int32) : Option Int32 :=
  if (M.1 11 5) ≤ v2 then
    some v1
  else
    Option.bind (fX1_same M v2 a1) fun v3 =>
    Option.bind (
      if v3 = 0 then
        Option.bind (fX1_sideOf M a1 v1 v2) fun v6 =>
        Option.bind (fX1_same M v1 a1) fun v7 =>
        if v7 = 0 then
          if v6 < 0 then
            some v2
          else
            if v6 = 0 then
              Option.bind (fX1_far M a1 v2) fun v8 =>
              Option.bind (fX1_far M a1 v1) fun v9 =>
              if v8 ≤ v9 then
                some v1
              else
                some v2
            else
              some v1
        else
          some v2
      else
        some v1
    ) fun v4 =>
    cont4 v4 (v2 + 1)
def fX1_nextCorner (N : Nat) (M : Mem) (a1 : Int32) : Option Int32 :=
  lp (fun _ _ => none) (sX1_nextCorner_4 M a1) N a1 (0 : Int32)
def sX1_wrap_14 (N : Nat) (v2 : Int32) (cont14 : Int32 → Int32 → Mem → Option Mem) (v3 : Int32) (v4 : Int32) (M5 : Mem) : Option Mem :=
  if (M5.1 11 5) ≤ v4 then
    some M5
  else
    (ldI M5 14 64 v3).bind fun v6 =>
    (stI M5 12 64 (M5.1 11 2) v6).bind fun M7 =>
    (ldI M7 15 64 v3).bind fun v8 =>
    (stI M7 13 64 (M7.1 11 2) v8).bind fun M9 =>
    (some (setI M9 11 2 ((M9.1 11 2) + (1 : Int32)))).bind fun M10 =>
    Option.bind (fX1_nextCorner N M10 v3) fun v11 =>
    Option.bind (fX1_same M10 v11 v2) fun v12 =>
    if v12 = 0 then
      cont14 v11 (v4 + 1) M10
    else
      some M10
def fX1_wrap (N : Nat) (M : Mem)  : Option Mem :=
  (some (setI M 11 2 (0 : Int32))).bind fun M1 =>
  Option.bind (fX1_firstPoint N M1 ) fun v2 =>
  lp (fun _ _ _ => none) (sX1_wrap_14 N v2) N v2 (0 : Int32) M1
def sX1_drawSum_18 (a2 : Nat) (a1 : Nat) (v2 : Int32) (cont18 : Int32 → Mem → Option Mem) (v7 : Int32) (M8 : Mem) : Option Mem :=
  if (M8.1 a2 4) ≤ v7 then
    some M8
  else
    (ldI M8 (a1 + 1) 8 v2).bind fun v9 =>
    (ldI M8 (a2 + 1) 8 v7).bind fun v10 =>
    (ldI M8 (a1 + 2) 8 v2).bind fun v11 =>
    (ldI M8 (a2 + 2) 8 v7).bind fun v12 =>
    Option.bind (fX1_put M8 (v9 + v10) (v11 + v12)) fun M13 =>
    cont18 (v7 + 1) M13
def sX1_drawSum_7 (a1 : Nat) (N : Nat) (a2 : Nat) (cont7 : Int32 → Mem → Option Mem) (v2 : Int32) (M3 : Mem) : Option Mem :=
  if (M3.1 a1 4) ≤ v2 then
    Option.bind (fX1_wrap N M3 ) fun M4 =>
    some M4
  else
    Option.bind (
      lp (fun _ _ => none) (sX1_drawSum_18 a2 a1 v2) N (0 : Int32) M3
    ) fun M5 =>
    cont7 (v2 + 1) M5
def fX1_drawSum (N : Nat) (M : Mem) (a1 : Nat) (a2 : Nat) : Option Mem :=
  (some (setI M 11 5 (0 : Int32))).bind fun M1 =>
  lp (fun _ _ => none) (sX1_drawSum_7 a1 N a2) N (0 : Int32) M1
def sX1_drawOne_7 (a1 : Nat) (N : Nat) (cont7 : Int32 → Mem → Option Mem) (v2 : Int32) (M3 : Mem) : Option Mem :=
  if (M3.1 a1 4) ≤ v2 then
    Option.bind (fX1_wrap N M3 ) fun M4 =>
    some M4
  else
    (ldI M3 (a1 + 1) 8 v2).bind fun v5 =>
    (ldI M3 (a1 + 2) 8 v2).bind fun v6 =>
    Option.bind (fX1_put M3 v5 v6) fun M7 =>
    cont7 (v2 + 1) M7
def fX1_drawOne (N : Nat) (M : Mem) (a1 : Nat) : Option Mem :=
  (some (setI M 11 5 (0 : Int32))).bind fun M1 =>
  lp (fun _ _ => none) (sX1_drawOne_7 a1 N) N (0 : Int32) M1
def fX5_drawFigure (N : Nat) (M : Mem) (a1 : Int32) : Option (Int32 × Mem) :=
  if a1 = (2 : Int32) then
    Option.bind (fX5_anyEmpty M ) fun v4 =>
    if v4 = 0 then
      Option.bind (fX1_drawSum N M 1 6) fun M5 =>
      okZM (1 : Int32) M5
    else
      okZM (0 : Int32) M
  else
    Option.bind (fX5_equationOf M a1) fun q1 =>
    match q1 with
    | none =>
      okZM (0 : Int32) M
    | some e2 =>
      if (M.1 e2 4) = 0 then
        okZM (0 : Int32) M
      else
        Option.bind (fX1_drawOne N M e2) fun M3 =>
        okZM (1 : Int32) M3
def fX1_after (M : Mem) (a1 : Int32) : Option Int32 :=
  if (M.1 11 2) ≤ (a1 + (1 : Int32)) then
    some (0 : Int32)
  else
    some (a1 + (1 : Int32))
def sX1_area_4 (M : Mem) (cont4 : Int32 → Int32 → Option Int32) (v1 : Int32) (v2 : Int32) : Option Int32 :=
  if (M.1 11 2) ≤ v2 then
    some v1
  else
    Option.bind (fX1_after M v2) fun v3 =>
    (ldI M 12 64 v2).bind fun v4 =>
    (ldI M 13 64 v3).bind fun v5 =>
    (ldI M 13 64 v2).bind fun v6 =>
    (ldI M 12 64 v3).bind fun v7 =>
    cont4 (v1 + ((v4 * v5) - (v6 * v7))) (v2 + 1)
def fX1_area (N : Nat) (M : Mem)  : Option Int32 :=
  lp (fun _ _ => none) (sX1_area_4 M) N (0 : Int32) (0 : Int32)
def sX5_commonPart_13 (cont13 : Int32 → Int32 → Int32 → Option Int32) (v1 : Int32) (v2 : Int32) (v3 : Int32) : Option Int32 :=
  if (64 : Int32) ≤ v3 then
    some v1
  else
    if v2 = 0 then
      some v1
    else
      (rmI v1 v2).bind fun v4 =>
      cont13 v2 v4 (v3 + 1)
def fX5_commonPart (N : Nat) (a0 : Int32) (a1 : Int32) : Option Int32 :=
  lp (fun _ _ _ => none) sX5_commonPart_13 N (if 0 ≤ a0 then a0 else 0 - a0) (if 0 ≤ a1 then a1 else 0 - a1) (0 : Int32)
def sX1_rim_17 (M : Mem) (N : Nat) (cont17 : Int32 → Int32 → Option Int32) (v4 : Int32) (v5 : Int32) : Option Int32 :=
  if (M.1 11 2) ≤ v5 then
    some v4
  else
    Option.bind (fX1_after M v5) fun v6 =>
    (ldI M 12 64 v6).bind fun v7 =>
    (ldI M 12 64 v5).bind fun v8 =>
    (ldI M 13 64 v6).bind fun v9 =>
    (ldI M 13 64 v5).bind fun v10 =>
    Option.bind (fX5_commonPart N  (v7 - v8) (v9 - v10)) fun v11 =>
    cont17 (v4 + v11) (v5 + 1)
def fX1_rim (N : Nat) (M : Mem)  : Option Int32 :=
  if (2 : Int32) ≤ (M.1 11 2) then
    Option.bind (
      lp (fun _ _ => none) (sX1_rim_17 M N) N (0 : Int32) (0 : Int32)
    ) fun v1 =>
    if (M.1 11 2) = (2 : Int32) then
      (dvI v1 (2 : Int32)).bind fun v2 =>
      some (v2 + (1 : Int32))
    else
      some v1
  else
    some (M.1 11 2)
def fX1_inner (N : Nat) (M : Mem)  : Option Int32 :=
  if (3 : Int32) ≤ (M.1 11 2) then
    Option.bind (fX1_area N M ) fun v1 =>
    Option.bind (fX1_rim N M ) fun v2 =>
    (dvI ((v1 - v2) + (2 : Int32)) (2 : Int32)).bind fun v3 =>
    some v3
  else
    some (0 : Int32)
def fX5_shape (N : Nat) (M : Mem) (a1 : Int32) (a2 : Int32) : Option (Int32 × Mem) :=
  Option.bind (fX5_within  a1 (0 : Int32) (2 : Int32)) fun v1 =>
  if v1 = 0 then
    some ((-1 : Int32), M)
  else
    Option.bind (fX5_within  a2 (0 : Int32) (3 : Int32)) fun v2 =>
    if v2 = 0 then
      some ((-2 : Int32), M)
    else
      Option.bind (fX5_drawFigure N M a1) fun t5 =>
      if t5.1 = 0 then
        some ((-3 : Int32), t5.2)
      else
        if a2 = 0 then
          Option.bind (fX1_area N t5.2 ) fun v6 =>
          some (v6, t5.2)
        else
          if a2 = 1 then
            some ((t5.2.1 11 2), t5.2)
          else
            if a2 = 2 then
              Option.bind (fX1_rim N t5.2 ) fun v7 =>
              some (v7, t5.2)
            else
              Option.bind (fX1_inner N t5.2 ) fun v8 =>
              some (v8, t5.2)
def fX5_corner (N : Nat) (M : Mem) (a1 : Int32) (a2 : Int32) : Option (Int32 × Mem) :=
  Option.bind (fX5_within  a1 (0 : Int32) (2 : Int32)) fun v1 =>
  if v1 = 0 then
    some ((-1 : Int32), M)
  else
    Option.bind (fX5_drawFigure N M a1) fun t4 =>
    if t4.1 = 0 then
      some ((-3 : Int32), t4.2)
    else
      Option.bind (fX5_within  a2 (0 : Int32) ((t4.2.1 11 2) - (1 : Int32))) fun v5 =>
      if v5 = 0 then
        some ((-1 : Int32), t4.2)
      else
        (ldI t4.2 12 64 a2).bind fun v6 =>
        (ldI t4.2 13 64 a2).bind fun v7 =>
        some ((((20 : Int32) * v6) + v7), t4.2)
def fX5_areaOf (N : Nat) (M : Mem) (a1 : Int32) : Option (Int32 × Mem) :=
  Option.bind (fX5_drawFigure N M a1) fun t3 =>
  if t3.1 = 0 then
    some ((0 : Int32), t3.2)
  else
    Option.bind (fX1_area N t3.2 ) fun v4 =>
    some (v4, t3.2)
def fX5_mixed (N : Nat) (M : Mem)  : Option (Int32 × Mem) :=
  Option.bind (fX5_anyEmpty M ) fun v1 =>
  if v1 = 0 then
    Option.bind (fX5_areaOf N M (2 : Int32)) fun t4 =>
    Option.bind (fX5_areaOf N t4.2 (0 : Int32)) fun t7 =>
    Option.bind (fX5_areaOf N t7.2 (1 : Int32)) fun t10 =>
    (dvI ((t4.1 - t7.1) - t10.1) (2 : Int32)).bind fun v11 =>
    some (v11, t10.2)
  else
    some ((-3 : Int32), M)
def fX5_lift (M : Mem) (a1 : Int32) (a2 : Int32) (a3 : Int32) : Option (Int32 × Mem) :=
  Option.bind (fX5_equationOf M a1) fun q1 =>
  match q1 with
  | none =>
    some ((-1 : Int32), M)
  | some e2 =>
    Option.bind (fX0_has M e2 a2) fun v3 =>
    if v3 = 0 then
      some ((-1 : Int32), M)
    else
      Option.bind (fX5_within  a3 (0 : Int32) (100 : Int32)) fun v4 =>
      if v4 = 0 then
        some ((-2 : Int32), M)
      else
        (ldI M (e2 + 4) 8 a2).bind fun v5 =>
        (stI M (e2 + 4) 8 a2 a3).bind fun M6 =>
        Option.bind (fX5_forgetFound M6 ) fun M7 =>
        some (v5, M7)
def fX5_across (M : Mem) (a0 : Nat) (a1 : Int32) (a2 : Int32) (a3 : Nat) (a4 : Int32) (a5 : Int32) : Option Int32 :=
  (ldI M (a0 + 1) 8 a2).bind fun v1 =>
  (ldI M (a0 + 1) 8 a1).bind fun v2 =>
  (ldI M (a3 + 2) 8 a5).bind fun v3 =>
  (ldI M (a3 + 2) 8 a4).bind fun v4 =>
  (ldI M (a0 + 2) 8 a2).bind fun v5 =>
  (ldI M (a0 + 2) 8 a1).bind fun v6 =>
  (ldI M (a3 + 1) 8 a5).bind fun v7 =>
  (ldI M (a3 + 1) 8 a4).bind fun v8 =>
  some (((v1 - v2) * (v3 - v4)) - ((v5 - v6) * (v7 - v8)))
def fX4_tilt (M : Mem) (a1 : Nat) (a2 : Nat) (a3 : Int32) (a4 : Int32) (a5 : Int32) (a6 : Int32) : Option (Int32 × Mem) :=
  Option.bind (fX5_across M a1 a3 a4 a2 a5 a6) fun v1 =>
  if v1 = 0 then
    okZM (0 : Int32) M
  else
    Option.bind (
      if 0 ≤ v1 then
        some (1 : Int32)
      else
        some (-1 : Int32)
    ) fun v2 =>
    (ldI M (a1 + 4) 8 a3).bind fun v3 =>
    (ldI M (a1 + 4) 8 a4).bind fun v4 =>
    (ldI M (a2 + 4) 8 a5).bind fun v5 =>
    (ldI M (a2 + 4) 8 a6).bind fun v6 =>
    (some (setI M 16 4 (v2 * v1))).bind fun M7 =>
    (ldI M7 (a2 + 2) 8 a6).bind fun v8 =>
    (ldI M7 (a2 + 2) 8 a5).bind fun v9 =>
    (ldI M7 (a1 + 2) 8 a4).bind fun v10 =>
    (ldI M7 (a1 + 2) 8 a3).bind fun v11 =>
    (some (setI M7 16 5 (v2 * (((v3 - v4) * (v8 - v9)) - ((v5 - v6) * (v10 - v11)))))).bind fun M12 =>
    (ldI M12 (a1 + 1) 8 a4).bind fun v13 =>
    (ldI M12 (a1 + 1) 8 a3).bind fun v14 =>
    (ldI M12 (a2 + 1) 8 a6).bind fun v15 =>
    (ldI M12 (a2 + 1) 8 a5).bind fun v16 =>
    (some (setI M12 16 6 (v2 * (((v5 - v6) * (v13 - v14)) - ((v3 - v4) * (v15 - v16)))))).bind fun M17 =>
    okZM (1 : Int32) M17
def fX4_levelOf (M : Mem) (a1 : Nat) (a2 : Int32) : Option Int32 :=
  (ldI M (a1 + 4) 8 a2).bind fun v1 =>
  (ldI M (a1 + 1) 8 a2).bind fun v2 =>
  (ldI M (a1 + 2) 8 a2).bind fun v3 =>
  some ((((M.1 16 4) * v1) + ((M.1 16 5) * v2)) + ((M.1 16 6) * v3))
def sX4_alikeLowest_13 (M : Mem) (a1 : Nat) (v1 : Int32) (cont13 : Int32 → Int32 → Option Int32) (v2 : Int32) (v3 : Int32) : Option Int32 :=
  if (M.1 a1 4) ≤ v3 then
    some v2
  else
    Option.bind (fX4_levelOf M a1 v3) fun v4 =>
    if v1 ≤ v4 then
      Option.bind (
        if v4 = v1 then
          some (v2 + 1)
        else
          some v2
      ) fun v5 =>
      cont13 v5 (v3 + 1)
    else
      some (0 : Int32)
def fX4_alikeLowest (N : Nat) (M : Mem) (a1 : Nat) (a2 : Int32) : Option Int32 :=
  Option.bind (fX4_levelOf M a1 a2) fun v1 =>
  lp (fun _ _ => none) (sX4_alikeLowest_13 M a1 v1) N (0 : Int32) (0 : Int32)
def fX4_noteIfLowest (M : Mem) (a1 : Int32) (a2 : Int32) (a3 : Int32) : Option Mem :=
  if a1 = 0 then
    some M
  else
    if a2 = 0 then
      some M
    else
      if (M.1 16 0) < (784 : Int32) then
        (stI M 17 784 (M.1 16 0) a3).bind fun M1 =>
        (some (setI M1 16 0 ((M1.1 16 0) + (1 : Int32)))).bind fun M2 =>
        if (2 : Int32) < a1 then
          (stZ M2 16 1 (1 : Int32)).bind fun M3 =>
          some M3
        else
          if a2 ≤ (2 : Int32) then
            some M2
          else
            (stZ M2 16 1 (1 : Int32)).bind fun M4 =>
            some M4
      else
        some M
def sX4_findWith_18 (a2 : Nat) (a1 : Nat) (a3 : Int32) (a4 : Int32) (v1 : Int32) (N : Nat) (cont18 : Int32 → Mem → Option Mem) (v5 : Int32) (M6 : Mem) : Option Mem :=
  if (M6.1 a2 4) ≤ v5 then
    some M6
  else
    Option.bind (fX4_tilt M6 a1 a2 a3 a4 v1 v5) fun t9 =>
    Option.bind (
      if t9.1 = 0 then
        some t9.2
      else
        Option.bind (fX4_alikeLowest N t9.2 a1 a3) fun v12 =>
        Option.bind (fX4_alikeLowest N t9.2 a2 v1) fun v13 =>
        Option.bind (fX4_noteIfLowest t9.2 v12 v13 ((((a3 <<< ((9 : Int32) &&& 31)) ||| (a4 <<< ((6 : Int32) &&& 31))) ||| (v1 <<< ((3 : Int32) &&& 31))) ||| v5)) fun M14 =>
        some M14
    ) fun M10 =>
    cont18 (v5 + 1) M10
def sX4_findWith_3 (a2 : Nat) (a1 : Nat) (a3 : Int32) (a4 : Int32) (N : Nat) (cont3 : Int32 → Mem → Option Mem) (v1 : Int32) (M2 : Mem) : Option Mem :=
  if (M2.1 a2 4) ≤ v1 then
    some M2
  else
    Option.bind (
      lp (fun _ _ => none) (sX4_findWith_18 a2 a1 a3 a4 v1 N) N (v1 + (1 : Int32)) M2
    ) fun M3 =>
    cont3 (v1 + 1) M3
def fX4_findWith (N : Nat) (M : Mem) (a1 : Nat) (a2 : Nat) (a3 : Int32) (a4 : Int32) : Option Mem :=
  lp (fun _ _ => none) (sX4_findWith_3 a2 a1 a3 a4 N) N (0 : Int32) M
def sX4_find_38 (a1 : Nat) (N : Nat) (a2 : Nat) (v4 : Int32) (cont38 : Int32 → Mem → Option Mem) (v8 : Int32) (M9 : Mem) : Option Mem :=
  if (M9.1 a1 4) ≤ v8 then
    some M9
  else
    Option.bind (fX4_findWith N M9 a1 a2 v4 v8) fun M10 =>
    cont38 (v8 + 1) M10
def sX4_find_25 (a1 : Nat) (N : Nat) (a2 : Nat) (cont25 : Int32 → Mem → Option Mem) (v4 : Int32) (M5 : Mem) : Option Mem :=
  if (M5.1 a1 4) ≤ v4 then
    some M5
  else
    Option.bind (
      lp (fun _ _ => none) (sX4_find_38 a1 N a2 v4) N (v4 + (1 : Int32)) M5
    ) fun M6 =>
    cont25 (v4 + 1) M6
def fX4_find (N : Nat) (M : Mem) (a1 : Nat) (a2 : Nat) : Option Mem :=
  if (M.1 16 2) = 0 then
    (stZ M 16 2 (1 : Int32)).bind fun M1 =>
    (some (setI M1 16 0 (0 : Int32))).bind fun M2 =>
    (stZ M2 16 1 (0 : Int32)).bind fun M3 =>
    lp (fun _ _ => none) (sX4_find_25 a1 N a2) N (0 : Int32) M3
  else
    some M
def fX5_cells (N : Nat) (M : Mem)  : Option (Int32 × Mem) :=
  Option.bind (fX4_find N M 1 6) fun M1 =>
  some ((M1.1 16 0), M1)
def fX4_memberOf (M : Mem) (a1 : Int32) (a2 : Int32) : Option Int32 :=
  (ldI M 17 784 a1).bind fun v1 =>
  some ((v1 >>> (((3 : Int32) * ((3 : Int32) - a2)) &&& 31)) &&& (7 : Int32))
def fX4_sizeOf (M : Mem) (a1 : Nat) (a2 : Nat) (a3 : Int32) : Option Int32 :=
  Option.bind (fX4_memberOf M a3 (0 : Int32)) fun v1 =>
  Option.bind (fX4_memberOf M a3 (1 : Int32)) fun v2 =>
  Option.bind (fX4_memberOf M a3 (2 : Int32)) fun v3 =>
  Option.bind (fX4_memberOf M a3 (3 : Int32)) fun v4 =>
  Option.bind (fX5_across M a1 v1 v2 a2 v3 v4) fun v5 =>
  some (if 0 ≤ v5 then v5 else 0 - v5)
def fX5_cell (N : Nat) (M : Mem) (a1 : Int32) (a2 : Int32) : Option (Int32 × Mem) :=
  Option.bind (fX4_find N M 1 6) fun M1 =>
  Option.bind (fX5_within  a1 (0 : Int32) ((M1.1 16 0) - (1 : Int32))) fun v2 =>
  if v2 = 0 then
    some ((-1 : Int32), M1)
  else
    Option.bind (fX5_within  a2 (0 : Int32) (4 : Int32)) fun v3 =>
    if v3 = 0 then
      some ((-2 : Int32), M1)
    else
      if a2 = (4 : Int32) then
        Option.bind (fX4_sizeOf M1 1 6 a1) fun v5 =>
        some (v5, M1)
      else
        Option.bind (fX4_memberOf M1 a1 a2) fun v4 =>
        some (v4, M1)
def fX5_fine (N : Nat) (M : Mem)  : Option (Int32 × Mem) :=
  Option.bind (fX4_find N M 1 6) fun M1 =>
  if (M1.1 16 1) = 0 then
    some ((1 : Int32), M1)
  else
    some ((0 : Int32), M1)
def fX5_isAim (a0 : Int32) (a1 : Int32) : Option Int32 :=
  Option.bind (fX5_within  a0 (-6 : Int32) (6 : Int32)) fun v1 =>
  if v1 = 0 then
    okZ (0 : Int32)
  else
    Option.bind (fX5_within  a1 (-6 : Int32) (6 : Int32)) fun v2 =>
    if v2 = 0 then
      okZ (0 : Int32)
    else
      if a0 = 0 then
        if a1 = 0 then
          okZ (0 : Int32)
        else
          okZ (1 : Int32)
      else
        okZ (1 : Int32)
def sX2_bitsOf_10 (M : Mem) (a1 : Nat) (a2 : Int32) (a3 : Int32) (cont10 : Int32 → Int32 → Int32 → Option Int32) (v1 : Int32) (v2 : Int32) (v3 : Int32) : Option Int32 :=
  if (M.1 a1 4) ≤ v3 then
    some v1
  else
    (ldI M (a1 + 1) 8 v3).bind fun v4 =>
    (ldI M (a1 + 2) 8 v3).bind fun v5 =>
    Option.bind (
      if v2 ≤ ((a2 * v4) + (a3 * v5)) then
        some (v1, v2)
      else
        some ((0 : Int32), ((a2 * v4) + (a3 * v5)))
    ) fun t11 =>
    Option.bind (
      if ((a2 * v4) + (a3 * v5)) = t11.2 then
        some (t11.1 ||| ((1 : Int32) <<< (v3 &&& 31)))
      else
        some t11.1
    ) fun v8 =>
    cont10 v8 t11.2 (v3 + 1)
def fX2_bitsOf (N : Nat) (M : Mem) (a1 : Nat) (a2 : Int32) (a3 : Int32) : Option Int32 :=
  lp (fun _ _ _ => none) (sX2_bitsOf_10 M a1 a2 a3) N (0 : Int32) (2147483647 : Int32) (0 : Int32)
def fX5_face (N : Nat) (M : Mem) (a1 : Int32) (a2 : Int32) (a3 : Int32) : Option Int32 :=
  Option.bind (fX5_equationOf M a1) fun q1 =>
  match q1 with
  | none =>
    some (-1 : Int32)
  | some e2 =>
    Option.bind (fX5_isAim  a2 a3) fun v3 =>
    if v3 = 0 then
      some (-2 : Int32)
    else
      if (M.1 e2 4) = 0 then
        some (-3 : Int32)
      else
        Option.bind (fX2_bitsOf N M e2 a2 a3) fun v4 =>
        some v4
def fJ6_bitCount_0f7a4 (a0 : Int32) : Option Int32 :=
  some ((((((((a0 - (((Int32.toUInt32 a0 >>> (Int32.toUInt32 (1 : Int32) &&& Int32.toUInt32 31)).toInt32) &&& (1431655765 : Int32))) &&& (858993459 : Int32)) + (((Int32.toUInt32 (a0 - (((Int32.toUInt32 a0 >>> (Int32.toUInt32 (1 : Int32) &&& Int32.toUInt32 31)).toInt32) &&& (1431655765 : Int32))) >>> (Int32.toUInt32 (2 : Int32) &&& Int32.toUInt32 31)).toInt32) &&& (858993459 : Int32))) + ((Int32.toUInt32 (((a0 - (((Int32.toUInt32 a0 >>> (Int32.toUInt32 (1 : Int32) &&& Int32.toUInt32 31)).toInt32) &&& (1431655765 : Int32))) &&& (858993459 : Int32)) + (((Int32.toUInt32 (a0 - (((Int32.toUInt32 a0 >>> (Int32.toUInt32 (1 : Int32) &&& Int32.toUInt32 31)).toInt32) &&& (1431655765 : Int32))) >>> (Int32.toUInt32 (2 : Int32) &&& Int32.toUInt32 31)).toInt32) &&& (858993459 : Int32))) >>> (Int32.toUInt32 (4 : Int32) &&& Int32.toUInt32 31)).toInt32)) &&& (252645135 : Int32)) + ((Int32.toUInt32 (((((a0 - (((Int32.toUInt32 a0 >>> (Int32.toUInt32 (1 : Int32) &&& Int32.toUInt32 31)).toInt32) &&& (1431655765 : Int32))) &&& (858993459 : Int32)) + (((Int32.toUInt32 (a0 - (((Int32.toUInt32 a0 >>> (Int32.toUInt32 (1 : Int32) &&& Int32.toUInt32 31)).toInt32) &&& (1431655765 : Int32))) >>> (Int32.toUInt32 (2 : Int32) &&& Int32.toUInt32 31)).toInt32) &&& (858993459 : Int32))) + ((Int32.toUInt32 (((a0 - (((Int32.toUInt32 a0 >>> (Int32.toUInt32 (1 : Int32) &&& Int32.toUInt32 31)).toInt32) &&& (1431655765 : Int32))) &&& (858993459 : Int32)) + (((Int32.toUInt32 (a0 - (((Int32.toUInt32 a0 >>> (Int32.toUInt32 (1 : Int32) &&& Int32.toUInt32 31)).toInt32) &&& (1431655765 : Int32))) >>> (Int32.toUInt32 (2 : Int32) &&& Int32.toUInt32 31)).toInt32) &&& (858993459 : Int32))) >>> (Int32.toUInt32 (4 : Int32) &&& Int32.toUInt32 31)).toInt32)) &&& (252645135 : Int32)) >>> (Int32.toUInt32 (8 : Int32) &&& Int32.toUInt32 31)).toInt32)) + ((Int32.toUInt32 ((((((a0 - (((Int32.toUInt32 a0 >>> (Int32.toUInt32 (1 : Int32) &&& Int32.toUInt32 31)).toInt32) &&& (1431655765 : Int32))) &&& (858993459 : Int32)) + (((Int32.toUInt32 (a0 - (((Int32.toUInt32 a0 >>> (Int32.toUInt32 (1 : Int32) &&& Int32.toUInt32 31)).toInt32) &&& (1431655765 : Int32))) >>> (Int32.toUInt32 (2 : Int32) &&& Int32.toUInt32 31)).toInt32) &&& (858993459 : Int32))) + ((Int32.toUInt32 (((a0 - (((Int32.toUInt32 a0 >>> (Int32.toUInt32 (1 : Int32) &&& Int32.toUInt32 31)).toInt32) &&& (1431655765 : Int32))) &&& (858993459 : Int32)) + (((Int32.toUInt32 (a0 - (((Int32.toUInt32 a0 >>> (Int32.toUInt32 (1 : Int32) &&& Int32.toUInt32 31)).toInt32) &&& (1431655765 : Int32))) >>> (Int32.toUInt32 (2 : Int32) &&& Int32.toUInt32 31)).toInt32) &&& (858993459 : Int32))) >>> (Int32.toUInt32 (4 : Int32) &&& Int32.toUInt32 31)).toInt32)) &&& (252645135 : Int32)) + ((Int32.toUInt32 (((((a0 - (((Int32.toUInt32 a0 >>> (Int32.toUInt32 (1 : Int32) &&& Int32.toUInt32 31)).toInt32) &&& (1431655765 : Int32))) &&& (858993459 : Int32)) + (((Int32.toUInt32 (a0 - (((Int32.toUInt32 a0 >>> (Int32.toUInt32 (1 : Int32) &&& Int32.toUInt32 31)).toInt32) &&& (1431655765 : Int32))) >>> (Int32.toUInt32 (2 : Int32) &&& Int32.toUInt32 31)).toInt32) &&& (858993459 : Int32))) + ((Int32.toUInt32 (((a0 - (((Int32.toUInt32 a0 >>> (Int32.toUInt32 (1 : Int32) &&& Int32.toUInt32 31)).toInt32) &&& (1431655765 : Int32))) &&& (858993459 : Int32)) + (((Int32.toUInt32 (a0 - (((Int32.toUInt32 a0 >>> (Int32.toUInt32 (1 : Int32) &&& Int32.toUInt32 31)).toInt32) &&& (1431655765 : Int32))) >>> (Int32.toUInt32 (2 : Int32) &&& Int32.toUInt32 31)).toInt32) &&& (858993459 : Int32))) >>> (Int32.toUInt32 (4 : Int32) &&& Int32.toUInt32 31)).toInt32)) &&& (252645135 : Int32)) >>> (Int32.toUInt32 (8 : Int32) &&& Int32.toUInt32 31)).toInt32)) >>> (Int32.toUInt32 (16 : Int32) &&& Int32.toUInt32 31)).toInt32)) &&& (63 : Int32))
def sX2_layAlong_101 (a1 : Nat) (a3 : Int32) (a4 : Int32) (v1 : Int32) (a2 : Int32) (a5 : Nat) (cont101 : Int32 → Mem → Option Mem) (v3 : Int32) (M4 : Mem) : Option Mem :=
  if (M4.1 a1 4) ≤ v3 then
    some M4
  else
    (ldI M4 (a1 + 1) 8 v3).bind fun v5 =>
    (ldI M4 (a1 + 2) 8 v3).bind fun v6 =>
    (dvI (((a3 * v5) + (a4 * v6)) - v1) ((a3 * a3) + (a4 * a4))).bind fun v7 =>
    Option.bind (
      if ((a2 >>> (v3 &&& 31)) &&& (1 : Int32)) = 0 then
        some M4
      else
        Option.bind (fX5_within  v7 (0 : Int32) ((7 : Int32) - (1 : Int32))) fun v10 =>
        if v10 = 0 then
          some M4
        else
          (ldI M4 (a1 + 3) 8 v3).bind fun v11 =>
          (stL M4 a5 7 v7 (Int32.toInt64 v11)).bind fun M12 =>
          some M12
    ) fun M8 =>
    cont101 (v3 + 1) M8
def sX2_layAlong_61 (a5 : Nat) (cont61 : Int32 → Mem → Option Mem) (v14 : Int32) (M15 : Mem) : Option Mem :=
  if (7 : Int32) ≤ v14 then
    some M15
  else
    (stL M15 a5 7 v14 (0 : Int64)).bind fun M16 =>
    cont61 (v14 + 1) M16
def sX2_layAlong_7 (M : Mem) (a1 : Nat) (a2 : Int32) (a3 : Int32) (a4 : Int32) (cont7 : Int32 → Int32 → Option Int32) (v18 : Int32) (v19 : Int32) : Option Int32 :=
  if (M.1 a1 4) ≤ v19 then
    some v18
  else
    Option.bind (
      if ((a2 >>> (v19 &&& 31)) &&& (1 : Int32)) = 0 then
        some v18
      else
        (ldI M (a1 + 1) 8 v19).bind fun v22 =>
        (ldI M (a1 + 2) 8 v19).bind fun v23 =>
        some (if ((a3 * v22) + (a4 * v23)) < v18 then ((a3 * v22) + (a4 * v23)) else v18)
    ) fun v20 =>
    cont7 v20 (v19 + 1)
def fX2_layAlong (N : Nat) (M : Mem) (a1 : Nat) (a2 : Int32) (a3 : Int32) (a4 : Int32) (a5 : Nat) : Option Mem :=
  Option.bind (
    lp (fun _ _ => none) (sX2_layAlong_7 M a1 a2 a3 a4) N (2147483647 : Int32) (0 : Int32)
  ) fun v1 =>
  Option.bind (
    lp (fun _ _ => none) (sX2_layAlong_61 a5) N (0 : Int32) M
  ) fun M2 =>
  if ((a3 * a3) + (a4 * a4)) = 0 then
    some M2
  else
    lp (fun _ _ => none) (sX2_layAlong_101 a1 a3 a4 v1 a2 a5) N (0 : Int32) M2
def sX2_degreeOf_5 (M : Mem) (a1 : Nat) (cont5 : Int32 → Option Int32) (v1 : Int32) : Option Int32 :=
  if v1 < 0 then
    some v1
  else
    (ldL M a1 7 v1).bind fun v2 =>
    if v2 = (0 : Int64) then
      cont5 (v1 + (-1))
    else
      some v1
def fX2_degreeOf (N : Nat) (M : Mem) (a1 : Nat) : Option Int32 :=
  lp (fun _ => none) (sX2_degreeOf_5 M a1) N ((7 : Int32) - (1 : Int32))
def sX2_lower_20 (a2 : Int32) (a4 : Int32) (a3 : Nat) (v1 : Int64) (a1 : Nat) (v2 : Int64) (a5 : Int64) (cont20 : Int32 → Mem → Option Mem) (v3 : Int32) (M4 : Mem) : Option Mem :=
  if a2 < v3 then
    some M4
  else
    Option.bind (
      if v3 < (a2 - a4) then
        some (0 : Int64)
      else
        (ldL M4 a3 7 (v3 - (a2 - a4))).bind fun v10 =>
        some (v1 * v10)
    ) fun v5 =>
    (ldL M4 a1 7 v3).bind fun v6 =>
    (rmL ((v2 * v6) - v5) a5).bind fun v7 =>
    (stL M4 a1 7 v3 v7).bind fun M8 =>
    cont20 (v3 + 1) M8
def fX2_lower (N : Nat) (M : Mem) (a1 : Nat) (a2 : Int32) (a3 : Nat) (a4 : Int32) (a5 : Int64) : Option Mem :=
  (ldL M a1 7 a2).bind fun v1 =>
  (ldL M a3 7 a4).bind fun v2 =>
  lp (fun _ _ => none) (sX2_lower_20 a2 a4 a3 v1 a1 v2 a5) N (0 : Int32) M
def sX2_shareRootBy_22 (N : Nat) (a1 : Int64) (cont22 : Int32 → Int32 → Int32 → Mem → Option (Int32 × Int32 × Mem)) (v7 : Int32) (v8 : Int32) (v9 : Int32) (M10 : Mem) : Option (Int32 × Int32 × Mem) :=
  if (28 : Int32) ≤ v9 then
    some (v7, v8, M10)
  else
    if v7 < 0 then
      some (v7, v8, M10)
    else
      if v8 < 0 then
        some (v7, v8, M10)
      else
        Option.bind (
          if v7 < v8 then
            Option.bind (fX2_lower N M10 20 v8 19 v7 a1) fun M15 =>
            Option.bind (fX2_degreeOf N M15 20) fun v16 =>
            some (v7, v16, M15)
          else
            Option.bind (fX2_lower N M10 19 v7 20 v8 a1) fun M17 =>
            Option.bind (fX2_degreeOf N M17 19) fun v18 =>
            some (v18, v8, M17)
        ) fun t19 =>
        cont22 t19.1 t19.2.1 (v9 + 1) t19.2.2
def fX2_shareRootBy (N : Nat) (M : Mem) (a1 : Int64) : Option (Int32 × Mem) :=
  Option.bind (fX2_degreeOf N M 19) fun v1 =>
  Option.bind (fX2_degreeOf N M 20) fun v2 =>
  Option.bind (
    lp (fun _ _ _ _ => none) (sX2_shareRootBy_22 N a1) N v1 v2 (0 : Int32) M
  ) fun t20 =>
  if (if t20.1 < t20.2.1 then t20.2.1 else t20.1) ≤ 0 then
    okZM (0 : Int32) t20.2.2
  else
    okZM (1 : Int32) t20.2.2
def sX2_shareRoot_66 (a4 : Int32) (v3 : Int32) (a3 : Int32) (N : Nat) (a1 : Nat) (v1 : Int32) (a2 : Nat) (v2 : Int32) (cont66 : Int32 → Mem → Option (Int32 × Mem)) (v6 : Int32) (M7 : Mem) : Option (Int32 × Mem) :=
  if (3 : Int32) ≤ v6 then
    okZM (1 : Int32) M7
  else
    (ldP v6).bind fun v8 =>
    (dvI (-a4) v3).bind fun v9 =>
    (dvI a3 v3).bind fun v10 =>
    Option.bind (fX2_layAlong N M7 a1 v1 v9 v10 19) fun M11 =>
    (dvI (-a4) v3).bind fun v12 =>
    (dvI a3 v3).bind fun v13 =>
    Option.bind (fX2_layAlong N M11 a2 v2 v12 v13 20) fun M14 =>
    Option.bind (fX2_shareRootBy N M14 v8) fun t17 =>
    if t17.1 = 0 then
      okZM (0 : Int32) t17.2
    else
      cont66 (v6 + 1) t17.2
def fX2_shareRoot (N : Nat) (M : Mem) (a1 : Nat) (a2 : Nat) (a3 : Int32) (a4 : Int32) : Option (Int32 × Mem) :=
  Option.bind (fX2_bitsOf N M a1 a3 a4) fun v1 =>
  Option.bind (fX2_bitsOf N M a2 a3 a4) fun v2 =>
  Option.bind (fX5_commonPart N  a3 a4) fun v3 =>
  if v3 = 0 then
    okZM (0 : Int32) M
  else
    Option.bind (fJ6_bitCount_0f7a4  v1) fun v4 =>
    if v4 < (2 : Int32) then
      okZM (0 : Int32) M
    else
      Option.bind (fJ6_bitCount_0f7a4  v2) fun v5 =>
      if (2 : Int32) ≤ v5 then
        lp (fun _ _ => none) (sX2_shareRoot_66 a4 v3 a3 N a1 v1 a2 v2) N (0 : Int32) M
      else
        okZM (0 : Int32) M
def fX5_lose (N : Nat) (M : Mem) (a1 : Int32) (a2 : Int32) : Option (Int32 × Mem) :=
  Option.bind (fX5_isAim  a1 a2) fun v1 =>
  if v1 = 0 then
    some ((-2 : Int32), M)
  else
    Option.bind (fX5_anyEmpty M ) fun v2 =>
    if v2 = 0 then
      Option.bind (fX2_shareRoot N M 1 6 a1 a2) fun t5 =>
      if t5.1 = 0 then
        some ((0 : Int32), t5.2)
      else
        some ((1 : Int32), t5.2)
    else
      some ((-3 : Int32), M)
def sX5_losesSomewhere_12 (cont3 : Int32 → Mem → Option (Int32 × Mem)) (v1 : Int32) (N : Nat) (cont12 : Int32 → Mem → Option (Int32 × Mem)) (v3 : Int32) (M4 : Mem) : Option (Int32 × Mem) :=
  if (6 : Int32) < v3 then
    cont3 (v1 + 1) M4
  else
    Option.bind (fX5_commonPart N  v1 v3) fun v5 =>
    if v5 = (1 : Int32) then
      Option.bind (fX2_shareRoot N M4 1 6 v1 v3) fun t8 =>
      if t8.1 = 0 then
        cont12 (v3 + 1) t8.2
      else
        okZM (1 : Int32) t8.2
    else
      cont12 (v3 + 1) M4
def sX5_losesSomewhere_3 (N : Nat) (cont3 : Int32 → Mem → Option (Int32 × Mem)) (v1 : Int32) (M2 : Mem) : Option (Int32 × Mem) :=
  if (6 : Int32) < v1 then
    okZM (0 : Int32) M2
  else
    lp (fun _ _ => none) (sX5_losesSomewhere_12 cont3 v1 N) N (-6 : Int32) M2
def fX5_losesSomewhere (N : Nat) (M : Mem)  : Option (Int32 × Mem) :=
  lp (fun _ _ => none) (sX5_losesSomewhere_3 N) N (-6 : Int32) M
def fX5_keep (N : Nat) (M : Mem)  : Option (Int32 × Mem) :=
  Option.bind (fX5_anyEmpty M ) fun v1 =>
  if v1 = 0 then
    Option.bind (fX5_areaOf N M (2 : Int32)) fun t4 =>
    if t4.1 = 0 then
      some ((-5 : Int32), t4.2)
    else
      Option.bind (fX5_losesSomewhere N t4.2 ) fun t7 =>
      if t7.1 = 0 then
        some ((1 : Int32), t7.2)
      else
        some ((0 : Int32), t7.2)
  else
    some ((-3 : Int32), M)
def fX0_isMinus (M : Mem) (a0 : Nat) (a1 : Int32) (a2 : Int32) (a3 : Int32) : Option Int32 :=
  (ldI M (a0 + 3) 8 a1).bind fun v1 =>
  Option.bind (
    if 0 ≤ v1 then
      some (0 : Int32)
    else
      some (1 : Int32)
  ) fun v2 =>
  Option.bind (
    if a2 = 0 then
      some v2
    else
      (ldI M (a0 + 1) 8 a1).bind fun v9 =>
      (rmI v9 (2 : Int32)).bind fun v10 =>
      if v10 = 0 then
        some v2
      else
        Option.bind (
          if v2 = 0 then
            some (1 : Int32)
          else
            some (0 : Int32)
        ) fun v11 =>
        some v11
  ) fun v3 =>
  if a3 = 0 then
    okZ v3
  else
    (ldI M (a0 + 2) 8 a1).bind fun v4 =>
    (rmI v4 (2 : Int32)).bind fun v5 =>
    if v5 = 0 then
      okZ v3
    else
      Option.bind (
        if v3 = 0 then
          some (1 : Int32)
        else
          some (0 : Int32)
      ) fun v6 =>
      okZ v6
def fX0_signsDiffer (M : Mem) (a0 : Nat) (a1 : Int32) (a2 : Int32) : Option Int32 :=
  Option.bind (fX0_isMinus M a0 (0 : Int32) a1 a2) fun v1 =>
  Option.bind (fX0_isMinus M a0 (1 : Int32) a1 a2) fun v2 =>
  if v1 = v2 then
    okZ (0 : Int32)
  else
    okZ (1 : Int32)
def sX5_realAnswers_4 (M : Mem) (cont4 : Int32 → Int32 → Option Int32) (v1 : Int32) (v2 : Int32) : Option Int32 :=
  if (4 : Int32) ≤ v2 then
    some v1
  else
    Option.bind (
      if (v2 &&& (1 : Int32)) = 0 then
        some (0 : Int32)
      else
        some (1 : Int32)
    ) fun v3 =>
    Option.bind (
      if (v2 &&& (2 : Int32)) = 0 then
        some (0 : Int32)
      else
        some (1 : Int32)
    ) fun v4 =>
    Option.bind (fX0_signsDiffer M 1 v3 v4) fun v5 =>
    Option.bind (
      if v5 = 0 then
        some v1
      else
        Option.bind (fX0_signsDiffer M 6 v3 v4) fun v8 =>
        if v8 = 0 then
          some v1
        else
          some (v1 + 1)
    ) fun v6 =>
    cont4 v6 (v2 + 1)
def fX5_realAnswers (N : Nat) (M : Mem)  : Option Int32 :=
  lp (fun _ _ => none) (sX5_realAnswers_4 M) N (0 : Int32) (0 : Int32)
def fX5_two (N : Nat) (M : Mem) (a1 : Int32) : Option Int32 :=
  Option.bind (fX5_within  a1 (0 : Int32) (1 : Int32)) fun v1 =>
  if v1 = 0 then
    some (-1002 : Int32)
  else
    if (M.1 1 4) = (2 : Int32) then
      if (M.1 6 4) = (2 : Int32) then
        Option.bind (fX5_across M 1 (0 : Int32) (1 : Int32) 6 (0 : Int32) (1 : Int32)) fun v2 =>
        if a1 = 0 then
          some v2
        else
          if v2 = 0 then
            some (-6 : Int32)
          else
            Option.bind (fX5_realAnswers N M ) fun v3 =>
            some v3
      else
        some (-1003 : Int32)
    else
      some (-1003 : Int32)
def sX5_isRoundPrime_9 (a0 : Int32) (cont9 : Int32 → Option Int32) (v1 : Int32) : Option Int32 :=
  if (11 : Int32) ≤ v1 then
    okZ (0 : Int32)
  else
    (ldR v1).bind fun v2 =>
    if v2 = a0 then
      okZ (1 : Int32)
    else
      cont9 (v1 + 1)
def fX5_isRoundPrime (N : Nat) (a0 : Int32) : Option Int32 :=
  lp (fun _ => none) (sX5_isRoundPrime_9 a0) N (0 : Int32)
def sX3_fillPowers_12 (v1 : Int32) (a1 : Int32) (cont12 : Int32 → Int32 → Mem → Option Mem) (v5 : Int32) (v6 : Int32) (M7 : Mem) : Option Mem :=
  if (7 : Int32) ≤ v6 then
    some M7
  else
    (stI M7 23 217 ((v1 * (7 : Int32)) + v6) v5).bind fun M8 =>
    (rmI (v5 * v1) a1).bind fun v9 =>
    cont12 v9 (v6 + 1) M8
def sX3_fillPowers_2 (a1 : Int32) (N : Nat) (cont2 : Int32 → Mem → Option Mem) (v1 : Int32) (M2 : Mem) : Option Mem :=
  if a1 ≤ v1 then
    some M2
  else
    Option.bind (
      lp (fun _ _ _ => none) (sX3_fillPowers_12 v1 a1) N (1 : Int32) (0 : Int32) M2
    ) fun M3 =>
    cont2 (v1 + 1) M3
def fX3_fillPowers (N : Nat) (M : Mem) (a1 : Int32) : Option Mem :=
  lp (fun _ _ => none) (sX3_fillPowers_2 a1 N) N (1 : Int32) M
def sX3_isNought_6 (M : Mem) (a1 : Nat) (a2 : Int32) (a3 : Int32) (cont6 : Int32 → Int32 → Option Int32) (v4 : Int32) (v5 : Int32) : Option Int32 :=
  if (M.1 a1 4) ≤ v5 then
    some v4
  else
    (ldI M (a1 + 3) 8 v5).bind fun v6 =>
    (ldI M (a1 + 1) 8 v5).bind fun v7 =>
    (ldI M 23 217 ((a2 * (7 : Int32)) + v7)).bind fun v8 =>
    (ldI M (a1 + 2) 8 v5).bind fun v9 =>
    (ldI M 23 217 ((a3 * (7 : Int32)) + v9)).bind fun v10 =>
    cont6 (v4 + ((v6 * v8) * v10)) (v5 + 1)
def fX3_isNought (N : Nat) (M : Mem) (a1 : Nat) (a2 : Int32) (a3 : Int32) (a4 : Int32) : Option Int32 :=
  Option.bind (
    lp (fun _ _ => none) (sX3_isNought_6 M a1 a2 a3) N (0 : Int32) (0 : Int32)
  ) fun v1 =>
  (rmI v1 a4).bind fun v2 =>
  if v2 = 0 then
    okZ (1 : Int32)
  else
    okZ (0 : Int32)
def sX3_find_46 (a3 : Int32) (N : Nat) (a1 : Nat) (v5 : Int32) (a2 : Nat) (cont46 : Int32 → Mem → Option Mem) (v9 : Int32) (M10 : Mem) : Option Mem :=
  if a3 ≤ v9 then
    some M10
  else
    Option.bind (
      if (900 : Int32) ≤ (M10.1 21 1) then
        some M10
      else
        Option.bind (fX3_isNought N M10 a1 v5 v9 a3) fun v13 =>
        if v13 = 0 then
          some M10
        else
          Option.bind (fX3_isNought N M10 a2 v5 v9 a3) fun v14 =>
          if v14 = 0 then
            some M10
          else
            (stI M10 22 900 (M10.1 21 1) (((100 : Int32) * v5) + v9)).bind fun M15 =>
            (some (setI M15 21 1 ((M15.1 21 1) + (1 : Int32)))).bind fun M16 =>
            some M16
    ) fun M11 =>
    cont46 (v9 + 1) M11
def sX3_find_37 (a3 : Int32) (N : Nat) (a1 : Nat) (a2 : Nat) (cont37 : Int32 → Mem → Option Mem) (v5 : Int32) (M6 : Mem) : Option Mem :=
  if a3 ≤ v5 then
    some M6
  else
    Option.bind (
      lp (fun _ _ => none) (sX3_find_46 a3 N a1 v5 a2) N (1 : Int32) M6
    ) fun M7 =>
    cont37 (v5 + 1) M7
def fX3_find (N : Nat) (M : Mem) (a1 : Nat) (a2 : Nat) (a3 : Int32) : Option Mem :=
  if a3 = (M.1 21 2) then
    some M
  else
    Option.bind (fX5_within  a3 (2 : Int32) (31 : Int32)) fun v1 =>
    if v1 = 0 then
      some M
    else
      (some (setI M 21 2 a3)).bind fun M2 =>
      (some (setI M2 21 1 (0 : Int32))).bind fun M3 =>
      Option.bind (fX3_fillPowers N M3 a3) fun M4 =>
      lp (fun _ _ => none) (sX3_find_37 a3 N a1 a2) N (1 : Int32) M4
def fX5_round (N : Nat) (M : Mem) (a1 : Int32) : Option (Int32 × Mem) :=
  Option.bind (fX5_isRoundPrime N  a1) fun v1 =>
  if v1 = 0 then
    some ((-2 : Int32), M)
  else
    Option.bind (fX3_find N M 1 6 a1) fun M2 =>
    some ((M2.1 21 1), M2)
def fX5_answer (N : Nat) (M : Mem) (a1 : Int32) (a2 : Int32) : Option (Int32 × Mem) :=
  Option.bind (fX5_isRoundPrime N  a1) fun v1 =>
  if v1 = 0 then
    some ((-2 : Int32), M)
  else
    Option.bind (fX3_find N M 1 6 a1) fun M2 =>
    Option.bind (fX5_within  a2 (0 : Int32) ((M2.1 21 1) - (1 : Int32))) fun v3 =>
    if v3 = 0 then
      some ((-6 : Int32), M2)
    else
      (ldI M2 22 900 a2).bind fun v4 =>
      some (v4, M2)
def fX5_told (M : Mem) (a1 : Int32) : Option Int32 :=
  Option.bind (fX5_equationOf M a1) fun q1 =>
  match q1 with
  | none =>
    some (-1 : Int32)
  | some e2 =>
    some (M.1 e2 4)
def fX6_in (a0 : Int64) (a2 : Int64) (a4 : Int64) : Option Int32 :=
  if a0 < a2 then
    okZ (0 : Int32)
  else
    if a4 < a0 then
      okZ (0 : Int32)
    else
      okZ (1 : Int32)
def fX6_size (a0 : Int32) : Option Int32 :=
  if 0 ≤ a0 then
    some a0
  else
    some (-a0)
def sX6_common_10 (cont10 : Int32 → Int32 → Option Int32) (v3 : Int32) (v4 : Int32) : Option Int32 :=
  if v4 = 0 then
    some v3
  else
    (rmI v3 v4).bind fun v5 =>
    cont10 v4 v5
def fX6_common (N : Nat) (a0 : Int32) (a1 : Int32) : Option Int32 :=
  Option.bind (fX6_size  a0) fun v1 =>
  Option.bind (fX6_size  a1) fun v2 =>
  lp (fun _ _ => none) sX6_common_10 N v1 v2
def fX6_isEquation (a0 : Int32) : Option Int32 :=
  Option.bind (fX6_in  (Int32.toInt64 a0) (0 : Int64) (1 : Int64)) fun v1 =>
  okZ v1
def fX6_isTerm (M : Mem) (a1 : Int32) (a2 : Int32) : Option Int32 :=
  Option.bind (fX6_isEquation  a1) fun v1 =>
  if v1 = 0 then
    okZ (0 : Int32)
  else
    (ldI M 5 2 a1).bind fun v2 =>
    Option.bind (fX6_in  (Int32.toInt64 a2) (0 : Int64) (Int32.toInt64 (v2 - (1 : Int32)))) fun v3 =>
    if v3 = 0 then
      okZ (0 : Int32)
    else
      okZ (1 : Int32)
def sX6_term_76 (M : Mem) (a1 : Int32) (a2 : Int32) (a3 : Int32) (a4 : Int32) (cont76 : Int32 → Option (Int32 × Mem)) (v6 : Int32) : Option (Int32 × Mem) :=
  (ldI M 5 2 a1).bind fun v7 =>
  if (((8 : Int32) * a1) + v7) ≤ v6 then
    (ldI M 5 2 a1).bind fun v8 =>
    (stI M 1 16 (((8 : Int32) * a1) + v8) a2).bind fun M9 =>
    (stI M9 2 16 (((8 : Int32) * a1) + v8) a3).bind fun M10 =>
    (stI M10 3 16 (((8 : Int32) * a1) + v8) a4).bind fun M11 =>
    (stI M11 4 16 (((8 : Int32) * a1) + v8) (0 : Int32)).bind fun M12 =>
    (ldI M12 5 2 a1).bind fun v13 =>
    (stI M12 5 2 a1 (v13 + (1 : Int32))).bind fun M14 =>
    (ldI M14 5 2 a1).bind fun v15 =>
    some ((v15 - (1 : Int32)), M14)
  else
    (ldI M 1 16 v6).bind fun v16 =>
    if v16 = a2 then
      (ldI M 2 16 v6).bind fun v17 =>
      if v17 = a3 then
        some ((-5 : Int32), M)
      else
        cont76 (v6 + 1)
    else
      cont76 (v6 + 1)
def fX6_term (N : Nat) (M : Mem) (a1 : Int32) (a2 : Int32) (a3 : Int32) (a4 : Int32) : Option (Int32 × Mem) :=
  Option.bind (fX6_isEquation  a1) fun v1 =>
  if v1 = 0 then
    some ((-1 : Int32), M)
  else
    Option.bind (fX6_in  (Int32.toInt64 a2) (0 : Int64) (6 : Int64)) fun v2 =>
    if v2 = 0 then
      some ((-2 : Int32), M)
    else
      Option.bind (fX6_in  (Int32.toInt64 a3) (0 : Int64) (6 : Int64)) fun v3 =>
      if v3 = 0 then
        some ((-2 : Int32), M)
      else
        Option.bind (fX6_in  (Int32.toInt64 a4) (-20 : Int64) (20 : Int64)) fun v4 =>
        if v4 = 0 then
          some ((-2 : Int32), M)
        else
          if a4 = 0 then
            some ((-2 : Int32), M)
          else
            (ldI M 5 2 a1).bind fun v5 =>
            if v5 = (8 : Int32) then
              some ((-4 : Int32), M)
            else
              lp (fun _ => none) (sX6_term_76 M a1 a2 a3 a4) N ((8 : Int32) * a1)
def fX6_about (M : Mem) (a1 : Int32) (a2 : Int32) (a3 : Int32) : Option Int32 :=
  Option.bind (fX6_isTerm M a1 a2) fun v1 =>
  if v1 = 0 then
    some (-101 : Int32)
  else
    if a3 = 0 then
      (ldI M 1 16 (((8 : Int32) * a1) + a2)).bind fun v5 =>
      some v5
    else
      if a3 = (1 : Int32) then
        (ldI M 2 16 (((8 : Int32) * a1) + a2)).bind fun v4 =>
        some v4
      else
        if a3 = (2 : Int32) then
          (ldI M 3 16 (((8 : Int32) * a1) + a2)).bind fun v3 =>
          some v3
        else
          if a3 = (3 : Int32) then
            (ldI M 4 16 (((8 : Int32) * a1) + a2)).bind fun v2 =>
            some v2
          else
            some (-102 : Int32)
def fX6_change (M : Mem) (a1 : Int32) (a2 : Int32) (a3 : Int32) : Option (Int32 × Mem) :=
  Option.bind (fX6_isTerm M a1 a2) fun v1 =>
  if v1 = 0 then
    some ((-101 : Int32), M)
  else
    Option.bind (fX6_in  (Int32.toInt64 a3) (-20 : Int64) (20 : Int64)) fun v2 =>
    if v2 = 0 then
      some ((-102 : Int32), M)
    else
      if a3 = 0 then
        some ((-102 : Int32), M)
      else
        (ldI M 3 16 (((8 : Int32) * a1) + a2)).bind fun v3 =>
        (stI M 3 16 (((8 : Int32) * a1) + a2) a3).bind fun M4 =>
        some (v3, M4)
def fX6_clear (M : Mem) (a1 : Int32) : Option (Int32 × Mem) :=
  Option.bind (fX6_isEquation  a1) fun v1 =>
  if v1 = 0 then
    some ((-1 : Int32), M)
  else
    (ldI M 5 2 a1).bind fun v2 =>
    (stI M 5 2 a1 (0 : Int32)).bind fun M3 =>
    some (v2, M3)
def fX6_isThere (M : Mem) (a1 : Int32) : Option Int32 :=
  if a1 = (2 : Int32) then
    (ldI M 5 2 (0 : Int32)).bind fun v2 =>
    if v2 ≤ 0 then
      okZ (0 : Int32)
    else
      (ldI M 5 2 (1 : Int32)).bind fun v3 =>
      if v3 ≤ 0 then
        okZ (0 : Int32)
      else
        okZ (1 : Int32)
  else
    (ldI M 5 2 a1).bind fun v1 =>
    if v1 ≤ 0 then
      okZ (0 : Int32)
    else
      okZ (1 : Int32)
def sX6_gather_92 (v2 : Int32) (cont92 : Int32 → Mem → Option Mem) (v7 : Int32) (M8 : Mem) : Option Mem :=
  (ldI M8 5 2 (1 : Int32)).bind fun v9 =>
  if ((8 : Int32) + v9) ≤ v7 then
    some M8
  else
    (ldI M8 1 16 v2).bind fun v10 =>
    (ldI M8 1 16 v7).bind fun v11 =>
    (stI M8 6 64 (M8.1 0 7) (v10 + v11)).bind fun M12 =>
    (ldI M12 2 16 v2).bind fun v13 =>
    (ldI M12 2 16 v7).bind fun v14 =>
    (stI M12 7 64 (M12.1 0 7) (v13 + v14)).bind fun M15 =>
    (some (setI M15 0 7 ((M15.1 0 7) + (1 : Int32)))).bind fun M16 =>
    cont92 (v7 + 1) M16
def sX6_gather_79 (N : Nat) (cont79 : Int32 → Mem → Option Mem) (v2 : Int32) (M3 : Mem) : Option Mem :=
  (ldI M3 5 2 (0 : Int32)).bind fun v4 =>
  if v4 ≤ v2 then
    some M3
  else
    Option.bind (
      lp (fun _ _ => none) (sX6_gather_92 v2) N (8 : Int32) M3
    ) fun M5 =>
    cont79 (v2 + 1) M5
def sX6_gather_15 (a1 : Int32) (cont15 : Int32 → Mem → Option Mem) (v17 : Int32) (M18 : Mem) : Option Mem :=
  (ldI M18 5 2 a1).bind fun v19 =>
  if (((8 : Int32) * a1) + v19) ≤ v17 then
    some M18
  else
    (ldI M18 1 16 v17).bind fun v20 =>
    (stI M18 6 64 (M18.1 0 7) v20).bind fun M21 =>
    (ldI M21 2 16 v17).bind fun v22 =>
    (stI M21 7 64 (M21.1 0 7) v22).bind fun M23 =>
    (some (setI M23 0 7 ((M23.1 0 7) + (1 : Int32)))).bind fun M24 =>
    cont15 (v17 + 1) M24
def fX6_gather (N : Nat) (M : Mem) (a1 : Int32) : Option Mem :=
  (some (setI M 0 7 (0 : Int32))).bind fun M1 =>
  if (2 : Int32) ≤ a1 then
    lp (fun _ _ => none) (sX6_gather_79 N) N (0 : Int32) M1
  else
    lp (fun _ _ => none) (sX6_gather_15 a1) N ((8 : Int32) * a1) M1
def fX6_isOuter (M : Mem) (a1 : Int32) (a2 : Int32) (a3 : Int32) : Option Int32 :=
  (ldI M 6 64 a2).bind fun v1 =>
  (ldI M 6 64 a1).bind fun v2 =>
  (ldI M 7 64 a2).bind fun v3 =>
  (ldI M 7 64 a1).bind fun v4 =>
  (ldI M 6 64 a3).bind fun v5 =>
  (ldI M 6 64 a1).bind fun v6 =>
  (ldI M 7 64 a3).bind fun v7 =>
  (ldI M 7 64 a1).bind fun v8 =>
  if 0 < (((v1 - v2) * (v7 - v8)) - ((v3 - v4) * (v5 - v6))) then
    okZ (1 : Int32)
  else
    if (((v1 - v2) * (v7 - v8)) - ((v3 - v4) * (v5 - v6))) = 0 then
      if (((v1 - v2) * (v1 - v2)) + ((v3 - v4) * (v3 - v4))) ≤ (((v5 - v6) * (v5 - v6)) + ((v7 - v8) * (v7 - v8))) then
        okZ (0 : Int32)
      else
        okZ (1 : Int32)
    else
      okZ (0 : Int32)
def fX6_isSame (M : Mem) (a1 : Int32) (a2 : Int32) : Option Int32 :=
  (ldI M 6 64 a1).bind fun v1 =>
  (ldI M 6 64 a2).bind fun v2 =>
  if v1 = v2 then
    (ldI M 7 64 a1).bind fun v3 =>
    (ldI M 7 64 a2).bind fun v4 =>
    if v3 = v4 then
      okZ (1 : Int32)
    else
      okZ (0 : Int32)
  else
    okZ (0 : Int32)
def sX6_goRound_147 (M11 : Mem) (v4 : Int32) (cont147 : Int32 → Int32 → Option Int32) (v17 : Int32) (v18 : Int32) : Option Int32 :=
  if (M11.1 0 7) ≤ v18 then
    some v17
  else
    Option.bind (fX6_isSame M11 v18 v4) fun v19 =>
    Option.bind (
      if v19 = 0 then
        if v17 < 0 then
          some v18
        else
          Option.bind (fX6_isOuter M11 v4 v18 v17) fun v22 =>
          if v22 = 0 then
            some v17
          else
            some v18
      else
        some v17
    ) fun v20 =>
    cont147 v20 (v18 + 1)
def sX6_goRound_96 (N : Nat) (v2 : Int32) (cont96 : Int32 → Int32 → Mem → Option Mem) (v4 : Int32) (v5 : Int32) (M6 : Mem) : Option Mem :=
  if v5 = 0 then
    some M6
  else
    (ldI M6 6 64 v4).bind fun v7 =>
    (stI M6 8 64 (M6.1 0 10) v7).bind fun M8 =>
    (ldI M8 7 64 v4).bind fun v9 =>
    (stI M8 9 64 (M8.1 0 10) v9).bind fun M10 =>
    (some (setI M10 0 10 ((M10.1 0 10) + (1 : Int32)))).bind fun M11 =>
    Option.bind (
      lp (fun _ _ => none) (sX6_goRound_147 M11 v4) N (-1 : Int32) (0 : Int32)
    ) fun v12 =>
    Option.bind (
      if v12 < 0 then
        some (0 : Int32)
      else
        Option.bind (fX6_isSame M11 v12 v2) fun v15 =>
        if v15 = 0 then
          some (1 : Int32)
        else
          some (0 : Int32)
    ) fun v13 =>
    cont96 v12 v13 M11
def sX6_goRound_9 (M1 : Mem) (cont9 : Int32 → Int32 → Option Int32) (v24 : Int32) (v25 : Int32) : Option Int32 :=
  if (M1.1 0 7) ≤ v25 then
    some v24
  else
    (ldI M1 6 64 v25).bind fun v26 =>
    (ldI M1 6 64 v24).bind fun v27 =>
    Option.bind (
      if v26 < v27 then
        some (1 : Int32)
      else
        (ldI M1 6 64 v25).bind fun v32 =>
        (ldI M1 6 64 v24).bind fun v33 =>
        if v32 = v33 then
          (ldI M1 7 64 v25).bind fun v34 =>
          (ldI M1 7 64 v24).bind fun v35 =>
          if v35 ≤ v34 then
            some (0 : Int32)
          else
            some (1 : Int32)
        else
          some (0 : Int32)
    ) fun v28 =>
    Option.bind (
      if v28 = 0 then
        some v24
      else
        some v25
    ) fun v29 =>
    cont9 v29 (v25 + 1)
def fX6_goRound (N : Nat) (M : Mem) (a1 : Int32) : Option Mem :=
  Option.bind (fX6_gather N M a1) fun M1 =>
  Option.bind (
    lp (fun _ _ => none) (sX6_goRound_9 M1) N (0 : Int32) (1 : Int32)
  ) fun v2 =>
  (some (setI M1 0 10 (0 : Int32))).bind fun M3 =>
  lp (fun _ _ _ => none) (sX6_goRound_96 N v2) N v2 (1 : Int32) M3
def sX6_areaOf_9 (M1 : Mem) (cont9 : Int32 → Int32 → Option (Int32 × Mem)) (v2 : Int32) (v3 : Int32) : Option (Int32 × Mem) :=
  if (M1.1 0 10) ≤ v3 then
    some (v2, M1)
  else
    (rmI (v3 + (1 : Int32)) (M1.1 0 10)).bind fun v4 =>
    (ldI M1 8 64 v3).bind fun v5 =>
    (ldI M1 9 64 v4).bind fun v6 =>
    (ldI M1 8 64 v4).bind fun v7 =>
    (ldI M1 9 64 v3).bind fun v8 =>
    cont9 (v2 + ((v5 * v6) - (v7 * v8))) (v3 + 1)
def fX6_areaOf (N : Nat) (M : Mem) (a1 : Int32) : Option (Int32 × Mem) :=
  Option.bind (fX6_goRound N M a1) fun M1 =>
  lp (fun _ _ => none) (sX6_areaOf_9 M1) N (0 : Int32) (0 : Int32)
def sX6_rimOf_9 (M1 : Mem) (N : Nat) (cont9 : Int32 → Int32 → Option Int32) (v5 : Int32) (v6 : Int32) : Option Int32 :=
  if (M1.1 0 10) ≤ v6 then
    some v5
  else
    (rmI (v6 + (1 : Int32)) (M1.1 0 10)).bind fun v7 =>
    (ldI M1 8 64 v7).bind fun v8 =>
    (ldI M1 8 64 v6).bind fun v9 =>
    (ldI M1 9 64 v7).bind fun v10 =>
    (ldI M1 9 64 v6).bind fun v11 =>
    Option.bind (fX6_common N  (v8 - v9) (v10 - v11)) fun v12 =>
    cont9 (v5 + v12) (v6 + 1)
def fX6_rimOf (N : Nat) (M : Mem) (a1 : Int32) : Option (Int32 × Mem) :=
  Option.bind (fX6_goRound N M a1) fun M1 =>
  Option.bind (
    lp (fun _ _ => none) (sX6_rimOf_9 M1 N) N (0 : Int32) (0 : Int32)
  ) fun v2 =>
  if (M1.1 0 10) = (1 : Int32) then
    some ((1 : Int32), M1)
  else
    if (M1.1 0 10) = (2 : Int32) then
      (dvI v2 (2 : Int32)).bind fun v3 =>
      some ((v3 + (1 : Int32)), M1)
    else
      some (v2, M1)
def fX6_shape (N : Nat) (M : Mem) (a1 : Int32) (a2 : Int32) : Option (Int32 × Mem) :=
  Option.bind (fX6_in  (Int32.toInt64 a1) (0 : Int64) (2 : Int64)) fun v1 =>
  if v1 = 0 then
    some ((-1 : Int32), M)
  else
    Option.bind (fX6_in  (Int32.toInt64 a2) (0 : Int64) (3 : Int64)) fun v2 =>
    if v2 = 0 then
      some ((-2 : Int32), M)
    else
      Option.bind (fX6_isThere M a1) fun v3 =>
      if v3 = 0 then
        some ((-3 : Int32), M)
      else
        Option.bind (fX6_areaOf N M a1) fun t6 =>
        Option.bind (fX6_rimOf N t6.2 a1) fun t9 =>
        if a2 = 0 then
          some (t6.1, t9.2)
        else
          if a2 = (1 : Int32) then
            some ((t9.2.1 0 10), t9.2)
          else
            if a2 = (2 : Int32) then
              some (t9.1, t9.2)
            else
              if (3 : Int32) ≤ (t9.2.1 0 10) then
                (dvI ((t6.1 - t9.1) + (2 : Int32)) (2 : Int32)).bind fun v10 =>
                some (v10, t9.2)
              else
                some ((0 : Int32), t9.2)
def fX6_corner (N : Nat) (M : Mem) (a1 : Int32) (a2 : Int32) : Option (Int32 × Mem) :=
  Option.bind (fX6_in  (Int32.toInt64 a1) (0 : Int64) (2 : Int64)) fun v1 =>
  if v1 = 0 then
    some ((-1 : Int32), M)
  else
    Option.bind (fX6_isThere M a1) fun v2 =>
    if v2 = 0 then
      some ((-3 : Int32), M)
    else
      Option.bind (fX6_goRound N M a1) fun M3 =>
      Option.bind (fX6_in  (Int32.toInt64 a2) (0 : Int64) (Int32.toInt64 ((M3.1 0 10) - (1 : Int32)))) fun v4 =>
      if v4 = 0 then
        some ((-1 : Int32), M3)
      else
        (ldI M3 8 64 a2).bind fun v5 =>
        (ldI M3 9 64 a2).bind fun v6 =>
        some ((((20 : Int32) * v5) + v6), M3)
def fX6_mixed (N : Nat) (M : Mem)  : Option (Int32 × Mem) :=
  Option.bind (fX6_isThere M (2 : Int32)) fun v1 =>
  if v1 = 0 then
    some ((-3 : Int32), M)
  else
    Option.bind (fX6_areaOf N M (2 : Int32)) fun t4 =>
    Option.bind (fX6_areaOf N t4.2 (0 : Int32)) fun t7 =>
    Option.bind (fX6_areaOf N t7.2 (1 : Int32)) fun t10 =>
    (dvI ((t4.1 - t7.1) - t10.1) (2 : Int32)).bind fun v11 =>
    some (v11, t10.2)
def fX6_lift (M : Mem) (a1 : Int32) (a2 : Int32) (a3 : Int32) : Option (Int32 × Mem) :=
  Option.bind (fX6_isTerm M a1 a2) fun v1 =>
  if v1 = 0 then
    some ((-1 : Int32), M)
  else
    Option.bind (fX6_in  (Int32.toInt64 a3) (0 : Int64) (100 : Int64)) fun v2 =>
    if v2 = 0 then
      some ((-2 : Int32), M)
    else
      (ldI M 4 16 (((8 : Int32) * a1) + a2)).bind fun v3 =>
      (stI M 4 16 (((8 : Int32) * a1) + a2) a3).bind fun M4 =>
      some (v3, M4)
def fX6_height (M : Mem) (a1 : Int32) : Option Int32 :=
  Option.bind (
    if 0 ≤ (M.1 0 11) then
      some (1 : Int32)
    else
      some (-1 : Int32)
  ) fun v1 =>
  (ldI M 4 16 a1).bind fun v2 =>
  Option.bind (fX6_size  (M.1 0 11)) fun v3 =>
  (ldI M 1 16 a1).bind fun v4 =>
  (ldI M 2 16 a1).bind fun v5 =>
  some ((v2 * v3) + (v1 * (((M.1 0 12) * v4) + ((M.1 0 13) * v5))))
def sX6_isLowest_9 (a1 : Int32) (a2 : Int32) (a3 : Int32) (cont9 : Int32 → Int32 → Mem → Option (Int32 × Mem)) (v1 : Int32) (v2 : Int32) (M3 : Mem) : Option (Int32 × Mem) :=
  (ldI M3 5 2 a1).bind fun v4 =>
  if (((8 : Int32) * a1) + v4) ≤ v2 then
    okZM v1 M3
  else
    Option.bind (
      if v1 = 0 then
        some (0 : Int32)
      else
        Option.bind (fX6_height M3 v2) fun v12 =>
        Option.bind (fX6_height M3 a2) fun v13 =>
        if v12 < v13 then
          some (0 : Int32)
        else
          some (1 : Int32)
    ) fun v5 =>
    Option.bind (
      if (M3.1 0 14) = 0 then
        some (0 : Int32)
      else
        if v2 = a2 then
          some (1 : Int32)
        else
          if v2 = a3 then
            some (1 : Int32)
          else
            Option.bind (fX6_height M3 v2) fun v9 =>
            Option.bind (fX6_height M3 a2) fun v10 =>
            if v9 = v10 then
              some (0 : Int32)
            else
              some (1 : Int32)
    ) fun v6 =>
    (stZ M3 0 14 v6).bind fun M7 =>
    cont9 v5 (v2 + 1) M7
def fX6_isLowest (N : Nat) (M : Mem) (a1 : Int32) (a2 : Int32) (a3 : Int32) : Option (Int32 × Mem) :=
  lp (fun _ _ _ => none) (sX6_isLowest_9 a1 a2 a3) N (1 : Int32) ((8 : Int32) * a1) M
def fX6_isCell (N : Nat) (M : Mem) (a1 : Int32) (a2 : Int32) (a3 : Int32) (a4 : Int32) : Option (Int32 × Mem) :=
  (ldI M 1 16 a1).bind fun v1 =>
  (ldI M 1 16 a2).bind fun v2 =>
  (ldI M 2 16 a1).bind fun v3 =>
  (ldI M 2 16 a2).bind fun v4 =>
  (ldI M 1 16 a3).bind fun v5 =>
  (ldI M 1 16 a4).bind fun v6 =>
  (ldI M 2 16 a3).bind fun v7 =>
  (ldI M 2 16 a4).bind fun v8 =>
  (some (setI M 0 11 (((v1 - v2) * (v7 - v8)) - ((v3 - v4) * (v5 - v6))))).bind fun M9 =>
  if (M9.1 0 11) = 0 then
    okZM (0 : Int32) M9
  else
    (ldI M9 4 16 a2).bind fun v10 =>
    (ldI M9 4 16 a1).bind fun v11 =>
    (ldI M9 4 16 a4).bind fun v12 =>
    (ldI M9 4 16 a3).bind fun v13 =>
    (some (setI M9 0 12 (((v10 - v11) * (v7 - v8)) - ((v12 - v13) * (v3 - v4))))).bind fun M14 =>
    (some (setI M14 0 13 (((v1 - v2) * (v12 - v13)) - ((v5 - v6) * (v10 - v11))))).bind fun M15 =>
    (stZ M15 0 14 (1 : Int32)).bind fun M16 =>
    Option.bind (fX6_isLowest N M16 (0 : Int32) a1 a2) fun t19 =>
    Option.bind (fX6_isLowest N t19.2 (1 : Int32) a3 a4) fun t22 =>
    if t19.1 = 0 then
      okZM (0 : Int32) t22.2
    else
      if t22.1 = 0 then
        okZM (0 : Int32) t22.2
      else
        okZM (1 : Int32) t22.2
def sX6_goThrough_59 (cont39 : Int32 → Int32 → Mem → Option (Int32 × Mem)) (v11 : Int32) (N : Nat) (v3 : Int32) (v7 : Int32) (a1 : Int32) (cont59 : Int32 → Int32 → Mem → Option (Int32 × Mem)) (v14 : Int32) (v15 : Int32) (M16 : Mem) : Option (Int32 × Mem) :=
  (ldI M16 5 2 (1 : Int32)).bind fun v17 =>
  if ((8 : Int32) + v17) ≤ v15 then
    cont39 v14 (v11 + 1) M16
  else
    Option.bind (fX6_isCell N M16 v3 v7 v11 v15) fun t20 =>
    if t20.1 = 0 then
      cont59 v14 (v15 + 1) t20.2
    else
      if v14 = a1 then
        (some (setI t20.2 0 15 v3)).bind fun M24 =>
        (some (setI M24 0 16 v7)).bind fun M25 =>
        (some (setI M25 0 17 (v11 - (8 : Int32)))).bind fun M26 =>
        (some (setI M26 0 18 (v15 - (8 : Int32)))).bind fun M27 =>
        some ((v14 + (1 : Int32)), M27)
      else
        Option.bind (
          if (t20.2.1 0 19) = 0 then
            some (0 : Int32)
          else
            if (t20.2.1 0 14) = 0 then
              some (0 : Int32)
            else
              some (1 : Int32)
        ) fun v21 =>
        (stZ t20.2 0 19 v21).bind fun M22 =>
        cont59 (v14 + 1) (v15 + 1) M22
def sX6_goThrough_39 (cont24 : Int32 → Int32 → Mem → Option (Int32 × Mem)) (v7 : Int32) (N : Nat) (v3 : Int32) (a1 : Int32) (cont39 : Int32 → Int32 → Mem → Option (Int32 × Mem)) (v10 : Int32) (v11 : Int32) (M12 : Mem) : Option (Int32 × Mem) :=
  (ldI M12 5 2 (1 : Int32)).bind fun v13 =>
  if ((8 : Int32) + v13) ≤ v11 then
    cont24 v10 (v7 + 1) M12
  else
    lp (fun _ _ _ => none) (sX6_goThrough_59 cont39 v11 N v3 v7 a1) N v10 (v11 + (1 : Int32)) M12
def sX6_goThrough_24 (cont9 : Int32 → Int32 → Mem → Option (Int32 × Mem)) (v3 : Int32) (N : Nat) (a1 : Int32) (cont24 : Int32 → Int32 → Mem → Option (Int32 × Mem)) (v6 : Int32) (v7 : Int32) (M8 : Mem) : Option (Int32 × Mem) :=
  (ldI M8 5 2 (0 : Int32)).bind fun v9 =>
  if v9 ≤ v7 then
    cont9 v6 (v3 + 1) M8
  else
    lp (fun _ _ _ => none) (sX6_goThrough_39 cont24 v7 N v3 a1) N v6 (8 : Int32) M8
def sX6_goThrough_9 (N : Nat) (a1 : Int32) (cont9 : Int32 → Int32 → Mem → Option (Int32 × Mem)) (v2 : Int32) (v3 : Int32) (M4 : Mem) : Option (Int32 × Mem) :=
  (ldI M4 5 2 (0 : Int32)).bind fun v5 =>
  if v5 ≤ v3 then
    some (v2, M4)
  else
    lp (fun _ _ _ => none) (sX6_goThrough_24 cont9 v3 N a1) N v2 (v3 + (1 : Int32)) M4
def fX6_goThrough (N : Nat) (M : Mem) (a1 : Int32) : Option (Int32 × Mem) :=
  (stZ M 0 19 (1 : Int32)).bind fun M1 =>
  lp (fun _ _ _ => none) (sX6_goThrough_9 N a1) N (0 : Int32) (0 : Int32) M1
def fX6_cells (N : Nat) (M : Mem)  : Option (Int32 × Mem) :=
  Option.bind (fX6_goThrough N M (-1 : Int32)) fun t3 =>
  some (t3.1, t3.2)
def fX6_cell (N : Nat) (M : Mem) (a1 : Int32) (a2 : Int32) : Option (Int32 × Mem) :=
  if a1 < 0 then
    some ((-1 : Int32), M)
  else
    Option.bind (fX6_goThrough N M a1) fun t3 =>
    if a1 < t3.1 then
      if a2 = 0 then
        some ((t3.2.1 0 15), t3.2)
      else
        if a2 = 1 then
          some ((t3.2.1 0 16), t3.2)
        else
          if a2 = 2 then
            some ((t3.2.1 0 17), t3.2)
          else
            if a2 = 3 then
              some ((t3.2.1 0 18), t3.2)
            else
              if a2 = 4 then
                Option.bind (fX6_size  (t3.2.1 0 11)) fun v4 =>
                some (v4, t3.2)
              else
                some ((-2 : Int32), t3.2)
    else
      some ((-1 : Int32), t3.2)
def fX6_fine (N : Nat) (M : Mem)  : Option (Int32 × Mem) :=
  Option.bind (fX6_goThrough N M (-1 : Int32)) fun t3 =>
  if t3.1 < 0 then
    some ((0 : Int32), t3.2)
  else
    if (t3.2.1 0 19) = 0 then
      some ((0 : Int32), t3.2)
    else
      some ((1 : Int32), t3.2)
def sX6_faceOf_11 (M : Mem) (a1 : Int32) (a2 : Int32) (a3 : Int32) (cont11 : Int32 → Int32 → Int32 → Option Int32) (v1 : Int32) (v2 : Int32) (v3 : Int32) : Option Int32 :=
  (ldI M 5 2 a1).bind fun v4 =>
  if v4 ≤ v3 then
    some v2
  else
    (ldI M 1 16 (((8 : Int32) * a1) + v3)).bind fun v5 =>
    (ldI M 2 16 (((8 : Int32) * a1) + v3)).bind fun v6 =>
    Option.bind (
      if v1 ≤ ((a2 * v5) + (a3 * v6)) then
        some (v1, v2)
      else
        some (((a2 * v5) + (a3 * v6)), (0 : Int32))
    ) fun t12 =>
    Option.bind (
      if ((a2 * v5) + (a3 * v6)) = t12.1 then
        some ((1 : Int32) <<< (v3 &&& 31))
      else
        some (0 : Int32)
    ) fun v9 =>
    cont11 t12.1 (t12.2 ||| v9) (v3 + 1)
def fX6_faceOf (N : Nat) (M : Mem) (a1 : Int32) (a2 : Int32) (a3 : Int32) : Option Int32 :=
  lp (fun _ _ _ => none) (sX6_faceOf_11 M a1 a2 a3) N (1000 : Int32) (0 : Int32) (0 : Int32)
def fX6_isWay (a0 : Int32) (a1 : Int32) : Option Int32 :=
  Option.bind (fX6_in  (Int32.toInt64 a0) (-6 : Int64) (6 : Int64)) fun v1 =>
  if v1 = 0 then
    okZ (0 : Int32)
  else
    Option.bind (fX6_in  (Int32.toInt64 a1) (-6 : Int64) (6 : Int64)) fun v2 =>
    if v2 = 0 then
      okZ (0 : Int32)
    else
      if a0 = 0 then
        if a1 = 0 then
          okZ (0 : Int32)
        else
          okZ (1 : Int32)
      else
        okZ (1 : Int32)
def fX6_face (N : Nat) (M : Mem) (a1 : Int32) (a2 : Int32) (a3 : Int32) : Option Int32 :=
  Option.bind (fX6_isEquation  a1) fun v1 =>
  if v1 = 0 then
    some (-1 : Int32)
  else
    Option.bind (fX6_isWay  a2 a3) fun v2 =>
    if v2 = 0 then
      some (-2 : Int32)
    else
      (ldI M 5 2 a1).bind fun v3 =>
      if v3 = 0 then
        some (-3 : Int32)
      else
        Option.bind (fX6_faceOf N M a1 a2 a3) fun v4 =>
        some v4
def fX6_floorOf (a0 : Int32) (a1 : Int32) : Option Int32 :=
  Option.bind (
    if 0 ≤ a1 then
      some a0
    else
      some (-a0)
  ) fun v1 =>
  Option.bind (
    if 0 ≤ a1 then
      some a1
    else
      some (-a1)
  ) fun v2 =>
  (dvI v1 v2).bind fun v3 =>
  (rmI v1 v2).bind fun v4 =>
  if 0 ≤ v4 then
    some v3
  else
    some (v3 - (1 : Int32))
def fX6_stepOf (M : Mem) (a1 : Int32) (a2 : Int32) (a3 : Int32) : Option Int32 :=
  if a2 = 0 then
    (ldI M 2 16 a1).bind fun v1 =>
    Option.bind (fX6_floorOf  v1 a3) fun v2 =>
    some v2
  else
    (ldI M 1 16 a1).bind fun v3 =>
    Option.bind (fX6_floorOf  v3 a2) fun v4 =>
    some v4
def sX6_lay_150 (a1 : Int32) (v4 : Int32) (v2 : Int32) (v3 : Int32) (a4 : Int64) (v5 : Int32) (cont150 : Int32 → Mem → Option Mem) (v11 : Int32) (M12 : Mem) : Option Mem :=
  (ldI M12 5 2 a1).bind fun v13 =>
  if v13 ≤ v11 then
    some M12
  else
    Option.bind (
      if ((v4 >>> (v11 &&& 31)) &&& (1 : Int32)) = (1 : Int32) then
        Option.bind (fX6_stepOf M12 (((8 : Int32) * a1) + v11) v2 v3) fun v16 =>
        (ldI M12 3 16 (((8 : Int32) * a1) + v11)).bind fun v17 =>
        Option.bind (
          if 0 ≤ v17 then
            (ldI M12 3 16 (((8 : Int32) * a1) + v11)).bind fun v26 =>
            some (Int32.toInt64 v26)
          else
            (ldI M12 3 16 (((8 : Int32) * a1) + v11)).bind fun v27 =>
            some ((Int32.toInt64 v27) + a4)
        ) fun v18 =>
        (stL M12 10 14 (((7 : Int32) * a1) + (v16 - v5)) v18).bind fun M19 =>
        (ldI M19 11 2 a1).bind fun v20 =>
        Option.bind (
          if (v16 - v5) ≤ v20 then
            (ldI M19 11 2 a1).bind fun v24 =>
            some v24
          else
            some (v16 - v5)
        ) fun v21 =>
        (stI M19 11 2 a1 v21).bind fun M22 =>
        some M22
      else
        some M12
    ) fun M14 =>
    cont150 (v11 + 1) M14
def sX6_lay_114 (a1 : Int32) (cont114 : Int32 → Mem → Option Mem) (v29 : Int32) (M30 : Mem) : Option Mem :=
  if (((7 : Int32) * a1) + (7 : Int32)) ≤ v29 then
    some M30
  else
    (stL M30 10 14 v29 (0 : Int64)).bind fun M31 =>
    cont114 (v29 + 1) M31
def sX6_lay_40 (M : Mem) (a1 : Int32) (v4 : Int32) (v2 : Int32) (v3 : Int32) (cont40 : Int32 → Int32 → Int32 → Option (Int32 × Int32)) (v33 : Int32) (v34 : Int32) (v35 : Int32) : Option (Int32 × Int32) :=
  (ldI M 5 2 a1).bind fun v36 =>
  if v36 ≤ v35 then
    some (v33, v34)
  else
    Option.bind (
      if ((v4 >>> (v35 &&& 31)) &&& (1 : Int32)) = (1 : Int32) then
        Option.bind (fX6_stepOf M (((8 : Int32) * a1) + v35) v2 v3) fun v40 =>
        Option.bind (
          if v33 ≤ v40 then
            some v33
          else
            some v40
        ) fun v41 =>
        some (v41, (v34 + 1))
      else
        some (v33, v34)
    ) fun t43 =>
    cont40 t43.1 t43.2 (v35 + 1)
def fX6_lay (N : Nat) (M : Mem) (a1 : Int32) (a2 : Int32) (a3 : Int32) (a4 : Int64) : Option (Int32 × Mem) :=
  Option.bind (fX6_common N  a2 a3) fun v1 =>
  (dvI (-a3) v1).bind fun v2 =>
  (dvI a2 v1).bind fun v3 =>
  Option.bind (fX6_faceOf N M a1 a2 a3) fun v4 =>
  Option.bind (
    lp (fun _ _ _ => none) (sX6_lay_40 M a1 v4 v2 v3) N (1000 : Int32) (0 : Int32) (0 : Int32)
  ) fun t44 =>
  Option.bind (
    lp (fun _ _ => none) (sX6_lay_114 a1) N ((7 : Int32) * a1) M
  ) fun M7 =>
  (stI M7 11 2 a1 (0 : Int32)).bind fun M8 =>
  Option.bind (
    lp (fun _ _ => none) (sX6_lay_150 a1 v4 v2 v3 a4 t44.1) N (0 : Int32) M8
  ) fun M9 =>
  if t44.2 ≤ (1 : Int32) then
    okZM (0 : Int32) M9
  else
    okZM (1 : Int32) M9
def sX6_power_12 (a4 : Int64) (cont12 : Int64 → Int64 → Int64 → Option Int64) (v2 : Int64) (v3 : Int64) (v4 : Int64) : Option Int64 :=
  if (0 : Int64) < v4 then
    (rmL v4 (2 : Int64)).bind fun v6 =>
    Option.bind (
      if v6 = (1 : Int64) then
        (rmL (v2 * v3) a4).bind fun v12 =>
        some v12
      else
        some v2
    ) fun v8 =>
    (rmL (v3 * v3) a4).bind fun v9 =>
    (dvL v4 (2 : Int64)).bind fun v10 =>
    cont12 v8 v9 v10
  else
    some v2
def fX6_power (N : Nat) (a0 : Int64) (a2 : Int64) (a4 : Int64) : Option Int64 :=
  (rmL a0 a4).bind fun v1 =>
  lp (fun _ _ _ => none) (sX6_power_12 a4) N (1 : Int64) v1 a2
def sX6_reduce_166 (a1 : Int32) (cont166 : Mem → Option Mem) (M15 : Mem) : Option Mem :=
  (ldI M15 11 2 a1).bind fun v16 =>
  if v16 < 0 then
    some M15
  else
    (ldI M15 11 2 a1).bind fun v17 =>
    (ldL M15 10 14 (((7 : Int32) * a1) + v17)).bind fun v18 =>
    if v18 = (0 : Int64) then
      (ldI M15 11 2 a1).bind fun v20 =>
      (stI M15 11 2 a1 (v20 - (1 : Int32))).bind fun M21 =>
      cont166 M21
    else
      some M15
def sX6_reduce_83 (a2 : Int32) (a1 : Int32) (v10 : Int32) (v11 : Int32) (v9 : Int64) (a3 : Int64) (cont83 : Int32 → Mem → Option Mem) (v23 : Int32) (M24 : Mem) : Option Mem :=
  (ldI M24 11 2 a2).bind fun v25 =>
  if v25 < v23 then
    some M24
  else
    (ldL M24 10 14 ((((7 : Int32) * a1) + v23) + (v10 - v11))).bind fun v26 =>
    (ldL M24 10 14 (((7 : Int32) * a2) + v23)).bind fun v27 =>
    (rmL (v9 * v27) a3).bind fun v28 =>
    Option.bind (
      if (v26 - v28) < (0 : Int64) then
        some ((v26 - v28) + a3)
      else
        some (v26 - v28)
    ) fun v30 =>
    (stL M24 10 14 ((((7 : Int32) * a1) + v23) + (v10 - v11)) v30).bind fun M31 =>
    cont83 (v23 + 1) M31
def sX6_reduce_27 (a1 : Int32) (a2 : Int32) (v3 : Int64) (a3 : Int64) (N : Nat) (cont27 : Mem → Option Mem) (M4 : Mem) : Option Mem :=
  (ldI M4 11 2 a1).bind fun v5 =>
  (ldI M4 11 2 a2).bind fun v6 =>
  if v5 < v6 then
    some M4
  else
    (ldI M4 11 2 a1).bind fun v7 =>
    (ldL M4 10 14 (((7 : Int32) * a1) + v7)).bind fun v8 =>
    (rmL (v8 * v3) a3).bind fun v9 =>
    (ldI M4 11 2 a1).bind fun v10 =>
    (ldI M4 11 2 a2).bind fun v11 =>
    Option.bind (
      lp (fun _ _ => none) (sX6_reduce_83 a2 a1 v10 v11 v9 a3) N (0 : Int32) M4
    ) fun M12 =>
    Option.bind (
      lp (fun _ => none) (sX6_reduce_166 a1) N M12
    ) fun M13 =>
    cont27 M13
def fX6_reduce (N : Nat) (M : Mem) (a1 : Int32) (a2 : Int32) (a3 : Int64) : Option Mem :=
  (ldI M 11 2 a2).bind fun v1 =>
  (ldL M 10 14 (((7 : Int32) * a2) + v1)).bind fun v2 =>
  Option.bind (fX6_power N  v2 (a3 - (2 : Int64)) a3) fun v3 =>
  lp (fun _ => none) (sX6_reduce_27 a1 a2 v3 a3 N) N M
def sX6_meet_54 (N : Nat) (a3 : Int64) (cont54 : Int32 → Mem → Option (Int32 × Mem)) (v10 : Int32) (M11 : Mem) : Option (Int32 × Mem) :=
  (ldI M11 11 2 ((1 : Int32) - v10)).bind fun v12 =>
  if v12 ≤ 0 then
    okZM (0 : Int32) M11
  else
    Option.bind (fX6_reduce N M11 v10 ((1 : Int32) - v10) a3) fun M13 =>
    (ldI M13 11 2 v10).bind fun v14 =>
    if 0 ≤ v14 then
      cont54 ((1 : Int32) - v10) M13
    else
      okZM (1 : Int32) M13
def fX6_meet (N : Nat) (M : Mem) (a1 : Int32) (a2 : Int32) (a3 : Int64) : Option (Int32 × Mem) :=
  Option.bind (fX6_lay N M (0 : Int32) a1 a2 a3) fun t3 =>
  Option.bind (fX6_lay N t3.2 (1 : Int32) a1 a2 a3) fun t6 =>
  if t3.1 = 0 then
    okZM (0 : Int32) t6.2
  else
    if t6.1 = 0 then
      okZM (0 : Int32) t6.2
    else
      (ldI t6.2 11 2 (0 : Int32)).bind fun v7 =>
      (ldI t6.2 11 2 (1 : Int32)).bind fun v8 =>
      Option.bind (
        if v7 < v8 then
          some (1 : Int32)
        else
          some (0 : Int32)
      ) fun v9 =>
      lp (fun _ _ => none) (sX6_meet_54 N a3) N v9 t6.2
def fX6_loses (N : Nat) (M : Mem) (a1 : Int32) (a2 : Int32) : Option (Int32 × Mem) :=
  Option.bind (fX6_meet N M a1 a2 (2147483647 : Int64)) fun t3 =>
  if t3.1 = 0 then
    okZM (0 : Int32) t3.2
  else
    Option.bind (fX6_meet N t3.2 a1 a2 (2147483629 : Int64)) fun t6 =>
    if t6.1 = 0 then
      okZM (0 : Int32) t6.2
    else
      Option.bind (fX6_meet N t6.2 a1 a2 (2147483587 : Int64)) fun t9 =>
      if t9.1 = 0 then
        okZM (0 : Int32) t9.2
      else
        okZM (1 : Int32) t9.2
def fX6_lose (N : Nat) (M : Mem) (a1 : Int32) (a2 : Int32) : Option (Int32 × Mem) :=
  Option.bind (fX6_isWay  a1 a2) fun v1 =>
  if v1 = 0 then
    some ((-2 : Int32), M)
  else
    Option.bind (fX6_isThere M (2 : Int32)) fun v2 =>
    if v2 = 0 then
      some ((-3 : Int32), M)
    else
      Option.bind (fX6_loses N M a1 a2) fun t5 =>
      if t5.1 = 0 then
        some ((0 : Int32), t5.2)
      else
        some ((1 : Int32), t5.2)
def sX6_keep_29 (N : Nat) (cont29 : Int32 → Mem → Option (Int32 × Mem)) (v3 : Int32) (M4 : Mem) : Option (Int32 × Mem) :=
  if (M4.1 0 10) ≤ v3 then
    some ((1 : Int32), M4)
  else
    (rmI (v3 + (1 : Int32)) (M4.1 0 10)).bind fun v5 =>
    (ldI M4 9 64 v3).bind fun v6 =>
    (ldI M4 9 64 v5).bind fun v7 =>
    (ldI M4 8 64 v5).bind fun v8 =>
    (ldI M4 8 64 v3).bind fun v9 =>
    Option.bind (fX6_loses N M4 (v6 - v7) (v8 - v9)) fun t12 =>
    if t12.1 = 0 then
      cont29 (v3 + 1) t12.2
    else
      some ((0 : Int32), t12.2)
def fX6_keep (N : Nat) (M : Mem)  : Option (Int32 × Mem) :=
  Option.bind (fX6_isThere M (2 : Int32)) fun v1 =>
  if v1 = 0 then
    some ((-3 : Int32), M)
  else
    Option.bind (fX6_goRound N M (2 : Int32)) fun M2 =>
    if (3 : Int32) ≤ (M2.1 0 10) then
      lp (fun _ _ => none) (sX6_keep_29 N) N (0 : Int32) M2
    else
      some ((-5 : Int32), M2)
def sX6_areUnlike_8 (a1 : Int32) (M : Mem) (a2 : Int32) (cont8 : Int32 → Int32 → Option Int32) (v3 : Int32) (v4 : Int32) : Option Int32 :=
  if (((8 : Int32) * a1) + (2 : Int32)) ≤ v4 then
    some v3
  else
    (ldI M 1 16 v4).bind fun v5 =>
    (ldI M 2 16 v4).bind fun v6 =>
    (ldI M 3 16 v4).bind fun v7 =>
    Option.bind (
      if 0 ≤ v7 then
        some (0 : Int32)
      else
        some (1 : Int32)
    ) fun v8 =>
    (rmI ((((a2 &&& (1 : Int32)) * v5) + ((a2 >>> ((1 : Int32) &&& 31)) * v6)) + v8) (2 : Int32)).bind fun v9 =>
    cont8 (v3 + v9) (v4 + 1)
def fX6_areUnlike (N : Nat) (M : Mem) (a1 : Int32) (a2 : Int32) : Option Int32 :=
  Option.bind (
    lp (fun _ _ => none) (sX6_areUnlike_8 a1 M a2) N (0 : Int32) ((8 : Int32) * a1)
  ) fun v1 =>
  if v1 = (1 : Int32) then
    okZ (1 : Int32)
  else
    okZ (0 : Int32)
def sX6_two_109 (N : Nat) (M : Mem) (cont109 : Int32 → Int32 → Option Int32) (v14 : Int32) (v15 : Int32) : Option Int32 :=
  if (4 : Int32) ≤ v15 then
    some v14
  else
    Option.bind (fX6_areUnlike N M (0 : Int32) v15) fun v16 =>
    Option.bind (
      if v16 = 0 then
        some (0 : Int32)
      else
        Option.bind (fX6_areUnlike N M (1 : Int32) v15) fun v19 =>
        if v19 = 0 then
          some (0 : Int32)
        else
          some (1 : Int32)
    ) fun v17 =>
    cont109 (v14 + v17) (v15 + 1)
def fX6_two (N : Nat) (M : Mem) (a1 : Int32) : Option Int32 :=
  Option.bind (fX6_in  (Int32.toInt64 a1) (0 : Int64) (1 : Int64)) fun v1 =>
  if v1 = 0 then
    some (-1002 : Int32)
  else
    (ldI M 5 2 (0 : Int32)).bind fun v2 =>
    if v2 = (2 : Int32) then
      (ldI M 5 2 (1 : Int32)).bind fun v3 =>
      if v3 = (2 : Int32) then
        (ldI M 1 16 (1 : Int32)).bind fun v4 =>
        (ldI M 1 16 (0 : Int32)).bind fun v5 =>
        (ldI M 2 16 (9 : Int32)).bind fun v6 =>
        (ldI M 2 16 (8 : Int32)).bind fun v7 =>
        (ldI M 2 16 (1 : Int32)).bind fun v8 =>
        (ldI M 2 16 (0 : Int32)).bind fun v9 =>
        (ldI M 1 16 (9 : Int32)).bind fun v10 =>
        (ldI M 1 16 (8 : Int32)).bind fun v11 =>
        if a1 = 0 then
          some (((v4 - v5) * (v6 - v7)) - ((v8 - v9) * (v10 - v11)))
        else
          Option.bind (
            lp (fun _ _ => none) (sX6_two_109 N M) N (0 : Int32) (0 : Int32)
          ) fun v12 =>
          if (((v4 - v5) * (v6 - v7)) - ((v8 - v9) * (v10 - v11))) = 0 then
            some (-6 : Int32)
          else
            some v12
      else
        some (-1003 : Int32)
    else
      some (-1003 : Int32)
def sX6_isPrime_18 (a0 : Int32) (cont18 : Int32 → Option Int32) (v2 : Int32) : Option Int32 :=
  if a0 ≤ v2 then
    okZ (1 : Int32)
  else
    (rmI a0 v2).bind fun v3 =>
    if v3 = 0 then
      okZ (0 : Int32)
    else
      cont18 (v2 + 1)
def fX6_isPrime (N : Nat) (a0 : Int32) : Option Int32 :=
  Option.bind (fX6_in  (Int32.toInt64 a0) (2 : Int64) (31 : Int64)) fun v1 =>
  if v1 = 0 then
    okZ (0 : Int32)
  else
    lp (fun _ => none) (sX6_isPrime_18 a0) N (2 : Int32)
def sX6_isNought_9 (M : Mem) (a1 : Int32) (N : Nat) (a2 : Int32) (a4 : Int32) (a3 : Int32) (cont9 : Int64 → Int32 → Option Int64) (v5 : Int64) (v6 : Int32) : Option Int64 :=
  (ldI M 5 2 a1).bind fun v7 =>
  if (((8 : Int32) * a1) + v7) ≤ v6 then
    some v5
  else
    (ldI M 3 16 v6).bind fun v8 =>
    (ldI M 1 16 v6).bind fun v9 =>
    Option.bind (fX6_power N  (Int32.toInt64 a2) (Int32.toInt64 v9) (Int32.toInt64 a4)) fun v10 =>
    (ldI M 2 16 v6).bind fun v11 =>
    Option.bind (fX6_power N  (Int32.toInt64 a3) (Int32.toInt64 v11) (Int32.toInt64 a4)) fun v12 =>
    cont9 (v5 + (((Int32.toInt64 v8) * v10) * v12)) (v6 + 1)
def fX6_isNought (N : Nat) (M : Mem) (a1 : Int32) (a2 : Int32) (a3 : Int32) (a4 : Int32) : Option Int32 :=
  Option.bind (
    lp (fun _ _ => none) (sX6_isNought_9 M a1 N a2 a4 a3) N (0 : Int64) ((8 : Int32) * a1)
  ) fun v1 =>
  (rmL v1 (Int32.toInt64 a4)).bind fun v2 =>
  if v2 = (0 : Int64) then
    okZ (1 : Int32)
  else
    okZ (0 : Int32)
def sX6_answers_14 (a1 : Int32) (cont5 : Int32 → Int32 → Option Int32) (v2 : Int32) (N : Nat) (M : Mem) (a2 : Int32) (cont14 : Int32 → Int32 → Option Int32) (v3 : Int32) (v4 : Int32) : Option Int32 :=
  if a1 ≤ v4 then
    cont5 v3 (v2 + 1)
  else
    Option.bind (fX6_isNought N M (0 : Int32) v2 v4 a1) fun v5 =>
    if v5 = 0 then
      cont14 v3 (v4 + 1)
    else
      Option.bind (fX6_isNought N M (1 : Int32) v2 v4 a1) fun v6 =>
      if v6 = 0 then
        cont14 v3 (v4 + 1)
      else
        if v3 = a2 then
          some (((100 : Int32) * v2) + v4)
        else
          cont14 (v3 + 1) (v4 + 1)
def sX6_answers_5 (a1 : Int32) (a2 : Int32) (N : Nat) (M : Mem) (cont5 : Int32 → Int32 → Option Int32) (v1 : Int32) (v2 : Int32) : Option Int32 :=
  if a1 ≤ v2 then
    if 0 ≤ a2 then
      some (-6 : Int32)
    else
      some v1
  else
    lp (fun _ _ => none) (sX6_answers_14 a1 cont5 v2 N M a2) N v1 (1 : Int32)
def fX6_answers (N : Nat) (M : Mem) (a1 : Int32) (a2 : Int32) : Option Int32 :=
  lp (fun _ _ => none) (sX6_answers_5 a1 a2 N M) N (0 : Int32) (1 : Int32)
def fX6_round (N : Nat) (M : Mem) (a1 : Int32) : Option Int32 :=
  Option.bind (fX6_isPrime N  a1) fun v1 =>
  if v1 = 0 then
    some (-2 : Int32)
  else
    Option.bind (fX6_answers N M a1 (-1 : Int32)) fun v2 =>
    some v2
def fX6_answer (N : Nat) (M : Mem) (a1 : Int32) (a2 : Int32) : Option Int32 :=
  Option.bind (fX6_isPrime N  a1) fun v1 =>
  if v1 = 0 then
    some (-2 : Int32)
  else
    if 0 ≤ a2 then
      Option.bind (fX6_answers N M a1 a2) fun v2 =>
      some v2
    else
      some (-6 : Int32)
def fX6_told (M : Mem) (a1 : Int32) : Option Int32 :=
  Option.bind (fX6_isEquation  a1) fun v1 =>
  if v1 = 0 then
    some (-1 : Int32)
  else
    (ldI M 5 2 a1).bind fun v2 =>
    some v2
