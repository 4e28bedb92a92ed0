/-! FUNCTIONS: what each method computes, by program out of its bytecode -/
theorem bp_m100 : (Int8.ofInt (-100)).toInt32 = (-100 : Int32) := by decide
theorem bp_6 : (Int8.ofInt (6)).toInt32 = (6 : Int32) := by decide
theorem bp_7 : (Int8.ofInt (7)).toInt32 = (7 : Int32) := by decide
theorem bp_8 : (Int8.ofInt (8)).toInt32 = (8 : Int32) := by decide
theorem bp_9 : (Int8.ofInt (9)).toInt32 = (9 : Int32) := by decide
theorem bp_10 : (Int8.ofInt (10)).toInt32 = (10 : Int32) := by decide
theorem bp_11 : (Int8.ofInt (11)).toInt32 = (11 : Int32) := by decide
theorem bp_12 : (Int8.ofInt (12)).toInt32 = (12 : Int32) := by decide
theorem bp_13 : (Int8.ofInt (13)).toInt32 = (13 : Int32) := by decide
theorem bp_14 : (Int8.ofInt (14)).toInt32 = (14 : Int32) := by decide
theorem bp_15 : (Int8.ofInt (15)).toInt32 = (15 : Int32) := by decide
theorem bp_16 : (Int8.ofInt (16)).toInt32 = (16 : Int32) := by decide
theorem bp_17 : (Int8.ofInt (17)).toInt32 = (17 : Int32) := by decide
theorem bp_18 : (Int8.ofInt (18)).toInt32 = (18 : Int32) := by decide
theorem bp_20 : (Int8.ofInt (20)).toInt32 = (20 : Int32) := by decide
theorem bp_21 : (Int8.ofInt (21)).toInt32 = (21 : Int32) := by decide
theorem bp_22 : (Int8.ofInt (22)).toInt32 = (22 : Int32) := by decide
theorem bp_24 : (Int8.ofInt (24)).toInt32 = (24 : Int32) := by decide
theorem bp_30 : (Int8.ofInt (30)).toInt32 = (30 : Int32) := by decide
theorem bp_32 : (Int8.ofInt (32)).toInt32 = (32 : Int32) := by decide
theorem bp_33 : (Int8.ofInt (33)).toInt32 = (33 : Int32) := by decide
theorem bp_38 : (Int8.ofInt (38)).toInt32 = (38 : Int32) := by decide
theorem bp_40 : (Int8.ofInt (40)).toInt32 = (40 : Int32) := by decide
theorem bp_41 : (Int8.ofInt (41)).toInt32 = (41 : Int32) := by decide
theorem bp_42 : (Int8.ofInt (42)).toInt32 = (42 : Int32) := by decide
theorem bp_43 : (Int8.ofInt (43)).toInt32 = (43 : Int32) := by decide
theorem bp_45 : (Int8.ofInt (45)).toInt32 = (45 : Int32) := by decide
theorem bp_47 : (Int8.ofInt (47)).toInt32 = (47 : Int32) := by decide
theorem bp_48 : (Int8.ofInt (48)).toInt32 = (48 : Int32) := by decide
theorem bp_57 : (Int8.ofInt (57)).toInt32 = (57 : Int32) := by decide
theorem bp_59 : (Int8.ofInt (59)).toInt32 = (59 : Int32) := by decide
theorem bp_60 : (Int8.ofInt (60)).toInt32 = (60 : Int32) := by decide
theorem bp_61 : (Int8.ofInt (61)).toInt32 = (61 : Int32) := by decide
theorem bp_62 : (Int8.ofInt (62)).toInt32 = (62 : Int32) := by decide
theorem bp_63 : (Int8.ofInt (63)).toInt32 = (63 : Int32) := by decide
theorem bp_64 : (Int8.ofInt (64)).toInt32 = (64 : Int32) := by decide
theorem bp_91 : (Int8.ofInt (91)).toInt32 = (91 : Int32) := by decide
theorem bp_93 : (Int8.ofInt (93)).toInt32 = (93 : Int32) := by decide
theorem bp_97 : (Int8.ofInt (97)).toInt32 = (97 : Int32) := by decide
theorem bp_100 : (Int8.ofInt (100)).toInt32 = (100 : Int32) := by decide
theorem bp_101 : (Int8.ofInt (101)).toInt32 = (101 : Int32) := by decide
theorem bp_110 : (Int8.ofInt (110)).toInt32 = (110 : Int32) := by decide
theorem bp_118 : (Int8.ofInt (118)).toInt32 = (118 : Int32) := by decide
theorem bp_120 : (Int8.ofInt (120)).toInt32 = (120 : Int32) := by decide
theorem bp_122 : (Int8.ofInt (122)).toInt32 = (122 : Int32) := by decide
theorem bp_124 : (Int8.ofInt (124)).toInt32 = (124 : Int32) := by decide
theorem ic_m1 : Int32.ofInt (-1) = (-1 : Int32) := by decide
theorem ic_0 : Int32.ofInt (0) = (0 : Int32) := by decide
theorem ic_1 : Int32.ofInt (1) = (1 : Int32) := by decide
theorem ic_2 : Int32.ofInt (2) = (2 : Int32) := by decide
theorem ic_3 : Int32.ofInt (3) = (3 : Int32) := by decide
theorem ic_4 : Int32.ofInt (4) = (4 : Int32) := by decide
theorem ic_5 : Int32.ofInt (5) = (5 : Int32) := by decide
theorem ic_6 : Int32.ofInt (6) = (6 : Int32) := by decide
theorem ii_m8 (x : Int32) : x + Int32.ofInt (-8) = x + (-8 : Int32) := by rw [show Int32.ofInt (-8) = (-8 : Int32) from by decide]
theorem ii_m1 (x : Int32) : x + Int32.ofInt (-1) = x + (-1 : Int32) := by rw [show Int32.ofInt (-1) = (-1 : Int32) from by decide]
theorem ii_1 (x : Int32) : x + Int32.ofInt (1) = x + (1 : Int32) := by rw [show Int32.ofInt (1) = (1 : Int32) from by decide]
theorem ii_2 (x : Int32) : x + Int32.ofInt (2) = x + (2 : Int32) := by rw [show Int32.ofInt (2) = (2 : Int32) from by decide]
theorem sp_200 : (Int16.ofInt (200)).toInt32 = (200 : Int32) := by decide
theorem sp_255 : (Int16.ofInt (255)).toInt32 = (255 : Int32) := by decide
theorem sp_500 : (Int16.ofInt (500)).toInt32 = (500 : Int32) := by decide
theorem sp_999 : (Int16.ofInt (999)).toInt32 = (999 : Int32) := by decide
theorem sp_1000 : (Int16.ofInt (1000)).toInt32 = (1000 : Int32) := by decide
def f_X7_has (a1 : Int32) (s : yb_S) : Option Int32 :=
  if a1 < 0 then
    some (0 : Int32)
  else
    if (s.1 41 0) ≤ a1 then
      some (0 : Int32)
    else
      if (60 : Int32) ≤ a1 then
        some (0 : Int32)
      else
        some (1 : Int32)
def f_X7_areBarred (a1 : Int32) (a2 : Int32) (s : yb_S) : Option Int32 :=
  (yb_rd s 45 60 a1).bind fun v1 =>
  (yb_rd s 46 60 a2).bind fun v2 =>
  if v2 < v1 then
    some (0 : Int32)
  else
    (yb_rd s 45 60 a2).bind fun v4 =>
    (yb_rd s 46 60 a1).bind fun v5 =>
    if v5 < v4 then
      some (0 : Int32)
    else
      some (1 : Int32)
def f_X7_canBeAlike (a1 : Int32) (a2 : Int32) (s : yb_S) : Option Int32 :=
  (f_X7_has a1 s).bind fun q1 =>
  if q1 = 0 then
    some (0 : Int32)
  else
    (f_X7_has a2 s).bind fun q4 =>
    if q4 = 0 then
      some (0 : Int32)
    else
      (yb_rd s 42 60 a1).bind fun v7 =>
      (yb_rd s 42 60 a2).bind fun v8 =>
      if v7 = v8 then
        some (0 : Int32)
      else
        (f_X7_areBarred a1 a2 s).bind fun q10 =>
        if q10 = 0 then
          some (1 : Int32)
        else
          some (0 : Int32)
def j_X7_points_50 (rc27 : (Int32 → Int32 → Int32 → Int32 → Option Int32)) (x1 : Int32) (x3 : Int32) (x4 : Int32) (x5 : Int32) (x6 : Int32) (x7 : Int32) (s : yb_S) : Option Int32 :=
  rc27 x4 (x5 / (10 : Int32)) (x6 / (10 : Int32)) (x7 + (1 : Int32))
def f_X7_points_27 (rc27 : (Int32 → Int32 → Int32 → Int32 → Option Int32)) (x1 : Int32) (x3 : Int32) (s : yb_S) (x4 : Int32) (x5 : Int32) (x6 : Int32) (x7 : Int32) : Option Int32 :=
  if (6 : Int32) ≤ x7 then
    (yb_rd s 44 60 x1).bind fun v6 =>
    some (x4 - (yb_abs (v6 - x3)))
  else
    if (yb_rem x5 (10 : Int32)) = (yb_rem x6 (10 : Int32)) then
      j_X7_points_50 rc27 x1 x3 (x4 + (1 : Int32)) x5 x6 x7 s
    else
      j_X7_points_50 rc27 x1 x3 x4 x5 x6 x7 s
def l_X7_points_27 (x1 : Int32) (x3 : Int32) (s : yb_S) (n : Nat) (x4 : Int32) (x5 : Int32) (x6 : Int32) (x7 : Int32) : Option Int32 :=
  yb_it (α := Int32 × Int32 × Int32 × Int32) (fun rc q => f_X7_points_27 (fun x4 x5 x6 x7 => rc (x4, x5, x6, x7)) x1 x3 s q.1 q.2.1 q.2.2.1 q.2.2.2) n (x4, x5, x6, x7)
def f_X7_points (a1 : Int32) (a2 : Int32) (a3 : Int32) (s : yb_S) : Option Int32 :=
  (f_X7_has a1 s).bind fun q1 =>
  if q1 = 0 then
    some (0 : Int32)
  else
    (yb_rd s 43 60 a1).bind fun v4 =>
    l_X7_points_27 a1 a3 s yb_N (0 : Int32) v4 a2 (0 : Int32)
def f_X11_alike (a1 : Int32) (a2 : Int32) (s : yb_S) : Option Int32 :=
  (f_X7_canBeAlike a1 a2 s).bind fun q1 =>
  if q1 = 0 then
    some (-2147483648 : Int32)
  else
    (yb_rd s 43 60 a2).bind fun v4 =>
    (yb_rd s 44 60 a2).bind fun v5 =>
    (f_X7_points a1 v4 v5 s).bind fun q6 =>
    some q6
def f_X11_apart (a1 : Int32) (a2 : Int32) (a3 : Int32) (s : yb_S) : Option (Int32 × yb_S) :=
  if a1 < 0 then
    some ((0 : Int32), s)
  else
    if (6 : Int32) ≤ a1 then
      some ((0 : Int32), s)
    else
      if a2 < 0 then
        some ((0 : Int32), s)
      else
        if (6 : Int32) ≤ a2 then
          some ((0 : Int32), s)
        else
          if a1 = a2 then
            some ((0 : Int32), s)
          else
            if a3 < 0 then
              some ((0 : Int32), s)
            else
              if a3 ≤ (200 : Int32) then
                (yb_ri 35 1 6 a1).bind fun r8 =>
                (yb_wr s r8 6 a2 a3).bind fun s9 =>
                (yb_ri 35 1 6 a2).bind fun r10 =>
                (yb_wr s9 r10 6 a1 a3).bind fun s11 =>
                some ((1 : Int32), s11)
              else
                some ((0 : Int32), s)
def f_X2_has (a1 : Int32) (s : yb_S) : Option Int32 :=
  if a1 < 0 then
    some (0 : Int32)
  else
    if (s.1 21 0) ≤ a1 then
      some (0 : Int32)
    else
      if (24 : Int32) ≤ a1 then
        some (0 : Int32)
      else
        some (1 : Int32)
def f_X8_isHere (a1 : Int32) (s : yb_S) : Option Int32 :=
  (f_X2_has a1 s).bind fun q1 =>
  if q1 = 0 then
    some (0 : Int32)
  else
    (yb_rd s 28 24 a1).bind fun v4 =>
    if v4 = (2 : Int32) then
      some (0 : Int32)
    else
      some (1 : Int32)
def f_X4_has (a1 : Int32) (s : yb_S) : Option Int32 :=
  if a1 < 0 then
    some (0 : Int32)
  else
    if (s.1 13 0) ≤ a1 then
      some (0 : Int32)
    else
      if (24 : Int32) ≤ a1 then
        some (0 : Int32)
      else
        some (1 : Int32)
def f_X10_has (a1 : Int32) (s : yb_S) : Option Int32 :=
  if a1 < 0 then
    some (0 : Int32)
  else
    if (s.1 2 0) ≤ a1 then
      some (0 : Int32)
    else
      if (8 : Int32) ≤ a1 then
        some (0 : Int32)
      else
        some (1 : Int32)
def f_X10_milesBetween (a1 : Int32) (a2 : Int32) (s : yb_S) : Option Int32 :=
  (f_X10_has a1 s).bind fun q1 =>
  if q1 = 0 then
    some (0 : Int32)
  else
    (f_X10_has a2 s).bind fun q4 =>
    if q4 = 0 then
      some (0 : Int32)
    else
      (yb_rd s 3 8 a1).bind fun v7 =>
      (yb_rd s 3 8 a2).bind fun v8 =>
      some (yb_abs (v7 - v8))
def f_X2_milesApart (a1 : Int32) (a2 : Int32) (s : yb_S) : Option Int32 :=
  (f_X2_has a1 s).bind fun q1 =>
  if q1 = 0 then
    some (0 : Int32)
  else
    (f_X2_has a2 s).bind fun q4 =>
    if q4 = 0 then
      some (0 : Int32)
    else
      (yb_rd s 27 24 a1).bind fun v7 =>
      (yb_ri 35 1 6 v7).bind fun r8 =>
      (yb_rd s 27 24 a2).bind fun v9 =>
      (yb_rd s r8 6 v9).bind fun v10 =>
      some v10
def j_X8_isTooNear_54 (rc2 : (Int32 → Option Int32)) (x1 : Int32) (x2 : Int32) (x3 : Int32) (s : yb_S) : Option Int32 :=
  rc2 (x3 + (1 : Int32))
def f_X8_isTooNear_2 (rc2 : (Int32 → Option Int32)) (x1 : Int32) (x2 : Int32) (s : yb_S) (x3 : Int32) : Option Int32 :=
  if (s.1 21 0) ≤ x3 then
    some (0 : Int32)
  else
    (yb_rd s 30 24 x3).bind fun v2 =>
    if v2 = (-1 : Int32) then
      j_X8_isTooNear_54 rc2 x1 x2 x3 s
    else
      (f_X10_milesBetween x2 v2 s).bind fun q4 =>
      (f_X2_milesApart x1 x3 s).bind fun q6 =>
      if q6 ≤ q4 then
        j_X8_isTooNear_54 rc2 x1 x2 x3 s
      else
        some (1 : Int32)
def l_X8_isTooNear_2 (x1 : Int32) (x2 : Int32) (s : yb_S) (n : Nat) (x3 : Int32) : Option Int32 :=
  yb_it (α := Int32) (fun rc q => f_X8_isTooNear_2 (fun x3 => rc x3) x1 x2 s q) n x3
def f_X8_isTooNear (a1 : Int32) (a2 : Int32) (s : yb_S) : Option Int32 :=
  l_X8_isTooNear_2 a1 a2 s yb_N (0 : Int32)
def f_X5_has (a1 : Int32) (s : yb_S) : Option Int32 :=
  if a1 < 0 then
    some (0 : Int32)
  else
    if (s.1 54 0) ≤ a1 then
      some (0 : Int32)
    else
      if (10 : Int32) ≤ a1 then
        some (0 : Int32)
      else
        some (1 : Int32)
def f_X5_hasClause (a1 : Int32) (a2 : Int32) (s : yb_S) : Option Int32 :=
  (f_X5_has a1 s).bind fun q1 =>
  if q1 = 0 then
    some (0 : Int32)
  else
    if a2 < 0 then
      some (0 : Int32)
    else
      if (6 : Int32) ≤ a2 then
        some (0 : Int32)
      else
        (yb_ri 69 1 10 a1).bind fun r6 =>
        (yb_rd s r6 6 a2).bind fun v7 =>
        if v7 = (-1 : Int32) then
          some (0 : Int32)
        else
          some (1 : Int32)
def j_X5_inForce_81 (rc24 : (Int32 → Option Int32)) (x1 : Int32) (x2 : Int32) (x3 : Int32) (s : yb_S) : Option Int32 :=
  rc24 (x3 + (-1 : Int32))
def j_X5_inForce_63 (rc24 : (Int32 → Option Int32)) (x1 : Int32) (x2 : Int32) (x3 : Int32) (y0 : Int32) (s : yb_S) : Option Int32 :=
  if y0 = 0 then
    j_X5_inForce_81 rc24 x1 x2 x3 s
  else
    (f_X5_hasClause x3 x1 s).bind fun q8 =>
    if q8 = 0 then
      j_X5_inForce_81 rc24 x1 x2 x3 s
    else
      some x3
def j_X5_inForce_62 (rc24 : (Int32 → Option Int32)) (x1 : Int32) (x2 : Int32) (x3 : Int32) (s : yb_S) : Option Int32 :=
  j_X5_inForce_63 rc24 x1 x2 x3 (0 : Int32) s
def j_X5_inForce_58 (rc24 : (Int32 → Option Int32)) (x1 : Int32) (x2 : Int32) (x3 : Int32) (s : yb_S) : Option Int32 :=
  j_X5_inForce_63 rc24 x1 x2 x3 (1 : Int32) s
def f_X5_inForce_24 (rc24 : (Int32 → Option Int32)) (x1 : Int32) (x2 : Int32) (s : yb_S) (x3 : Int32) : Option Int32 :=
  if x3 < 0 then
    some (-1 : Int32)
  else
    (yb_rd s 55 10 x3).bind fun v5 =>
    if x2 < v5 then
      j_X5_inForce_62 rc24 x1 x2 x3 s
    else
      (yb_rd s 56 10 x3).bind fun v11 =>
      if v11 = (-1 : Int32) then
        j_X5_inForce_58 rc24 x1 x2 x3 s
      else
        (yb_rd s 56 10 x3).bind fun v13 =>
        if v13 ≤ x2 then
          j_X5_inForce_62 rc24 x1 x2 x3 s
        else
          j_X5_inForce_58 rc24 x1 x2 x3 s
def l_X5_inForce_24 (x1 : Int32) (x2 : Int32) (s : yb_S) (n : Nat) (x3 : Int32) : Option Int32 :=
  yb_it (α := Int32) (fun rc q => f_X5_inForce_24 (fun x3 => rc x3) x1 x2 s q) n x3
def f_X5_inForce (a1 : Int32) (a2 : Int32) (s : yb_S) : Option Int32 :=
  (f_X5_hasClause (s.1 54 1) a1 s).bind fun q1 =>
  if q1 = 0 then
    l_X5_inForce_24 a1 a2 s yb_N ((s.1 54 0) - (1 : Int32))
  else
    some (s.1 54 1)
def f_X5_brought (a0 : Int64) (s : yb_S) : Option Int32 :=
  if (lg_cmp a0 (1000000 : Int64)) ≤ 0 then
    if 0 ≤ (lg_cmp a0 (-1000000 : Int64)) then
      some (a0.toInt32)
    else
      some (-1000000 : Int32)
  else
    some (1000000 : Int32)
def f_X5_joined (a0 : Int32) (a1 : Int32) (a2 : Int32) (s : yb_S) : Option Int32 :=
  if a0 = (20 : Int32) then
    some (a1 &&& a2)
  else
    if a0 = (21 : Int32) then
      some (a1 ||| a2)
    else
      if a0 = (42 : Int32) then
        (f_X5_brought ((a1.toInt64) * (a2.toInt64)) s).bind fun q10 =>
        some q10
      else
        if a0 = (43 : Int32) then
          (f_X5_brought ((a1.toInt64) + (a2.toInt64)) s).bind fun q12 =>
          some q12
        else
          if a0 = (45 : Int32) then
            (f_X5_brought ((a1.toInt64) - (a2.toInt64)) s).bind fun q14 =>
            some q14
          else
            if a0 = (47 : Int32) then
              if a2 = 0 then
                some (0 : Int32)
              else
                (yb_dv a1 a2).bind fun v17 =>
                some v17
            else
              if a0 = (60 : Int32) then
                if a2 ≤ a1 then
                  some (0 : Int32)
                else
                  some (1 : Int32)
              else
                if a0 = (61 : Int32) then
                  if a1 = a2 then
                    some (1 : Int32)
                  else
                    some (0 : Int32)
                else
                  if a0 = (62 : Int32) then
                    if a1 ≤ a2 then
                      some (0 : Int32)
                    else
                      some (1 : Int32)
                  else
                    some (0 : Int32)
def f_X5_unwritten (a0 : Int32) (s : yb_S) : Option Int32 :=
  if a0 = (2 : Int32) then
    some (30 : Int32)
  else
    if a0 = (4 : Int32) then
      some (1 : Int32)
    else
      some (0 : Int32)
def j_X5_valueOf_91_196 (s : yb_S) : Option (Int32 × yb_S) :=
  (yb_rd s 90 64 (0 : Int32)).bind fun v9 =>
  some (v9, s)
def j_X5_valueOf_91_190 (rc27 : (Int32 → Int32 → yb_S → Option (Int32 × yb_S))) (x1 : Int32) (x2 : Int32) (x4 : Int32) (x5 : Int32) (s : yb_S) : Option (Int32 × yb_S) :=
  rc27 x4 (x5 + (1 : Int32)) s
def j_X5_valueOf_91_108 (rc27 : (Int32 → Int32 → yb_S → Option (Int32 × yb_S))) (x1 : Int32) (x2 : Int32) (x4 : Int32) (x5 : Int32) (y0 : Int32) (y1 : Int32) (s : yb_S) : Option (Int32 × yb_S) :=
  (yb_wr s 90 64 y1 y0).bind fun s17 =>
  j_X5_valueOf_91_190 rc27 x1 x2 (x4 + (1 : Int32)) x5 s17
def j_X5_valueOf_91_74 (rc27 : (Int32 → Int32 → yb_S → Option (Int32 × yb_S))) (x1 : Int32) (x2 : Int32) (x4 : Int32) (x5 : Int32) (x6 : Int32) (s : yb_S) : Option (Int32 × yb_S) :=
  if (64 : Int32) ≤ x4 then
    j_X5_valueOf_91_190 rc27 x1 x2 x4 x5 s
  else
    if x6 < (1000 : Int32) then
      (yb_rd s 91 18 x6).bind fun v16 =>
      j_X5_valueOf_91_108 rc27 x1 x2 x4 x5 v16 x4 s
    else
      j_X5_valueOf_91_108 rc27 x1 x2 x4 x5 (x6 - (1000 : Int32)) x4 s
def f_X5_valueOf_91_27 (rc27 : (Int32 → Int32 → yb_S → Option (Int32 × yb_S))) (x1 : Int32) (x2 : Int32) (x4 : Int32) (x5 : Int32) (s : yb_S) : Option (Int32 × yb_S) :=
  (yb_ri 80 1 10 x1).bind fun r6 =>
  (yb_rd s r6 6 x2).bind fun v7 =>
  if v7 ≤ x5 then
    j_X5_valueOf_91_196 s
  else
    if (500 : Int32) ≤ x5 then
      j_X5_valueOf_91_196 s
    else
      (yb_ri 58 1 10 x1).bind fun r11 =>
      (yb_rd s r11 500 x5).bind fun v12 =>
      if (1000 : Int32) ≤ v12 then
        j_X5_valueOf_91_74 rc27 x1 x2 x4 x5 v12 s
      else
        if (18 : Int32) ≤ v12 then
          if v12 = (22 : Int32) then
            if x4 < (1 : Int32) then
              j_X5_valueOf_91_190 rc27 x1 x2 x4 x5 s
            else
              (yb_rd s 90 64 (x4 - (1 : Int32))).bind fun v27 =>
              (yb_wr s 90 64 (x4 - (1 : Int32)) ((1 : Int32) - v27)).bind fun s28 =>
              j_X5_valueOf_91_190 rc27 x1 x2 x4 x5 s28
          else
            if x4 < (2 : Int32) then
              j_X5_valueOf_91_190 rc27 x1 x2 x4 x5 s
            else
              (yb_rd s 90 64 ((x4 + (-1 : Int32)) - (1 : Int32))).bind fun v21 =>
              (yb_rd s 90 64 (x4 + (-1 : Int32))).bind fun v22 =>
              (f_X5_joined v12 v21 v22 s).bind fun q23 =>
              (yb_wr s 90 64 ((x4 + (-1 : Int32)) - (1 : Int32)) q23).bind fun s25 =>
              j_X5_valueOf_91_190 rc27 x1 x2 (x4 + (-1 : Int32)) x5 s25
        else
          j_X5_valueOf_91_74 rc27 x1 x2 x4 x5 v12 s
def l_X5_valueOf_91_27 (x1 : Int32) (x2 : Int32) (n : Nat) (x4 : Int32) (x5 : Int32) (s : yb_S) : Option (Int32 × yb_S) :=
  yb_it (α := Int32 × Int32 × yb_S) (fun rc q => f_X5_valueOf_91_27 (fun x4 x5 s => rc (x4, x5, s)) x1 x2 q.1 q.2.1 q.2.2) n (x4, x5, s)
def f_X5_valueOf_91 (a1 : Int32) (a2 : Int32) (s : yb_S) : Option (Int32 × yb_S) :=
  (f_X5_hasClause a1 a2 s).bind fun q1 =>
  if q1 = 0 then
    (f_X5_unwritten a2 s).bind fun q29 =>
    some (q29, s)
  else
    (yb_ri 69 1 10 a1).bind fun r4 =>
    (yb_rd s r4 6 a2).bind fun v5 =>
    l_X5_valueOf_91_27 a1 a2 yb_N (0 : Int32) v5 s
def f_X8_nameFamily (a1 : Int32) (s : yb_S) : Option yb_S :=
  (yb_rd s 22 24 a1).bind fun v1 =>
  (yb_wr s 91 18 (0 : Int32) v1).bind fun s2 =>
  (yb_rd s2 23 24 a1).bind fun v3 =>
  (yb_wr s2 91 18 (1 : Int32) v3).bind fun s4 =>
  (yb_rd s4 24 24 a1).bind fun v5 =>
  (yb_wr s4 91 18 (2 : Int32) v5).bind fun s6 =>
  (yb_rd s6 25 24 a1).bind fun v7 =>
  (yb_wr s6 91 18 (3 : Int32) v7).bind fun s8 =>
  (yb_rd s8 26 24 a1).bind fun v9 =>
  (yb_wr s8 91 18 (4 : Int32) v9).bind fun s10 =>
  (yb_rd s10 27 24 a1).bind fun v11 =>
  (yb_wr s10 91 18 (5 : Int32) v11).bind fun s12 =>
  (yb_rd s12 31 24 a1).bind fun v13 =>
  (yb_wr s12 91 18 (6 : Int32) v13).bind fun s14 =>
  some s14
def f_X8_wishMet (a1 : Int32) (a2 : Int32) (s : yb_S) : Option Int32 :=
  (yb_rd s 33 24 a1).bind fun v1 =>
  if v1 = a2 then
    some (1 : Int32)
  else
    some (0 : Int32)
def f_J6_bitCount_0f7a4 (a0 : Int32) (s : yb_S) : Option Int32 :=
  some ((((((((a0 - ((a0.toUInt32 >>> ((1 : Int32).toUInt32 &&& Int32.toUInt32 31)).toInt32 &&& (1431655765 : Int32))) &&& (858993459 : Int32)) + (((a0 - ((a0.toUInt32 >>> ((1 : Int32).toUInt32 &&& Int32.toUInt32 31)).toInt32 &&& (1431655765 : Int32))).toUInt32 >>> ((2 : Int32).toUInt32 &&& Int32.toUInt32 31)).toInt32 &&& (858993459 : Int32))) + ((((a0 - ((a0.toUInt32 >>> ((1 : Int32).toUInt32 &&& Int32.toUInt32 31)).toInt32 &&& (1431655765 : Int32))) &&& (858993459 : Int32)) + (((a0 - ((a0.toUInt32 >>> ((1 : Int32).toUInt32 &&& Int32.toUInt32 31)).toInt32 &&& (1431655765 : Int32))).toUInt32 >>> ((2 : Int32).toUInt32 &&& Int32.toUInt32 31)).toInt32 &&& (858993459 : Int32))).toUInt32 >>> ((4 : Int32).toUInt32 &&& Int32.toUInt32 31)).toInt32) &&& (252645135 : Int32)) + ((((((a0 - ((a0.toUInt32 >>> ((1 : Int32).toUInt32 &&& Int32.toUInt32 31)).toInt32 &&& (1431655765 : Int32))) &&& (858993459 : Int32)) + (((a0 - ((a0.toUInt32 >>> ((1 : Int32).toUInt32 &&& Int32.toUInt32 31)).toInt32 &&& (1431655765 : Int32))).toUInt32 >>> ((2 : Int32).toUInt32 &&& Int32.toUInt32 31)).toInt32 &&& (858993459 : Int32))) + ((((a0 - ((a0.toUInt32 >>> ((1 : Int32).toUInt32 &&& Int32.toUInt32 31)).toInt32 &&& (1431655765 : Int32))) &&& (858993459 : Int32)) + (((a0 - ((a0.toUInt32 >>> ((1 : Int32).toUInt32 &&& Int32.toUInt32 31)).toInt32 &&& (1431655765 : Int32))).toUInt32 >>> ((2 : Int32).toUInt32 &&& Int32.toUInt32 31)).toInt32 &&& (858993459 : Int32))).toUInt32 >>> ((4 : Int32).toUInt32 &&& Int32.toUInt32 31)).toInt32) &&& (252645135 : Int32)).toUInt32 >>> ((8 : Int32).toUInt32 &&& Int32.toUInt32 31)).toInt32) + (((((((a0 - ((a0.toUInt32 >>> ((1 : Int32).toUInt32 &&& Int32.toUInt32 31)).toInt32 &&& (1431655765 : Int32))) &&& (858993459 : Int32)) + (((a0 - ((a0.toUInt32 >>> ((1 : Int32).toUInt32 &&& Int32.toUInt32 31)).toInt32 &&& (1431655765 : Int32))).toUInt32 >>> ((2 : Int32).toUInt32 &&& Int32.toUInt32 31)).toInt32 &&& (858993459 : Int32))) + ((((a0 - ((a0.toUInt32 >>> ((1 : Int32).toUInt32 &&& Int32.toUInt32 31)).toInt32 &&& (1431655765 : Int32))) &&& (858993459 : Int32)) + (((a0 - ((a0.toUInt32 >>> ((1 : Int32).toUInt32 &&& Int32.toUInt32 31)).toInt32 &&& (1431655765 : Int32))).toUInt32 >>> ((2 : Int32).toUInt32 &&& Int32.toUInt32 31)).toInt32 &&& (858993459 : Int32))).toUInt32 >>> ((4 : Int32).toUInt32 &&& Int32.toUInt32 31)).toInt32) &&& (252645135 : Int32)) + ((((((a0 - ((a0.toUInt32 >>> ((1 : Int32).toUInt32 &&& Int32.toUInt32 31)).toInt32 &&& (1431655765 : Int32))) &&& (858993459 : Int32)) + (((a0 - ((a0.toUInt32 >>> ((1 : Int32).toUInt32 &&& Int32.toUInt32 31)).toInt32 &&& (1431655765 : Int32))).toUInt32 >>> ((2 : Int32).toUInt32 &&& Int32.toUInt32 31)).toInt32 &&& (858993459 : Int32))) + ((((a0 - ((a0.toUInt32 >>> ((1 : Int32).toUInt32 &&& Int32.toUInt32 31)).toInt32 &&& (1431655765 : Int32))) &&& (858993459 : Int32)) + (((a0 - ((a0.toUInt32 >>> ((1 : Int32).toUInt32 &&& Int32.toUInt32 31)).toInt32 &&& (1431655765 : Int32))).toUInt32 >>> ((2 : Int32).toUInt32 &&& Int32.toUInt32 31)).toInt32 &&& (858993459 : Int32))).toUInt32 >>> ((4 : Int32).toUInt32 &&& Int32.toUInt32 31)).toInt32) &&& (252645135 : Int32)).toUInt32 >>> ((8 : Int32).toUInt32 &&& Int32.toUInt32 31)).toInt32).toUInt32 >>> ((16 : Int32).toUInt32 &&& Int32.toUInt32 31)).toInt32) &&& (63 : Int32))
def f_X8_kinIn (a1 : Int32) (a2 : Int32) (s : yb_S) : Option Int32 :=
  (yb_rd s 53 24 a1).bind fun v1 =>
  (yb_rd s 11 8 a2).bind fun v2 =>
  (f_J6_bitCount_0f7a4 (v1 &&& v2) s).bind fun q3 =>
  some q3
def j_X8_seatsFor_26 (x2 : Int32) (y0 : Int32) (s : yb_S) : Option Int32 :=
  (yb_rd s 5 8 x2).bind fun v3 =>
  (yb_rd s 10 8 x2).bind fun v4 =>
  some ((v3 - v4) + y0)
def f_X8_seatsFor (a1 : Int32) (a2 : Int32) (s : yb_S) : Option Int32 :=
  (yb_rd s 30 24 a1).bind fun v1 =>
  if v1 = a2 then
    (yb_rd s 23 24 a1).bind fun v5 =>
    j_X8_seatsFor_26 a2 v5 s
  else
    j_X8_seatsFor_26 a2 (0 : Int32) s
def f_X10_wants (a1 : Int32) (a2 : Int32) (s : yb_S) : Option Int32 :=
  if a1 < 0 then
    some (0 : Int32)
  else
    if (s.1 2 0) ≤ a1 then
      some (0 : Int32)
    else
      (yb_rd s 6 8 a1).bind fun v3 =>
      if ((v3 >>> (a2 &&& 31)) &&& (1 : Int32)) = (1 : Int32) then
        some (1 : Int32)
      else
        some (0 : Int32)
def j_X8_nameHome_136 (x3 : Int32) (y0 : Int32) (y1 : Int32) (s : yb_S) : Option yb_S :=
  (yb_wr s 91 18 y1 y0).bind fun s23 =>
  (yb_rd s23 8 8 x3).bind fun v24 =>
  (yb_wr s23 91 18 (15 : Int32) v24).bind fun s25 =>
  some s25
def f_X8_nameHome (a1 : Int32) (a2 : Int32) (s : yb_S) : Option yb_S :=
  (yb_rd s 14 24 a2).bind fun v1 =>
  (f_X8_wishMet a1 v1 s).bind fun q2 =>
  (yb_wr s 91 18 (7 : Int32) q2).bind fun s4 =>
  (f_X8_kinIn a1 v1 s4).bind fun q5 =>
  (yb_wr s4 91 18 (8 : Int32) q5).bind fun s7 =>
  (yb_rd s7 15 24 a2).bind fun v8 =>
  (yb_wr s7 91 18 (9 : Int32) v8).bind fun s9 =>
  (yb_rd s9 16 24 a2).bind fun v10 =>
  (yb_wr s9 91 18 (10 : Int32) v10).bind fun s11 =>
  (yb_rd s11 33 24 a1).bind fun v12 =>
  (f_X10_milesBetween v1 v12 s11).bind fun q13 =>
  (yb_wr s11 91 18 (11 : Int32) q13).bind fun s15 =>
  (f_X8_seatsFor a1 v1 s15).bind fun q16 =>
  (yb_wr s15 91 18 (12 : Int32) q16).bind fun s18 =>
  (yb_rd s18 26 24 a1).bind fun v19 =>
  (f_X10_wants v1 v19 s18).bind fun q20 =>
  if q20 = 0 then
    j_X8_nameHome_136 v1 (0 : Int32) (13 : Int32) s18
  else
    j_X8_nameHome_136 v1 (1 : Int32) (13 : Int32) s18
def j_X8_tells_173 (x1 : Int32) (x6 : Int32) (s : yb_S) : Option (Int32 × yb_S) :=
  (f_X5_valueOf_91 x6 x1 s).bind fun q14 =>
  some (q14.1, q14.2)
def f_X8_tells_28 (rc28 : (Int32 → yb_S → Option (Int32 × yb_S))) (x1 : Int32) (x2 : Int32) (x3 : Int32) (x4 : Int32) (x5 : Int32) (x6 : Int32) (x7 : Int32) (s : yb_S) : Option (Int32 × yb_S) :=
  if (18 : Int32) ≤ x7 then
    (yb_wr s 91 18 (14 : Int32) (s.1 1 7)).bind fun s5 =>
    (yb_wr s5 91 18 (16 : Int32) (s5.1 1 5)).bind fun s6 =>
    (yb_wr s6 91 18 (17 : Int32) x5).bind fun s7 =>
    (f_X2_has x2 s7).bind fun q8 =>
    if q8 = 0 then
      (f_X10_has x4 s7).bind fun q11 =>
      if q11 = 0 then
        j_X8_tells_173 x1 x6 s7
      else
        (yb_rd s7 5 8 x4).bind fun v16 =>
        (yb_rd s7 10 8 x4).bind fun v17 =>
        (yb_wr s7 91 18 (12 : Int32) (v16 - v17)).bind fun s18 =>
        (yb_rd s18 8 8 x4).bind fun v19 =>
        (yb_wr s18 91 18 (15 : Int32) v19).bind fun s20 =>
        j_X8_tells_173 x1 x6 s20
    else
      (f_X8_nameFamily x2 s7).bind fun q21 =>
      (f_X4_has x3 q21).bind fun q23 =>
      if q23 = 0 then
        j_X8_tells_173 x1 x6 q21
      else
        (f_X8_nameHome x2 x3 q21).bind fun q26 =>
        j_X8_tells_173 x1 x6 q26
  else
    (yb_wr s 91 18 x7 (0 : Int32)).bind fun s28 =>
    rc28 (x7 + (1 : Int32)) s28
def l_X8_tells_28 (x1 : Int32) (x2 : Int32) (x3 : Int32) (x4 : Int32) (x5 : Int32) (x6 : Int32) (n : Nat) (x7 : Int32) (s : yb_S) : Option (Int32 × yb_S) :=
  yb_it (α := Int32 × yb_S) (fun rc q => f_X8_tells_28 (fun x7 s => rc (x7, s)) x1 x2 x3 x4 x5 x6 q.1 q.2) n (x7, s)
def f_X8_tells (a1 : Int32) (a2 : Int32) (a3 : Int32) (a4 : Int32) (a5 : Int32) (s : yb_S) : Option (Int32 × yb_S) :=
  (f_X5_inForce a1 (s.1 1 5) s).bind fun q1 =>
  if q1 = (-1 : Int32) then
    (f_X5_unwritten a1 s).bind fun q29 =>
    some (q29, s)
  else
    l_X8_tells_28 a1 a2 a3 a4 a5 q1 yb_N (0 : Int32) s
def f_X10_teaches (a1 : Int32) (a2 : Int32) (s : yb_S) : Option Int32 :=
  if a1 < 0 then
    some (0 : Int32)
  else
    if (s.1 2 0) ≤ a1 then
      some (0 : Int32)
    else
      (yb_rd s 4 8 a1).bind fun v3 =>
      if ((v3 >>> (a2 &&& 31)) &&& (1 : Int32)) = (1 : Int32) then
        some (1 : Int32)
      else
        some (0 : Int32)
def f_X8_hasSchoolFor (a1 : Int32) (a2 : Int32) (s : yb_S) : Option Int32 :=
  (yb_rd s 25 24 a1).bind fun v1 =>
  (f_X10_teaches a2 v1 s).bind fun q2 =>
  if q2 = 0 then
    some (0 : Int32)
  else
    (f_X8_seatsFor a1 a2 s).bind fun q5 =>
    (yb_rd s 23 24 a1).bind fun v7 =>
    if q5 < v7 then
      some (0 : Int32)
    else
      some (1 : Int32)
def j_X8_barOf_207 (x1 : Int32) (x2 : Int32) (x3 : Int32) (s : yb_S) : Option (Int32 × yb_S) :=
  (yb_rd s 7 8 x3).bind fun v23 =>
  if v23 = 0 then
    (f_X8_isTooNear x1 x3 s).bind fun q25 =>
    if q25 = 0 then
      (f_X8_tells (4 : Int32) x1 x2 (-1 : Int32) (0 : Int32) s).bind fun q28 =>
      if q28.1 = (1 : Int32) then
        some ((0 : Int32), q28.2)
      else
        some ((9 : Int32), q28.2)
    else
      some ((8 : Int32), s)
  else
    some ((7 : Int32), s)
def j_X8_barOf_170 (x1 : Int32) (x2 : Int32) (x3 : Int32) (s : yb_S) : Option (Int32 × yb_S) :=
  (yb_rd s 17 24 x2).bind fun v21 =>
  if v21 = (4 : Int32) then
    j_X8_barOf_207 x1 x2 x3 s
  else
    (yb_rd s 17 24 x2).bind fun v31 =>
    (yb_rd s 25 24 x1).bind fun v32 =>
    if v31 = v32 then
      j_X8_barOf_207 x1 x2 x3 s
    else
      some ((6 : Int32), s)
def j_X8_barOf_147 (x1 : Int32) (x2 : Int32) (x3 : Int32) (s : yb_S) : Option (Int32 × yb_S) :=
  (yb_rd s 23 24 x1).bind fun v19 =>
  if v19 ≤ 0 then
    j_X8_barOf_170 x1 x2 x3 s
  else
    (f_X8_hasSchoolFor x1 x3 s).bind fun q34 =>
    if q34 = 0 then
      some ((5 : Int32), s)
    else
      j_X8_barOf_170 x1 x2 x3 s
def j_X8_barOf_96 (x1 : Int32) (x2 : Int32) (x3 : Int32) (s : yb_S) : Option (Int32 × yb_S) :=
  (yb_rd s 22 24 x1).bind fun v14 =>
  (yb_rd s 15 24 x2).bind fun v15 =>
  if v14 ≤ v15 then
    (yb_rd s 16 24 x2).bind fun v17 =>
    if v17 = (1 : Int32) then
      (yb_rd s 24 24 x1).bind fun v37 =>
      if v37 = (1 : Int32) then
        some ((4 : Int32), s)
      else
        j_X8_barOf_147 x1 x2 x3 s
    else
      j_X8_barOf_147 x1 x2 x3 s
  else
    some ((3 : Int32), s)
def f_X8_barOf (a1 : Int32) (a2 : Int32) (s : yb_S) : Option (Int32 × yb_S) :=
  (f_X2_has a1 s).bind fun q1 =>
  if q1 = 0 then
    some ((-1 : Int32), s)
  else
    (f_X4_has a2 s).bind fun q4 =>
    if q4 = 0 then
      some ((-1 : Int32), s)
    else
      (yb_rd s 14 24 a2).bind fun v7 =>
      (yb_rd s 18 24 a2).bind fun v8 =>
      if (s.1 1 5) < v8 then
        some ((1 : Int32), s)
      else
        (yb_rd s 19 24 a2).bind fun v10 =>
        if (s.1 1 5) ≤ v10 then
          (yb_rd s 20 24 a2).bind fun v12 =>
          if v12 = (-1 : Int32) then
            j_X8_barOf_96 a1 a2 v7 s
          else
            (yb_rd s 20 24 a2).bind fun v39 =>
            if v39 = a1 then
              j_X8_barOf_96 a1 a2 v7 s
            else
              some ((2 : Int32), s)
        else
          some ((1 : Int32), s)
def f_X11_bar (a1 : Int32) (a2 : Int32) (s : yb_S) : Option (Int32 × yb_S) :=
  (f_X8_isHere a1 s).bind fun q1 =>
  if q1 = 0 then
    some ((-1 : Int32), s)
  else
    (f_X4_has a2 s).bind fun q4 =>
    if q4 = 0 then
      some ((-1 : Int32), s)
    else
      (f_X8_barOf a1 a2 s).bind fun q7 =>
      some (q7.1, q7.2)
def f_X11_beds (a1 : Int32) (s : yb_S) : Option (Int32 × yb_S) :=
  if a1 < 0 then
    some ((0 : Int32), s)
  else
    if a1 ≤ (200 : Int32) then
      (some (yb_pI s 1 6 a1)).bind fun s3 =>
      some ((1 : Int32), s3)
    else
      some ((0 : Int32), s)
def f_X8_aheadOf (a1 : Int32) (s : yb_S) : Option (Int32 × yb_S) :=
  (f_X8_tells (0 : Int32) a1 (-1 : Int32) (-1 : Int32) (0 : Int32) s).bind fun q1 =>
  some (q1.1, q1.2)
def j_X6_putInLine_60 (x1 : Int32) (x2 : Int32) (s : yb_S) : Option yb_S :=
  (yb_wr s 101 24 x2 x1).bind fun s2 =>
  (some (yb_pI s2 100 4 ((s2.1 100 4) + (1 : Int32)))).bind fun s3 =>
  some s3
def f_X6_putInLine_10 (rc10 : (Int32 → Int32 → yb_S → Option yb_S)) (x1 : Int32) (x2 : Int32) (x3 : Int32) (s : yb_S) : Option yb_S :=
  if x3 ≤ 0 then
    j_X6_putInLine_60 x1 x2 s
  else
    (yb_rd s 101 24 (x3 - (1 : Int32))).bind fun v4 =>
    (yb_rd s 102 24 v4).bind fun v5 =>
    (yb_rd s 102 24 x1).bind fun v6 =>
    if v6 ≤ v5 then
      j_X6_putInLine_60 x1 x2 s
    else
      (yb_rd s 101 24 (x3 - (1 : Int32))).bind fun v8 =>
      (yb_wr s 101 24 x3 v8).bind fun s9 =>
      rc10 (x3 - (1 : Int32)) (x3 + (-1 : Int32)) s9
def l_X6_putInLine_10 (x1 : Int32) (n : Nat) (x2 : Int32) (x3 : Int32) (s : yb_S) : Option yb_S :=
  yb_it (α := Int32 × Int32 × yb_S) (fun rc q => f_X6_putInLine_10 (fun x2 x3 s => rc (x2, x3, s)) x1 q.1 q.2.1 q.2.2) n (x2, x3, s)
def f_X6_putInLine (a1 : Int32) (s : yb_S) : Option yb_S :=
  l_X6_putInLine_10 a1 yb_N (s.1 100 4) (s.1 100 4) s
def j_X6_lineUp_55 (rc7 : (Int32 → yb_S → Option yb_S)) (x1 : Int32) (s : yb_S) : Option yb_S :=
  rc7 (x1 + (1 : Int32)) s
def f_X6_lineUp_7 (rc7 : (Int32 → yb_S → Option yb_S)) (x1 : Int32) (s : yb_S) : Option yb_S :=
  if (s.1 21 0) ≤ x1 then
    some s
  else
    (yb_rd s 28 24 x1).bind fun v3 =>
    if v3 = 0 then
      (f_X8_aheadOf x1 s).bind fun q5 =>
      (yb_wr q5.2 102 24 x1 q5.1).bind fun s7 =>
      (f_X6_putInLine x1 s7).bind fun q8 =>
      j_X6_lineUp_55 rc7 x1 q8
    else
      j_X6_lineUp_55 rc7 x1 s
def l_X6_lineUp_7 (n : Nat) (x1 : Int32) (s : yb_S) : Option yb_S :=
  yb_it (α := Int32 × yb_S) (fun rc q => f_X6_lineUp_7 (fun x1 s => rc (x1, s)) q.1 q.2) n (x1, s)
def f_X6_lineUp (s : yb_S) : Option yb_S :=
  (some (yb_pI s 100 4 (0 : Int32))).bind fun s1 =>
  l_X6_lineUp_7 yb_N (0 : Int32) s1
def f_X8_lackOf (a1 : Int32) (s : yb_S) : Option (Int32 × yb_S) :=
  (f_X8_tells (1 : Int32) (-1 : Int32) (-1 : Int32) a1 (0 : Int32) s).bind fun q1 =>
  (yb_rd q1.2 9 8 a1).bind fun v3 =>
  some ((q1.1 - v3), q1.2)
def j_X6_homeFor_107 (rc7 : (Int32 → Int32 → Int32 → yb_S → Option (Int32 × yb_S))) (x1 : Int32) (x2 : Int32) (x3 : Int32) (x4 : Int32) (s : yb_S) : Option (Int32 × yb_S) :=
  rc7 x2 x3 (x4 + (1 : Int32)) s
def j_X6_homeFor_101 (rc7 : (Int32 → Int32 → Int32 → yb_S → Option (Int32 × yb_S))) (x1 : Int32) (x4 : Int32) (x6 : Int32) (s : yb_S) : Option (Int32 × yb_S) :=
  j_X6_homeFor_107 rc7 x1 x4 x6 x4 s
def f_X6_homeFor_7 (rc7 : (Int32 → Int32 → Int32 → yb_S → Option (Int32 × yb_S))) (x1 : Int32) (x2 : Int32) (x3 : Int32) (x4 : Int32) (s : yb_S) : Option (Int32 × yb_S) :=
  if (s.1 13 0) ≤ x4 then
    some (x2, s)
  else
    (f_X8_barOf x1 x4 s).bind fun q2 =>
    if q2.1 = 0 then
      (yb_rd q2.2 14 24 x4).bind fun v5 =>
      (f_X8_kinIn x1 v5 q2.2).bind fun q6 =>
      (f_X8_wishMet x1 v5 q2.2).bind fun q8 =>
      (f_X8_lackOf v5 q2.2).bind fun q10 =>
      if x2 = (-1 : Int32) then
        j_X6_homeFor_101 rc7 x1 x4 ((((1000 : Int32) * q6) + ((100 : Int32) * q8)) + q10.1) q10.2
      else
        if ((((1000 : Int32) * q6) + ((100 : Int32) * q8)) + q10.1) ≤ x3 then
          j_X6_homeFor_107 rc7 x1 x2 x3 x4 q10.2
        else
          j_X6_homeFor_101 rc7 x1 x4 ((((1000 : Int32) * q6) + ((100 : Int32) * q8)) + q10.1) q10.2
    else
      j_X6_homeFor_107 rc7 x1 x2 x3 x4 q2.2
def l_X6_homeFor_7 (x1 : Int32) (n : Nat) (x2 : Int32) (x3 : Int32) (x4 : Int32) (s : yb_S) : Option (Int32 × yb_S) :=
  yb_it (α := Int32 × Int32 × Int32 × yb_S) (fun rc q => f_X6_homeFor_7 (fun x2 x3 x4 s => rc (x2, x3, x4, s)) x1 q.1 q.2.1 q.2.2.1 q.2.2.2) n (x2, x3, x4, s)
def f_X6_homeFor (a1 : Int32) (s : yb_S) : Option (Int32 × yb_S) :=
  l_X6_homeFor_7 a1 yb_N (-1 : Int32) (0 : Int32) (0 : Int32) s
def f_X8_isIn (a1 : Int32) (a2 : Int32) (s : yb_S) : Option Int32 :=
  (f_X2_has a1 s).bind fun q1 =>
  if q1 = 0 then
    some (0 : Int32)
  else
    (yb_rd s 28 24 a1).bind fun v4 =>
    if v4 = a2 then
      some (1 : Int32)
    else
      some (0 : Int32)
def f_X8_settle (a1 : Int32) (a2 : Int32) (s : yb_S) : Option yb_S :=
  (f_X8_isIn a1 (0 : Int32) s).bind fun q1 =>
  if q1 = 0 then
    some s
  else
    (f_X4_has a2 s).bind fun q4 =>
    if q4 = 0 then
      some s
    else
      (yb_rd s 14 24 a2).bind fun v7 =>
      (yb_wr s 28 24 a1 (1 : Int32)).bind fun s8 =>
      (yb_wr s8 29 24 a1 a2).bind fun s9 =>
      (yb_wr s9 30 24 a1 v7).bind fun s10 =>
      (yb_wr s10 20 24 a2 a1).bind fun s11 =>
      (yb_rd s11 9 8 v7).bind fun v12 =>
      (yb_rd s11 22 24 a1).bind fun v13 =>
      (yb_wr s11 9 8 v7 (v12 + v13)).bind fun s14 =>
      (yb_rd s14 10 8 v7).bind fun v15 =>
      (yb_rd s14 23 24 a1).bind fun v16 =>
      (yb_wr s14 10 8 v7 (v15 + v16)).bind fun s17 =>
      (yb_rd s17 11 8 v7).bind fun v18 =>
      (yb_wr s17 11 8 v7 (v18 ||| ((1 : Int32) <<< (a1 &&& 31)))).bind fun s19 =>
      some s19
def j_X6_noteWhys_55 (rc2 : (Int32 → yb_S → Option yb_S)) (x1 : Int32) (x2 : Int32) (x3 : Int32) (s : yb_S) : Option yb_S :=
  rc2 (x3 + (1 : Int32)) s
def f_X6_noteWhys_2 (rc2 : (Int32 → yb_S → Option yb_S)) (x1 : Int32) (x2 : Int32) (x3 : Int32) (s : yb_S) : Option yb_S :=
  if x1 ≤ x3 then
    some s
  else
    (yb_rd s 101 24 x3).bind fun v2 =>
    (yb_rd s 28 24 v2).bind fun v3 =>
    if v3 = 0 then
      (yb_ri 104 1 24 v2).bind fun r5 =>
      (yb_rd s 101 24 x1).bind fun v6 =>
      (f_X8_barOf v2 x2 s).bind fun q7 =>
      (yb_wr q7.2 r5 24 v6 q7.1).bind fun s9 =>
      j_X6_noteWhys_55 rc2 x1 x2 x3 s9
    else
      j_X6_noteWhys_55 rc2 x1 x2 x3 s
def l_X6_noteWhys_2 (x1 : Int32) (x2 : Int32) (n : Nat) (x3 : Int32) (s : yb_S) : Option yb_S :=
  yb_it (α := Int32 × yb_S) (fun rc q => f_X6_noteWhys_2 (fun x3 s => rc (x3, s)) x1 x2 q.1 q.2) n (x3, s)
def f_X6_noteWhys (a1 : Int32) (a2 : Int32) (s : yb_S) : Option yb_S :=
  l_X6_noteWhys_2 a1 a2 yb_N (0 : Int32) s
def j_X6_placeAll_59 (rc4 : (Int32 → Int32 → yb_S → Option (Int32 × yb_S))) (x1 : Int32) (x2 : Int32) (x3 : Int32) (s : yb_S) : Option (Int32 × yb_S) :=
  rc4 x2 (x3 + (1 : Int32)) s
def j_X6_placeAll_41 (rc4 : (Int32 → Int32 → yb_S → Option (Int32 × yb_S))) (x1 : Int32) (x2 : Int32) (x3 : Int32) (x4 : Int32) (s : yb_S) : Option (Int32 × yb_S) :=
  (yb_rd s 101 24 x3).bind fun v7 =>
  (f_X8_settle v7 x4 s).bind fun q8 =>
  j_X6_placeAll_59 rc4 x1 (x2 + (1 : Int32)) x3 q8
def f_X6_placeAll_4 (rc4 : (Int32 → Int32 → yb_S → Option (Int32 × yb_S))) (x1 : Int32) (x2 : Int32) (x3 : Int32) (s : yb_S) : Option (Int32 × yb_S) :=
  if (s.1 100 4) ≤ x3 then
    some (x2, s)
  else
    (yb_rd s 101 24 x3).bind fun v2 =>
    (f_X6_homeFor v2 s).bind fun q3 =>
    if q3.1 = (-1 : Int32) then
      j_X6_placeAll_59 rc4 x1 x2 x3 q3.2
    else
      if x1 = 0 then
        j_X6_placeAll_41 rc4 x1 x2 x3 q3.1 q3.2
      else
        (f_X6_noteWhys x3 q3.1 q3.2).bind fun q10 =>
        j_X6_placeAll_41 rc4 x1 x2 x3 q3.1 q10
def l_X6_placeAll_4 (x1 : Int32) (n : Nat) (x2 : Int32) (x3 : Int32) (s : yb_S) : Option (Int32 × yb_S) :=
  yb_it (α := Int32 × Int32 × yb_S) (fun rc q => f_X6_placeAll_4 (fun x2 x3 s => rc (x2, x3, s)) x1 q.1 q.2.1 q.2.2) n (x2, x3, s)
def f_X6_placeAll (a1 : Int32) (s : yb_S) : Option (Int32 × yb_S) :=
  l_X6_placeAll_4 a1 yb_N (0 : Int32) (0 : Int32) s
def f_X8_unsettle (a1 : Int32) (s : yb_S) : Option yb_S :=
  (f_X8_isIn a1 (1 : Int32) s).bind fun q1 =>
  if q1 = 0 then
    some s
  else
    (yb_rd s 30 24 a1).bind fun v4 =>
    (yb_rd s 29 24 a1).bind fun v5 =>
    (yb_wr s 20 24 v5 (-1 : Int32)).bind fun s6 =>
    (yb_wr s6 28 24 a1 (0 : Int32)).bind fun s7 =>
    (yb_wr s7 29 24 a1 (-1 : Int32)).bind fun s8 =>
    (yb_wr s8 30 24 a1 (-1 : Int32)).bind fun s9 =>
    (yb_rd s9 9 8 v4).bind fun v10 =>
    (yb_rd s9 22 24 a1).bind fun v11 =>
    (yb_wr s9 9 8 v4 (v10 - v11)).bind fun s12 =>
    (yb_rd s12 10 8 v4).bind fun v13 =>
    (yb_rd s12 23 24 a1).bind fun v14 =>
    (yb_wr s12 10 8 v4 (v13 - v14)).bind fun s15 =>
    (yb_rd s15 11 8 v4).bind fun v16 =>
    (yb_wr s15 11 8 v4 (v16 &&& (((1 : Int32) <<< (a1 &&& 31)) ^^^ (-1 : Int32)))).bind fun s17 =>
    some s17
def j_X6_takeBack_58 (rc4 : (Int32 → Int32 → yb_S → Option (Int32 × yb_S))) (x1 : Int32) (x2 : Int32) (s : yb_S) : Option (Int32 × yb_S) :=
  rc4 x1 (x2 + (1 : Int32)) s
def f_X6_takeBack_4 (rc4 : (Int32 → Int32 → yb_S → Option (Int32 × yb_S))) (x1 : Int32) (x2 : Int32) (s : yb_S) : Option (Int32 × yb_S) :=
  if (s.1 100 4) ≤ x2 then
    some (x1, s)
  else
    (yb_rd s 101 24 x2).bind fun v2 =>
    (yb_rd s 28 24 v2).bind fun v3 =>
    if v3 = (1 : Int32) then
      (yb_rd s 22 24 v2).bind fun v5 =>
      (f_X8_unsettle v2 s).bind fun q6 =>
      j_X6_takeBack_58 rc4 (x1 + v5) x2 q6
    else
      j_X6_takeBack_58 rc4 x1 x2 s
def l_X6_takeBack_4 (n : Nat) (x1 : Int32) (x2 : Int32) (s : yb_S) : Option (Int32 × yb_S) :=
  yb_it (α := Int32 × Int32 × yb_S) (fun rc q => f_X6_takeBack_4 (fun x1 x2 s => rc (x1, x2, s)) q.1 q.2.1 q.2.2) n (x1, x2, s)
def f_X6_takeBack (s : yb_S) : Option (Int32 × yb_S) :=
  l_X6_takeBack_4 yb_N (0 : Int32) (0 : Int32) s
def f_X11_beside (a1 : Int32) (s : yb_S) : Option (Int32 × yb_S) :=
  (f_X5_has a1 s).bind fun q1 =>
  if q1 = 0 then
    some ((-1 : Int32), s)
  else
    (some (yb_pI s 54 1 a1)).bind fun s4 =>
    (f_X6_lineUp s4).bind fun q5 =>
    (f_X6_placeAll (0 : Int32) q5).bind fun q7 =>
    (f_X6_takeBack q7.2).bind fun q9 =>
    (some (yb_pI q9.2 54 1 (-1 : Int32))).bind fun s11 =>
    some (q9.1, s11)
def j_X1_unpacked_130_52 (rc22 : (Int32 → Int32 → yb_S → Option (Int32 × yb_S))) (x0 : Int32) (x1 : Int32) (x3 : Int32) (x4 : Int32) (s : yb_S) : Option (Int32 × yb_S) :=
  rc22 x3 (x4 + (1 : Int32)) s
def f_X1_unpacked_130_22 (rc22 : (Int32 → Int32 → yb_S → Option (Int32 × yb_S))) (x0 : Int32) (x1 : Int32) (x3 : Int32) (x4 : Int32) (s : yb_S) : Option (Int32 × yb_S) :=
  if x1 ≤ x4 then
    some (x3, s)
  else
    if (6 : Int32) ≤ x3 then
      some (x3, s)
    else
      if ((x0 >>> (x4 &&& 31)) &&& (1 : Int32)) = (1 : Int32) then
        (yb_wr s 130 6 x3 x4).bind fun s8 =>
        j_X1_unpacked_130_52 rc22 x0 x1 (x3 + (1 : Int32)) x4 s8
      else
        j_X1_unpacked_130_52 rc22 x0 x1 x3 x4 s
def l_X1_unpacked_130_22 (x0 : Int32) (x1 : Int32) (n : Nat) (x3 : Int32) (x4 : Int32) (s : yb_S) : Option (Int32 × yb_S) :=
  yb_it (α := Int32 × Int32 × yb_S) (fun rc q => f_X1_unpacked_130_22 (fun x3 x4 s => rc (x3, x4, s)) x0 x1 q.1 q.2.1 q.2.2) n (x3, x4, s)
def f_X1_unpacked_130 (a0 : Int32) (a1 : Int32) (s : yb_S) : Option (Int32 × yb_S) :=
  if (a0.toUInt32 >>> (a1.toUInt32 &&& Int32.toUInt32 31)).toInt32 = 0 then
    (f_J6_bitCount_0f7a4 a0 s).bind fun q2 =>
    if q2 ≤ (6 : Int32) then
      l_X1_unpacked_130_22 a0 a1 yb_N (0 : Int32) (0 : Int32) s
    else
      some ((0 : Int32), s)
  else
    some ((0 : Int32), s)
def j_X1_unpacked_131_52 (rc22 : (Int32 → Int32 → yb_S → Option (Int32 × yb_S))) (x0 : Int32) (x1 : Int32) (x3 : Int32) (x4 : Int32) (s : yb_S) : Option (Int32 × yb_S) :=
  rc22 x3 (x4 + (1 : Int32)) s
def f_X1_unpacked_131_22 (rc22 : (Int32 → Int32 → yb_S → Option (Int32 × yb_S))) (x0 : Int32) (x1 : Int32) (x3 : Int32) (x4 : Int32) (s : yb_S) : Option (Int32 × yb_S) :=
  if x1 ≤ x4 then
    some (x3, s)
  else
    if (6 : Int32) ≤ x3 then
      some (x3, s)
    else
      if ((x0 >>> (x4 &&& 31)) &&& (1 : Int32)) = (1 : Int32) then
        (yb_wr s 131 6 x3 x4).bind fun s8 =>
        j_X1_unpacked_131_52 rc22 x0 x1 (x3 + (1 : Int32)) x4 s8
      else
        j_X1_unpacked_131_52 rc22 x0 x1 x3 x4 s
def l_X1_unpacked_131_22 (x0 : Int32) (x1 : Int32) (n : Nat) (x3 : Int32) (x4 : Int32) (s : yb_S) : Option (Int32 × yb_S) :=
  yb_it (α := Int32 × Int32 × yb_S) (fun rc q => f_X1_unpacked_131_22 (fun x3 x4 s => rc (x3, x4, s)) x0 x1 q.1 q.2.1 q.2.2) n (x3, x4, s)
def f_X1_unpacked_131 (a0 : Int32) (a1 : Int32) (s : yb_S) : Option (Int32 × yb_S) :=
  if (a0.toUInt32 >>> (a1.toUInt32 &&& Int32.toUInt32 31)).toInt32 = 0 then
    (f_J6_bitCount_0f7a4 a0 s).bind fun q2 =>
    if q2 ≤ (6 : Int32) then
      l_X1_unpacked_131_22 a0 a1 yb_N (0 : Int32) (0 : Int32) s
    else
      some ((0 : Int32), s)
  else
    some ((0 : Int32), s)
def f_X1_takes_51 (rc51 : (Int32 → Option (Int32 × yb_S))) (s : yb_S) (x3 : Int32) : Option (Int32 × yb_S) :=
  if (s.1 128 1) ≤ x3 then
    if (s.1 128 1) ≤ 0 then
      some ((0 : Int32), s)
    else
      if (s.1 128 7) ≤ 0 then
        some ((0 : Int32), s)
      else
        some ((1 : Int32), s)
  else
    (yb_rd s 130 6 x3).bind fun v11 =>
    (f_X8_isHere v11 s).bind fun q12 =>
    if q12 = 0 then
      some ((0 : Int32), s)
    else
      rc51 (x3 + (1 : Int32))
def l_X1_takes_51 (s : yb_S) (n : Nat) (x3 : Int32) : Option (Int32 × yb_S) :=
  yb_it (α := Int32) (fun rc q => f_X1_takes_51 (fun x3 => rc x3) s q) n x3
def f_X1_takes (a1 : Int32) (a2 : Int32) (s : yb_S) : Option (Int32 × yb_S) :=
  (f_X1_unpacked_130 a1 (s.1 21 0) s).bind fun q1 =>
  (some (yb_pI q1.2 128 1 q1.1)).bind fun s3 =>
  (f_X1_unpacked_131 a2 (s3.1 13 0) s3).bind fun q4 =>
  (some (yb_pI q4.2 128 7 q4.1)).bind fun s6 =>
  (some (yb_pI s6 128 6 a1)).bind fun s7 =>
  l_X1_takes_51 s7 yb_N (0 : Int32)
def j_X1_countLeft_154 (rc42 : (Int32 → Int32 → yb_S → Option yb_S)) (x1 : Int32) (x2 : Int32) (y0 : Int32) (y1 : Int32) (y2 : Int32) (s : yb_S) : Option yb_S :=
  (yb_wr s 136 7 y2 (y1 + y0)).bind fun s17 =>
  rc42 x1 (x2 + (-1 : Int32)) s17
def f_X1_countLeft_42 (rc42 : (Int32 → Int32 → yb_S → Option yb_S)) (x1 : Int32) (x2 : Int32) (s : yb_S) : Option yb_S :=
  if x2 < 0 then
    some s
  else
    (yb_rd s 130 6 x2).bind fun v5 =>
    (yb_rd s 134 7 (x2 + (1 : Int32))).bind fun v6 =>
    (yb_rd s 22 24 v5).bind fun v7 =>
    (yb_wr s 134 7 x2 (v6 + v7)).bind fun s8 =>
    (yb_rd s8 135 7 (x2 + (1 : Int32))).bind fun v9 =>
    (yb_rd s8 53 24 v5).bind fun v10 =>
    (f_J6_bitCount_0f7a4 (v10 &&& (x1 &&& (((1 : Int32) <<< (v5 &&& 31)) ^^^ (-1 : Int32)))) s8).bind fun q11 =>
    (yb_wr s8 135 7 x2 (v9 + q11)).bind fun s13 =>
    (yb_rd s13 136 7 (x2 + (1 : Int32))).bind fun v14 =>
    (yb_rd s13 33 24 v5).bind fun v15 =>
    if v15 = (-1 : Int32) then
      j_X1_countLeft_154 rc42 (x1 &&& (((1 : Int32) <<< (v5 &&& 31)) ^^^ (-1 : Int32))) x2 (0 : Int32) v14 x2 s13
    else
      j_X1_countLeft_154 rc42 (x1 &&& (((1 : Int32) <<< (v5 &&& 31)) ^^^ (-1 : Int32))) x2 (1 : Int32) v14 x2 s13
def l_X1_countLeft_42 (n : Nat) (x1 : Int32) (x2 : Int32) (s : yb_S) : Option yb_S :=
  yb_it (α := Int32 × Int32 × yb_S) (fun rc q => f_X1_countLeft_42 (fun x1 x2 s => rc (x1, x2, s)) q.1 q.2.1 q.2.2) n (x1, x2, s)
def f_X1_countLeft (s : yb_S) : Option yb_S :=
  (yb_wr s 134 7 (s.1 128 1) (0 : Int32)).bind fun s1 =>
  (yb_wr s1 135 7 (s1.1 128 1) (0 : Int32)).bind fun s2 =>
  (yb_wr s2 136 7 (s2.1 128 1) (0 : Int32)).bind fun s3 =>
  l_X1_countLeft_42 yb_N (s3.1 128 6) ((s3.1 128 1) - (1 : Int32)) s3
def f_X1_isBetter (a1 : Int32) (a2 : Int32) (a3 : Int32) (s : yb_S) : Option Int32 :=
  if a1 = (s.1 128 2) then
    if a2 = (s.1 128 4) then
      if a3 ≤ (s.1 128 5) then
        some (0 : Int32)
      else
        some (1 : Int32)
    else
      if a2 ≤ (s.1 128 4) then
        some (0 : Int32)
      else
        some (1 : Int32)
  else
    if a1 ≤ (s.1 128 2) then
      some (0 : Int32)
    else
      some (1 : Int32)
def f_X1_keepWay_18 (rc18 : (Int32 → yb_S → Option yb_S)) (x4 : Int32) (s : yb_S) : Option yb_S :=
  if (s.1 128 1) ≤ x4 then
    some s
  else
    (yb_rd s 133 6 x4).bind fun v5 =>
    (yb_wr s 129 6 x4 v5).bind fun s6 =>
    rc18 (x4 + (1 : Int32)) s6
def l_X1_keepWay_18 (n : Nat) (x4 : Int32) (s : yb_S) : Option yb_S :=
  yb_it (α := Int32 × yb_S) (fun rc q => f_X1_keepWay_18 (fun x4 s => rc (x4, s)) q.1 q.2) n (x4, s)
def f_X1_keepWay (a1 : Int32) (a2 : Int32) (a3 : Int32) (s : yb_S) : Option yb_S :=
  (some (yb_pI s 128 2 a1)).bind fun s1 =>
  (some (yb_pI s1 128 4 a2)).bind fun s2 =>
  (some (yb_pI s2 128 5 a3)).bind fun s3 =>
  l_X1_keepWay_18 yb_N (0 : Int32) s3
def j_X1_tryFrom_101 (r_X1_tryFrom : (Int32 → Int32 → Int32 → Int32 → yb_S → Option yb_S)) (r_X1_tryHome : (Int32 → Int32 → Int32 → Int32 → Int32 → yb_S → Option yb_S)) (rc53 : (Int32 → yb_S → Option yb_S)) (x1 : Int32) (x2 : Int32) (x3 : Int32) (x4 : Int32) (x5 : Int32) (s : yb_S) : Option yb_S :=
  rc53 (x5 + (1 : Int32)) s
def f_X1_tryFrom_53 (r_X1_tryFrom : (Int32 → Int32 → Int32 → Int32 → yb_S → Option yb_S)) (r_X1_tryHome : (Int32 → Int32 → Int32 → Int32 → Int32 → yb_S → Option yb_S)) (rc53 : (Int32 → yb_S → Option yb_S)) (x1 : Int32) (x2 : Int32) (x3 : Int32) (x4 : Int32) (x5 : Int32) (s : yb_S) : Option yb_S :=
  if (s.1 128 7) ≤ x5 then
    (yb_wr s 133 6 x1 (-1 : Int32)).bind fun s9 =>
    (r_X1_tryFrom (x1 + (1 : Int32)) x2 x3 x4 s9).bind fun q10 =>
    some q10
  else
    (yb_rd s 130 6 x1).bind fun v12 =>
    (yb_rd s 131 6 x5).bind fun v13 =>
    (f_X8_barOf v12 v13 s).bind fun q14 =>
    if q14.1 = 0 then
      (yb_rd q14.2 131 6 x5).bind fun v17 =>
      (r_X1_tryHome x1 v17 x2 x3 x4 q14.2).bind fun q18 =>
      j_X1_tryFrom_101 r_X1_tryFrom r_X1_tryHome rc53 x1 x2 x3 x4 x5 q18
    else
      j_X1_tryFrom_101 r_X1_tryFrom r_X1_tryHome rc53 x1 x2 x3 x4 x5 q14.2
def l_X1_tryFrom_53 (r_X1_tryFrom : (Int32 → Int32 → Int32 → Int32 → yb_S → Option yb_S)) (r_X1_tryHome : (Int32 → Int32 → Int32 → Int32 → Int32 → yb_S → Option yb_S)) (x1 : Int32) (x2 : Int32) (x3 : Int32) (x4 : Int32) (n : Nat) (x5 : Int32) (s : yb_S) : Option yb_S :=
  yb_it (α := Int32 × yb_S) (fun rc q => f_X1_tryFrom_53 r_X1_tryFrom r_X1_tryHome (fun x5 s => rc (x5, s)) x1 x2 x3 x4 q.1 q.2) n (x5, s)
def f_X1_tryFrom (r_X1_tryFrom : (Int32 → Int32 → Int32 → Int32 → yb_S → Option yb_S)) (r_X1_tryHome : (Int32 → Int32 → Int32 → Int32 → Int32 → yb_S → Option yb_S)) (a1 : Int32) (a2 : Int32) (a3 : Int32) (a4 : Int32) (s : yb_S) : Option yb_S :=
  (yb_rd s 134 7 a1).bind fun v1 =>
  (yb_rd s 135 7 a1).bind fun v2 =>
  (yb_rd s 136 7 a1).bind fun v3 =>
  (f_X1_isBetter (a2 + v1) (a3 + v2) (a4 + v3) s).bind fun q4 =>
  if q4 = 0 then
    some s
  else
    if a1 < (s.1 128 1) then
      l_X1_tryFrom_53 r_X1_tryFrom r_X1_tryHome a1 a2 a3 a4 yb_N (0 : Int32) s
    else
      (f_X1_keepWay a2 a3 a4 s).bind fun q20 =>
      some q20
def f_X1_tryHome (r_X1_tryFrom : (Int32 → Int32 → Int32 → Int32 → yb_S → Option yb_S)) (r_X1_tryHome : (Int32 → Int32 → Int32 → Int32 → Int32 → yb_S → Option yb_S)) (a1 : Int32) (a2 : Int32) (a3 : Int32) (a4 : Int32) (a5 : Int32) (s : yb_S) : Option yb_S :=
  (yb_rd s 130 6 a1).bind fun v1 =>
  (yb_rd s 14 24 a2).bind fun v2 =>
  (yb_rd s 53 24 v1).bind fun v3 =>
  (yb_rd s 11 8 v2).bind fun v4 =>
  (f_J6_bitCount_0f7a4 ((v3 &&& (s.1 128 6)) &&& v4) s).bind fun q5 =>
  (yb_wr s 133 6 a1 a2).bind fun s7 =>
  (f_X8_settle v1 a2 s7).bind fun q8 =>
  (yb_rd q8 22 24 v1).bind fun v10 =>
  (f_X8_wishMet v1 v2 q8).bind fun q11 =>
  (r_X1_tryFrom (a1 + (1 : Int32)) (a3 + v10) (a4 + q5) (a5 + q11) q8).bind fun q13 =>
  (f_X8_unsettle v1 q13).bind fun q15 =>
  some q15
def gg_X1_tryFrom : Nat → ((Int32 → Int32 → Int32 → Int32 → yb_S → Option yb_S) × (Int32 → Int32 → Int32 → Int32 → Int32 → yb_S → Option yb_S))
  | 0 => (fun _ _ _ _ _ => none, fun _ _ _ _ _ _ => none)
  | n + 1 => (f_X1_tryFrom ((gg_X1_tryFrom n).1) ((gg_X1_tryFrom n).2), f_X1_tryHome ((gg_X1_tryFrom n).1) ((gg_X1_tryFrom n).2))
def g_X1_tryFrom : (Int32 → Int32 → Int32 → Int32 → yb_S → Option yb_S) := (gg_X1_tryFrom 120).1
def g_X1_tryHome : (Int32 → Int32 → Int32 → Int32 → Int32 → yb_S → Option yb_S) := (gg_X1_tryFrom 120).2
def j_X1_search_108 (rc71 : (Int32 → yb_S → Option yb_S)) (x1 : Int32) (s : yb_S) : Option yb_S :=
  rc71 (x1 + (1 : Int32)) s
def f_X1_search_71 (rc71 : (Int32 → yb_S → Option yb_S)) (x1 : Int32) (s : yb_S) : Option yb_S :=
  if (s.1 128 1) ≤ x1 then
    some s
  else
    (yb_rd s 132 6 x1).bind fun v8 =>
    if v8 = (-1 : Int32) then
      j_X1_search_108 rc71 x1 s
    else
      (yb_rd s 130 6 x1).bind fun v10 =>
      (yb_rd s 132 6 x1).bind fun v11 =>
      (f_X8_settle v10 v11 s).bind fun q12 =>
      j_X1_search_108 rc71 x1 q12
def l_X1_search_71 (n : Nat) (x1 : Int32) (s : yb_S) : Option yb_S :=
  yb_it (α := Int32 × yb_S) (fun rc q => f_X1_search_71 (fun x1 s => rc (x1, s)) q.1 q.2) n (x1, s)
def f_X1_search_2 (rc2 : (Int32 → yb_S → Option yb_S)) (x1 : Int32) (s : yb_S) : Option yb_S :=
  if (s.1 128 1) ≤ x1 then
    (f_X1_countLeft s).bind fun q2 =>
    (some (yb_pI q2 128 2 (-1 : Int32))).bind fun s4 =>
    (g_X1_tryFrom (0 : Int32) (0 : Int32) (0 : Int32) (0 : Int32) s4).bind fun q5 =>
    l_X1_search_71 yb_N (0 : Int32) q5
  else
    (yb_rd s 130 6 x1).bind fun v14 =>
    (yb_rd s 29 24 v14).bind fun v15 =>
    (yb_wr s 132 6 x1 v15).bind fun s16 =>
    (yb_rd s16 130 6 x1).bind fun v17 =>
    (f_X8_unsettle v17 s16).bind fun q18 =>
    rc2 (x1 + (1 : Int32)) q18
def l_X1_search_2 (n : Nat) (x1 : Int32) (s : yb_S) : Option yb_S :=
  yb_it (α := Int32 × yb_S) (fun rc q => f_X1_search_2 (fun x1 s => rc (x1, s)) q.1 q.2) n (x1, s)
def f_X1_search (s : yb_S) : Option yb_S :=
  l_X1_search_2 yb_N (0 : Int32) s
def f_X11_best (a1 : Int32) (a2 : Int32) (a3 : Int32) (s : yb_S) : Option (Int32 × yb_S) :=
  (f_X1_takes a1 a2 s).bind fun q1 =>
  if q1.1 = 0 then
    some ((-1 : Int32), q1.2)
  else
    if a3 < (-1 : Int32) then
      some ((-1 : Int32), q1.2)
    else
      if a3 < (q1.2.1 128 1) then
        (f_X1_search q1.2).bind fun q6 =>
        if a3 = (-1 : Int32) then
          some ((q6.1 128 2), q6)
        else
          (yb_rd q6 129 6 a3).bind fun v9 =>
          some (v9, q6)
      else
        some ((-1 : Int32), q1.2)
def f_X8_limitOf (a1 : Int32) (s : yb_S) : Option (Int32 × yb_S) :=
  (f_X8_tells (2 : Int32) a1 (-1 : Int32) (-1 : Int32) (0 : Int32) s).bind fun q1 =>
  some (q1.1, q1.2)
def j_X11_beyond_59 (rc4 : (Int32 → Int32 → yb_S → Option (Int32 × yb_S))) (x1 : Int32) (x2 : Int32) (s : yb_S) : Option (Int32 × yb_S) :=
  rc4 x1 (x2 + (1 : Int32)) s
def f_X11_beyond_4 (rc4 : (Int32 → Int32 → yb_S → Option (Int32 × yb_S))) (x1 : Int32) (x2 : Int32) (s : yb_S) : Option (Int32 × yb_S) :=
  if (s.1 21 0) ≤ x2 then
    some (x1, s)
  else
    (yb_rd s 28 24 x2).bind fun v2 =>
    if v2 = 0 then
      (yb_rd s 31 24 x2).bind fun v4 =>
      (f_X8_limitOf x2 s).bind fun q5 =>
      if v4 ≤ q5.1 then
        j_X11_beyond_59 rc4 x1 x2 q5.2
      else
        j_X11_beyond_59 rc4 (x1 + (1 : Int32)) x2 q5.2
    else
      j_X11_beyond_59 rc4 x1 x2 s
def l_X11_beyond_4 (n : Nat) (x1 : Int32) (x2 : Int32) (s : yb_S) : Option (Int32 × yb_S) :=
  yb_it (α := Int32 × Int32 × yb_S) (fun rc q => f_X11_beyond_4 (fun x1 x2 s => rc (x1, x2, s)) q.1 q.2.1 q.2.2) n (x1, x2, s)
def f_X11_beyond (s : yb_S) : Option (Int32 × yb_S) :=
  l_X11_beyond_4 yb_N (0 : Int32) (0 : Int32) s
def f_X11_isAhead (a1 : Int32) (s : yb_S) : Option Int32 :=
  if a1 < (s.1 1 5) then
    some (0 : Int32)
  else
    if (200 : Int32) < a1 then
      some (0 : Int32)
    else
      some (1 : Int32)
def f_X3_addBoat (a1 : Int32) (a2 : Int32) (a3 : Int32) (s : yb_S) : Option (Int32 × yb_S) :=
  if (s.1 172 0) < (40 : Int32) then
    (yb_rd s 173 201 a1).bind fun v2 =>
    (yb_wr s 173 201 a1 (v2 + a2)).bind fun s3 =>
    (yb_rd s3 174 201 a1).bind fun v4 =>
    (yb_wr s3 174 201 a1 (v4 + a3)).bind fun s5 =>
    (some (yb_pI s5 172 0 ((s5.1 172 0) + (1 : Int32)))).bind fun s6 =>
    some ((s6.1 172 0), s6)
  else
    some ((-1 : Int32), s)
def f_X11_boat (a1 : Int32) (a2 : Int32) (a3 : Int32) (s : yb_S) : Option (Int32 × yb_S) :=
  (f_X11_isAhead a1 s).bind fun q1 =>
  if q1 = 0 then
    some ((-1 : Int32), s)
  else
    if a2 < 0 then
      some ((-1 : Int32), s)
    else
      if a3 < a2 then
        some ((-1 : Int32), s)
      else
        if a3 ≤ (200 : Int32) then
          (f_X3_addBoat a1 a2 a3 s).bind fun q7 =>
          some (q7.1, q7.2)
        else
          some ((-1 : Int32), s)
def f_X11_canBeDays (a0 : Int32) (s : yb_S) : Option Int32 :=
  if a0 < 0 then
    some (0 : Int32)
  else
    if (200 : Int32) < (yb_rem a0 (1000 : Int32)) then
      some (0 : Int32)
    else
      if (yb_rem a0 (1000 : Int32)) < (a0 / (1000 : Int32)) then
        some (0 : Int32)
      else
        some (1 : Int32)
def f_X11_canBeHeads (a0 : Int32) (s : yb_S) : Option Int32 :=
  if a0 < (100 : Int32) then
    some (0 : Int32)
  else
    if (999 : Int32) < a0 then
      some (0 : Int32)
    else
      if (a0 / (100 : Int32)) < (yb_rem (a0 / (10 : Int32)) (10 : Int32)) then
        some (0 : Int32)
      else
        if (1 : Int32) < (yb_rem a0 (10 : Int32)) then
          some (0 : Int32)
        else
          some (1 : Int32)
def f_X11_canBeHome (a0 : Int32) (s : yb_S) : Option Int32 :=
  if a0 < (100 : Int32) then
    some (0 : Int32)
  else
    if (999 : Int32) < a0 then
      some (0 : Int32)
    else
      if (1 : Int32) < (yb_rem (a0 / (10 : Int32)) (10 : Int32)) then
        some (0 : Int32)
      else
        if (4 : Int32) < (yb_rem a0 (10 : Int32)) then
          some (0 : Int32)
        else
          some (1 : Int32)
def f_X11_canBeKind (a0 : Int32) (s : yb_S) : Option Int32 :=
  if a0 < 0 then
    some (0 : Int32)
  else
    if (3 : Int32) < (a0 / (100 : Int32)) then
      some (0 : Int32)
    else
      if (5 : Int32) < (yb_rem (a0 / (10 : Int32)) (10 : Int32)) then
        some (0 : Int32)
      else
        if (6 : Int32) ≤ (yb_rem a0 (10 : Int32)) then
          some (0 : Int32)
        else
          some (1 : Int32)
def f_X11_canBeSought (a0 : Int32) (a1 : Int32) (s : yb_S) : Option Int32 :=
  if a0 < 0 then
    some (0 : Int32)
  else
    if (999999 : Int32) < a0 then
      some (0 : Int32)
    else
      if a1 < 0 then
        some (0 : Int32)
      else
        if (120 : Int32) < a1 then
          some (0 : Int32)
        else
          some (1 : Int32)
def f_X11_hasEnded (a1 : Int32) (s : yb_S) : Option Int32 :=
  if a1 < 0 then
    some (0 : Int32)
  else
    if (s.1 1 5) ≤ a1 then
      some (0 : Int32)
    else
      some (1 : Int32)
def f_X0_stateOn (a1 : Int32) (a2 : Int32) (s : yb_S) : Option Int32 :=
  (yb_ri 139 1 24 a1).bind fun r1 =>
  (yb_rd s r1 200 a2).bind fun v2 =>
  if v2 = (100 : Int32) then
    some (0 : Int32)
  else
    if v2 = (101 : Int32) then
      some (2 : Int32)
    else
      some (1 : Int32)
def f_X0_sumOfTowns_4 (rc4 : (Int32 → Int32 → Option Int32)) (x1 : Int32) (s : yb_S) (x2 : Int32) (x3 : Int32) : Option Int32 :=
  if (8 : Int32) ≤ x3 then
    some x2
  else
    (yb_ri 164 1 8 x3).bind fun r2 =>
    (yb_rd s r2 200 x1).bind fun v3 =>
    rc4 (x2 + v3) (x3 + (1 : Int32))
def l_X0_sumOfTowns_4 (x1 : Int32) (s : yb_S) (n : Nat) (x2 : Int32) (x3 : Int32) : Option Int32 :=
  yb_it (α := Int32 × Int32) (fun rc q => f_X0_sumOfTowns_4 (fun x2 x3 => rc (x2, x3)) x1 s q.1 q.2) n (x2, x3)
def f_X0_sumOfTowns (a1 : Int32) (s : yb_S) : Option Int32 :=
  l_X0_sumOfTowns_4 a1 s yb_N (0 : Int32) (0 : Int32)
def j_X0_numberOf_21_65 (rc17 : (Int32 → Int32 → Option Int32)) (x1 : Int32) (x2 : Int32) (x4 : Int32) (x5 : Int32) (s : yb_S) : Option Int32 :=
  rc17 x4 (x5 + (1 : Int32))
def j_X0_numberOf_21_53 (rc17 : (Int32 → Int32 → Option Int32)) (x1 : Int32) (x2 : Int32) (x4 : Int32) (x5 : Int32) (s : yb_S) : Option Int32 :=
  (yb_rd s 22 24 x5).bind fun v6 =>
  j_X0_numberOf_21_65 rc17 x1 x2 (x4 + v6) x5 s
def f_X0_numberOf_21_17 (rc17 : (Int32 → Int32 → Option Int32)) (x1 : Int32) (x2 : Int32) (s : yb_S) (x4 : Int32) (x5 : Int32) : Option Int32 :=
  if (s.1 21 0) ≤ x5 then
    some x4
  else
    (yb_rd s 32 24 x5).bind fun v3 =>
    if x1 < v3 then
      j_X0_numberOf_21_65 rc17 x1 x2 x4 x5 s
    else
      if x2 = (3 : Int32) then
        j_X0_numberOf_21_53 rc17 x1 x2 x4 x5 s
      else
        (f_X0_stateOn x5 x1 s).bind fun q7 =>
        if q7 = x2 then
          j_X0_numberOf_21_53 rc17 x1 x2 x4 x5 s
        else
          j_X0_numberOf_21_65 rc17 x1 x2 x4 x5 s
def l_X0_numberOf_21_17 (x1 : Int32) (x2 : Int32) (s : yb_S) (n : Nat) (x4 : Int32) (x5 : Int32) : Option Int32 :=
  yb_it (α := Int32 × Int32) (fun rc q => f_X0_numberOf_21_17 (fun x4 x5 => rc (x4, x5)) x1 x2 s q.1 q.2) n (x4, x5)
def f_X0_numberOf_21 (a1 : Int32) (a2 : Int32) (s : yb_S) : Option Int32 :=
  if a2 = (4 : Int32) then
    (f_X0_sumOfTowns a1 s).bind fun q10 =>
    some q10
  else
    l_X0_numberOf_21_17 a1 a2 s yb_N (0 : Int32) (0 : Int32)
def f_X0_altered_21 (a1 : Int32) (a2 : Int32) (a3 : Int32) (a4 : Int32) (s : yb_S) : Option Int32 :=
  (f_X0_numberOf_21 a1 a2 s).bind fun q1 =>
  if a2 = a3 then
    some (q1 ^^^ a4)
  else
    some q1
def f_X0_checked_21 (a1 : Int32) (a2 : Int32) (a3 : Int32) (s : yb_S) : Option Int32 :=
  (f_X0_altered_21 a1 (0 : Int32) a2 a3 s).bind fun q1 =>
  (f_X0_altered_21 a1 (1 : Int32) a2 a3 s).bind fun q3 =>
  (f_X0_altered_21 a1 (2 : Int32) a2 a3 s).bind fun q5 =>
  (f_X0_altered_21 a1 (3 : Int32) a2 a3 s).bind fun q7 =>
  if ((q1 + q3) + q5) = q7 then
    (f_X0_altered_21 a1 (4 : Int32) a2 a3 s).bind fun q10 =>
    (f_X0_sumOfTowns a1 s).bind fun q12 =>
    if q10 = q12 then
      some (0 : Int32)
    else
      some (2 : Int32)
  else
    some (1 : Int32)
def f_X11_check (a1 : Int32) (a2 : Int32) (a3 : Int32) (s : yb_S) : Option Int32 :=
  (f_X11_hasEnded a1 s).bind fun q1 =>
  if q1 = 0 then
    some (-1 : Int32)
  else
    if a2 < 0 then
      some (-1 : Int32)
    else
      if a2 ≤ (4 : Int32) then
        (f_X0_checked_21 a1 a2 a3 s).bind fun q6 =>
        some q6
      else
        some (-1 : Int32)
def j_X8_emptyEndingHomes_42 (rc2 : (Int32 → yb_S → Option yb_S)) (x1 : Int32) (s : yb_S) : Option yb_S :=
  rc2 (x1 + (1 : Int32)) s
def f_X8_emptyEndingHomes_2 (rc2 : (Int32 → yb_S → Option yb_S)) (x1 : Int32) (s : yb_S) : Option yb_S :=
  if (s.1 13 0) ≤ x1 then
    some s
  else
    (yb_rd s 19 24 x1).bind fun v2 =>
    if v2 = (s.1 1 5) then
      (yb_rd s 20 24 x1).bind fun v4 =>
      (f_X8_unsettle v4 s).bind fun q5 =>
      j_X8_emptyEndingHomes_42 rc2 x1 q5
    else
      j_X8_emptyEndingHomes_42 rc2 x1 s
def l_X8_emptyEndingHomes_2 (n : Nat) (x1 : Int32) (s : yb_S) : Option yb_S :=
  yb_it (α := Int32 × yb_S) (fun rc q => f_X8_emptyEndingHomes_2 (fun x1 s => rc (x1, s)) q.1 q.2) n (x1, s)
def f_X8_emptyEndingHomes (s : yb_S) : Option yb_S :=
  l_X8_emptyEndingHomes_2 yb_N (0 : Int32) s
def j_X8_countNights_38 (rc2 : (Int32 → yb_S → Option yb_S)) (x1 : Int32) (s : yb_S) : Option yb_S :=
  rc2 (x1 + (1 : Int32)) s
def f_X8_countNights_2 (rc2 : (Int32 → yb_S → Option yb_S)) (x1 : Int32) (s : yb_S) : Option yb_S :=
  if (s.1 21 0) ≤ x1 then
    some s
  else
    (yb_rd s 28 24 x1).bind fun v2 =>
    if v2 = 0 then
      (yb_rd s 31 24 x1).bind fun v4 =>
      (yb_wr s 31 24 x1 (v4 + (1 : Int32))).bind fun s5 =>
      j_X8_countNights_38 rc2 x1 s5
    else
      j_X8_countNights_38 rc2 x1 s
def l_X8_countNights_2 (n : Nat) (x1 : Int32) (s : yb_S) : Option yb_S :=
  yb_it (α := Int32 × yb_S) (fun rc q => f_X8_countNights_2 (fun x1 s => rc (x1, s)) q.1 q.2) n (x1, s)
def f_X8_countNights (s : yb_S) : Option yb_S :=
  l_X8_countNights_2 yb_N (0 : Int32) s
def j_X0_keepFamilies_1_103 (rc7 : (Int32 → yb_S → Option yb_S)) (x2 : Int32) (x3 : Int32) (s : yb_S) : Option yb_S :=
  rc7 (x3 + (1 : Int32)) s
def f_X0_keepFamilies_1_7 (rc7 : (Int32 → yb_S → Option yb_S)) (x2 : Int32) (x3 : Int32) (s : yb_S) : Option yb_S :=
  if (s.1 21 0) ≤ x3 then
    some s
  else
    if (200 : Int32) ≤ x2 then
      some s
    else
      (yb_rd s 28 24 x3).bind fun v3 =>
      if v3 = (0 : Int32) then
        (yb_ri 139 1 24 x3).bind fun r6 =>
        (yb_wr s r6 200 x2 (100 : Int32)).bind fun s7 =>
        j_X0_keepFamilies_1_103 rc7 x2 x3 s7
      else
        if v3 = (1 : Int32) then
          (yb_ri 139 1 24 x3).bind fun r8 =>
          (yb_rd s 29 24 x3).bind fun v9 =>
          (yb_wr s r8 200 x2 v9).bind fun s10 =>
          j_X0_keepFamilies_1_103 rc7 x2 x3 s10
        else
          (yb_ri 139 1 24 x3).bind fun r11 =>
          (yb_wr s r11 200 x2 (101 : Int32)).bind fun s12 =>
          j_X0_keepFamilies_1_103 rc7 x2 x3 s12
def l_X0_keepFamilies_1_7 (x2 : Int32) (n : Nat) (x3 : Int32) (s : yb_S) : Option yb_S :=
  yb_it (α := Int32 × yb_S) (fun rc q => f_X0_keepFamilies_1_7 (fun x3 s => rc (x3, s)) x2 q.1 q.2) n (x3, s)
def f_X0_keepFamilies_1 (s : yb_S) : Option yb_S :=
  l_X0_keepFamilies_1_7 (s.1 1 5) yb_N (0 : Int32) s
def j_X8_sumOf_61 (rc4 : (Int32 → Int32 → yb_S → Option (Int32 × yb_S))) (x1 : Int32) (x2 : Int32) (x3 : Int32) (s : yb_S) : Option (Int32 × yb_S) :=
  rc4 x2 (x3 + (1 : Int32)) s
def f_X8_sumOf_4 (rc4 : (Int32 → Int32 → yb_S → Option (Int32 × yb_S))) (x1 : Int32) (x2 : Int32) (x3 : Int32) (s : yb_S) : Option (Int32 × yb_S) :=
  if (s.1 21 0) ≤ x3 then
    some (x2, s)
  else
    (yb_rd s 30 24 x3).bind fun v2 =>
    if v2 = x1 then
      (yb_rd s 29 24 x3).bind fun v4 =>
      (f_X8_tells (3 : Int32) x3 v4 (-1 : Int32) (0 : Int32) s).bind fun q5 =>
      j_X8_sumOf_61 rc4 x1 (x2 + (yb_max (0 : Int32) (yb_min (1000000 : Int32) q5.1))) x3 q5.2
    else
      j_X8_sumOf_61 rc4 x1 x2 x3 s
def l_X8_sumOf_4 (x1 : Int32) (n : Nat) (x2 : Int32) (x3 : Int32) (s : yb_S) : Option (Int32 × yb_S) :=
  yb_it (α := Int32 × Int32 × yb_S) (fun rc q => f_X8_sumOf_4 (fun x2 x3 s => rc (x2, x3, s)) x1 q.1 q.2.1 q.2.2) n (x2, x3, s)
def f_X8_sumOf (a1 : Int32) (s : yb_S) : Option (Int32 × yb_S) :=
  l_X8_sumOf_4 a1 yb_N (0 : Int32) (0 : Int32) s
def f_X0_keepSums_1_7 (rc7 : (Int32 → yb_S → Option yb_S)) (x2 : Int32) (x3 : Int32) (s : yb_S) : Option yb_S :=
  if (s.1 2 0) ≤ x3 then
    some s
  else
    if (200 : Int32) ≤ x2 then
      some s
    else
      (yb_ri 164 1 8 x3).bind fun r3 =>
      (f_X8_sumOf x3 s).bind fun q4 =>
      (yb_wr q4.2 r3 200 x2 q4.1).bind fun s6 =>
      (yb_rl s6 12 8 x3).bind fun v7 =>
      (yb_ri 164 1 8 x3).bind fun r8 =>
      (yb_rd s6 r8 200 x2).bind fun v9 =>
      (yb_wl s6 12 8 x3 (v7 + (v9.toInt64))).bind fun s10 =>
      rc7 (x3 + (1 : Int32)) s10
def l_X0_keepSums_1_7 (x2 : Int32) (n : Nat) (x3 : Int32) (s : yb_S) : Option yb_S :=
  yb_it (α := Int32 × yb_S) (fun rc q => f_X0_keepSums_1_7 (fun x3 s => rc (x3, s)) x2 q.1 q.2) n (x3, s)
def f_X0_keepSums_1 (s : yb_S) : Option yb_S :=
  l_X0_keepSums_1_7 (s.1 1 5) yb_N (0 : Int32) s
def f_X11_closeDay (s : yb_S) : Option yb_S :=
  (f_X8_emptyEndingHomes s).bind fun q1 =>
  (f_X8_countNights q1).bind fun q3 =>
  (f_X0_keepFamilies_1 q3).bind fun q5 =>
  (f_X0_keepSums_1 q5).bind fun q7 =>
  (some (yb_pI q7 1 5 ((q7.1 1 5) + (1 : Int32)))).bind fun s9 =>
  some s9
def j_X8_headsIn_40 (rc4 : (Int32 → Int32 → Option Int32)) (x1 : Int32) (x2 : Int32) (x3 : Int32) (s : yb_S) : Option Int32 :=
  rc4 x2 (x3 + (1 : Int32))
def f_X8_headsIn_4 (rc4 : (Int32 → Int32 → Option Int32)) (x1 : Int32) (s : yb_S) (x2 : Int32) (x3 : Int32) : Option Int32 :=
  if (s.1 21 0) ≤ x3 then
    some x2
  else
    (yb_rd s 28 24 x3).bind fun v2 =>
    if v2 = x1 then
      (yb_rd s 22 24 x3).bind fun v4 =>
      j_X8_headsIn_40 rc4 x1 (x2 + v4) x3 s
    else
      j_X8_headsIn_40 rc4 x1 x2 x3 s
def l_X8_headsIn_4 (x1 : Int32) (s : yb_S) (n : Nat) (x2 : Int32) (x3 : Int32) : Option Int32 :=
  yb_it (α := Int32 × Int32) (fun rc q => f_X8_headsIn_4 (fun x2 x3 => rc (x2, x3)) x1 s q.1 q.2) n (x2, x3)
def f_X8_headsIn (a1 : Int32) (s : yb_S) : Option Int32 :=
  l_X8_headsIn_4 a1 s yb_N (0 : Int32) (0 : Int32)
def f_X11_count (a1 : Int32) (s : yb_S) : Option Int32 :=
  if a1 = (0 : Int32) then
    some (s.1 1 5)
  else
    if a1 = (1 : Int32) then
      some (s.1 2 0)
    else
      if a1 = (2 : Int32) then
        some (s.1 13 0)
      else
        if a1 = (3 : Int32) then
          some (s.1 21 0)
        else
          if a1 = (4 : Int32) then
            some (s.1 41 0)
          else
            if a1 = (5 : Int32) then
              some (s.1 54 0)
            else
              if a1 = (6 : Int32) then
                some (s.1 92 0)
              else
                if a1 = (7 : Int32) then
                  (f_X8_headsIn (0 : Int32) s).bind fun q14 =>
                  some q14
                else
                  if a1 = (8 : Int32) then
                    some (s.1 1 6)
                  else
                    if a1 = (9 : Int32) then
                      (f_X8_headsIn (0 : Int32) s).bind fun q16 =>
                      some (yb_max (0 : Int32) (q16 - (s.1 1 6)))
                    else
                      if a1 = (10 : Int32) then
                        some (s.1 172 0)
                      else
                        if a1 = (11 : Int32) then
                          some (s.1 172 1)
                        else
                          if a1 = (12 : Int32) then
                            some (s.1 41 8)
                          else
                            some (-1 : Int32)
def f_X11_end (a1 : Int32) (s : yb_S) : Option (Int32 × yb_S) :=
  if a1 < 0 then
    some ((0 : Int32), s)
  else
    if a1 ≤ (s.1 92 0) then
      (some (yb_pI s 92 0 a1)).bind fun s3 =>
      some ((1 : Int32), s3)
    else
      some ((0 : Int32), s)
def f_X11_ended (a1 : Int32) (a2 : Int32) (s : yb_S) : Option Int32 :=
  (f_X11_hasEnded a1 s).bind fun q1 =>
  if q1 = 0 then
    some (-1 : Int32)
  else
    if a2 < 0 then
      some (-1 : Int32)
    else
      if a2 ≤ (4 : Int32) then
        (f_X0_numberOf_21 a1 a2 s).bind fun q6 =>
        some q6
      else
        some (-1 : Int32)
def j_X11_ends_65 (rc21 : (Int32 → Int32 → Int32 → yb_S → Option (Int32 × yb_S))) (x1 : Int32) (x2 : Int32) (x3 : Int32) (x4 : Int32) (s : yb_S) : Option (Int32 × yb_S) :=
  rc21 x2 x3 (x4 + (1 : Int32)) s
def j_X11_ends_59 (rc21 : (Int32 → Int32 → Int32 → yb_S → Option (Int32 × yb_S))) (x1 : Int32) (x4 : Int32) (x5 : Int32) (s : yb_S) : Option (Int32 × yb_S) :=
  j_X11_ends_65 rc21 x1 x4 x5 x4 s
def f_X11_ends_21 (rc21 : (Int32 → Int32 → Int32 → yb_S → Option (Int32 × yb_S))) (x1 : Int32) (x2 : Int32) (x3 : Int32) (x4 : Int32) (s : yb_S) : Option (Int32 × yb_S) :=
  if (s.1 13 0) ≤ x4 then
    some (x2, s)
  else
    (f_X8_barOf x1 x4 s).bind fun q5 =>
    if x2 = (-1 : Int32) then
      j_X11_ends_59 rc21 x1 x4 q5.1 q5.2
    else
      if x3 ≤ q5.1 then
        j_X11_ends_65 rc21 x1 x2 x3 x4 q5.2
      else
        j_X11_ends_59 rc21 x1 x4 q5.1 q5.2
def l_X11_ends_21 (x1 : Int32) (n : Nat) (x2 : Int32) (x3 : Int32) (x4 : Int32) (s : yb_S) : Option (Int32 × yb_S) :=
  yb_it (α := Int32 × Int32 × Int32 × yb_S) (fun rc q => f_X11_ends_21 (fun x2 x3 x4 s => rc (x2, x3, x4, s)) x1 q.1 q.2.1 q.2.2.1 q.2.2.2) n (x2, x3, x4, s)
def f_X11_ends (a1 : Int32) (s : yb_S) : Option (Int32 × yb_S) :=
  (f_X8_isIn a1 (0 : Int32) s).bind fun q1 =>
  if q1 = 0 then
    some ((-1 : Int32), s)
  else
    l_X11_ends_21 a1 yb_N (-1 : Int32) (0 : Int32) (0 : Int32) s
def f_X2_add (a1 : Int32) (a2 : Int32) (a3 : Int32) (s : yb_S) : Option (Int32 × yb_S) :=
  if (s.1 21 0) < (24 : Int32) then
    (yb_wr s 22 24 (s.1 21 0) (a1 / (100 : Int32))).bind fun s2 =>
    (yb_wr s2 23 24 (s2.1 21 0) (yb_rem (a1 / (10 : Int32)) (10 : Int32))).bind fun s3 =>
    (yb_wr s3 24 24 (s3.1 21 0) (yb_rem a1 (10 : Int32))).bind fun s4 =>
    (yb_wr s4 25 24 (s4.1 21 0) (a2 / (100 : Int32))).bind fun s5 =>
    (yb_wr s5 26 24 (s5.1 21 0) (yb_rem (a2 / (10 : Int32)) (10 : Int32))).bind fun s6 =>
    (yb_wr s6 27 24 (s6.1 21 0) (yb_rem a2 (10 : Int32))).bind fun s7 =>
    (yb_wr s7 28 24 (s7.1 21 0) (0 : Int32)).bind fun s8 =>
    (yb_wr s8 29 24 (s8.1 21 0) (-1 : Int32)).bind fun s9 =>
    (yb_wr s9 30 24 (s9.1 21 0) (-1 : Int32)).bind fun s10 =>
    (yb_wr s10 31 24 (s10.1 21 0) (0 : Int32)).bind fun s11 =>
    (yb_wr s11 32 24 (s11.1 21 0) a3).bind fun s12 =>
    (yb_wr s12 33 24 (s12.1 21 0) (-1 : Int32)).bind fun s13 =>
    (some (yb_pI s13 21 0 ((s13.1 21 0) + (1 : Int32)))).bind fun s14 =>
    some (((s14.1 21 0) - (1 : Int32)), s14)
  else
    some ((-1 : Int32), s)
def f_X11_family (a1 : Int32) (a2 : Int32) (s : yb_S) : Option (Int32 × yb_S) :=
  (f_X11_canBeHeads a1 s).bind fun q1 =>
  if q1 = 0 then
    some ((-1 : Int32), s)
  else
    (f_X11_canBeKind a2 s).bind fun q4 =>
    if q4 = 0 then
      some ((-1 : Int32), s)
    else
      (f_X2_add a1 a2 (s.1 1 5) s).bind fun q7 =>
      if q7.1 = (-1 : Int32) then
        some (q7.1, q7.2)
      else
        (some (yb_pI q7.2 1 7 ((q7.2.1 1 7) + (a1 / (100 : Int32))))).bind fun s10 =>
        some (q7.1, s10)
def f_X9_addToken (a1 : Int32) (a2 : Int32) (a3 : Int32) (s : yb_S) : Option yb_S :=
  if (500 : Int32) < (s.1 92 10) then
    some s
  else
    (yb_wr s 97 501 (s.1 92 10) a1).bind fun s2 =>
    (yb_wr s2 99 501 (s2.1 92 10) a2).bind fun s3 =>
    (yb_wr s3 98 501 (s3.1 92 10) a3).bind fun s4 =>
    (some (yb_pI s4 92 10 ((s4.1 92 10) + (1 : Int32)))).bind fun s5 =>
    some s5
def f_X9_isLetter (a0 : Int32) (s : yb_S) : Option Int32 :=
  if a0 < (97 : Int32) then
    some (0 : Int32)
  else
    if (122 : Int32) < a0 then
      some (0 : Int32)
    else
      some (1 : Int32)
def f_X9_isDigit (a0 : Int32) (s : yb_S) : Option Int32 :=
  if a0 < (48 : Int32) then
    some (0 : Int32)
  else
    if (57 : Int32) < a0 then
      some (0 : Int32)
    else
      some (1 : Int32)
def f_X9_isSign (a0 : Int32) (s : yb_S) : Option Int32 :=
  if a0 = (40 : Int32) then
    some (1 : Int32)
  else
    if a0 = (41 : Int32) then
      some (1 : Int32)
    else
      if a0 = (42 : Int32) then
        some (1 : Int32)
      else
        if a0 = (43 : Int32) then
          some (1 : Int32)
        else
          if a0 = (45 : Int32) then
            some (1 : Int32)
          else
            if a0 = (47 : Int32) then
              some (1 : Int32)
            else
              if a0 = (59 : Int32) then
                some (1 : Int32)
              else
                if a0 = (60 : Int32) then
                  some (1 : Int32)
                else
                  if a0 = (61 : Int32) then
                    some (1 : Int32)
                  else
                    if a0 = (62 : Int32) then
                      some (1 : Int32)
                    else
                      if a0 = (91 : Int32) then
                        some (1 : Int32)
                      else
                        if a0 = (93 : Int32) then
                          some (1 : Int32)
                        else
                          some (0 : Int32)
def j_X9_splitNumber_64 (x1 : Int32) (x2 : Int32) (x3 : Int32) (y0 : Int32) (s : yb_S) : Option (Int32 × yb_S) :=
  (f_X9_addToken y0 x1 x3 s).bind fun q3 =>
  some (x2, q3)
def j_X9_splitNumber_51 (x1 : Int32) (x2 : Int32) (x3 : Int32) (s : yb_S) : Option (Int32 × yb_S) :=
  if (99999 : Int32) < x3 then
    j_X9_splitNumber_64 x1 x2 x3 (7 : Int32) s
  else
    j_X9_splitNumber_64 x1 x2 x3 (1 : Int32) s
def j_X9_splitNumber_45 (rc4 : (Int32 → Int32 → Option (Int32 × yb_S))) (x1 : Int32) (x2 : Int32) (x3 : Int32) (s : yb_S) : Option (Int32 × yb_S) :=
  rc4 (x2 + (1 : Int32)) x3
def f_X9_splitNumber_4 (rc4 : (Int32 → Int32 → Option (Int32 × yb_S))) (x1 : Int32) (s : yb_S) (x2 : Int32) (x3 : Int32) : Option (Int32 × yb_S) :=
  if (s.1 92 0) ≤ x2 then
    j_X9_splitNumber_51 x1 x2 x3 s
  else
    (yb_rd s 96 500 x2).bind fun v5 =>
    (f_X9_isDigit v5 s).bind fun q6 =>
    if q6 = 0 then
      j_X9_splitNumber_51 x1 x2 x3 s
    else
      if (99999 : Int32) < x3 then
        j_X9_splitNumber_45 rc4 x1 x2 x3 s
      else
        (yb_rd s 96 500 x2).bind fun v10 =>
        j_X9_splitNumber_45 rc4 x1 x2 (((x3 * (10 : Int32)) + v10) - (48 : Int32)) s
def l_X9_splitNumber_4 (x1 : Int32) (s : yb_S) (n : Nat) (x2 : Int32) (x3 : Int32) : Option (Int32 × yb_S) :=
  yb_it (α := Int32 × Int32) (fun rc q => f_X9_splitNumber_4 (fun x2 x3 => rc (x2, x3)) x1 s q.1 q.2) n (x2, x3)
def f_X9_splitNumber (a1 : Int32) (s : yb_S) : Option (Int32 × yb_S) :=
  l_X9_splitNumber_4 a1 s yb_N a1 (0 : Int32)
def f_X9_isWordAt_3 (rc3 : (Int32 → Option Int32)) (x1 : Int32) (x2 : Int32) (x3 : Int32) (s : yb_S) (x4 : Int32) : Option Int32 :=
  if (x3 - x2) ≤ x4 then
    some (1 : Int32)
  else
    (yb_sc 100000 (x1 + x4)).bind fun v2 =>
    (yb_rd s 96 500 (x2 + x4)).bind fun v4 =>
    if v2 = v4 then
      rc3 (x4 + (1 : Int32))
    else
      some (0 : Int32)
def l_X9_isWordAt_3 (x1 : Int32) (x2 : Int32) (x3 : Int32) (s : yb_S) (n : Nat) (x4 : Int32) : Option Int32 :=
  yb_it (α := Int32) (fun rc q => f_X9_isWordAt_3 (fun x4 => rc x4) x1 x2 x3 s q) n x4
def f_X9_isWordAt (a1 : Int32) (a2 : Int32) (a3 : Int32) (s : yb_S) : Option Int32 :=
  l_X9_isWordAt_3 a1 a2 a3 s yb_N (0 : Int32)
def j_X9_wordOf_63 (rc8 : (Int32 → Int32 → Int32 → Option Int32)) (x1 : Int32) (x2 : Int32) (x3 : Int32) (x4 : Int32) (x5 : Int32) (s : yb_S) : Option Int32 :=
  rc8 x3 x4 (x5 + (1 : Int32))
def j_X9_wordOf_54 (rc8 : (Int32 → Int32 → Int32 → Option Int32)) (x1 : Int32) (x2 : Int32) (x3 : Int32) (x5 : Int32) (s : yb_S) : Option Int32 :=
  j_X9_wordOf_63 rc8 x1 x2 (x3 + (1 : Int32)) (x5 + (1 : Int32)) x5 s
def f_X9_wordOf_8 (rc8 : (Int32 → Int32 → Int32 → Option Int32)) (x1 : Int32) (x2 : Int32) (s : yb_S) (x3 : Int32) (x4 : Int32) (x5 : Int32) : Option Int32 :=
  (yb_sl 100000).bind fun v1 =>
  if v1 ≤ x5 then
    some (-1 : Int32)
  else
    (yb_sc 100000 x5).bind fun v4 =>
    if v4 = (32 : Int32) then
      if (x5 - x4) = (x2 - x1) then
        (f_X9_isWordAt x4 x1 x2 s).bind fun q8 =>
        if q8 = 0 then
          j_X9_wordOf_54 rc8 x1 x2 x3 x5 s
        else
          some x3
      else
        j_X9_wordOf_54 rc8 x1 x2 x3 x5 s
    else
      j_X9_wordOf_63 rc8 x1 x2 x3 x4 x5 s
def l_X9_wordOf_8 (x1 : Int32) (x2 : Int32) (s : yb_S) (n : Nat) (x3 : Int32) (x4 : Int32) (x5 : Int32) : Option Int32 :=
  yb_it (α := Int32 × Int32 × Int32) (fun rc q => f_X9_wordOf_8 (fun x3 x4 x5 => rc (x3, x4, x5)) x1 x2 s q.1 q.2.1 q.2.2) n (x3, x4, x5)
def f_X9_wordOf (a1 : Int32) (a2 : Int32) (s : yb_S) : Option Int32 :=
  l_X9_wordOf_8 a1 a2 s yb_N (0 : Int32) (0 : Int32) (0 : Int32)
def j_X9_splitWord_108 (x1 : Int32) (x2 : Int32) (y0 : Int32) (s : yb_S) : Option (Int32 × yb_S) :=
  (f_X9_addToken y0 x1 (0 : Int32) s).bind fun q9 =>
  some (x2, q9)
def j_X9_splitWord_74 (x1 : Int32) (x2 : Int32) (x3 : Int32) (s : yb_S) : Option (Int32 × yb_S) :=
  if x3 = (6 : Int32) then
    j_X9_splitWord_108 x1 x2 (4 : Int32) s
  else
    if x3 = (7 : Int32) then
      j_X9_splitWord_108 x1 x2 (5 : Int32) s
    else
      if x3 = (8 : Int32) then
        j_X9_splitWord_108 x1 x2 (6 : Int32) s
      else
        j_X9_splitWord_108 x1 x2 (7 : Int32) s
def j_X9_splitWord_28 (x1 : Int32) (x2 : Int32) (s : yb_S) : Option (Int32 × yb_S) :=
  (f_X9_wordOf x1 x2 s).bind fun q2 =>
  if q2 < (9 : Int32) then
    if q2 < 0 then
      j_X9_splitWord_74 x1 x2 q2 s
    else
      if (6 : Int32) ≤ q2 then
        j_X9_splitWord_74 x1 x2 q2 s
      else
        (f_X9_addToken (3 : Int32) x1 q2 s).bind fun q12 =>
        some (x2, q12)
  else
    (f_X9_addToken (2 : Int32) x1 (q2 - (9 : Int32)) s).bind fun q14 =>
    some (x2, q14)
def f_X9_splitWord_2 (rc2 : (Int32 → Option (Int32 × yb_S))) (x1 : Int32) (s : yb_S) (x2 : Int32) : Option (Int32 × yb_S) :=
  if (s.1 92 0) ≤ x2 then
    j_X9_splitWord_28 x1 x2 s
  else
    (yb_rd s 96 500 x2).bind fun v16 =>
    (f_X9_isLetter v16 s).bind fun q17 =>
    if q17 = 0 then
      j_X9_splitWord_28 x1 x2 s
    else
      rc2 (x2 + (1 : Int32))
def l_X9_splitWord_2 (x1 : Int32) (s : yb_S) (n : Nat) (x2 : Int32) : Option (Int32 × yb_S) :=
  yb_it (α := Int32) (fun rc q => f_X9_splitWord_2 (fun x2 => rc x2) x1 s q) n x2
def f_X9_splitWord (a1 : Int32) (s : yb_S) : Option (Int32 × yb_S) :=
  l_X9_splitWord_2 a1 s yb_N a1
def j_X9_splitTokens_95 (rc9 : (Int32 → Int32 → yb_S → Option yb_S)) (x1 : Int32) (x2 : Int32) (s : yb_S) : Option yb_S :=
  rc9 x1 (x2 + (1 : Int32)) s
def j_X9_splitTokens_90 (rc9 : (Int32 → Int32 → yb_S → Option yb_S)) (x1 : Int32) (x2 : Int32) (y0 : Int32) (s : yb_S) : Option yb_S :=
  (f_X9_addToken y0 x2 (0 : Int32) s).bind fun q18 =>
  j_X9_splitTokens_95 rc9 x1 x2 q18
def f_X9_splitTokens_9 (rc9 : (Int32 → Int32 → yb_S → Option yb_S)) (x1 : Int32) (x2 : Int32) (s : yb_S) : Option yb_S :=
  if (s.1 92 0) ≤ x2 then
    (f_X9_addToken (0 : Int32) (s.1 92 0) (0 : Int32) s).bind fun q3 =>
    some q3
  else
    (yb_rd s 96 500 x2).bind fun v5 =>
    if x2 < x1 then
      j_X9_splitTokens_95 rc9 x1 x2 s
    else
      if v5 = (32 : Int32) then
        j_X9_splitTokens_95 rc9 x1 x2 s
      else
        if v5 = (10 : Int32) then
          j_X9_splitTokens_95 rc9 x1 x2 s
        else
          (f_X9_isLetter v5 s).bind fun q9 =>
          if q9 = 0 then
            (f_X9_isDigit v5 s).bind fun q12 =>
            if q12 = 0 then
              (f_X9_isSign v5 s).bind fun q15 =>
              if q15 = 0 then
                j_X9_splitTokens_90 rc9 x1 x2 (7 : Int32) s
              else
                j_X9_splitTokens_90 rc9 x1 x2 v5 s
            else
              (f_X9_splitNumber x2 s).bind fun q20 =>
              j_X9_splitTokens_95 rc9 q20.1 x2 q20.2
          else
            (f_X9_splitWord x2 s).bind fun q22 =>
            j_X9_splitTokens_95 rc9 q22.1 x2 q22.2
def l_X9_splitTokens_9 (n : Nat) (x1 : Int32) (x2 : Int32) (s : yb_S) : Option yb_S :=
  yb_it (α := Int32 × Int32 × yb_S) (fun rc q => f_X9_splitTokens_9 (fun x1 x2 s => rc (x1, x2, s)) q.1 q.2.1 q.2.2) n (x1, x2, s)
def f_X9_splitTokens (s : yb_S) : Option yb_S :=
  (some (yb_pI s 92 10 (0 : Int32))).bind fun s1 =>
  l_X9_splitTokens_9 yb_N (0 : Int32) (0 : Int32) s1
def f_X9_isNext (a1 : Int32) (s : yb_S) : Option Int32 :=
  if (s.1 92 1) = (-1 : Int32) then
    if (s.1 92 10) ≤ (s.1 92 11) then
      some (0 : Int32)
    else
      (yb_rd s 97 501 (s.1 92 11)).bind fun v3 =>
      if v3 = a1 then
        some (1 : Int32)
      else
        some (0 : Int32)
  else
    some (0 : Int32)
def f_X9_put (a1 : Int32) (s : yb_S) : Option yb_S :=
  if (500 : Int32) ≤ (s.1 92 2) then
    some s
  else
    (yb_wr s 93 500 (s.1 92 2) a1).bind fun s2 =>
    (some (yb_pI s2 92 2 ((s2.1 92 2) + (1 : Int32)))).bind fun s3 =>
    some s3
def f_X9_fail (s : yb_S) : Option yb_S :=
  if (s.1 92 1) = (-1 : Int32) then
    if (s.1 92 10) ≤ (s.1 92 11) then
      some s
    else
      (yb_rd s 99 501 (s.1 92 11)).bind fun v3 =>
      (some (yb_pI s 92 1 v3)).bind fun s4 =>
      some s4
  else
    some s
def f_X9_pass (a1 : Int32) (s : yb_S) : Option yb_S :=
  (f_X9_isNext a1 s).bind fun q1 =>
  if q1 = 0 then
    (f_X9_fail s).bind fun q4 =>
    some q4
  else
    (some (yb_pI s 92 11 ((s.1 92 11) + (1 : Int32)))).bind fun s6 =>
    some s6
def j_X9_readFactor_113 (r_X9_readFactor : (Int32 → yb_S → Option yb_S)) (r_X9_readProduct : (Int32 → yb_S → Option yb_S)) (r_X9_readSum : (Int32 → yb_S → Option yb_S)) (s : yb_S) : Option yb_S :=
  (f_X9_fail s).bind fun q10 =>
  some q10
def f_X9_readFactor (r_X9_readFactor : (Int32 → yb_S → Option yb_S)) (r_X9_readProduct : (Int32 → yb_S → Option yb_S)) (r_X9_readSum : (Int32 → yb_S → Option yb_S)) (a1 : Int32) (s : yb_S) : Option yb_S :=
  (f_X9_isNext (1 : Int32) s).bind fun q1 =>
  if q1 = 0 then
    (f_X9_isNext (2 : Int32) s).bind fun q4 =>
    if q4 = 0 then
      (f_X9_isNext (40 : Int32) s).bind fun q7 =>
      if q7 = 0 then
        j_X9_readFactor_113 r_X9_readFactor r_X9_readProduct r_X9_readSum s
      else
        if (8 : Int32) ≤ a1 then
          j_X9_readFactor_113 r_X9_readFactor r_X9_readProduct r_X9_readSum s
        else
          (some (yb_pI s 92 11 ((s.1 92 11) + (1 : Int32)))).bind fun s13 =>
          (r_X9_readSum (a1 + (1 : Int32)) s13).bind fun q14 =>
          (f_X9_pass (41 : Int32) q14).bind fun q16 =>
          some q16
    else
      (yb_rd s 98 501 (s.1 92 11)).bind fun v18 =>
      (f_X9_put v18 s).bind fun q19 =>
      (some (yb_pI q19 92 11 ((q19.1 92 11) + (1 : Int32)))).bind fun s21 =>
      some s21
  else
    (yb_rd s 98 501 (s.1 92 11)).bind fun v22 =>
    (f_X9_put ((1000 : Int32) + v22) s).bind fun q23 =>
    (some (yb_pI q23 92 11 ((q23.1 92 11) + (1 : Int32)))).bind fun s25 =>
    some s25
def j_X9_readProduct_32 (r_X9_readFactor : (Int32 → yb_S → Option yb_S)) (r_X9_readProduct : (Int32 → yb_S → Option yb_S)) (r_X9_readSum : (Int32 → yb_S → Option yb_S)) (rc7 : (Int32 → yb_S → Option yb_S)) (x1 : Int32) (x2 : Int32) (s : yb_S) : Option yb_S :=
  (yb_rd s 97 501 (s.1 92 11)).bind fun v7 =>
  (some (yb_pI s 92 11 ((s.1 92 11) + (1 : Int32)))).bind fun s8 =>
  (r_X9_readFactor x1 s8).bind fun q9 =>
  (f_X9_put v7 q9).bind fun q11 =>
  rc7 (x2 + (1 : Int32)) q11
def f_X9_readProduct_7 (r_X9_readFactor : (Int32 → yb_S → Option yb_S)) (r_X9_readProduct : (Int32 → yb_S → Option yb_S)) (r_X9_readSum : (Int32 → yb_S → Option yb_S)) (rc7 : (Int32 → yb_S → Option yb_S)) (x1 : Int32) (x2 : Int32) (s : yb_S) : Option yb_S :=
  if (500 : Int32) ≤ x2 then
    some s
  else
    (f_X9_isNext (42 : Int32) s).bind fun q4 =>
    if q4 = 0 then
      (f_X9_isNext (47 : Int32) s).bind fun q13 =>
      if q13 = 0 then
        some s
      else
        j_X9_readProduct_32 r_X9_readFactor r_X9_readProduct r_X9_readSum rc7 x1 x2 s
    else
      j_X9_readProduct_32 r_X9_readFactor r_X9_readProduct r_X9_readSum rc7 x1 x2 s
def l_X9_readProduct_7 (r_X9_readFactor : (Int32 → yb_S → Option yb_S)) (r_X9_readProduct : (Int32 → yb_S → Option yb_S)) (r_X9_readSum : (Int32 → yb_S → Option yb_S)) (x1 : Int32) (n : Nat) (x2 : Int32) (s : yb_S) : Option yb_S :=
  yb_it (α := Int32 × yb_S) (fun rc q => f_X9_readProduct_7 r_X9_readFactor r_X9_readProduct r_X9_readSum (fun x2 s => rc (x2, s)) x1 q.1 q.2) n (x2, s)
def f_X9_readProduct (r_X9_readFactor : (Int32 → yb_S → Option yb_S)) (r_X9_readProduct : (Int32 → yb_S → Option yb_S)) (r_X9_readSum : (Int32 → yb_S → Option yb_S)) (a1 : Int32) (s : yb_S) : Option yb_S :=
  (r_X9_readFactor a1 s).bind fun q1 =>
  l_X9_readProduct_7 r_X9_readFactor r_X9_readProduct r_X9_readSum a1 yb_N (0 : Int32) q1
def j_X9_readSum_32 (r_X9_readFactor : (Int32 → yb_S → Option yb_S)) (r_X9_readProduct : (Int32 → yb_S → Option yb_S)) (r_X9_readSum : (Int32 → yb_S → Option yb_S)) (rc7 : (Int32 → yb_S → Option yb_S)) (x1 : Int32) (x2 : Int32) (s : yb_S) : Option yb_S :=
  (yb_rd s 97 501 (s.1 92 11)).bind fun v7 =>
  (some (yb_pI s 92 11 ((s.1 92 11) + (1 : Int32)))).bind fun s8 =>
  (r_X9_readProduct x1 s8).bind fun q9 =>
  (f_X9_put v7 q9).bind fun q11 =>
  rc7 (x2 + (1 : Int32)) q11
def f_X9_readSum_7 (r_X9_readFactor : (Int32 → yb_S → Option yb_S)) (r_X9_readProduct : (Int32 → yb_S → Option yb_S)) (r_X9_readSum : (Int32 → yb_S → Option yb_S)) (rc7 : (Int32 → yb_S → Option yb_S)) (x1 : Int32) (x2 : Int32) (s : yb_S) : Option yb_S :=
  if (500 : Int32) ≤ x2 then
    some s
  else
    (f_X9_isNext (43 : Int32) s).bind fun q4 =>
    if q4 = 0 then
      (f_X9_isNext (45 : Int32) s).bind fun q13 =>
      if q13 = 0 then
        some s
      else
        j_X9_readSum_32 r_X9_readFactor r_X9_readProduct r_X9_readSum rc7 x1 x2 s
    else
      j_X9_readSum_32 r_X9_readFactor r_X9_readProduct r_X9_readSum rc7 x1 x2 s
def l_X9_readSum_7 (r_X9_readFactor : (Int32 → yb_S → Option yb_S)) (r_X9_readProduct : (Int32 → yb_S → Option yb_S)) (r_X9_readSum : (Int32 → yb_S → Option yb_S)) (x1 : Int32) (n : Nat) (x2 : Int32) (s : yb_S) : Option yb_S :=
  yb_it (α := Int32 × yb_S) (fun rc q => f_X9_readSum_7 r_X9_readFactor r_X9_readProduct r_X9_readSum (fun x2 s => rc (x2, s)) x1 q.1 q.2) n (x2, s)
def f_X9_readSum (r_X9_readFactor : (Int32 → yb_S → Option yb_S)) (r_X9_readProduct : (Int32 → yb_S → Option yb_S)) (r_X9_readSum : (Int32 → yb_S → Option yb_S)) (a1 : Int32) (s : yb_S) : Option yb_S :=
  (r_X9_readProduct a1 s).bind fun q1 =>
  l_X9_readSum_7 r_X9_readFactor r_X9_readProduct r_X9_readSum a1 yb_N (0 : Int32) q1
def gg_X9_readFactor : Nat → ((Int32 → yb_S → Option yb_S) × (Int32 → yb_S → Option yb_S) × (Int32 → yb_S → Option yb_S))
  | 0 => (fun _ _ => none, fun _ _ => none, fun _ _ => none)
  | n + 1 => (f_X9_readFactor ((gg_X9_readFactor n).1) ((gg_X9_readFactor n).2.1) ((gg_X9_readFactor n).2.2), f_X9_readProduct ((gg_X9_readFactor n).1) ((gg_X9_readFactor n).2.1) ((gg_X9_readFactor n).2.2), f_X9_readSum ((gg_X9_readFactor n).1) ((gg_X9_readFactor n).2.1) ((gg_X9_readFactor n).2.2))
def g_X9_readFactor : (Int32 → yb_S → Option yb_S) := (gg_X9_readFactor 120).1
def g_X9_readProduct : (Int32 → yb_S → Option yb_S) := (gg_X9_readFactor 120).2.1
def g_X9_readSum : (Int32 → yb_S → Option yb_S) := (gg_X9_readFactor 120).2.2
def f_X9_readAny_7 (r_X9_readAny : (Int32 → yb_S → Option yb_S)) (r_X9_readEach : (Int32 → yb_S → Option yb_S)) (r_X9_readHolds : (Int32 → yb_S → Option yb_S)) (rc7 : (Int32 → yb_S → Option yb_S)) (x1 : Int32) (x2 : Int32) (s : yb_S) : Option yb_S :=
  if (500 : Int32) ≤ x2 then
    some s
  else
    (f_X9_isNext (5 : Int32) s).bind fun q4 =>
    if q4 = 0 then
      some s
    else
      (some (yb_pI s 92 11 ((s.1 92 11) + (1 : Int32)))).bind fun s7 =>
      (r_X9_readEach x1 s7).bind fun q8 =>
      (f_X9_put (21 : Int32) q8).bind fun q10 =>
      rc7 (x2 + (1 : Int32)) q10
def l_X9_readAny_7 (r_X9_readAny : (Int32 → yb_S → Option yb_S)) (r_X9_readEach : (Int32 → yb_S → Option yb_S)) (r_X9_readHolds : (Int32 → yb_S → Option yb_S)) (x1 : Int32) (n : Nat) (x2 : Int32) (s : yb_S) : Option yb_S :=
  yb_it (α := Int32 × yb_S) (fun rc q => f_X9_readAny_7 r_X9_readAny r_X9_readEach r_X9_readHolds (fun x2 s => rc (x2, s)) x1 q.1 q.2) n (x2, s)
def f_X9_readAny (r_X9_readAny : (Int32 → yb_S → Option yb_S)) (r_X9_readEach : (Int32 → yb_S → Option yb_S)) (r_X9_readHolds : (Int32 → yb_S → Option yb_S)) (a1 : Int32) (s : yb_S) : Option yb_S :=
  (r_X9_readEach a1 s).bind fun q1 =>
  l_X9_readAny_7 r_X9_readAny r_X9_readEach r_X9_readHolds a1 yb_N (0 : Int32) q1
def f_X9_readEach_7 (r_X9_readAny : (Int32 → yb_S → Option yb_S)) (r_X9_readEach : (Int32 → yb_S → Option yb_S)) (r_X9_readHolds : (Int32 → yb_S → Option yb_S)) (rc7 : (Int32 → yb_S → Option yb_S)) (x1 : Int32) (x2 : Int32) (s : yb_S) : Option yb_S :=
  if (500 : Int32) ≤ x2 then
    some s
  else
    (f_X9_isNext (4 : Int32) s).bind fun q4 =>
    if q4 = 0 then
      some s
    else
      (some (yb_pI s 92 11 ((s.1 92 11) + (1 : Int32)))).bind fun s7 =>
      (r_X9_readHolds x1 s7).bind fun q8 =>
      (f_X9_put (20 : Int32) q8).bind fun q10 =>
      rc7 (x2 + (1 : Int32)) q10
def l_X9_readEach_7 (r_X9_readAny : (Int32 → yb_S → Option yb_S)) (r_X9_readEach : (Int32 → yb_S → Option yb_S)) (r_X9_readHolds : (Int32 → yb_S → Option yb_S)) (x1 : Int32) (n : Nat) (x2 : Int32) (s : yb_S) : Option yb_S :=
  yb_it (α := Int32 × yb_S) (fun rc q => f_X9_readEach_7 r_X9_readAny r_X9_readEach r_X9_readHolds (fun x2 s => rc (x2, s)) x1 q.1 q.2) n (x2, s)
def f_X9_readEach (r_X9_readAny : (Int32 → yb_S → Option yb_S)) (r_X9_readEach : (Int32 → yb_S → Option yb_S)) (r_X9_readHolds : (Int32 → yb_S → Option yb_S)) (a1 : Int32) (s : yb_S) : Option yb_S :=
  (r_X9_readHolds a1 s).bind fun q1 =>
  l_X9_readEach_7 r_X9_readAny r_X9_readEach r_X9_readHolds a1 yb_N (0 : Int32) q1
def j_X9_readHolds_146 (r_X9_readAny : (Int32 → yb_S → Option yb_S)) (r_X9_readEach : (Int32 → yb_S → Option yb_S)) (r_X9_readHolds : (Int32 → yb_S → Option yb_S)) (x1 : Int32) (y0 : Int32) (s : yb_S) : Option yb_S :=
  (f_X9_pass y0 s).bind fun q19 =>
  (g_X9_readSum x1 q19).bind fun q21 =>
  (f_X9_put y0 q21).bind fun q23 =>
  some q23
def j_X9_readHolds_41 (r_X9_readAny : (Int32 → yb_S → Option yb_S)) (r_X9_readEach : (Int32 → yb_S → Option yb_S)) (r_X9_readHolds : (Int32 → yb_S → Option yb_S)) (x1 : Int32) (s : yb_S) : Option yb_S :=
  (f_X9_isNext (6 : Int32) s).bind fun q5 =>
  if q5 = 0 then
    (f_X9_isNext (91 : Int32) s).bind fun q8 =>
    if q8 = 0 then
      (g_X9_readSum x1 s).bind fun q11 =>
      (f_X9_isNext (60 : Int32) q11).bind fun q13 =>
      if q13 = 0 then
        (f_X9_isNext (62 : Int32) q11).bind fun q16 =>
        if q16 = 0 then
          j_X9_readHolds_146 r_X9_readAny r_X9_readEach r_X9_readHolds x1 (61 : Int32) q11
        else
          j_X9_readHolds_146 r_X9_readAny r_X9_readEach r_X9_readHolds x1 (62 : Int32) q11
      else
        j_X9_readHolds_146 r_X9_readAny r_X9_readEach r_X9_readHolds x1 (60 : Int32) q11
    else
      (some (yb_pI s 92 11 ((s.1 92 11) + (1 : Int32)))).bind fun s25 =>
      (r_X9_readAny (x1 + (1 : Int32)) s25).bind fun q26 =>
      (f_X9_pass (93 : Int32) q26).bind fun q28 =>
      some q28
  else
    (some (yb_pI s 92 11 ((s.1 92 11) + (1 : Int32)))).bind fun s30 =>
    (r_X9_readHolds (x1 + (1 : Int32)) s30).bind fun q31 =>
    (f_X9_put (22 : Int32) q31).bind fun q33 =>
    some q33
def j_X9_readHolds_23 (r_X9_readAny : (Int32 → yb_S → Option yb_S)) (r_X9_readEach : (Int32 → yb_S → Option yb_S)) (r_X9_readHolds : (Int32 → yb_S → Option yb_S)) (x1 : Int32) (y0 : Int32) (s : yb_S) : Option yb_S :=
  if y0 = 0 then
    j_X9_readHolds_41 r_X9_readAny r_X9_readEach r_X9_readHolds x1 s
  else
    if x1 < (8 : Int32) then
      j_X9_readHolds_41 r_X9_readAny r_X9_readEach r_X9_readHolds x1 s
    else
      (f_X9_fail s).bind fun q36 =>
      some q36
def j_X9_readHolds_18 (r_X9_readAny : (Int32 → yb_S → Option yb_S)) (r_X9_readEach : (Int32 → yb_S → Option yb_S)) (r_X9_readHolds : (Int32 → yb_S → Option yb_S)) (x1 : Int32) (s : yb_S) : Option yb_S :=
  j_X9_readHolds_23 r_X9_readAny r_X9_readEach r_X9_readHolds x1 (1 : Int32) s
def f_X9_readHolds (r_X9_readAny : (Int32 → yb_S → Option yb_S)) (r_X9_readEach : (Int32 → yb_S → Option yb_S)) (r_X9_readHolds : (Int32 → yb_S → Option yb_S)) (a1 : Int32) (s : yb_S) : Option yb_S :=
  (f_X9_isNext (6 : Int32) s).bind fun q1 =>
  if q1 = 0 then
    (f_X9_isNext (91 : Int32) s).bind fun q38 =>
    if q38 = 0 then
      j_X9_readHolds_23 r_X9_readAny r_X9_readEach r_X9_readHolds a1 (0 : Int32) s
    else
      j_X9_readHolds_18 r_X9_readAny r_X9_readEach r_X9_readHolds a1 s
  else
    j_X9_readHolds_18 r_X9_readAny r_X9_readEach r_X9_readHolds a1 s
def gg_X9_readAny : Nat → ((Int32 → yb_S → Option yb_S) × (Int32 → yb_S → Option yb_S) × (Int32 → yb_S → Option yb_S))
  | 0 => (fun _ _ => none, fun _ _ => none, fun _ _ => none)
  | n + 1 => (f_X9_readAny ((gg_X9_readAny n).1) ((gg_X9_readAny n).2.1) ((gg_X9_readAny n).2.2), f_X9_readEach ((gg_X9_readAny n).1) ((gg_X9_readAny n).2.1) ((gg_X9_readAny n).2.2), f_X9_readHolds ((gg_X9_readAny n).1) ((gg_X9_readAny n).2.1) ((gg_X9_readAny n).2.2))
def g_X9_readAny : (Int32 → yb_S → Option yb_S) := (gg_X9_readAny 120).1
def g_X9_readEach : (Int32 → yb_S → Option yb_S) := (gg_X9_readAny 120).2.1
def g_X9_readHolds : (Int32 → yb_S → Option yb_S) := (gg_X9_readAny 120).2.2
def j_X9_readClause_43 (s : yb_S) : Option yb_S :=
  (yb_rd s 99 501 (s.1 92 11)).bind fun v4 =>
  (some (yb_pI s 92 1 v4)).bind fun s5 =>
  some s5
def j_X9_readClause_100 (x1 : Int32) (s : yb_S) : Option yb_S :=
  (yb_wr s 95 6 x1 (s.1 92 2)).bind fun s15 =>
  (f_X9_pass (59 : Int32) s15).bind fun q16 =>
  some q16
def j_X9_readClause_87 (x1 : Int32) (s : yb_S) : Option yb_S :=
  (g_X9_readAny (0 : Int32) s).bind fun q13 =>
  j_X9_readClause_100 x1 q13
def f_X9_readClause (s : yb_S) : Option yb_S :=
  (yb_rd s 98 501 (s.1 92 11)).bind fun v1 =>
  (yb_rd s 97 501 (s.1 92 11)).bind fun v2 =>
  if v2 = (3 : Int32) then
    if v1 < 0 then
      j_X9_readClause_43 s
    else
      if (6 : Int32) ≤ v1 then
        j_X9_readClause_43 s
      else
        (yb_rd s 94 6 v1).bind fun v8 =>
        if v8 = (-1 : Int32) then
          (yb_wr s 94 6 v1 (s.1 92 2)).bind fun s10 =>
          (some (yb_pI s10 92 11 ((s10.1 92 11) + (1 : Int32)))).bind fun s11 =>
          if v1 = (4 : Int32) then
            j_X9_readClause_87 v1 s11
          else
            if v1 = (5 : Int32) then
              j_X9_readClause_87 v1 s11
            else
              (g_X9_readSum (0 : Int32) s11).bind fun q19 =>
              j_X9_readClause_100 v1 q19
        else
          j_X9_readClause_43 s
  else
    j_X9_readClause_43 s
def f_X9_parse_49 (rc49 : (Int32 → yb_S → Option yb_S)) (x1 : Int32) (s : yb_S) : Option yb_S :=
  if (6 : Int32) < x1 then
    some s
  else
    if (s.1 92 1) = (-1 : Int32) then
      (yb_rd s 97 501 (s.1 92 11)).bind fun v9 =>
      if v9 = 0 then
        some s
      else
        (f_X9_readClause s).bind fun q11 =>
        rc49 (x1 + (1 : Int32)) q11
    else
      some s
def l_X9_parse_49 (n : Nat) (x1 : Int32) (s : yb_S) : Option yb_S :=
  yb_it (α := Int32 × yb_S) (fun rc q => f_X9_parse_49 (fun x1 s => rc (x1, s)) q.1 q.2) n (x1, s)
def f_X9_parse_21 (rc21 : (Int32 → yb_S → Option yb_S)) (x1 : Int32) (s : yb_S) : Option yb_S :=
  if (6 : Int32) ≤ x1 then
    l_X9_parse_49 yb_N (0 : Int32) s
  else
    (yb_wr s 94 6 x1 (-1 : Int32)).bind fun s13 =>
    (yb_wr s13 95 6 x1 (-1 : Int32)).bind fun s14 =>
    rc21 (x1 + (1 : Int32)) s14
def l_X9_parse_21 (n : Nat) (x1 : Int32) (s : yb_S) : Option yb_S :=
  yb_it (α := Int32 × yb_S) (fun rc q => f_X9_parse_21 (fun x1 s => rc (x1, s)) q.1 q.2) n (x1, s)
def f_X9_parse (s : yb_S) : Option yb_S :=
  (f_X9_splitTokens s).bind fun q1 =>
  (some (yb_pI q1 92 1 (-1 : Int32))).bind fun s3 =>
  (some (yb_pI s3 92 2 (0 : Int32))).bind fun s4 =>
  (some (yb_pI s4 92 11 (0 : Int32))).bind fun s5 =>
  l_X9_parse_21 yb_N (0 : Int32) s5
def f_X11_fault (s : yb_S) : Option (Int32 × yb_S) :=
  (f_X9_parse s).bind fun q1 =>
  some ((q1.1 92 1), q1)
def f_X9_hasRoomFor (a1 : Int32) (s : yb_S) : Option Int32 :=
  if (500 : Int32) < ((s.1 92 0) + a1) then
    some (0 : Int32)
  else
    some (1 : Int32)
def f_X9_addNumber_3 (rc3 : (Int32 → yb_S → Option yb_S)) (x1 : Int32) (x2 : Int32) (s : yb_S) : Option yb_S :=
  if x2 < 0 then
    some s
  else
    if (500 : Int32) ≤ (s.1 92 0) then
      some s
    else
      (yb_wr s 96 500 (s.1 92 0) ((x1.toUInt32 >>> (x2.toUInt32 &&& Int32.toUInt32 31)).toInt32 &&& (255 : Int32))).bind fun s3 =>
      (some (yb_pI s3 92 0 ((s3.1 92 0) + (1 : Int32)))).bind fun s4 =>
      rc3 (x2 + (-8 : Int32)) s4
def l_X9_addNumber_3 (x1 : Int32) (n : Nat) (x2 : Int32) (s : yb_S) : Option yb_S :=
  yb_it (α := Int32 × yb_S) (fun rc q => f_X9_addNumber_3 (fun x2 s => rc (x2, s)) x1 q.1 q.2) n (x2, s)
def f_X9_addNumber (a1 : Int32) (s : yb_S) : Option yb_S :=
  l_X9_addNumber_3 a1 yb_N (24 : Int32) s
def f_X11_feed (a1 : Int32) (a2 : Int32) (a3 : Int32) (a4 : Int32) (a5 : Int32) (s : yb_S) : Option (Int32 × yb_S) :=
  (f_X9_hasRoomFor (20 : Int32) s).bind fun q1 =>
  if q1 = 0 then
    some ((-1 : Int32), s)
  else
    (f_X9_addNumber a1 s).bind fun q4 =>
    (f_X9_addNumber a2 q4).bind fun q6 =>
    (f_X9_addNumber a3 q6).bind fun q8 =>
    (f_X9_addNumber a4 q8).bind fun q10 =>
    (f_X9_addNumber a5 q10).bind fun q12 =>
    some ((q12.1 92 0), q12)
def j_X7_familiesOf_43 (rc4 : (Int32 → Int32 → Option Int32)) (x1 : Int32) (x2 : Int32) (x3 : Int32) (s : yb_S) : Option Int32 :=
  rc4 x2 (x3 + (1 : Int32))
def f_X7_familiesOf_4 (rc4 : (Int32 → Int32 → Option Int32)) (x1 : Int32) (s : yb_S) (x2 : Int32) (x3 : Int32) : Option Int32 :=
  if (s.1 41 0) ≤ x3 then
    some x2
  else
    (yb_rd s 48 60 x3).bind fun v2 =>
    if v2 = x1 then
      (yb_rd s 47 60 x3).bind fun v4 =>
      if v4 = (-1 : Int32) then
        j_X7_familiesOf_43 rc4 x1 x2 x3 s
      else
        (yb_rd s 47 60 x3).bind fun v6 =>
        j_X7_familiesOf_43 rc4 x1 (x2 ||| ((1 : Int32) <<< (v6 &&& 31))) x3 s
    else
      j_X7_familiesOf_43 rc4 x1 x2 x3 s
def l_X7_familiesOf_4 (x1 : Int32) (s : yb_S) (n : Nat) (x2 : Int32) (x3 : Int32) : Option Int32 :=
  yb_it (α := Int32 × Int32) (fun rc q => f_X7_familiesOf_4 (fun x2 x3 => rc (x2, x3)) x1 s q.1 q.2) n (x2, x3)
def f_X7_familiesOf (a1 : Int32) (s : yb_S) : Option Int32 :=
  l_X7_familiesOf_4 a1 s yb_N (0 : Int32) (0 : Int32)
def j_X7_howSurely_99 (rc5 : (Int32 → Int32 → Option Int32)) (x1 : Int32) (x2 : Int32) (x3 : Int32) (x4 : Int32) (s : yb_S) : Option Int32 :=
  rc5 x3 (x4 + (1 : Int32))
def j_X7_howSurely_93 (rc5 : (Int32 → Int32 → Option Int32)) (rc17 : (Int32 → Int32 → Option Int32)) (x1 : Int32) (x2 : Int32) (x3 : Int32) (x4 : Int32) (x5 : Int32) (s : yb_S) : Option Int32 :=
  rc17 x3 (x5 + (1 : Int32))
def f_X7_howSurely_17 (rc5 : (Int32 → Int32 → Option Int32)) (rc17 : (Int32 → Int32 → Option Int32)) (x1 : Int32) (x2 : Int32) (x4 : Int32) (s : yb_S) (x3 : Int32) (x5 : Int32) : Option Int32 :=
  if (s.1 41 0) ≤ x5 then
    j_X7_howSurely_99 rc5 x1 x2 x3 x4 s
  else
    (yb_rd s 49 40 x4).bind fun v3 =>
    if v3 = x1 then
      (yb_rd s 50 40 x4).bind fun v5 =>
      (yb_rd s 51 40 x4).bind fun v6 =>
      (f_X7_points x5 v5 v6 s).bind fun q7 =>
      if q7 < (5 : Int32) then
        j_X7_howSurely_93 rc5 rc17 x1 x2 x3 x4 x5 s
      else
        if q7 ≤ x3 then
          j_X7_howSurely_93 rc5 rc17 x1 x2 x3 x4 x5 s
        else
          (yb_rd s 48 60 x5).bind fun v11 =>
          (f_X7_familiesOf v11 s).bind fun q12 =>
          if ((q12 >>> (x2 &&& 31)) &&& (1 : Int32)) = (1 : Int32) then
            j_X7_howSurely_93 rc5 rc17 x1 x2 q7 x4 x5 s
          else
            j_X7_howSurely_93 rc5 rc17 x1 x2 x3 x4 x5 s
    else
      j_X7_howSurely_99 rc5 x1 x2 x3 x4 s
def l_X7_howSurely_17 (rc5 : (Int32 → Int32 → Option Int32)) (x1 : Int32) (x2 : Int32) (x4 : Int32) (s : yb_S) (n : Nat) (x3 : Int32) (x5 : Int32) : Option Int32 :=
  yb_it (α := Int32 × Int32) (fun rc q => f_X7_howSurely_17 rc5 (fun x3 x5 => rc (x3, x5)) x1 x2 x4 s q.1 q.2) n (x3, x5)
def f_X7_howSurely_5 (rc5 : (Int32 → Int32 → Option Int32)) (x1 : Int32) (x2 : Int32) (s : yb_S) (x3 : Int32) (x4 : Int32) : Option Int32 :=
  if (s.1 41 8) ≤ x4 then
    some x3
  else
    l_X7_howSurely_17 rc5 x1 x2 x4 s yb_N x3 (0 : Int32)
def l_X7_howSurely_5 (x1 : Int32) (x2 : Int32) (s : yb_S) (n : Nat) (x3 : Int32) (x4 : Int32) : Option Int32 :=
  yb_it (α := Int32 × Int32) (fun rc q => f_X7_howSurely_5 (fun x3 x4 => rc (x3, x4)) x1 x2 s q.1 q.2) n (x3, x4)
def f_X7_howSurely (a1 : Int32) (a2 : Int32) (s : yb_S) : Option Int32 :=
  l_X7_howSurely_5 a1 a2 s yb_N (-1 : Int32) (0 : Int32)
def f_X11_finds (a1 : Int32) (a2 : Int32) (s : yb_S) : Option Int32 :=
  (f_X2_has a1 s).bind fun q1 =>
  if q1 = 0 then
    some (-1 : Int32)
  else
    (f_X2_has a2 s).bind fun q4 =>
    if q4 = 0 then
      some (-1 : Int32)
    else
      if a1 = a2 then
        some (-1 : Int32)
      else
        (f_X7_howSurely a1 a2 s).bind fun q8 =>
        some q8
def f_X3_addBeds (a1 : Int32) (a2 : Int32) (s : yb_S) : Option (Int32 × yb_S) :=
  if (s.1 172 1) < (40 : Int32) then
    (yb_rd s 175 201 a1).bind fun v2 =>
    (yb_wr s 175 201 a1 (v2 + a2)).bind fun s3 =>
    (some (yb_pI s3 172 1 ((s3.1 172 1) + (1 : Int32)))).bind fun s4 =>
    some ((s4.1 172 1), s4)
  else
    some ((-1 : Int32), s)
def f_X11_foretell (a1 : Int32) (a2 : Int32) (s : yb_S) : Option (Int32 × yb_S) :=
  (f_X11_isAhead a1 s).bind fun q1 =>
  if q1 = 0 then
    some ((-1 : Int32), s)
  else
    if a2 < (-100 : Int32) then
      some ((-1 : Int32), s)
    else
      if a2 ≤ (100 : Int32) then
        (f_X3_addBeds a1 a2 s).bind fun q6 =>
        some (q6.1, q6.2)
      else
        some ((-1 : Int32), s)
def f_X11_full (a1 : Int32) (a2 : Int32) (s : yb_S) : Option (Int32 × yb_S) :=
  (f_X10_has a1 s).bind fun q1 =>
  if q1 = 0 then
    some ((0 : Int32), s)
  else
    (yb_rd s 7 8 a1).bind fun v4 =>
    if v4 = a2 then
      some ((0 : Int32), s)
    else
      (yb_wr s 7 8 a1 (vp_nar .boolean a2)).bind fun s6 =>
      some ((1 : Int32), s6)
def j_X11_go_42 (s : yb_S) : Option (Int32 × yb_S) :=
  some ((s.1 1 5), s)
def f_X11_go_14 (rc14 : (Int32 → yb_S → Option (Int32 × yb_S))) (x1 : Int32) (x2 : Int32) (s : yb_S) : Option (Int32 × yb_S) :=
  if x1 ≤ x2 then
    j_X11_go_42 s
  else
    if (200 : Int32) ≤ (s.1 1 5) then
      j_X11_go_42 s
    else
      (f_X11_closeDay s).bind fun q5 =>
      rc14 (x2 + (1 : Int32)) q5
def l_X11_go_14 (x1 : Int32) (n : Nat) (x2 : Int32) (s : yb_S) : Option (Int32 × yb_S) :=
  yb_it (α := Int32 × yb_S) (fun rc q => f_X11_go_14 (fun x2 s => rc (x2, s)) x1 q.1 q.2) n (x2, s)
def f_X11_go (a1 : Int32) (s : yb_S) : Option (Int32 × yb_S) :=
  if a1 < 0 then
    some ((-1 : Int32), s)
  else
    if a1 ≤ (40 : Int32) then
      l_X11_go_14 a1 yb_N (0 : Int32) s
    else
      some ((-1 : Int32), s)
def f_X4_add (a1 : Int32) (a2 : Int32) (a3 : Int32) (s : yb_S) : Option (Int32 × yb_S) :=
  if (s.1 13 0) < (24 : Int32) then
    (yb_wr s 14 24 (s.1 13 0) a1).bind fun s2 =>
    (yb_wr s2 15 24 (s2.1 13 0) (a2 / (100 : Int32))).bind fun s3 =>
    (yb_wr s3 16 24 (s3.1 13 0) (yb_rem (a2 / (10 : Int32)) (10 : Int32))).bind fun s4 =>
    (yb_wr s4 17 24 (s4.1 13 0) (yb_rem a2 (10 : Int32))).bind fun s5 =>
    (yb_wr s5 18 24 (s5.1 13 0) (a3 / (1000 : Int32))).bind fun s6 =>
    (yb_wr s6 19 24 (s6.1 13 0) (yb_rem a3 (1000 : Int32))).bind fun s7 =>
    (yb_wr s7 20 24 (s7.1 13 0) (-1 : Int32)).bind fun s8 =>
    (some (yb_pI s8 13 0 ((s8.1 13 0) + (1 : Int32)))).bind fun s9 =>
    some (((s9.1 13 0) - (1 : Int32)), s9)
  else
    some ((-1 : Int32), s)
def f_X11_home (a1 : Int32) (a2 : Int32) (a3 : Int32) (s : yb_S) : Option (Int32 × yb_S) :=
  (f_X10_has a1 s).bind fun q1 =>
  if q1 = 0 then
    some ((-1 : Int32), s)
  else
    (f_X11_canBeHome a2 s).bind fun q4 =>
    if q4 = 0 then
      some ((-1 : Int32), s)
    else
      (f_X11_canBeDays a3 s).bind fun q7 =>
      if q7 = 0 then
        some ((-1 : Int32), s)
      else
        (f_X4_add a1 a2 a3 s).bind fun q10 =>
        if q10.1 = (-1 : Int32) then
          some (q10.1, q10.2)
        else
          (yb_rd q10.2 8 8 a1).bind fun v13 =>
          (yb_wr q10.2 8 8 a1 (v13 + (a2 / (100 : Int32)))).bind fun s14 =>
          some (q10.1, s14)
def f_X11_is (a1 : Int32) (a2 : Int32) (s : yb_S) : Option (Int32 × yb_S) :=
  (f_X10_has a1 s).bind fun q1 =>
  if q1 = 0 then
    some ((-1 : Int32), s)
  else
    if a2 = (0 : Int32) then
      (yb_rd s 3 8 a1).bind fun v10 =>
      some (v10, s)
    else
      if a2 = (1 : Int32) then
        (yb_rd s 9 8 a1).bind fun v11 =>
        some (v11, s)
      else
        if a2 = (2 : Int32) then
          (yb_rd s 5 8 a1).bind fun v12 =>
          (yb_rd s 10 8 a1).bind fun v13 =>
          some ((v12 - v13), s)
        else
          if a2 = (3 : Int32) then
            (yb_rl s 12 8 a1).bind fun v14 =>
            some (((yb_minl (2000000000 : Int64) v14).toInt32), s)
          else
            if a2 = (4 : Int32) then
              (yb_rd s 7 8 a1).bind fun v15 =>
              if v15 = 0 then
                some ((0 : Int32), s)
              else
                some ((1 : Int32), s)
            else
              if a2 = (5 : Int32) then
                (f_X8_lackOf a1 s).bind fun q17 =>
                some ((yb_max (0 : Int32) q17.1), q17.2)
              else
                some ((-1 : Int32), s)
def j_X7_canBeOneHeap_55 (rc2 : (Int32 → Option Int32)) (rc13 : (Int32 → Option Int32)) (x1 : Int32) (x2 : Int32) (x3 : Int32) (x4 : Int32) (s : yb_S) : Option Int32 :=
  rc13 (x4 + (1 : Int32))
def f_X7_canBeOneHeap_13 (rc2 : (Int32 → Option Int32)) (rc13 : (Int32 → Option Int32)) (x1 : Int32) (x2 : Int32) (x3 : Int32) (s : yb_S) (x4 : Int32) : Option Int32 :=
  if (s.1 41 0) ≤ x4 then
    rc2 (x3 + (1 : Int32))
  else
    (yb_rd s 48 60 x3).bind fun v3 =>
    if v3 = x1 then
      (yb_rd s 48 60 x4).bind fun v5 =>
      if v5 = x2 then
        (f_X7_canBeAlike x3 x4 s).bind fun q7 =>
        if q7 = 0 then
          some (0 : Int32)
        else
          j_X7_canBeOneHeap_55 rc2 rc13 x1 x2 x3 x4 s
      else
        j_X7_canBeOneHeap_55 rc2 rc13 x1 x2 x3 x4 s
    else
      j_X7_canBeOneHeap_55 rc2 rc13 x1 x2 x3 x4 s
def l_X7_canBeOneHeap_13 (rc2 : (Int32 → Option Int32)) (x1 : Int32) (x2 : Int32) (x3 : Int32) (s : yb_S) (n : Nat) (x4 : Int32) : Option Int32 :=
  yb_it (α := Int32) (fun rc q => f_X7_canBeOneHeap_13 rc2 (fun x4 => rc x4) x1 x2 x3 s q) n x4
def f_X7_canBeOneHeap_2 (rc2 : (Int32 → Option Int32)) (x1 : Int32) (x2 : Int32) (s : yb_S) (x3 : Int32) : Option Int32 :=
  if (s.1 41 0) ≤ x3 then
    some (1 : Int32)
  else
    l_X7_canBeOneHeap_13 rc2 x1 x2 x3 s yb_N (0 : Int32)
def l_X7_canBeOneHeap_2 (x1 : Int32) (x2 : Int32) (s : yb_S) (n : Nat) (x3 : Int32) : Option Int32 :=
  yb_it (α := Int32) (fun rc q => f_X7_canBeOneHeap_2 (fun x3 => rc x3) x1 x2 s q) n x3
def f_X7_canBeOneHeap (a1 : Int32) (a2 : Int32) (s : yb_S) : Option Int32 :=
  l_X7_canBeOneHeap_2 a1 a2 s yb_N (0 : Int32)
def j_X7_noteIfFound_103 (rc72 : (Int32 → yb_S → Option yb_S)) (x3 : Int32) (x4 : Int32) (x5 : Int32) (s : yb_S) : Option yb_S :=
  rc72 (x5 + (1 : Int32)) s
def f_X7_noteIfFound_72 (rc72 : (Int32 → yb_S → Option yb_S)) (x3 : Int32) (x4 : Int32) (x5 : Int32) (s : yb_S) : Option yb_S :=
  if (24 : Int32) ≤ x5 then
    some s
  else
    if ((x4 >>> (x5 &&& 31)) &&& (1 : Int32)) = (1 : Int32) then
      (yb_rd s 53 24 x5).bind fun v16 =>
      (yb_wr s 53 24 x5 (v16 ||| ((1 : Int32) <<< (x3 &&& 31)))).bind fun s17 =>
      j_X7_noteIfFound_103 rc72 x3 x4 x5 s17
    else
      j_X7_noteIfFound_103 rc72 x3 x4 x5 s
def l_X7_noteIfFound_72 (x3 : Int32) (x4 : Int32) (n : Nat) (x5 : Int32) (s : yb_S) : Option yb_S :=
  yb_it (α := Int32 × yb_S) (fun rc q => f_X7_noteIfFound_72 (fun x5 s => rc (x5, s)) x3 x4 q.1 q.2) n (x5, s)
def f_X7_noteIfFound (a1 : Int32) (a2 : Int32) (s : yb_S) : Option yb_S :=
  (yb_rd s 50 40 a1).bind fun v1 =>
  (yb_rd s 51 40 a1).bind fun v2 =>
  (f_X7_points a2 v1 v2 s).bind fun q3 =>
  if (5 : Int32) ≤ q3 then
    (yb_rd s 49 40 a1).bind fun v6 =>
    (yb_rd s 48 60 a2).bind fun v7 =>
    (f_X7_familiesOf v7 s).bind fun q8 =>
    (yb_rd s 52 24 v6).bind fun v10 =>
    (yb_wr s 52 24 v6 (v10 ||| (q8 &&& (((1 : Int32) <<< (v6 &&& 31)) ^^^ (-1 : Int32))))).bind fun s11 =>
    (yb_rd s11 53 24 v6).bind fun v12 =>
    (yb_wr s11 53 24 v6 (v12 ||| (q8 &&& (((1 : Int32) <<< (v6 &&& 31)) ^^^ (-1 : Int32))))).bind fun s13 =>
    l_X7_noteIfFound_72 v6 (q8 &&& (((1 : Int32) <<< (v6 &&& 31)) ^^^ (-1 : Int32))) yb_N (0 : Int32) s13
  else
    some s
def f_X7_noteFinding_2 (rc2 : (Int32 → yb_S → Option yb_S)) (x1 : Int32) (x2 : Int32) (s : yb_S) : Option yb_S :=
  if (s.1 41 8) ≤ x2 then
    some s
  else
    (f_X7_noteIfFound x2 x1 s).bind fun q2 =>
    rc2 (x2 + (1 : Int32)) q2
def l_X7_noteFinding_2 (x1 : Int32) (n : Nat) (x2 : Int32) (s : yb_S) : Option yb_S :=
  yb_it (α := Int32 × yb_S) (fun rc q => f_X7_noteFinding_2 (fun x2 s => rc (x2, s)) x1 q.1 q.2) n (x2, s)
def f_X7_noteFinding (a1 : Int32) (s : yb_S) : Option yb_S :=
  l_X7_noteFinding_2 a1 yb_N (0 : Int32) s
def j_X7_joinHeaps_151 (rc125 : (Int32 → yb_S → Option (Int32 × yb_S))) (x3 : Int32) (x5 : Int32) (x6 : Int32) (s : yb_S) : Option (Int32 × yb_S) :=
  rc125 (x6 + (1 : Int32)) s
def f_X7_joinHeaps_125 (rc125 : (Int32 → yb_S → Option (Int32 × yb_S))) (x3 : Int32) (x5 : Int32) (x6 : Int32) (s : yb_S) : Option (Int32 × yb_S) :=
  if (s.1 41 0) ≤ x6 then
    some (x5, s)
  else
    (yb_rd s 48 60 x6).bind fun v19 =>
    if v19 = x3 then
      (f_X7_noteFinding x6 s).bind fun q21 =>
      j_X7_joinHeaps_151 rc125 x3 x5 x6 q21
    else
      j_X7_joinHeaps_151 rc125 x3 x5 x6 s
def l_X7_joinHeaps_125 (x3 : Int32) (x5 : Int32) (n : Nat) (x6 : Int32) (s : yb_S) : Option (Int32 × yb_S) :=
  yb_it (α := Int32 × yb_S) (fun rc q => f_X7_joinHeaps_125 (fun x6 s => rc (x6, s)) x3 x5 q.1 q.2) n (x6, s)
def j_X7_joinHeaps_116 (rc73 : (Int32 → Int32 → yb_S → Option (Int32 × yb_S))) (x3 : Int32) (x4 : Int32) (x5 : Int32) (x6 : Int32) (s : yb_S) : Option (Int32 × yb_S) :=
  rc73 x5 (x6 + (1 : Int32)) s
def j_X7_joinHeaps_102 (rc73 : (Int32 → Int32 → yb_S → Option (Int32 × yb_S))) (x3 : Int32) (x4 : Int32) (x5 : Int32) (x6 : Int32) (s : yb_S) : Option (Int32 × yb_S) :=
  (yb_rd s 48 60 x6).bind fun v25 =>
  if v25 = x3 then
    j_X7_joinHeaps_116 rc73 x3 x4 (x5 + (1 : Int32)) x6 s
  else
    j_X7_joinHeaps_116 rc73 x3 x4 x5 x6 s
def f_X7_joinHeaps_73 (rc73 : (Int32 → Int32 → yb_S → Option (Int32 × yb_S))) (x3 : Int32) (x4 : Int32) (x5 : Int32) (x6 : Int32) (s : yb_S) : Option (Int32 × yb_S) :=
  if (s.1 41 0) ≤ x6 then
    l_X7_joinHeaps_125 x3 x5 yb_N (0 : Int32) s
  else
    (yb_rd s 48 60 x6).bind fun v23 =>
    if v23 = x4 then
      (yb_wr s 48 60 x6 x3).bind fun s27 =>
      j_X7_joinHeaps_102 rc73 x3 x4 x5 x6 s27
    else
      j_X7_joinHeaps_102 rc73 x3 x4 x5 x6 s
def l_X7_joinHeaps_73 (x3 : Int32) (x4 : Int32) (n : Nat) (x5 : Int32) (x6 : Int32) (s : yb_S) : Option (Int32 × yb_S) :=
  yb_it (α := Int32 × Int32 × yb_S) (fun rc q => f_X7_joinHeaps_73 (fun x5 x6 s => rc (x5, x6, s)) x3 x4 q.1 q.2.1 q.2.2) n (x5, x6, s)
def f_X7_joinHeaps (a1 : Int32) (a2 : Int32) (s : yb_S) : Option (Int32 × yb_S) :=
  (f_X7_has a1 s).bind fun q1 =>
  if q1 = 0 then
    some ((-1 : Int32), s)
  else
    (f_X7_has a2 s).bind fun q4 =>
    if q4 = 0 then
      some ((-1 : Int32), s)
    else
      (yb_rd s 48 60 a1).bind fun v7 =>
      (yb_rd s 48 60 a2).bind fun v8 =>
      if v7 = v8 then
        some ((-1 : Int32), s)
      else
        (yb_rd s 48 60 a1).bind fun v10 =>
        (yb_rd s 48 60 a2).bind fun v11 =>
        (f_X7_canBeOneHeap v10 v11 s).bind fun q12 =>
        if q12 = 0 then
          some ((-1 : Int32), s)
        else
          (yb_rd s 48 60 a1).bind fun v15 =>
          (yb_rd s 48 60 a2).bind fun v16 =>
          l_X7_joinHeaps_73 v15 v16 yb_N (0 : Int32) (0 : Int32) s
def f_X11_join (a1 : Int32) (a2 : Int32) (s : yb_S) : Option (Int32 × yb_S) :=
  (f_X7_joinHeaps a1 a2 s).bind fun q1 =>
  some (q1.1, q1.2)
def f_X11_kin (a1 : Int32) (s : yb_S) : Option Int32 :=
  (f_X2_has a1 s).bind fun q1 =>
  if q1 = 0 then
    some (-1 : Int32)
  else
    (yb_rd s 53 24 a1).bind fun v4 =>
    some v4
def f_X11_lack (a1 : Int32) (s : yb_S) : Option (Int32 × yb_S) :=
  (f_X10_has a1 s).bind fun q1 =>
  if q1 = 0 then
    some ((-2147483648 : Int32), s)
  else
    (f_X8_lackOf a1 s).bind fun q4 =>
    some (q4.1, q4.2)
def j_X0_lodgerOf_21_39 (rc3 : (Int32 → Option Int32)) (x1 : Int32) (x2 : Int32) (x4 : Int32) (s : yb_S) : Option Int32 :=
  rc3 (x4 + (1 : Int32))
def f_X0_lodgerOf_21_3 (rc3 : (Int32 → Option Int32)) (x1 : Int32) (x2 : Int32) (s : yb_S) (x4 : Int32) : Option Int32 :=
  if (s.1 21 0) ≤ x4 then
    some (-1 : Int32)
  else
    (yb_rd s 32 24 x4).bind fun v2 =>
    if x2 < v2 then
      j_X0_lodgerOf_21_39 rc3 x1 x2 x4 s
    else
      (yb_ri 139 1 24 x4).bind fun r4 =>
      (yb_rd s r4 200 x2).bind fun v5 =>
      if v5 = x1 then
        some x4
      else
        j_X0_lodgerOf_21_39 rc3 x1 x2 x4 s
def l_X0_lodgerOf_21_3 (x1 : Int32) (x2 : Int32) (s : yb_S) (n : Nat) (x4 : Int32) : Option Int32 :=
  yb_it (α := Int32) (fun rc q => f_X0_lodgerOf_21_3 (fun x4 => rc x4) x1 x2 s q) n x4
def f_X0_lodgerOf_21 (a1 : Int32) (a2 : Int32) (s : yb_S) : Option Int32 :=
  l_X0_lodgerOf_21_3 a1 a2 s yb_N (0 : Int32)
def f_X11_lead (a1 : Int32) (a2 : Int32) (s : yb_S) : Option Int32 :=
  (f_X4_has a1 s).bind fun q1 =>
  if q1 = 0 then
    some (-1 : Int32)
  else
    (f_X11_hasEnded a2 s).bind fun q4 =>
    if q4 = 0 then
      some (-1 : Int32)
    else
      (f_X0_lodgerOf_21 a1 a2 s).bind fun q7 =>
      some q7
def f_X11_leave (a1 : Int32) (s : yb_S) : Option (Int32 × yb_S) :=
  (f_X8_isHere a1 s).bind fun q1 =>
  if q1 = 0 then
    some ((0 : Int32), s)
  else
    (f_X8_unsettle a1 s).bind fun q4 =>
    (yb_wr q4 28 24 a1 (2 : Int32)).bind fun s6 =>
    (yb_rd s6 22 24 a1).bind fun v7 =>
    (some (yb_pI s6 1 7 ((s6.1 1 7) - v7))).bind fun s8 =>
    some ((1 : Int32), s8)
def j_X7_matchOf_59 (rc7 : (Int32 → Int32 → Int32 → Option Int32)) (x1 : Int32) (x2 : Int32) (x3 : Int32) (x4 : Int32) (s : yb_S) : Option Int32 :=
  rc7 x2 x3 (x4 + (1 : Int32))
def f_X7_matchOf_7 (rc7 : (Int32 → Int32 → Int32 → Option Int32)) (x1 : Int32) (s : yb_S) (x2 : Int32) (x3 : Int32) (x4 : Int32) : Option Int32 :=
  if (s.1 41 0) ≤ x4 then
    some x2
  else
    (f_X7_canBeAlike x1 x4 s).bind fun q2 =>
    if q2 = 0 then
      j_X7_matchOf_59 rc7 x1 x2 x3 x4 s
    else
      (yb_rd s 43 60 x4).bind fun v5 =>
      (yb_rd s 44 60 x4).bind fun v6 =>
      (f_X7_points x1 v5 v6 s).bind fun q7 =>
      if q7 ≤ x3 then
        j_X7_matchOf_59 rc7 x1 x2 x3 x4 s
      else
        j_X7_matchOf_59 rc7 x1 x4 q7 x4 s
def l_X7_matchOf_7 (x1 : Int32) (s : yb_S) (n : Nat) (x2 : Int32) (x3 : Int32) (x4 : Int32) : Option Int32 :=
  yb_it (α := Int32 × Int32 × Int32) (fun rc q => f_X7_matchOf_7 (fun x2 x3 x4 => rc (x2, x3, x4)) x1 s q.1 q.2.1 q.2.2) n (x2, x3, x4)
def f_X7_matchOf (a1 : Int32) (s : yb_S) : Option Int32 :=
  l_X7_matchOf_7 a1 s yb_N (-1 : Int32) (3 : Int32) (0 : Int32)
def f_X11_match (a1 : Int32) (s : yb_S) : Option Int32 :=
  (f_X7_matchOf a1 s).bind fun q1 =>
  some q1
def j_X8_brokenBy_36 (x1 : Int32) (x2 : Int32) (x3 : Int32) (x4 : Int32) (s : yb_S) : Option Int32 :=
  (yb_rd s 26 24 x1).bind fun v4 =>
  (f_X10_wants x3 v4 s).bind fun q5 =>
  if q5 = 0 then
    some x4
  else
    (yb_rd s 26 24 x1).bind fun v8 =>
    (f_X10_wants x2 v8 s).bind fun q9 =>
    if q9 = 0 then
      some (x4 ||| (2 : Int32))
    else
      some x4
def f_X8_brokenBy (a1 : Int32) (a2 : Int32) (s : yb_S) : Option Int32 :=
  (yb_rd s 30 24 a1).bind fun v1 =>
  (yb_rd s 23 24 a1).bind fun v2 =>
  if v2 ≤ 0 then
    j_X8_brokenBy_36 a1 a2 v1 (0 : Int32) s
  else
    if a2 = v1 then
      j_X8_brokenBy_36 a1 a2 v1 (0 : Int32) s
    else
      j_X8_brokenBy_36 a1 a2 v1 ((0 : Int32) ||| (1 : Int32)) s
def f_X11_move (a1 : Int32) (a2 : Int32) (s : yb_S) : Option (Int32 × yb_S) :=
  (f_X8_isIn a1 (1 : Int32) s).bind fun q1 =>
  if q1 = 0 then
    some ((-1 : Int32), s)
  else
    if a2 = (-1 : Int32) then
      (f_X8_brokenBy a1 (-1 : Int32) s).bind fun q20 =>
      (f_X8_unsettle a1 s).bind fun q22 =>
      some (q20, q22)
    else
      (f_X4_has a2 s).bind fun q5 =>
      if q5 = 0 then
        some ((-1 : Int32), s)
      else
        (yb_rd s 29 24 a1).bind fun v8 =>
        if v8 = a2 then
          some ((-1 : Int32), s)
        else
          (f_X8_barOf a1 a2 s).bind fun q10 =>
          if q10.1 = 0 then
            (yb_rd q10.2 14 24 a2).bind fun v13 =>
            (f_X8_brokenBy a1 v13 q10.2).bind fun q14 =>
            (f_X8_unsettle a1 q10.2).bind fun q16 =>
            (f_X8_settle a1 a2 q16).bind fun q18 =>
            some (q14, q18)
          else
            some ((-1 : Int32), q10.2)
def j_X7_mutualOf_44 (rc4 : (Int32 → Int32 → Option Int32)) (x1 : Int32) (x2 : Int32) (x3 : Int32) (s : yb_S) : Option Int32 :=
  rc4 x2 (x3 + (1 : Int32))
def f_X7_mutualOf_4 (rc4 : (Int32 → Int32 → Option Int32)) (x1 : Int32) (s : yb_S) (x2 : Int32) (x3 : Int32) : Option Int32 :=
  if (24 : Int32) ≤ x3 then
    some x2
  else
    (yb_rd s 52 24 x1).bind fun v2 =>
    if ((v2 >>> (x3 &&& 31)) &&& (1 : Int32)) = (1 : Int32) then
      (yb_rd s 52 24 x3).bind fun v4 =>
      if ((v4 >>> (x1 &&& 31)) &&& (1 : Int32)) = (1 : Int32) then
        j_X7_mutualOf_44 rc4 x1 (x2 ||| ((1 : Int32) <<< (x3 &&& 31))) x3 s
      else
        j_X7_mutualOf_44 rc4 x1 x2 x3 s
    else
      j_X7_mutualOf_44 rc4 x1 x2 x3 s
def l_X7_mutualOf_4 (x1 : Int32) (s : yb_S) (n : Nat) (x2 : Int32) (x3 : Int32) : Option Int32 :=
  yb_it (α := Int32 × Int32) (fun rc q => f_X7_mutualOf_4 (fun x2 x3 => rc (x2, x3)) x1 s q.1 q.2) n (x2, x3)
def f_X7_mutualOf (a1 : Int32) (s : yb_S) : Option Int32 :=
  l_X7_mutualOf_4 a1 s yb_N (0 : Int32) (0 : Int32)
def f_X11_mutual (a1 : Int32) (s : yb_S) : Option Int32 :=
  (f_X2_has a1 s).bind fun q1 =>
  if q1 = 0 then
    some (-1 : Int32)
  else
    (f_X7_mutualOf a1 s).bind fun q4 =>
    some q4
def f_X11_night (a1 : Int32) (a2 : Int32) (s : yb_S) : Option Int32 :=
  (f_X2_has a1 s).bind fun q1 =>
  if q1 = 0 then
    some (-1 : Int32)
  else
    (yb_rd s 32 24 a1).bind fun v4 =>
    if a2 < v4 then
      some (-1 : Int32)
    else
      (f_X11_hasEnded a2 s).bind fun q6 =>
      if q6 = 0 then
        some (-1 : Int32)
      else
        (yb_ri 139 1 24 a1).bind fun r9 =>
        (yb_rd s r9 200 a2).bind fun v10 =>
        some v10
def f_X7_findAnew_30 (rc30 : (Int32 → yb_S → Option yb_S)) (x1 : Int32) (s : yb_S) : Option yb_S :=
  if (s.1 41 0) ≤ x1 then
    some s
  else
    (f_X7_noteFinding x1 s).bind fun q3 =>
    rc30 (x1 + (1 : Int32)) q3
def l_X7_findAnew_30 (n : Nat) (x1 : Int32) (s : yb_S) : Option yb_S :=
  yb_it (α := Int32 × yb_S) (fun rc q => f_X7_findAnew_30 (fun x1 s => rc (x1, s)) q.1 q.2) n (x1, s)
def f_X7_findAnew_2 (rc2 : (Int32 → yb_S → Option yb_S)) (x1 : Int32) (s : yb_S) : Option yb_S :=
  if (24 : Int32) ≤ x1 then
    l_X7_findAnew_30 yb_N (0 : Int32) s
  else
    (yb_wr s 52 24 x1 (0 : Int32)).bind fun s5 =>
    (yb_wr s5 53 24 x1 (0 : Int32)).bind fun s6 =>
    rc2 (x1 + (1 : Int32)) s6
def l_X7_findAnew_2 (n : Nat) (x1 : Int32) (s : yb_S) : Option yb_S :=
  yb_it (α := Int32 × yb_S) (fun rc q => f_X7_findAnew_2 (fun x1 s => rc (x1, s)) q.1 q.2) n (x1, s)
def f_X7_findAnew (s : yb_S) : Option yb_S :=
  l_X7_findAnew_2 yb_N (0 : Int32) s
def j_X7_partHeap_54 (rc22 : (Int32 → Int32 → yb_S → Option (Int32 × yb_S))) (x2 : Int32) (x3 : Int32) (x4 : Int32) (s : yb_S) : Option (Int32 × yb_S) :=
  rc22 x3 (x4 + (1 : Int32)) s
def f_X7_partHeap_22 (rc22 : (Int32 → Int32 → yb_S → Option (Int32 × yb_S))) (x2 : Int32) (x3 : Int32) (x4 : Int32) (s : yb_S) : Option (Int32 × yb_S) :=
  if (s.1 41 0) ≤ x4 then
    (f_X7_findAnew s).bind fun q6 =>
    some (x3, q6)
  else
    (yb_rd s 48 60 x4).bind fun v8 =>
    if v8 = x2 then
      (yb_wr s 48 60 x4 x4).bind fun s10 =>
      j_X7_partHeap_54 rc22 x2 (x3 + (1 : Int32)) x4 s10
    else
      j_X7_partHeap_54 rc22 x2 x3 x4 s
def l_X7_partHeap_22 (x2 : Int32) (n : Nat) (x3 : Int32) (x4 : Int32) (s : yb_S) : Option (Int32 × yb_S) :=
  yb_it (α := Int32 × Int32 × yb_S) (fun rc q => f_X7_partHeap_22 (fun x3 x4 s => rc (x3, x4, s)) x2 q.1 q.2.1 q.2.2) n (x3, x4, s)
def f_X7_partHeap (a1 : Int32) (s : yb_S) : Option (Int32 × yb_S) :=
  (f_X7_has a1 s).bind fun q1 =>
  if q1 = 0 then
    some ((-1 : Int32), s)
  else
    (yb_rd s 48 60 a1).bind fun v4 =>
    l_X7_partHeap_22 v4 yb_N (0 : Int32) (0 : Int32) s
def f_X11_part (a1 : Int32) (s : yb_S) : Option (Int32 × yb_S) :=
  (f_X7_partHeap a1 s).bind fun q1 =>
  some (q1.1, q1.2)
def f_X6_whyPassed (a1 : Int32) (a2 : Int32) (s : yb_S) : Option Int32 :=
  if a1 < 0 then
    some (-1 : Int32)
  else
    if (s.1 100 5) ≤ a1 then
      some (-1 : Int32)
    else
      if a2 < 0 then
        some (-1 : Int32)
      else
        if (s.1 100 5) ≤ a2 then
          some (-1 : Int32)
        else
          (yb_ri 104 1 24 a1).bind fun r5 =>
          (yb_rd s r5 24 a2).bind fun v6 =>
          some v6
def f_X11_passed (a1 : Int32) (a2 : Int32) (s : yb_S) : Option Int32 :=
  (f_X6_whyPassed a1 a2 s).bind fun q1 =>
  some q1
def f_X6_forgetWhys_26 (rc16 : (Int32 → yb_S → Option yb_S)) (rc26 : (Int32 → yb_S → Option yb_S)) (x1 : Int32) (x2 : Int32) (s : yb_S) : Option yb_S :=
  if (s.1 100 5) ≤ x2 then
    rc16 (x1 + (1 : Int32)) s
  else
    (yb_ri 104 1 24 x1).bind fun r4 =>
    (yb_wr s r4 24 x2 (-1 : Int32)).bind fun s5 =>
    rc26 (x2 + (1 : Int32)) s5
def l_X6_forgetWhys_26 (rc16 : (Int32 → yb_S → Option yb_S)) (x1 : Int32) (n : Nat) (x2 : Int32) (s : yb_S) : Option yb_S :=
  yb_it (α := Int32 × yb_S) (fun rc q => f_X6_forgetWhys_26 rc16 (fun x2 s => rc (x2, s)) x1 q.1 q.2) n (x2, s)
def f_X6_forgetWhys_16 (rc16 : (Int32 → yb_S → Option yb_S)) (x1 : Int32) (s : yb_S) : Option yb_S :=
  if (s.1 100 5) ≤ x1 then
    some s
  else
    l_X6_forgetWhys_26 rc16 x1 yb_N (0 : Int32) s
def l_X6_forgetWhys_16 (n : Nat) (x1 : Int32) (s : yb_S) : Option yb_S :=
  yb_it (α := Int32 × yb_S) (fun rc q => f_X6_forgetWhys_16 (fun x1 s => rc (x1, s)) q.1 q.2) n (x1, s)
def f_X6_forgetWhys (s : yb_S) : Option yb_S :=
  (some (yb_pI s 100 5 (s.1 21 0))).bind fun s1 =>
  l_X6_forgetWhys_16 yb_N (0 : Int32) s1
def f_X11_place (s : yb_S) : Option (Int32 × yb_S) :=
  (f_X6_forgetWhys s).bind fun q1 =>
  (f_X6_lineUp q1).bind fun q3 =>
  (f_X6_placeAll (1 : Int32) q3).bind fun q5 =>
  some (q5.1, q5.2)
def f_X11_rank (a1 : Int32) (a2 : Int32) (s : yb_S) : Option (Int32 × yb_S) :=
  (f_X2_has a1 s).bind fun q1 =>
  if q1 = 0 then
    some ((-2147483648 : Int32), s)
  else
    if a2 = (0 : Int32) then
      (f_X8_aheadOf a1 s).bind fun q6 =>
      some (q6.1, q6.2)
    else
      if a2 = (1 : Int32) then
        (f_X8_limitOf a1 s).bind fun q8 =>
        some (q8.1, q8.2)
      else
        some ((-2147483648 : Int32), s)
def f_X7_add (a1 : Int32) (a2 : Int32) (a3 : Int32) (a4 : Int32) (a5 : Int32) (s : yb_S) : Option (Int32 × yb_S) :=
  if (s.1 41 0) < (60 : Int32) then
    (yb_wr s 42 60 (s.1 41 0) a1).bind fun s2 =>
    (yb_wr s2 43 60 (s2.1 41 0) a2).bind fun s3 =>
    (yb_wr s3 44 60 (s3.1 41 0) a3).bind fun s4 =>
    (yb_wr s4 45 60 (s4.1 41 0) (a4 / (1000 : Int32))).bind fun s5 =>
    (yb_wr s5 46 60 (s5.1 41 0) (yb_rem a4 (1000 : Int32))).bind fun s6 =>
    (yb_wr s6 47 60 (s6.1 41 0) a5).bind fun s7 =>
    (yb_wr s7 48 60 (s7.1 41 0) (s7.1 41 0)).bind fun s8 =>
    (some (yb_pI s8 41 0 ((s8.1 41 0) + (1 : Int32)))).bind fun s9 =>
    (f_X7_noteFinding ((s9.1 41 0) - (1 : Int32)) s9).bind fun q10 =>
    some (((q10.1 41 0) - (1 : Int32)), q10)
  else
    some ((-1 : Int32), s)
def j_X11_record_50 (x1 : Int32) (x2 : Int32) (x3 : Int32) (x4 : Int32) (x5 : Int32) (s : yb_S) : Option (Int32 × yb_S) :=
  (f_X7_add x1 x2 x3 x4 x5 s).bind fun q10 =>
  some (q10.1, q10.2)
def f_X11_record (a1 : Int32) (a2 : Int32) (a3 : Int32) (a4 : Int32) (a5 : Int32) (s : yb_S) : Option (Int32 × yb_S) :=
  if a1 < 0 then
    some ((-1 : Int32), s)
  else
    if (2 : Int32) < a1 then
      some ((-1 : Int32), s)
    else
      (f_X11_canBeSought a2 a3 s).bind fun q3 =>
      if q3 = 0 then
        some ((-1 : Int32), s)
      else
        (f_X11_canBeDays a4 s).bind fun q6 =>
        if q6 = 0 then
          some ((-1 : Int32), s)
        else
          if a5 = (-1 : Int32) then
            j_X11_record_50 a1 a2 a3 a4 a5 s
          else
            (f_X2_has a5 s).bind fun q12 =>
            if q12 = 0 then
              some ((-1 : Int32), s)
            else
              j_X11_record_50 a1 a2 a3 a4 a5 s
def j_X7_rivalsOf_85 (rc34 : (Int32 → Int32 → Option Int32)) (x1 : Int32) (x2 : Int32) (x3 : Int32) (x4 : Int32) (x5 : Int32) (s : yb_S) : Option Int32 :=
  rc34 x4 (x5 + (1 : Int32))
def f_X7_rivalsOf_34 (rc34 : (Int32 → Int32 → Option Int32)) (x1 : Int32) (x2 : Int32) (x3 : Int32) (s : yb_S) (x4 : Int32) (x5 : Int32) : Option Int32 :=
  if (s.1 41 0) ≤ x5 then
    some x4
  else
    if x5 = x2 then
      j_X7_rivalsOf_85 rc34 x1 x2 x3 x4 x5 s
    else
      (f_X7_canBeAlike x1 x5 s).bind fun q10 =>
      if q10 = 0 then
        j_X7_rivalsOf_85 rc34 x1 x2 x3 x4 x5 s
      else
        (yb_rd s 43 60 x5).bind fun v13 =>
        (yb_rd s 44 60 x5).bind fun v14 =>
        (f_X7_points x1 v13 v14 s).bind fun q15 =>
        if q15 = x3 then
          j_X7_rivalsOf_85 rc34 x1 x2 x3 (x4 + (1 : Int32)) x5 s
        else
          j_X7_rivalsOf_85 rc34 x1 x2 x3 x4 x5 s
def l_X7_rivalsOf_34 (x1 : Int32) (x2 : Int32) (x3 : Int32) (s : yb_S) (n : Nat) (x4 : Int32) (x5 : Int32) : Option Int32 :=
  yb_it (α := Int32 × Int32) (fun rc q => f_X7_rivalsOf_34 (fun x4 x5 => rc (x4, x5)) x1 x2 x3 s q.1 q.2) n (x4, x5)
def f_X7_rivalsOf (a1 : Int32) (a2 : Int32) (s : yb_S) : Option Int32 :=
  (f_X7_has a2 s).bind fun q1 =>
  if q1 = 0 then
    some (-1 : Int32)
  else
    (yb_rd s 43 60 a2).bind fun v4 =>
    (yb_rd s 44 60 a2).bind fun v5 =>
    (f_X7_points a1 v4 v5 s).bind fun q6 =>
    l_X7_rivalsOf_34 a1 a2 q6 s yb_N (0 : Int32) (0 : Int32)
def f_X11_rivals (a1 : Int32) (s : yb_S) : Option Int32 :=
  (f_X7_matchOf a1 s).bind fun q1 =>
  if q1 = (-1 : Int32) then
    some (-1 : Int32)
  else
    (f_X7_rivalsOf a1 q1 s).bind fun q4 =>
    some q4
def f_X11_same (a1 : Int32) (a2 : Int32) (s : yb_S) : Option Int32 :=
  (f_X7_has a1 s).bind fun q1 =>
  if q1 = 0 then
    some (0 : Int32)
  else
    (f_X7_has a2 s).bind fun q4 =>
    if q4 = 0 then
      some (0 : Int32)
    else
      (yb_rd s 48 60 a1).bind fun v7 =>
      (yb_rd s 48 60 a2).bind fun v8 =>
      if v7 = v8 then
        some (1 : Int32)
      else
        some (0 : Int32)
def f_X7_addSeeking_54 (rc54 : (Int32 → yb_S → Option (Int32 × yb_S))) (x4 : Int32) (s : yb_S) : Option (Int32 × yb_S) :=
  if (s.1 41 0) ≤ x4 then
    some ((1 : Int32), s)
  else
    (f_X7_noteIfFound ((s.1 41 8) - (1 : Int32)) x4 s).bind fun q7 =>
    rc54 (x4 + (1 : Int32)) q7
def l_X7_addSeeking_54 (n : Nat) (x4 : Int32) (s : yb_S) : Option (Int32 × yb_S) :=
  yb_it (α := Int32 × yb_S) (fun rc q => f_X7_addSeeking_54 (fun x4 s => rc (x4, s)) q.1 q.2) n (x4, s)
def f_X7_addSeeking (a1 : Int32) (a2 : Int32) (a3 : Int32) (s : yb_S) : Option (Int32 × yb_S) :=
  if (s.1 41 8) < (40 : Int32) then
    (yb_wr s 49 40 (s.1 41 8) a1).bind fun s2 =>
    (yb_wr s2 50 40 (s2.1 41 8) a2).bind fun s3 =>
    (yb_wr s3 51 40 (s3.1 41 8) a3).bind fun s4 =>
    (some (yb_pI s4 41 8 ((s4.1 41 8) + (1 : Int32)))).bind fun s5 =>
    l_X7_addSeeking_54 yb_N (0 : Int32) s5
  else
    some ((0 : Int32), s)
def f_X11_seek (a1 : Int32) (a2 : Int32) (a3 : Int32) (s : yb_S) : Option (Int32 × yb_S) :=
  (f_X2_has a1 s).bind fun q1 =>
  if q1 = 0 then
    some ((0 : Int32), s)
  else
    (f_X11_canBeSought a2 a3 s).bind fun q4 =>
    if q4 = 0 then
      some ((0 : Int32), s)
    else
      (f_X7_addSeeking a1 a2 a3 s).bind fun q7 =>
      some (q7.1, q7.2)
def f_X5_enact_92_53 (rc53 : (Int32 → yb_S → Option (Int32 × yb_S))) (x2 : Int32) (x3 : Int32) (s : yb_S) : Option (Int32 × yb_S) :=
  if (6 : Int32) ≤ x3 then
    (yb_wr s 55 10 (s.1 54 0) x2).bind fun s4 =>
    (yb_wr s4 56 10 (s4.1 54 0) (-1 : Int32)).bind fun s5 =>
    (some (yb_pI s5 54 0 ((s5.1 54 0) + (1 : Int32)))).bind fun s6 =>
    some (((s6.1 54 0) - (1 : Int32)), s6)
  else
    (yb_ri 69 1 10 (s.1 54 0)).bind fun r7 =>
    (yb_rd s 94 6 x3).bind fun v8 =>
    (yb_wr s r7 6 x3 v8).bind fun s9 =>
    (yb_ri 80 1 10 (s9.1 54 0)).bind fun r10 =>
    (yb_rd s9 95 6 x3).bind fun v11 =>
    (yb_wr s9 r10 6 x3 v11).bind fun s12 =>
    rc53 (x3 + (1 : Int32)) s12
def l_X5_enact_92_53 (x2 : Int32) (n : Nat) (x3 : Int32) (s : yb_S) : Option (Int32 × yb_S) :=
  yb_it (α := Int32 × yb_S) (fun rc q => f_X5_enact_92_53 (fun x3 s => rc (x3, s)) x2 q.1 q.2) n (x3, s)
def j_X5_enact_92_51 (x2 : Int32) (s : yb_S) : Option (Int32 × yb_S) :=
  l_X5_enact_92_53 x2 yb_N (0 : Int32) s
def f_X5_enact_92_13 (rc13 : (Int32 → yb_S → Option (Int32 × yb_S))) (x2 : Int32) (x3 : Int32) (s : yb_S) : Option (Int32 × yb_S) :=
  if (s.1 92 2) ≤ x3 then
    j_X5_enact_92_51 x2 s
  else
    if (500 : Int32) ≤ x3 then
      j_X5_enact_92_51 x2 s
    else
      (yb_ri 58 1 10 (s.1 54 0)).bind fun r14 =>
      (yb_rd s 93 500 x3).bind fun v15 =>
      (yb_wr s r14 500 x3 v15).bind fun s16 =>
      rc13 (x3 + (1 : Int32)) s16
def l_X5_enact_92_13 (x2 : Int32) (n : Nat) (x3 : Int32) (s : yb_S) : Option (Int32 × yb_S) :=
  yb_it (α := Int32 × yb_S) (fun rc q => f_X5_enact_92_13 (fun x3 s => rc (x3, s)) x2 q.1 q.2) n (x3, s)
def f_X5_enact_92 (a2 : Int32) (s : yb_S) : Option (Int32 × yb_S) :=
  if (s.1 54 0) < (10 : Int32) then
    l_X5_enact_92_13 a2 yb_N (0 : Int32) s
  else
    some ((-1 : Int32), s)
def f_X11_sheet (s : yb_S) : Option (Int32 × yb_S) :=
  (f_X9_parse s).bind fun q1 =>
  if (q1.1 92 1) = (-1 : Int32) then
    (f_X5_enact_92 (q1.1 1 5) q1).bind fun q4 =>
    if q4.1 = (-1 : Int32) then
      some (q4.1, q4.2)
    else
      (some (yb_pI q4.2 92 0 (0 : Int32))).bind fun s7 =>
      some (q4.1, s7)
  else
    some ((-1 : Int32), q1)
def f_X8_canAsk (a1 : Int32) (s : yb_S) : Option Int32 :=
  (f_X2_has a1 s).bind fun q1 =>
  if q1 = 0 then
    if a1 < (100 : Int32) then
      some (0 : Int32)
    else
      (f_X10_has (a1 - (100 : Int32)) s).bind fun q5 =>
      if q5 = 0 then
        some (0 : Int32)
      else
        some (1 : Int32)
  else
    some (1 : Int32)
def j_X8_isShown_47 (y0 : Int32) (y1 : Int32) (y2 : Int32) (y3 : Int32) (y4 : Int32) (s : yb_S) : Option (Int32 × yb_S) :=
  (f_X8_tells y4 y3 y2 y1 y0 s).bind fun q4 =>
  if q4.1 = (1 : Int32) then
    some ((1 : Int32), q4.2)
  else
    some ((0 : Int32), q4.2)
def j_X8_isShown_27 (x1 : Int32) (x2 : Int32) (y0 : Int32) (s : yb_S) : Option (Int32 × yb_S) :=
  if y0 = 0 then
    if x1 = x2 then
      j_X8_isShown_47 (1 : Int32) (-1 : Int32) (-1 : Int32) x2 (5 : Int32) s
    else
      j_X8_isShown_47 (0 : Int32) (-1 : Int32) (-1 : Int32) x2 (5 : Int32) s
  else
    some ((1 : Int32), s)
def j_X8_isShown_26 (x1 : Int32) (x2 : Int32) (s : yb_S) : Option (Int32 × yb_S) :=
  j_X8_isShown_27 x1 x2 (0 : Int32) s
def f_X8_isShown (a1 : Int32) (a2 : Int32) (s : yb_S) : Option (Int32 × yb_S) :=
  if a1 < (100 : Int32) then
    j_X8_isShown_26 a1 a2 s
  else
    (yb_rd s 30 24 a2).bind fun v7 =>
    if v7 = (a1 - (100 : Int32)) then
      j_X8_isShown_27 a1 a2 (1 : Int32) s
    else
      j_X8_isShown_26 a1 a2 s
def f_X11_show (a1 : Int32) (a2 : Int32) (a3 : Int32) (s : yb_S) : Option (Int32 × yb_S) :=
  (f_X2_has a2 s).bind fun q1 =>
  if q1 = 0 then
    some ((-1 : Int32), s)
  else
    (f_X8_canAsk a1 s).bind fun q4 =>
    if q4 = 0 then
      some ((-1 : Int32), s)
    else
      (f_X8_isShown a1 a2 s).bind fun q7 =>
      if q7.1 = 0 then
        some ((-1 : Int32), q7.2)
      else
        if a3 = (0 : Int32) then
          (yb_rd q7.2 28 24 a2).bind fun v14 =>
          some (v14, q7.2)
        else
          if a3 = (1 : Int32) then
            (yb_rd q7.2 30 24 a2).bind fun v15 =>
            some (v15, q7.2)
          else
            if a3 = (2 : Int32) then
              (yb_rd q7.2 22 24 a2).bind fun v16 =>
              some (v16, q7.2)
            else
              if a3 = (3 : Int32) then
                (yb_rd q7.2 31 24 a2).bind fun v17 =>
                some (v17, q7.2)
              else
                some ((-1 : Int32), q7.2)
def f_X11_strike (a1 : Int32) (s : yb_S) : Option (Int32 × yb_S) :=
  (f_X5_has a1 s).bind fun q1 =>
  if q1 = 0 then
    some ((0 : Int32), s)
  else
    (yb_rd s 56 10 a1).bind fun v4 =>
    if v4 = (-1 : Int32) then
      (yb_wr s 56 10 a1 (s.1 1 5)).bind fun s6 =>
      some ((1 : Int32), s6)
    else
      some ((0 : Int32), s)
def f_X11_told (a1 : Int32) (a2 : Int32) (s : yb_S) : Option Int32 :=
  (f_X2_has a1 s).bind fun q1 =>
  if q1 = 0 then
    some (-1 : Int32)
  else
    if a2 = (0 : Int32) then
      (yb_rd s 28 24 a1).bind fun v10 =>
      some v10
    else
      if a2 = (1 : Int32) then
        (yb_rd s 29 24 a1).bind fun v11 =>
        some v11
      else
        if a2 = (2 : Int32) then
          (yb_rd s 31 24 a1).bind fun v12 =>
          some v12
        else
          if a2 = (3 : Int32) then
            (yb_rd s 22 24 a1).bind fun v13 =>
            some v13
          else
            if a2 = (4 : Int32) then
              (yb_rd s 32 24 a1).bind fun v14 =>
              some v14
            else
              if a2 = (5 : Int32) then
                (yb_rd s 33 24 a1).bind fun v15 =>
                some v15
              else
                some (-1 : Int32)
def f_X10_add (a1 : Int32) (a2 : Int32) (a3 : Int32) (a4 : Int32) (s : yb_S) : Option (Int32 × yb_S) :=
  if (s.1 2 0) < (8 : Int32) then
    (yb_wr s 3 8 (s.1 2 0) a1).bind fun s2 =>
    (yb_wr s2 4 8 (s2.1 2 0) a2).bind fun s3 =>
    (yb_wr s3 5 8 (s3.1 2 0) a3).bind fun s4 =>
    (yb_wr s4 6 8 (s4.1 2 0) a4).bind fun s5 =>
    (some (yb_pI s5 2 0 ((s5.1 2 0) + (1 : Int32)))).bind fun s6 =>
    some (((s6.1 2 0) - (1 : Int32)), s6)
  else
    some ((-1 : Int32), s)
def f_X11_town (a1 : Int32) (a2 : Int32) (a3 : Int32) (s : yb_S) : Option (Int32 × yb_S) :=
  if a1 < 0 then
    some ((-1 : Int32), s)
  else
    if (999 : Int32) < a1 then
      some ((-1 : Int32), s)
    else
      if a3 < 0 then
        some ((-1 : Int32), s)
      else
        if a3 ≤ (63 : Int32) then
          if a2 < 0 then
            some ((-1 : Int32), s)
          else
            if (15 : Int32) < (a2 / (100 : Int32)) then
              some ((-1 : Int32), s)
            else
              if (yb_rem a2 (100 : Int32)) ≤ (40 : Int32) then
                (f_X10_add a1 (a2 / (100 : Int32)) (yb_rem a2 (100 : Int32)) a3 s).bind fun q8 =>
                some (q8.1, q8.2)
              else
                some ((-1 : Int32), s)
        else
          some ((-1 : Int32), s)
def f_X11_why (a1 : Int32) (a2 : Int32) (s : yb_S) : Option Int32 :=
  if a1 < 0 then
    some (-1 : Int32)
  else
    if (6 : Int32) ≤ a1 then
      some (-1 : Int32)
    else
      if a2 < 0 then
        some (-1 : Int32)
      else
        if a2 ≤ (s.1 1 5) then
          (f_X5_inForce a1 a2 s).bind fun q5 =>
          some q5
        else
          some (-1 : Int32)
def j_X11_wish_32 (x1 : Int32) (x2 : Int32) (s : yb_S) : Option (Int32 × yb_S) :=
  (yb_wr s 33 24 x1 x2).bind fun s5 =>
  some ((1 : Int32), s5)
def f_X11_wish (a1 : Int32) (a2 : Int32) (s : yb_S) : Option (Int32 × yb_S) :=
  (f_X8_isHere a1 s).bind fun q1 =>
  if q1 = 0 then
    some ((0 : Int32), s)
  else
    if a2 = (-1 : Int32) then
      j_X11_wish_32 a1 a2 s
    else
      (f_X10_has a2 s).bind fun q6 =>
      if q6 = 0 then
        some ((0 : Int32), s)
      else
        j_X11_wish_32 a1 a2 s
def f_X3_mostAbove_174_13 (rc13 : (Int32 → Int32 → Int32 → Int32 → Option Int32)) (x5 : Int32) (s : yb_S) (x6 : Int32) (x7 : Int32) (x8 : Int32) (x9 : Int32) : Option Int32 :=
  if x5 < x9 then
    some x8
  else
    (yb_rd s 174 201 x9).bind fun v2 =>
    (yb_rd s 175 201 x9).bind fun v3 =>
    rc13 (x6 + v2) (x7 + v3) (yb_max x8 ((x6 + v2) - (yb_max (0 : Int32) (x7 + v3)))) (x9 + (1 : Int32))
def l_X3_mostAbove_174_13 (x5 : Int32) (s : yb_S) (n : Nat) (x6 : Int32) (x7 : Int32) (x8 : Int32) (x9 : Int32) : Option Int32 :=
  yb_it (α := Int32 × Int32 × Int32 × Int32) (fun rc q => f_X3_mostAbove_174_13 (fun x6 x7 x8 x9 => rc (x6, x7, x8, x9)) x5 s q.1 q.2.1 q.2.2.1 q.2.2.2) n (x6, x7, x8, x9)
def f_X3_mostAbove_174 (a2 : Int32) (a3 : Int32) (a4 : Int32) (a5 : Int32) (s : yb_S) : Option Int32 :=
  l_X3_mostAbove_174_13 a5 s yb_N a2 a3 (0 : Int32) a4
def f_X3_firstAbove_9 (rc9 : (Int32 → Int32 → Int32 → Option Int32)) (x4 : Int32) (s : yb_S) (x5 : Int32) (x6 : Int32) (x7 : Int32) : Option Int32 :=
  if x4 < x7 then
    some (-1 : Int32)
  else
    (yb_rd s 174 201 x7).bind fun v2 =>
    (yb_rd s 175 201 x7).bind fun v3 =>
    if ((x5 + v2) - (yb_max (0 : Int32) (x6 + v3))) ≤ 0 then
      rc9 (x5 + v2) (x6 + v3) (x7 + (1 : Int32))
    else
      some x7
def l_X3_firstAbove_9 (x4 : Int32) (s : yb_S) (n : Nat) (x5 : Int32) (x6 : Int32) (x7 : Int32) : Option Int32 :=
  yb_it (α := Int32 × Int32 × Int32) (fun rc q => f_X3_firstAbove_9 (fun x5 x6 x7 => rc (x5, x6, x7)) x4 s q.1 q.2.1 q.2.2) n (x5, x6, x7)
def f_X3_firstAbove (a1 : Int32) (a2 : Int32) (a3 : Int32) (a4 : Int32) (s : yb_S) : Option Int32 :=
  l_X3_firstAbove_9 a4 s yb_N a1 a2 a3
def f_X3_mostAbove_173_13 (rc13 : (Int32 → Int32 → Int32 → Int32 → Option Int32)) (x5 : Int32) (s : yb_S) (x6 : Int32) (x7 : Int32) (x8 : Int32) (x9 : Int32) : Option Int32 :=
  if x5 < x9 then
    some x8
  else
    (yb_rd s 173 201 x9).bind fun v2 =>
    (yb_rd s 175 201 x9).bind fun v3 =>
    rc13 (x6 + v2) (x7 + v3) (yb_max x8 ((x6 + v2) - (yb_max (0 : Int32) (x7 + v3)))) (x9 + (1 : Int32))
def l_X3_mostAbove_173_13 (x5 : Int32) (s : yb_S) (n : Nat) (x6 : Int32) (x7 : Int32) (x8 : Int32) (x9 : Int32) : Option Int32 :=
  yb_it (α := Int32 × Int32 × Int32 × Int32) (fun rc q => f_X3_mostAbove_173_13 (fun x6 x7 x8 x9 => rc (x6, x7, x8, x9)) x5 s q.1 q.2.1 q.2.2.1 q.2.2.2) n (x6, x7, x8, x9)
def f_X3_mostAbove_173 (a2 : Int32) (a3 : Int32) (a4 : Int32) (a5 : Int32) (s : yb_S) : Option Int32 :=
  l_X3_mostAbove_173_13 a5 s yb_N a2 a3 (0 : Int32) a4
def f_X11_worst (a1 : Int32) (a2 : Int32) (s : yb_S) : Option Int32 :=
  (f_X11_isAhead a1 s).bind fun q1 =>
  if q1 = 0 then
    some (-1 : Int32)
  else
    (f_X8_headsIn (0 : Int32) s).bind fun q4 =>
    if a2 = (0 : Int32) then
      (f_X3_mostAbove_174 q4 (s.1 1 6) (s.1 1 5) a1 s).bind fun q9 =>
      some q9
    else
      if a2 = (1 : Int32) then
        (f_X3_firstAbove q4 (s.1 1 6) (s.1 1 5) a1 s).bind fun q11 =>
        some q11
      else
        if a2 = (2 : Int32) then
          (f_X3_mostAbove_173 q4 (s.1 1 6) (s.1 1 5) a1 s).bind fun q13 =>
          some q13
        else
          some (-1 : Int32)
def f_X12_in (a0 : Int64) (a2 : Int64) (a4 : Int64) (s : yb_S) : Option Int32 :=
  if (lg_cmp a0 a2) < 0 then
    some (0 : Int32)
  else
    if 0 < (lg_cmp a0 a4) then
      some (0 : Int32)
    else
      some (1 : Int32)
def f_X12_isRecord (a1 : Int32) (s : yb_S) : Option Int32 :=
  (f_X12_in (a1.toInt64) (0 : Int64) (((s.1 176 36) - (1 : Int32)).toInt64) s).bind fun q1 =>
  some q1
def f_X12_areBarred (a1 : Int32) (a2 : Int32) (s : yb_S) : Option Int32 :=
  (yb_rd s 210 60 a1).bind fun v1 =>
  (yb_rd s 211 60 a2).bind fun v2 =>
  if v2 < v1 then
    some (0 : Int32)
  else
    (yb_rd s 210 60 a2).bind fun v4 =>
    (yb_rd s 211 60 a1).bind fun v5 =>
    if v5 < v4 then
      some (0 : Int32)
    else
      some (1 : Int32)
def f_X12_size (a0 : Int32) (s : yb_S) : Option Int32 :=
  if 0 ≤ a0 then
    some a0
  else
    some (-a0)
def j_X12_points_39 (rc12 : (Int32 → Int32 → Int32 → Int32 → Option Int32)) (x1 : Int32) (x3 : Int32) (x5 : Int32) (x6 : Int32) (x7 : Int32) (y0 : Int32) (y1 : Int32) (s : yb_S) : Option Int32 :=
  rc12 (y1 + y0) (x5 / (10 : Int32)) (x6 / (10 : Int32)) (x7 + (1 : Int32))
def f_X12_points_12 (rc12 : (Int32 → Int32 → Int32 → Int32 → Option Int32)) (x1 : Int32) (x3 : Int32) (s : yb_S) (x4 : Int32) (x5 : Int32) (x6 : Int32) (x7 : Int32) : Option Int32 :=
  if (6 : Int32) ≤ x7 then
    (f_X12_size (x1 - x3) s).bind fun q2 =>
    some (x4 - q2)
  else
    if (yb_rem x5 (10 : Int32)) = (yb_rem x6 (10 : Int32)) then
      j_X12_points_39 rc12 x1 x3 x5 x6 x7 (1 : Int32) x4 s
    else
      j_X12_points_39 rc12 x1 x3 x5 x6 x7 (0 : Int32) x4 s
def l_X12_points_12 (x1 : Int32) (x3 : Int32) (s : yb_S) (n : Nat) (x4 : Int32) (x5 : Int32) (x6 : Int32) (x7 : Int32) : Option Int32 :=
  yb_it (α := Int32 × Int32 × Int32 × Int32) (fun rc q => f_X12_points_12 (fun x4 x5 x6 x7 => rc (x4, x5, x6, x7)) x1 x3 s q.1 q.2.1 q.2.2.1 q.2.2.2) n (x4, x5, x6, x7)
def f_X12_points (a0 : Int32) (a1 : Int32) (a2 : Int32) (a3 : Int32) (s : yb_S) : Option Int32 :=
  l_X12_points_12 a1 a3 s yb_N (0 : Int32) a0 a2 (0 : Int32)
def f_X12_pointsOf (a1 : Int32) (a2 : Int32) (s : yb_S) : Option Int32 :=
  (yb_rd s 208 60 a1).bind fun v1 =>
  (yb_rd s 209 60 a1).bind fun v2 =>
  (yb_rd s 208 60 a2).bind fun v3 =>
  (yb_rd s 209 60 a2).bind fun v4 =>
  (f_X12_points v1 v2 v3 v4 s).bind fun q5 =>
  some q5
def j_X12_alike_40 (s : yb_S) : Option Int32 :=
  some (-2147483648 : Int32)
def f_X12_alike (a1 : Int32) (a2 : Int32) (s : yb_S) : Option Int32 :=
  (f_X12_isRecord a1 s).bind fun q1 =>
  if q1 = 0 then
    j_X12_alike_40 s
  else
    (f_X12_isRecord a2 s).bind fun q4 =>
    if q4 = 0 then
      j_X12_alike_40 s
    else
      (yb_rd s 207 60 a1).bind fun v7 =>
      (yb_rd s 207 60 a2).bind fun v8 =>
      if v7 = v8 then
        j_X12_alike_40 s
      else
        (f_X12_areBarred a1 a2 s).bind fun q10 =>
        if q10 = 0 then
          (f_X12_pointsOf a1 a2 s).bind fun q13 =>
          some q13
        else
          j_X12_alike_40 s
def f_X12_apart (a1 : Int32) (a2 : Int32) (a3 : Int32) (s : yb_S) : Option (Int32 × yb_S) :=
  (f_X12_in (a1.toInt64) (0 : Int64) (5 : Int64) s).bind fun q1 =>
  if q1 = 0 then
    some ((0 : Int32), s)
  else
    (f_X12_in (a2.toInt64) (0 : Int64) (5 : Int64) s).bind fun q4 =>
    if q4 = 0 then
      some ((0 : Int32), s)
    else
      if a1 = a2 then
        some ((0 : Int32), s)
      else
        (f_X12_in (a3.toInt64) (0 : Int64) (200 : Int64) s).bind fun q8 =>
        if q8 = 0 then
          some ((0 : Int32), s)
        else
          (yb_ri 201 1 6 a1).bind fun r11 =>
          (yb_wr s r11 6 a2 a3).bind fun s12 =>
          (yb_ri 201 1 6 a2).bind fun r13 =>
          (yb_wr s12 r13 6 a1 a3).bind fun s14 =>
          some ((1 : Int32), s14)
def f_X12_areDays (a0 : Int32) (s : yb_S) : Option Int32 :=
  if a0 < 0 then
    some (0 : Int32)
  else
    if (yb_rem a0 (1000 : Int32)) < (a0 / (1000 : Int32)) then
      some (0 : Int32)
    else
      if (200 : Int32) < (yb_rem a0 (1000 : Int32)) then
        some (0 : Int32)
      else
        some (1 : Int32)
def j_X12_isOf_37 (rc2 : (Int32 → Option Int32)) (x1 : Int32) (x2 : Int32) (x3 : Int32) (s : yb_S) : Option Int32 :=
  rc2 (x3 + (1 : Int32))
def f_X12_isOf_2 (rc2 : (Int32 → Option Int32)) (x1 : Int32) (x2 : Int32) (s : yb_S) (x3 : Int32) : Option Int32 :=
  if (s.1 176 36) ≤ x3 then
    some (0 : Int32)
  else
    (yb_rd s 212 60 x3).bind fun v2 =>
    if v2 = x2 then
      (yb_rd s 213 60 x3).bind fun v4 =>
      (yb_rd s 213 60 x1).bind fun v5 =>
      if v4 = v5 then
        some (1 : Int32)
      else
        j_X12_isOf_37 rc2 x1 x2 x3 s
    else
      j_X12_isOf_37 rc2 x1 x2 x3 s
def l_X12_isOf_2 (x1 : Int32) (x2 : Int32) (s : yb_S) (n : Nat) (x3 : Int32) : Option Int32 :=
  yb_it (α := Int32) (fun rc q => f_X12_isOf_2 (fun x3 => rc x3) x1 x2 s q) n x3
def f_X12_isOf (a1 : Int32) (a2 : Int32) (s : yb_S) : Option Int32 :=
  l_X12_isOf_2 a1 a2 s yb_N (0 : Int32)
def j_X12_reckons_167 (rc43 : (Int32 → yb_S → Option yb_S)) (rc53 : (Int32 → yb_S → Option yb_S)) (x1 : Int32) (x2 : Int32) (s : yb_S) : Option yb_S :=
  rc53 (x2 + (1 : Int32)) s
def j_X12_reckons_161 (rc43 : (Int32 → yb_S → Option yb_S)) (rc53 : (Int32 → yb_S → Option yb_S)) (rc75 : (Int32 → yb_S → Option yb_S)) (x1 : Int32) (x2 : Int32) (x3 : Int32) (s : yb_S) : Option yb_S :=
  rc75 (x3 + (1 : Int32)) s
def f_X12_reckons_75 (rc43 : (Int32 → yb_S → Option yb_S)) (rc53 : (Int32 → yb_S → Option yb_S)) (rc75 : (Int32 → yb_S → Option yb_S)) (x1 : Int32) (x2 : Int32) (x3 : Int32) (s : yb_S) : Option yb_S :=
  if (s.1 176 40) ≤ x3 then
    j_X12_reckons_167 rc43 rc53 x1 x2 s
  else
    (yb_rd s 215 40 x3).bind fun v9 =>
    (yb_rd s 216 40 x3).bind fun v10 =>
    (yb_rd s 208 60 x1).bind fun v11 =>
    (yb_rd s 209 60 x1).bind fun v12 =>
    (f_X12_points v9 v10 v11 v12 s).bind fun q13 =>
    (yb_rd s 214 40 x3).bind fun v15 =>
    if v15 = x2 then
      j_X12_reckons_161 rc43 rc53 rc75 x1 x2 x3 s
    else
      if q13 < (5 : Int32) then
        j_X12_reckons_161 rc43 rc53 rc75 x1 x2 x3 s
      else
        (yb_rd s 214 40 x3).bind fun v18 =>
        (yb_ri 218 1 24 v18).bind fun r19 =>
        (yb_rd s r19 24 x2).bind fun v20 =>
        if q13 ≤ v20 then
          j_X12_reckons_161 rc43 rc53 rc75 x1 x2 x3 s
        else
          (yb_rd s 214 40 x3).bind fun v22 =>
          (yb_ri 218 1 24 v22).bind fun r23 =>
          (yb_wr s r23 24 x2 q13).bind fun s24 =>
          j_X12_reckons_161 rc43 rc53 rc75 x1 x2 x3 s24
def l_X12_reckons_75 (rc43 : (Int32 → yb_S → Option yb_S)) (rc53 : (Int32 → yb_S → Option yb_S)) (x1 : Int32) (x2 : Int32) (n : Nat) (x3 : Int32) (s : yb_S) : Option yb_S :=
  yb_it (α := Int32 × yb_S) (fun rc q => f_X12_reckons_75 rc43 rc53 (fun x3 s => rc (x3, s)) x1 x2 q.1 q.2) n (x3, s)
def f_X12_reckons_53 (rc43 : (Int32 → yb_S → Option yb_S)) (rc53 : (Int32 → yb_S → Option yb_S)) (x1 : Int32) (x2 : Int32) (s : yb_S) : Option yb_S :=
  if (s.1 176 27) ≤ x2 then
    rc43 (x1 + (1 : Int32)) s
  else
    (f_X12_isOf x1 x2 s).bind fun q5 =>
    if q5 = 0 then
      j_X12_reckons_167 rc43 rc53 x1 x2 s
    else
      l_X12_reckons_75 rc43 rc53 x1 x2 yb_N (0 : Int32) s
def l_X12_reckons_53 (rc43 : (Int32 → yb_S → Option yb_S)) (x1 : Int32) (n : Nat) (x2 : Int32) (s : yb_S) : Option yb_S :=
  yb_it (α := Int32 × yb_S) (fun rc q => f_X12_reckons_53 rc43 (fun x2 s => rc (x2, s)) x1 q.1 q.2) n (x2, s)
def f_X12_reckons_43 (rc43 : (Int32 → yb_S → Option yb_S)) (x1 : Int32) (s : yb_S) : Option yb_S :=
  if (s.1 176 36) ≤ x1 then
    (some (yb_pI s 176 42 (1 : Int32))).bind fun s3 =>
    some s3
  else
    l_X12_reckons_53 rc43 x1 yb_N (0 : Int32) s
def l_X12_reckons_43 (n : Nat) (x1 : Int32) (s : yb_S) : Option yb_S :=
  yb_it (α := Int32 × yb_S) (fun rc q => f_X12_reckons_43 (fun x1 s => rc (x1, s)) q.1 q.2) n (x1, s)
def f_X12_reckons_12 (rc2 : (Int32 → yb_S → Option yb_S)) (rc12 : (Int32 → yb_S → Option yb_S)) (x1 : Int32) (x2 : Int32) (s : yb_S) : Option yb_S :=
  if (s.1 176 27) ≤ x2 then
    rc2 (x1 + (1 : Int32)) s
  else
    (yb_ri 218 1 24 x1).bind fun r26 =>
    (yb_wr s r26 24 x2 (-1 : Int32)).bind fun s27 =>
    rc12 (x2 + (1 : Int32)) s27
def l_X12_reckons_12 (rc2 : (Int32 → yb_S → Option yb_S)) (x1 : Int32) (n : Nat) (x2 : Int32) (s : yb_S) : Option yb_S :=
  yb_it (α := Int32 × yb_S) (fun rc q => f_X12_reckons_12 rc2 (fun x2 s => rc (x2, s)) x1 q.1 q.2) n (x2, s)
def f_X12_reckons_2 (rc2 : (Int32 → yb_S → Option yb_S)) (x1 : Int32) (s : yb_S) : Option yb_S :=
  if (s.1 176 27) ≤ x1 then
    l_X12_reckons_43 yb_N (0 : Int32) s
  else
    l_X12_reckons_12 rc2 x1 yb_N (0 : Int32) s
def l_X12_reckons_2 (n : Nat) (x1 : Int32) (s : yb_S) : Option yb_S :=
  yb_it (α := Int32 × yb_S) (fun rc q => f_X12_reckons_2 (fun x1 s => rc (x1, s)) q.1 q.2) n (x1, s)
def f_X12_reckons (s : yb_S) : Option yb_S :=
  l_X12_reckons_2 yb_N (0 : Int32) s
def j_X12_surely_11 (x1 : Int32) (x2 : Int32) (s : yb_S) : Option (Int32 × yb_S) :=
  if x1 = x2 then
    some ((-1 : Int32), s)
  else
    (yb_ri 218 1 24 x1).bind fun r3 =>
    (yb_rd s r3 24 x2).bind fun v4 =>
    some (v4, s)
def f_X12_surely (a1 : Int32) (a2 : Int32) (s : yb_S) : Option (Int32 × yb_S) :=
  if (s.1 176 42) = 0 then
    (f_X12_reckons s).bind fun q5 =>
    j_X12_surely_11 a1 a2 q5
  else
    j_X12_surely_11 a1 a2 s
def f_X12_areKin (a1 : Int32) (a2 : Int32) (s : yb_S) : Option (Int32 × yb_S) :=
  (f_X12_surely a1 a2 s).bind fun q1 =>
  if q1.1 = (-1 : Int32) then
    (f_X12_surely a2 a1 q1.2).bind fun q4 =>
    if q4.1 = (-1 : Int32) then
      some ((0 : Int32), q4.2)
    else
      some ((1 : Int32), q4.2)
  else
    some ((1 : Int32), q1.2)
def j_X12_headsThere_33 (rc4 : (Int32 → Int32 → Option Int32)) (x2 : Int32) (y0 : Int32) (y1 : Int32) (s : yb_S) : Option Int32 :=
  rc4 (y1 + y0) (x2 + (1 : Int32))
def f_X12_headsThere_4 (rc4 : (Int32 → Int32 → Option Int32)) (s : yb_S) (x1 : Int32) (x2 : Int32) : Option Int32 :=
  if (s.1 176 27) ≤ x2 then
    some x1
  else
    (yb_rd s 195 24 x2).bind fun v2 =>
    if v2 = (2 : Int32) then
      j_X12_headsThere_33 rc4 x2 (0 : Int32) x1 s
    else
      (yb_rd s 189 24 x2).bind fun v4 =>
      j_X12_headsThere_33 rc4 x2 v4 x1 s
def l_X12_headsThere_4 (s : yb_S) (n : Nat) (x1 : Int32) (x2 : Int32) : Option Int32 :=
  yb_it (α := Int32 × Int32) (fun rc q => f_X12_headsThere_4 (fun x1 x2 => rc (x1, x2)) s q.1 q.2) n (x1, x2)
def f_X12_headsThere (s : yb_S) : Option Int32 :=
  l_X12_headsThere_4 s yb_N (0 : Int32) (0 : Int32)
def f_X12_clears_2 (rc2 : (Int32 → yb_S → Option yb_S)) (x1 : Int32) (s : yb_S) : Option yb_S :=
  if (18 : Int32) ≤ x1 then
    (f_X12_headsThere s).bind fun q2 =>
    (yb_wr s 337 18 (14 : Int32) q2).bind fun s4 =>
    (yb_wr s4 337 18 (16 : Int32) (s4.1 176 7)).bind fun s5 =>
    some s5
  else
    (yb_wr s 337 18 x1 (0 : Int32)).bind fun s6 =>
    rc2 (x1 + (1 : Int32)) s6
def l_X12_clears_2 (n : Nat) (x1 : Int32) (s : yb_S) : Option yb_S :=
  yb_it (α := Int32 × yb_S) (fun rc q => f_X12_clears_2 (fun x1 s => rc (x1, s)) q.1 q.2) n (x1, s)
def f_X12_clears (s : yb_S) : Option yb_S :=
  l_X12_clears_2 yb_N (0 : Int32) s
def f_X12_asksOf (a1 : Int32) (s : yb_S) : Option yb_S :=
  (f_X12_clears s).bind fun q1 =>
  (yb_rd q1 189 24 a1).bind fun v3 =>
  (yb_wr q1 337 18 (0 : Int32) v3).bind fun s4 =>
  (yb_rd s4 190 24 a1).bind fun v5 =>
  (yb_wr s4 337 18 (1 : Int32) v5).bind fun s6 =>
  (yb_rd s6 191 24 a1).bind fun v7 =>
  (yb_wr s6 337 18 (2 : Int32) v7).bind fun s8 =>
  (yb_rd s8 192 24 a1).bind fun v9 =>
  (yb_wr s8 337 18 (3 : Int32) v9).bind fun s10 =>
  (yb_rd s10 193 24 a1).bind fun v11 =>
  (yb_wr s10 337 18 (4 : Int32) v11).bind fun s12 =>
  (yb_rd s12 194 24 a1).bind fun v13 =>
  (yb_wr s12 337 18 (5 : Int32) v13).bind fun s14 =>
  (yb_rd s14 197 24 a1).bind fun v15 =>
  (yb_wr s14 337 18 (6 : Int32) v15).bind fun s16 =>
  some s16
def j_X12_sheetFor_62 (rc5 : (Int32 → Int32 → Option Int32)) (x1 : Int32) (x2 : Int32) (x3 : Int32) (x4 : Int32) (s : yb_S) : Option Int32 :=
  rc5 x3 (x4 + (1 : Int32))
def j_X12_sheetFor_47 (rc5 : (Int32 → Int32 → Option Int32)) (x1 : Int32) (x2 : Int32) (x3 : Int32) (x4 : Int32) (s : yb_S) : Option Int32 :=
  (yb_ri 322 1 11 x4).bind fun r6 =>
  (yb_rd s r6 6 x1).bind fun v7 =>
  if v7 ≤ 0 then
    j_X12_sheetFor_62 rc5 x1 x2 x3 x4 s
  else
    j_X12_sheetFor_62 rc5 x1 x2 x4 x4 s
def f_X12_sheetFor_5 (rc5 : (Int32 → Int32 → Option Int32)) (x1 : Int32) (x2 : Int32) (s : yb_S) (x3 : Int32) (x4 : Int32) : Option Int32 :=
  if (s.1 176 54) ≤ x4 then
    some x3
  else
    (yb_rd s 333 10 x4).bind fun v2 =>
    if x2 < v2 then
      j_X12_sheetFor_62 rc5 x1 x2 x3 x4 s
    else
      (yb_rd s 334 10 x4).bind fun v4 =>
      if v4 = (-1 : Int32) then
        j_X12_sheetFor_47 rc5 x1 x2 x3 x4 s
      else
        (yb_rd s 334 10 x4).bind fun v9 =>
        if v9 ≤ x2 then
          j_X12_sheetFor_62 rc5 x1 x2 x3 x4 s
        else
          j_X12_sheetFor_47 rc5 x1 x2 x3 x4 s
def l_X12_sheetFor_5 (x1 : Int32) (x2 : Int32) (s : yb_S) (n : Nat) (x3 : Int32) (x4 : Int32) : Option Int32 :=
  yb_it (α := Int32 × Int32) (fun rc q => f_X12_sheetFor_5 (fun x3 x4 => rc (x3, x4)) x1 x2 s q.1 q.2) n (x3, x4)
def f_X12_sheetFor (a1 : Int32) (a2 : Int32) (s : yb_S) : Option Int32 :=
  l_X12_sheetFor_5 a1 a2 s yb_N (-1 : Int32) (0 : Int32)
def j_X12_brought_29 (y0 : Int64) (s : yb_S) : Option Int32 :=
  some (y0.toInt32)
def f_X12_brought (a0 : Int64) (s : yb_S) : Option Int32 :=
  if 0 ≤ (lg_cmp a0 (-1000000 : Int64)) then
    if (lg_cmp a0 (1000000 : Int64)) ≤ 0 then
      j_X12_brought_29 a0 s
    else
      j_X12_brought_29 (1000000 : Int64) s
  else
    j_X12_brought_29 (-1000000 : Int64) s
def f_X12_done (a0 : Int32) (a1 : Int32) (a2 : Int32) (s : yb_S) : Option Int32 :=
  if a0 = (38 : Int32) then
    some (a1 &&& a2)
  else
    if a0 = (39 : Int32) then
      some (a1 ||| a2)
    else
      if a0 = (40 : Int32) then
        some (a1 ||| a2)
      else
        if a0 = (41 : Int32) then
          some (a1 ||| a2)
        else
          if a0 = (42 : Int32) then
            (f_X12_brought ((a1.toInt64) * (a2.toInt64)) s).bind fun q26 =>
            some q26
          else
            if a0 = (43 : Int32) then
              (f_X12_brought ((a1.toInt64) + (a2.toInt64)) s).bind fun q28 =>
              some q28
            else
              if a0 = (44 : Int32) then
                some (a1 ||| a2)
              else
                if a0 = (45 : Int32) then
                  (f_X12_brought ((a1.toInt64) - (a2.toInt64)) s).bind fun q30 =>
                  some q30
                else
                  if a0 = (46 : Int32) then
                    some (a1 ||| a2)
                  else
                    if a0 = (47 : Int32) then
                      if a2 = 0 then
                        some (0 : Int32)
                      else
                        (yb_dv a1 a2).bind fun v33 =>
                        some v33
                    else
                      if a0 = (48 : Int32) then
                        some (a1 ||| a2)
                      else
                        if a0 = (49 : Int32) then
                          some (a1 ||| a2)
                        else
                          if a0 = (50 : Int32) then
                            some (a1 ||| a2)
                          else
                            if a0 = (51 : Int32) then
                              some (a1 ||| a2)
                            else
                              if a0 = (52 : Int32) then
                                some (a1 ||| a2)
                              else
                                if a0 = (53 : Int32) then
                                  some (a1 ||| a2)
                                else
                                  if a0 = (54 : Int32) then
                                    some (a1 ||| a2)
                                  else
                                    if a0 = (55 : Int32) then
                                      some (a1 ||| a2)
                                    else
                                      if a0 = (56 : Int32) then
                                        some (a1 ||| a2)
                                      else
                                        if a0 = (57 : Int32) then
                                          some (a1 ||| a2)
                                        else
                                          if a0 = (58 : Int32) then
                                            some (a1 ||| a2)
                                          else
                                            if a0 = (59 : Int32) then
                                              some (a1 ||| a2)
                                            else
                                              if a0 = (60 : Int32) then
                                                if a2 ≤ a1 then
                                                  some (0 : Int32)
                                                else
                                                  some (1 : Int32)
                                              else
                                                if a0 = (61 : Int32) then
                                                  if a1 = a2 then
                                                    some (1 : Int32)
                                                  else
                                                    some (0 : Int32)
                                                else
                                                  if a0 = (62 : Int32) then
                                                    if a1 ≤ a2 then
                                                      some (0 : Int32)
                                                    else
                                                      some (1 : Int32)
                                                  else
                                                    some (a1 ||| a2)
def j_X12_tells_220 (rc70 : (Int32 → Int32 → yb_S → Option (Int32 × yb_S))) (x1 : Int32) (x2 : Int32) (x3 : Int32) (x4 : Int32) (s : yb_S) : Option (Int32 × yb_S) :=
  rc70 x3 (x4 + (1 : Int32)) s
def j_X12_tells_153 (rc70 : (Int32 → Int32 → yb_S → Option (Int32 × yb_S))) (x1 : Int32) (x2 : Int32) (x3 : Int32) (x4 : Int32) (y0 : Int32) (y1 : Int32) (s : yb_S) : Option (Int32 × yb_S) :=
  (yb_wr s 338 520 y1 y0).bind fun s18 =>
  j_X12_tells_220 rc70 x1 x2 (x3 + (1 : Int32)) x4 s18
def j_X12_tells_129 (rc70 : (Int32 → Int32 → yb_S → Option (Int32 × yb_S))) (x1 : Int32) (x2 : Int32) (x3 : Int32) (x4 : Int32) (x5 : Int32) (x6 : Int32) (s : yb_S) : Option (Int32 × yb_S) :=
  if x5 = (110 : Int32) then
    j_X12_tells_153 rc70 x1 x2 x3 x4 x6 x3 s
  else
    (yb_rd s 337 18 x6).bind fun v17 =>
    j_X12_tells_153 rc70 x1 x2 x3 x4 v17 x3 s
def f_X12_tells_70 (rc70 : (Int32 → Int32 → yb_S → Option (Int32 × yb_S))) (x1 : Int32) (x2 : Int32) (x3 : Int32) (x4 : Int32) (s : yb_S) : Option (Int32 × yb_S) :=
  (yb_ri 322 1 11 x2).bind fun r5 =>
  (yb_rd s r5 6 x1).bind fun v6 =>
  if v6 ≤ x4 then
    (yb_rd s 338 520 (0 : Int32)).bind fun v8 =>
    some (v8, s)
  else
    (yb_ri 244 7 11 x2).bind fun r9 =>
    (yb_ri (r9 + 1) 1 6 x1).bind fun r10 =>
    (yb_rd s r10 1040 ((2 : Int32) * x4)).bind fun v11 =>
    (yb_ri 244 7 11 x2).bind fun r12 =>
    (yb_ri (r12 + 1) 1 6 x1).bind fun r13 =>
    (yb_rd s r13 1040 (((2 : Int32) * x4) + (1 : Int32))).bind fun v14 =>
    if v11 = (110 : Int32) then
      j_X12_tells_129 rc70 x1 x2 x3 x4 v11 v14 s
    else
      if v11 = (118 : Int32) then
        j_X12_tells_129 rc70 x1 x2 x3 x4 v11 v14 s
      else
        if v11 = (33 : Int32) then
          (yb_rd s 338 520 (x3 - (1 : Int32))).bind fun v26 =>
          (yb_wr s 338 520 (x3 - (1 : Int32)) ((1 : Int32) - v26)).bind fun s27 =>
          j_X12_tells_220 rc70 x1 x2 x3 x4 s27
        else
          (yb_rd s 338 520 (x3 - (2 : Int32))).bind fun v21 =>
          (yb_rd s 338 520 (x3 - (1 : Int32))).bind fun v22 =>
          (f_X12_done v11 v21 v22 s).bind fun q23 =>
          (yb_wr s 338 520 (x3 - (2 : Int32)) q23).bind fun s25 =>
          j_X12_tells_220 rc70 x1 x2 (x3 + (-1 : Int32)) x4 s25
def l_X12_tells_70 (x1 : Int32) (x2 : Int32) (n : Nat) (x3 : Int32) (x4 : Int32) (s : yb_S) : Option (Int32 × yb_S) :=
  yb_it (α := Int32 × Int32 × yb_S) (fun rc q => f_X12_tells_70 (fun x3 x4 s => rc (x3, x4, s)) x1 x2 q.1 q.2.1 q.2.2) n (x3, x4, s)
def j_X12_tells_38 (x1 : Int32) (y0 : Int32) (s : yb_S) : Option (Int32 × yb_S) :=
  if y0 = (-1 : Int32) then
    if x1 = (2 : Int32) then
      some ((30 : Int32), s)
    else
      if x1 = (4 : Int32) then
        some ((1 : Int32), s)
      else
        some ((0 : Int32), s)
  else
    l_X12_tells_70 x1 y0 yb_N (0 : Int32) (0 : Int32) s
def j_X12_tells_29 (x1 : Int32) (s : yb_S) : Option (Int32 × yb_S) :=
  (f_X12_sheetFor x1 (s.1 176 7) s).bind fun q2 =>
  j_X12_tells_38 x1 q2 s
def f_X12_tells (a1 : Int32) (s : yb_S) : Option (Int32 × yb_S) :=
  if (s.1 176 58) = (-1 : Int32) then
    j_X12_tells_29 a1 s
  else
    (yb_ri 322 1 11 (s.1 176 58)).bind fun r30 =>
    (yb_rd s r30 6 a1).bind fun v31 =>
    if v31 ≤ 0 then
      j_X12_tells_29 a1 s
    else
      j_X12_tells_38 a1 (s.1 176 58) s
def f_X12_askedOf (a1 : Int32) (a2 : Int32) (s : yb_S) : Option (Int32 × yb_S) :=
  (f_X12_asksOf a1 s).bind fun q1 =>
  (f_X12_tells a2 q1).bind fun q3 =>
  some (q3.1, q3.2)
def f_X12_isHoused (a1 : Int32) (s : yb_S) : Option Int32 :=
  (yb_rd s 195 24 a1).bind fun v1 =>
  if v1 = (1 : Int32) then
    some (1 : Int32)
  else
    some (0 : Int32)
def f_X12_townFor (a1 : Int32) (s : yb_S) : Option Int32 :=
  (f_X12_isHoused a1 s).bind fun q1 =>
  if q1 = 0 then
    some (-1 : Int32)
  else
    (yb_rd s 196 24 a1).bind fun v4 =>
    (yb_rd s 183 24 v4).bind fun v5 =>
    some v5
def j_X12_kinIn_46 (rc5 : (Int32 → Int32 → yb_S → Option (Int32 × yb_S))) (x1 : Int32) (x2 : Int32) (x4 : Int32) (y0 : Int32) (y1 : Int32) (s : yb_S) : Option (Int32 × yb_S) :=
  rc5 (y1 + y0) (x4 + (1 : Int32)) s
def j_X12_kinIn_45 (rc5 : (Int32 → Int32 → yb_S → Option (Int32 × yb_S))) (x1 : Int32) (x2 : Int32) (x4 : Int32) (y0 : Int32) (s : yb_S) : Option (Int32 × yb_S) :=
  j_X12_kinIn_46 rc5 x1 x2 x4 (0 : Int32) y0 s
def f_X12_kinIn_5 (rc5 : (Int32 → Int32 → yb_S → Option (Int32 × yb_S))) (x1 : Int32) (x2 : Int32) (x3 : Int32) (x4 : Int32) (s : yb_S) : Option (Int32 × yb_S) :=
  if (s.1 176 27) ≤ x4 then
    some (x3, s)
  else
    if x4 = x1 then
      j_X12_kinIn_45 rc5 x1 x2 x4 x3 s
    else
      (f_X12_townFor x4 s).bind fun q3 =>
      if q3 = x2 then
        (f_X12_areKin x1 x4 s).bind fun q6 =>
        if q6.1 = 0 then
          j_X12_kinIn_45 rc5 x1 x2 x4 x3 q6.2
        else
          j_X12_kinIn_46 rc5 x1 x2 x4 (1 : Int32) x3 q6.2
      else
        j_X12_kinIn_45 rc5 x1 x2 x4 x3 s
def l_X12_kinIn_5 (x1 : Int32) (x2 : Int32) (n : Nat) (x3 : Int32) (x4 : Int32) (s : yb_S) : Option (Int32 × yb_S) :=
  yb_it (α := Int32 × Int32 × yb_S) (fun rc q => f_X12_kinIn_5 (fun x3 x4 s => rc (x3, x4, s)) x1 x2 q.1 q.2.1 q.2.2) n (x3, x4, s)
def f_X12_kinIn (a1 : Int32) (a2 : Int32) (s : yb_S) : Option (Int32 × yb_S) :=
  l_X12_kinIn_5 a1 a2 yb_N (0 : Int32) (0 : Int32) s
def j_X12_pupilsIn_42 (rc5 : (Int32 → Int32 → Option Int32)) (x1 : Int32) (x2 : Int32) (x4 : Int32) (y0 : Int32) (y1 : Int32) (s : yb_S) : Option Int32 :=
  rc5 (y1 + y0) (x4 + (1 : Int32))
def j_X12_pupilsIn_41 (rc5 : (Int32 → Int32 → Option Int32)) (x1 : Int32) (x2 : Int32) (x4 : Int32) (y0 : Int32) (s : yb_S) : Option Int32 :=
  j_X12_pupilsIn_42 rc5 x1 x2 x4 (0 : Int32) y0 s
def f_X12_pupilsIn_5 (rc5 : (Int32 → Int32 → Option Int32)) (x1 : Int32) (x2 : Int32) (s : yb_S) (x3 : Int32) (x4 : Int32) : Option Int32 :=
  if (s.1 176 27) ≤ x4 then
    some x3
  else
    if x4 = x2 then
      j_X12_pupilsIn_41 rc5 x1 x2 x4 x3 s
    else
      (f_X12_townFor x4 s).bind fun q3 =>
      if q3 = x1 then
        (yb_rd s 190 24 x4).bind fun v6 =>
        j_X12_pupilsIn_42 rc5 x1 x2 x4 v6 x3 s
      else
        j_X12_pupilsIn_41 rc5 x1 x2 x4 x3 s
def l_X12_pupilsIn_5 (x1 : Int32) (x2 : Int32) (s : yb_S) (n : Nat) (x3 : Int32) (x4 : Int32) : Option Int32 :=
  yb_it (α := Int32 × Int32) (fun rc q => f_X12_pupilsIn_5 (fun x3 x4 => rc (x3, x4)) x1 x2 s q.1 q.2) n (x3, x4)
def f_X12_pupilsIn (a1 : Int32) (a2 : Int32) (s : yb_S) : Option Int32 :=
  l_X12_pupilsIn_5 a1 a2 s yb_N (0 : Int32) (0 : Int32)
def f_X12_wants (a1 : Int32) (a2 : Int32) (s : yb_S) : Option Int32 :=
  (yb_rd s 180 8 a1).bind fun v1 =>
  (yb_rd s 193 24 a2).bind fun v2 =>
  if ((v1 >>> (v2 &&& 31)) &&& (1 : Int32)) = (1 : Int32) then
    some (1 : Int32)
  else
    some (0 : Int32)
def j_X12_roomsIn_33 (rc4 : (Int32 → Int32 → Option Int32)) (x1 : Int32) (x3 : Int32) (y0 : Int32) (y1 : Int32) (s : yb_S) : Option Int32 :=
  rc4 (y1 + y0) (x3 + (1 : Int32))
def f_X12_roomsIn_4 (rc4 : (Int32 → Int32 → Option Int32)) (x1 : Int32) (s : yb_S) (x2 : Int32) (x3 : Int32) : Option Int32 :=
  if (s.1 176 15) ≤ x3 then
    some x2
  else
    (yb_rd s 183 24 x3).bind fun v2 =>
    if v2 = x1 then
      (yb_rd s 184 24 x3).bind fun v4 =>
      j_X12_roomsIn_33 rc4 x1 x3 v4 x2 s
    else
      j_X12_roomsIn_33 rc4 x1 x3 (0 : Int32) x2 s
def l_X12_roomsIn_4 (x1 : Int32) (s : yb_S) (n : Nat) (x2 : Int32) (x3 : Int32) : Option Int32 :=
  yb_it (α := Int32 × Int32) (fun rc q => f_X12_roomsIn_4 (fun x2 x3 => rc (x2, x3)) x1 s q.1 q.2) n (x2, x3)
def f_X12_roomsIn (a1 : Int32) (s : yb_S) : Option Int32 :=
  l_X12_roomsIn_4 a1 s yb_N (0 : Int32) (0 : Int32)
def j_X12_asksOf__155 (x3 : Int32) (y0 : Int32) (y1 : Int32) (s : yb_S) : Option yb_S :=
  (yb_wr s 337 18 y1 y0).bind fun s29 =>
  (f_X12_roomsIn x3 s29).bind fun q30 =>
  (yb_wr s29 337 18 (15 : Int32) q30).bind fun s32 =>
  some s32
def j_X12_asksOf__114 (x1 : Int32) (x3 : Int32) (y0 : Int32) (y1 : Int32) (s : yb_S) : Option yb_S :=
  (yb_wr s 337 18 y1 y0).bind fun s21 =>
  (yb_rd s21 179 8 x3).bind fun v22 =>
  (f_X12_pupilsIn x3 x1 s21).bind fun q23 =>
  (yb_wr s21 337 18 (12 : Int32) (v22 - q23)).bind fun s25 =>
  (f_X12_wants x3 x1 s25).bind fun q26 =>
  if q26 = 0 then
    j_X12_asksOf__155 x3 (0 : Int32) (13 : Int32) s25
  else
    j_X12_asksOf__155 x3 (1 : Int32) (13 : Int32) s25
def j_X12_asksOf__33 (x1 : Int32) (x2 : Int32) (x3 : Int32) (y0 : Int32) (y1 : Int32) (s : yb_S) : Option yb_S :=
  (yb_wr s 337 18 y1 y0).bind fun s6 =>
  (f_X12_kinIn x1 x3 s6).bind fun q7 =>
  (yb_wr q7.2 337 18 (8 : Int32) q7.1).bind fun s9 =>
  (yb_rd s9 184 24 x2).bind fun v10 =>
  (yb_wr s9 337 18 (9 : Int32) v10).bind fun s11 =>
  (yb_rd s11 185 24 x2).bind fun v12 =>
  (yb_wr s11 337 18 (10 : Int32) v12).bind fun s13 =>
  (yb_rd s13 199 24 x1).bind fun v14 =>
  if v14 = (-1 : Int32) then
    j_X12_asksOf__114 x1 x3 (0 : Int32) (11 : Int32) s13
  else
    (yb_rd s13 177 8 x3).bind fun v16 =>
    (yb_rd s13 199 24 x1).bind fun v17 =>
    (yb_rd s13 177 8 v17).bind fun v18 =>
    (f_X12_size (v16 - v18) s13).bind fun q19 =>
    j_X12_asksOf__114 x1 x3 q19 (11 : Int32) s13
def f_X12_asksOf_ (a1 : Int32) (a2 : Int32) (s : yb_S) : Option yb_S :=
  (f_X12_asksOf a1 s).bind fun q1 =>
  (yb_rd q1 183 24 a2).bind fun v3 =>
  (yb_rd q1 199 24 a1).bind fun v4 =>
  if v4 = v3 then
    j_X12_asksOf__33 a1 a2 v3 (1 : Int32) (7 : Int32) q1
  else
    j_X12_asksOf__33 a1 a2 v3 (0 : Int32) (7 : Int32) q1
def f_X12_isFamily (a1 : Int32) (s : yb_S) : Option Int32 :=
  (f_X12_in (a1.toInt64) (0 : Int64) (((s.1 176 27) - (1 : Int32)).toInt64) s).bind fun q1 =>
  some q1
def f_X12_isHome (a1 : Int32) (s : yb_S) : Option Int32 :=
  (f_X12_in (a1.toInt64) (0 : Int64) (((s.1 176 15) - (1 : Int32)).toInt64) s).bind fun q1 =>
  some q1
def j_X12_lodger_30 (rc2 : (Int32 → Option Int32)) (x1 : Int32) (x2 : Int32) (s : yb_S) : Option Int32 :=
  rc2 (x2 + (1 : Int32))
def f_X12_lodger_2 (rc2 : (Int32 → Option Int32)) (x1 : Int32) (s : yb_S) (x2 : Int32) : Option Int32 :=
  if (s.1 176 27) ≤ x2 then
    some (-1 : Int32)
  else
    (f_X12_isHoused x2 s).bind fun q2 =>
    if q2 = 0 then
      j_X12_lodger_30 rc2 x1 x2 s
    else
      (yb_rd s 196 24 x2).bind fun v5 =>
      if v5 = x1 then
        some x2
      else
        j_X12_lodger_30 rc2 x1 x2 s
def l_X12_lodger_2 (x1 : Int32) (s : yb_S) (n : Nat) (x2 : Int32) : Option Int32 :=
  yb_it (α := Int32) (fun rc q => f_X12_lodger_2 (fun x2 => rc x2) x1 s q) n x2
def f_X12_lodger (a1 : Int32) (s : yb_S) : Option Int32 :=
  l_X12_lodger_2 a1 s yb_N (0 : Int32)
def j_X12_isApart_66 (rc2 : (Int32 → Option Int32)) (x1 : Int32) (x2 : Int32) (x3 : Int32) (s : yb_S) : Option Int32 :=
  rc2 (x3 + (1 : Int32))
def f_X12_isApart_2 (rc2 : (Int32 → Option Int32)) (x1 : Int32) (x2 : Int32) (s : yb_S) (x3 : Int32) : Option Int32 :=
  if (s.1 176 27) ≤ x3 then
    some (0 : Int32)
  else
    if x3 = x1 then
      j_X12_isApart_66 rc2 x1 x2 x3 s
    else
      (f_X12_isHoused x3 s).bind fun q3 =>
      if q3 = 0 then
        j_X12_isApart_66 rc2 x1 x2 x3 s
      else
        (f_X12_townFor x3 s).bind fun q6 =>
        (yb_rd s 177 8 q6).bind fun v8 =>
        (yb_rd s 177 8 x2).bind fun v9 =>
        (f_X12_size (v8 - v9) s).bind fun q10 =>
        (yb_rd s 194 24 x1).bind fun v12 =>
        (yb_ri 201 1 6 v12).bind fun r13 =>
        (yb_rd s 194 24 x3).bind fun v14 =>
        (yb_rd s r13 6 v14).bind fun v15 =>
        if v15 ≤ q10 then
          j_X12_isApart_66 rc2 x1 x2 x3 s
        else
          some (1 : Int32)
def l_X12_isApart_2 (x1 : Int32) (x2 : Int32) (s : yb_S) (n : Nat) (x3 : Int32) : Option Int32 :=
  yb_it (α := Int32) (fun rc q => f_X12_isApart_2 (fun x3 => rc x3) x1 x2 s q) n x3
def f_X12_isApart (a1 : Int32) (a2 : Int32) (s : yb_S) : Option Int32 :=
  l_X12_isApart_2 a1 a2 s yb_N (0 : Int32)
def j_X12_barOf_173 (x1 : Int32) (x2 : Int32) (x3 : Int32) (s : yb_S) : Option (Int32 × yb_S) :=
  (yb_rd s 182 8 x3).bind fun v19 =>
  if v19 = 0 then
    (f_X12_isApart x1 x3 s).bind fun q21 =>
    if q21 = 0 then
      (f_X12_asksOf_ x1 x2 s).bind fun q24 =>
      (f_X12_tells (4 : Int32) q24).bind fun q26 =>
      if q26.1 = (1 : Int32) then
        some ((0 : Int32), q26.2)
      else
        some ((9 : Int32), q26.2)
    else
      some ((8 : Int32), s)
  else
    some ((7 : Int32), s)
def j_X12_barOf_145 (x1 : Int32) (x2 : Int32) (x3 : Int32) (s : yb_S) : Option (Int32 × yb_S) :=
  (yb_rd s 186 24 x2).bind fun v17 =>
  if (4 : Int32) ≤ v17 then
    j_X12_barOf_173 x1 x2 x3 s
  else
    (yb_rd s 186 24 x2).bind fun v29 =>
    (yb_rd s 192 24 x1).bind fun v30 =>
    if v29 = v30 then
      j_X12_barOf_173 x1 x2 x3 s
    else
      some ((6 : Int32), s)
def j_X12_barOf_94 (x1 : Int32) (x2 : Int32) (x3 : Int32) (s : yb_S) : Option (Int32 × yb_S) :=
  (yb_rd s 190 24 x1).bind fun v15 =>
  if v15 ≤ 0 then
    j_X12_barOf_145 x1 x2 x3 s
  else
    (yb_rd s 178 8 x3).bind fun v32 =>
    (yb_rd s 192 24 x1).bind fun v33 =>
    if ((v32 >>> (v33 &&& 31)) &&& (1 : Int32)) = 0 then
      some ((5 : Int32), s)
    else
      (yb_rd s 179 8 x3).bind fun v35 =>
      (f_X12_pupilsIn x3 x1 s).bind fun q36 =>
      (yb_rd s 190 24 x1).bind fun v38 =>
      if v38 ≤ (v35 - q36) then
        j_X12_barOf_145 x1 x2 x3 s
      else
        some ((5 : Int32), s)
def j_X12_barOf_55 (x1 : Int32) (x2 : Int32) (x3 : Int32) (s : yb_S) : Option (Int32 × yb_S) :=
  (yb_rd s 189 24 x1).bind fun v10 =>
  (yb_rd s 184 24 x2).bind fun v11 =>
  if v10 ≤ v11 then
    (yb_rd s 185 24 x2).bind fun v13 =>
    if v13 = (1 : Int32) then
      (yb_rd s 191 24 x1).bind fun v40 =>
      if v40 = (1 : Int32) then
        some ((4 : Int32), s)
      else
        j_X12_barOf_94 x1 x2 x3 s
    else
      j_X12_barOf_94 x1 x2 x3 s
  else
    some ((3 : Int32), s)
def f_X12_barOf (a1 : Int32) (a2 : Int32) (s : yb_S) : Option (Int32 × yb_S) :=
  (yb_rd s 183 24 a2).bind fun v1 =>
  (f_X12_lodger a2 s).bind fun q2 =>
  (yb_rd s 187 24 a2).bind fun v4 =>
  (yb_rd s 188 24 a2).bind fun v5 =>
  (f_X12_in ((s.1 176 7).toInt64) (v4.toInt64) (v5.toInt64) s).bind fun q6 =>
  if q6 = 0 then
    some ((1 : Int32), s)
  else
    if q2 = (-1 : Int32) then
      j_X12_barOf_55 a1 a2 v1 s
    else
      if q2 = a1 then
        j_X12_barOf_55 a1 a2 v1 s
      else
        some ((2 : Int32), s)
def f_X12_bar (a1 : Int32) (a2 : Int32) (s : yb_S) : Option (Int32 × yb_S) :=
  (f_X12_isFamily a1 s).bind fun q1 =>
  if q1 = 0 then
    some ((-1 : Int32), s)
  else
    (f_X12_isHome a2 s).bind fun q4 =>
    if q4 = 0 then
      some ((-1 : Int32), s)
    else
      (yb_rd s 195 24 a1).bind fun v7 =>
      if v7 = (2 : Int32) then
        some ((-1 : Int32), s)
      else
        (f_X12_barOf a1 a2 s).bind fun q9 =>
        some (q9.1, q9.2)
def f_X12_beds (a1 : Int32) (s : yb_S) : Option (Int32 × yb_S) :=
  (f_X12_in (a1.toInt64) (0 : Int64) (200 : Int64) s).bind fun q1 =>
  if q1 = 0 then
    some ((0 : Int32), s)
  else
    (some (yb_pI s 176 8 a1)).bind fun s4 =>
    some ((1 : Int32), s4)
def j_X12_hallHeads_32 (rc4 : (Int32 → Int32 → Option Int32)) (x2 : Int32) (y0 : Int32) (y1 : Int32) (s : yb_S) : Option Int32 :=
  rc4 (y1 + y0) (x2 + (1 : Int32))
def f_X12_hallHeads_4 (rc4 : (Int32 → Int32 → Option Int32)) (s : yb_S) (x1 : Int32) (x2 : Int32) : Option Int32 :=
  if (s.1 176 27) ≤ x2 then
    some x1
  else
    (yb_rd s 195 24 x2).bind fun v2 =>
    if v2 = 0 then
      (yb_rd s 189 24 x2).bind fun v4 =>
      j_X12_hallHeads_32 rc4 x2 v4 x1 s
    else
      j_X12_hallHeads_32 rc4 x2 (0 : Int32) x1 s
def l_X12_hallHeads_4 (s : yb_S) (n : Nat) (x1 : Int32) (x2 : Int32) : Option Int32 :=
  yb_it (α := Int32 × Int32) (fun rc q => f_X12_hallHeads_4 (fun x1 x2 => rc (x1, x2)) s q.1 q.2) n (x1, x2)
def f_X12_hallHeads (s : yb_S) : Option Int32 :=
  l_X12_hallHeads_4 s yb_N (0 : Int32) (0 : Int32)
def j_X12_orders_107 (rc7 : (Int32 → yb_S → Option yb_S)) (x1 : Int32) (s : yb_S) : Option yb_S :=
  rc7 (x1 + (1 : Int32)) s
def j_X12_orders_90 (rc7 : (Int32 → yb_S → Option yb_S)) (x1 : Int32) (x2 : Int32) (s : yb_S) : Option yb_S :=
  (yb_wr s 339 24 x2 x1).bind fun s9 =>
  (some (yb_pI s9 176 65 ((s9.1 176 65) + (1 : Int32)))).bind fun s10 =>
  j_X12_orders_107 rc7 x1 s10
def f_X12_orders_44 (rc7 : (Int32 → yb_S → Option yb_S)) (rc44 : (Int32 → yb_S → Option yb_S)) (x1 : Int32) (x2 : Int32) (s : yb_S) : Option yb_S :=
  if x2 ≤ 0 then
    j_X12_orders_90 rc7 x1 x2 s
  else
    (yb_rd s 339 24 (x2 - (1 : Int32))).bind fun v11 =>
    (yb_rd s 340 24 v11).bind fun v12 =>
    (yb_rd s 340 24 x1).bind fun v13 =>
    if v13 ≤ v12 then
      j_X12_orders_90 rc7 x1 x2 s
    else
      (yb_rd s 339 24 (x2 - (1 : Int32))).bind fun v15 =>
      (yb_wr s 339 24 x2 v15).bind fun s16 =>
      rc44 (x2 + (-1 : Int32)) s16
def l_X12_orders_44 (rc7 : (Int32 → yb_S → Option yb_S)) (x1 : Int32) (n : Nat) (x2 : Int32) (s : yb_S) : Option yb_S :=
  yb_it (α := Int32 × yb_S) (fun rc q => f_X12_orders_44 rc7 (fun x2 s => rc (x2, s)) x1 q.1 q.2) n (x2, s)
def f_X12_orders_7 (rc7 : (Int32 → yb_S → Option yb_S)) (x1 : Int32) (s : yb_S) : Option yb_S :=
  if (s.1 176 27) ≤ x1 then
    some s
  else
    (yb_rd s 195 24 x1).bind fun v3 =>
    if v3 = 0 then
      (f_X12_askedOf x1 (0 : Int32) s).bind fun q5 =>
      (yb_wr q5.2 340 24 x1 q5.1).bind fun s7 =>
      l_X12_orders_44 rc7 x1 yb_N (s7.1 176 65) s7
    else
      j_X12_orders_107 rc7 x1 s
def l_X12_orders_7 (n : Nat) (x1 : Int32) (s : yb_S) : Option yb_S :=
  yb_it (α := Int32 × yb_S) (fun rc q => f_X12_orders_7 (fun x1 s => rc (x1, s)) q.1 q.2) n (x1, s)
def f_X12_orders (s : yb_S) : Option yb_S :=
  (some (yb_pI s 176 65 (0 : Int32))).bind fun s1 =>
  l_X12_orders_7 yb_N (0 : Int32) s1
def f_X12_shareOf (a1 : Int32) (s : yb_S) : Option (Int32 × yb_S) :=
  (f_X12_clears s).bind fun q1 =>
  (yb_rd q1 179 8 a1).bind fun v3 =>
  (f_X12_pupilsIn a1 (-1 : Int32) q1).bind fun q4 =>
  (yb_wr q1 337 18 (12 : Int32) (v3 - q4)).bind fun s6 =>
  (f_X12_roomsIn a1 s6).bind fun q7 =>
  (yb_wr s6 337 18 (15 : Int32) q7).bind fun s9 =>
  (f_X12_tells (1 : Int32) s9).bind fun q10 =>
  some (q10.1, q10.2)
def j_X12_headsIn_32 (rc4 : (Int32 → Int32 → Option Int32)) (x1 : Int32) (x3 : Int32) (y0 : Int32) (y1 : Int32) (s : yb_S) : Option Int32 :=
  rc4 (y1 + y0) (x3 + (1 : Int32))
def f_X12_headsIn_4 (rc4 : (Int32 → Int32 → Option Int32)) (x1 : Int32) (s : yb_S) (x2 : Int32) (x3 : Int32) : Option Int32 :=
  if (s.1 176 27) ≤ x3 then
    some x2
  else
    (f_X12_townFor x3 s).bind fun q2 =>
    if q2 = x1 then
      (yb_rd s 189 24 x3).bind fun v5 =>
      j_X12_headsIn_32 rc4 x1 x3 v5 x2 s
    else
      j_X12_headsIn_32 rc4 x1 x3 (0 : Int32) x2 s
def l_X12_headsIn_4 (x1 : Int32) (s : yb_S) (n : Nat) (x2 : Int32) (x3 : Int32) : Option Int32 :=
  yb_it (α := Int32 × Int32) (fun rc q => f_X12_headsIn_4 (fun x2 x3 => rc (x2, x3)) x1 s q.1 q.2) n (x2, x3)
def f_X12_headsIn (a1 : Int32) (s : yb_S) : Option Int32 :=
  l_X12_headsIn_4 a1 s yb_N (0 : Int32) (0 : Int32)
def f_X12_lackOf (a1 : Int32) (s : yb_S) : Option (Int32 × yb_S) :=
  (f_X12_shareOf a1 s).bind fun q1 =>
  (f_X12_headsIn a1 q1.2).bind fun q3 =>
  some ((q1.1 - q3), q1.2)
def j_X12_homeFor_96 (rc7 : (Int32 → Int32 → Int32 → yb_S → Option (Int32 × yb_S))) (x1 : Int32) (x2 : Int32) (x3 : Int32) (x4 : Int32) (s : yb_S) : Option (Int32 × yb_S) :=
  rc7 x2 x3 (x4 + (1 : Int32)) s
def j_X12_homeFor_90 (rc7 : (Int32 → Int32 → Int32 → yb_S → Option (Int32 × yb_S))) (x1 : Int32) (x4 : Int32) (x6 : Int32) (s : yb_S) : Option (Int32 × yb_S) :=
  j_X12_homeFor_96 rc7 x1 x4 x6 x4 s
def j_X12_homeFor_66 (rc7 : (Int32 → Int32 → Int32 → yb_S → Option (Int32 × yb_S))) (x1 : Int32) (x2 : Int32) (x3 : Int32) (x4 : Int32) (x5 : Int32) (y0 : Int32) (y1 : Int32) (s : yb_S) : Option (Int32 × yb_S) :=
  (f_X12_lackOf x5 s).bind fun q10 =>
  if x2 = (-1 : Int32) then
    j_X12_homeFor_90 rc7 x1 x4 ((y1 + y0) + q10.1) q10.2
  else
    if x3 < ((y1 + y0) + q10.1) then
      j_X12_homeFor_90 rc7 x1 x4 ((y1 + y0) + q10.1) q10.2
    else
      j_X12_homeFor_96 rc7 x1 x2 x3 x4 q10.2
def f_X12_homeFor_7 (rc7 : (Int32 → Int32 → Int32 → yb_S → Option (Int32 × yb_S))) (x1 : Int32) (x2 : Int32) (x3 : Int32) (x4 : Int32) (s : yb_S) : Option (Int32 × yb_S) :=
  if (s.1 176 15) ≤ x4 then
    some (x2, s)
  else
    (f_X12_barOf x1 x4 s).bind fun q2 =>
    if q2.1 = 0 then
      (yb_rd q2.2 183 24 x4).bind fun v5 =>
      (f_X12_kinIn x1 v5 q2.2).bind fun q6 =>
      (yb_rd q6.2 199 24 x1).bind fun v8 =>
      if v8 = v5 then
        j_X12_homeFor_66 rc7 x1 x2 x3 x4 v5 (100 : Int32) ((1000 : Int32) * q6.1) q6.2
      else
        j_X12_homeFor_66 rc7 x1 x2 x3 x4 v5 (0 : Int32) ((1000 : Int32) * q6.1) q6.2
    else
      j_X12_homeFor_96 rc7 x1 x2 x3 x4 q2.2
def l_X12_homeFor_7 (x1 : Int32) (n : Nat) (x2 : Int32) (x3 : Int32) (x4 : Int32) (s : yb_S) : Option (Int32 × yb_S) :=
  yb_it (α := Int32 × Int32 × Int32 × yb_S) (fun rc q => f_X12_homeFor_7 (fun x2 x3 x4 s => rc (x2, x3, x4, s)) x1 q.1 q.2.1 q.2.2.1 q.2.2.2) n (x2, x3, x4, s)
def f_X12_homeFor (a1 : Int32) (s : yb_S) : Option (Int32 × yb_S) :=
  l_X12_homeFor_7 a1 yb_N (-1 : Int32) (0 : Int32) (0 : Int32) s
def j_X12_houses_15 (x1 : Int32) (x2 : Int32) (y0 : Int32) (y1 : Int32) (s : yb_S) : Option yb_S :=
  (yb_wr s 195 24 y1 y0).bind fun s2 =>
  (yb_wr s2 196 24 x1 x2).bind fun s3 =>
  some s3
def f_X12_houses (a1 : Int32) (a2 : Int32) (s : yb_S) : Option yb_S :=
  if a2 = (-1 : Int32) then
    j_X12_houses_15 a1 a2 (0 : Int32) a1 s
  else
    j_X12_houses_15 a1 a2 (1 : Int32) a1 s
def j_X12_places_114 (rc8 : (Int32 → Int32 → yb_S → Option (Int32 × yb_S))) (x1 : Int32) (x2 : Int32) (x3 : Int32) (s : yb_S) : Option (Int32 × yb_S) :=
  rc8 x2 (x3 + (1 : Int32)) s
def j_X12_places_103 (rc8 : (Int32 → Int32 → yb_S → Option (Int32 × yb_S))) (x1 : Int32) (x2 : Int32) (x3 : Int32) (x4 : Int32) (x5 : Int32) (s : yb_S) : Option (Int32 × yb_S) :=
  (f_X12_houses x4 x5 s).bind fun q9 =>
  j_X12_places_114 rc8 x1 (x2 + (1 : Int32)) x3 q9
def j_X12_places_97 (rc8 : (Int32 → Int32 → yb_S → Option (Int32 × yb_S))) (rc44 : (Int32 → yb_S → Option (Int32 × yb_S))) (x1 : Int32) (x2 : Int32) (x3 : Int32) (x4 : Int32) (x5 : Int32) (x6 : Int32) (s : yb_S) : Option (Int32 × yb_S) :=
  rc44 (x6 + (1 : Int32)) s
def f_X12_places_44 (rc8 : (Int32 → Int32 → yb_S → Option (Int32 × yb_S))) (rc44 : (Int32 → yb_S → Option (Int32 × yb_S))) (x1 : Int32) (x2 : Int32) (x3 : Int32) (x4 : Int32) (x5 : Int32) (x6 : Int32) (s : yb_S) : Option (Int32 × yb_S) :=
  if x3 ≤ x6 then
    j_X12_places_103 rc8 x1 x2 x3 x4 x5 s
  else
    if x1 = 0 then
      j_X12_places_103 rc8 x1 x2 x3 x4 x5 s
    else
      (yb_rd s 339 24 x6).bind fun v12 =>
      (yb_rd s 195 24 v12).bind fun v13 =>
      if v13 = 0 then
        (yb_rd s 339 24 x6).bind fun v15 =>
        (yb_ri 342 1 24 v15).bind fun r16 =>
        (yb_rd s 339 24 x6).bind fun v17 =>
        (f_X12_barOf v17 x5 s).bind fun q18 =>
        (yb_wr q18.2 r16 24 x4 q18.1).bind fun s20 =>
        j_X12_places_97 rc8 rc44 x1 x2 x3 x4 x5 x6 s20
      else
        j_X12_places_97 rc8 rc44 x1 x2 x3 x4 x5 x6 s
def l_X12_places_44 (rc8 : (Int32 → Int32 → yb_S → Option (Int32 × yb_S))) (x1 : Int32) (x2 : Int32) (x3 : Int32) (x4 : Int32) (x5 : Int32) (n : Nat) (x6 : Int32) (s : yb_S) : Option (Int32 × yb_S) :=
  yb_it (α := Int32 × yb_S) (fun rc q => f_X12_places_44 rc8 (fun x6 s => rc (x6, s)) x1 x2 x3 x4 x5 q.1 q.2) n (x6, s)
def f_X12_places_8 (rc8 : (Int32 → Int32 → yb_S → Option (Int32 × yb_S))) (x1 : Int32) (x2 : Int32) (x3 : Int32) (s : yb_S) : Option (Int32 × yb_S) :=
  if (s.1 176 65) ≤ x3 then
    some (x2, s)
  else
    (yb_rd s 339 24 x3).bind fun v4 =>
    (f_X12_homeFor v4 s).bind fun q5 =>
    if q5.1 = (-1 : Int32) then
      j_X12_places_114 rc8 x1 x2 x3 q5.2
    else
      l_X12_places_44 rc8 x1 x2 x3 v4 q5.1 yb_N (0 : Int32) q5.2
def l_X12_places_8 (x1 : Int32) (n : Nat) (x2 : Int32) (x3 : Int32) (s : yb_S) : Option (Int32 × yb_S) :=
  yb_it (α := Int32 × Int32 × yb_S) (fun rc q => f_X12_places_8 (fun x2 x3 s => rc (x2, x3, s)) x1 q.1 q.2.1 q.2.2) n (x2, x3, s)
def f_X12_places (a1 : Int32) (s : yb_S) : Option (Int32 × yb_S) :=
  (f_X12_orders s).bind fun q1 =>
  l_X12_places_8 a1 yb_N (0 : Int32) (0 : Int32) q1
def j_X12_beside_104 (rc81 : (Int32 → yb_S → Option (Int32 × yb_S))) (x2 : Nat) (x4 : Int32) (x5 : Int32) (x6 : Int32) (s : yb_S) : Option (Int32 × yb_S) :=
  rc81 (x6 + (1 : Int32)) s
def f_X12_beside_81 (rc81 : (Int32 → yb_S → Option (Int32 × yb_S))) (x2 : Nat) (x4 : Int32) (x5 : Int32) (x6 : Int32) (s : yb_S) : Option (Int32 × yb_S) :=
  if (s.1 176 27) ≤ x6 then
    if x4 = 0 then
      some ((0 : Int32), s)
    else
      some (x5, s)
  else
    (yb_rd s x2 24 x6).bind fun v15 =>
    if v15 = 0 then
      (f_X12_houses x6 (-1 : Int32) s).bind fun q17 =>
      j_X12_beside_104 rc81 x2 x4 x5 x6 q17
    else
      j_X12_beside_104 rc81 x2 x4 x5 x6 s
def l_X12_beside_81 (x2 : Nat) (x4 : Int32) (x5 : Int32) (n : Nat) (x6 : Int32) (s : yb_S) : Option (Int32 × yb_S) :=
  yb_it (α := Int32 × yb_S) (fun rc q => f_X12_beside_81 (fun x6 s => rc (x6, s)) x2 x4 x5 q.1 q.2) n (x6, s)
def f_X12_beside_25 (rc25 : (Int32 → yb_S → Option (Int32 × yb_S))) (x1 : Int32) (x2 : Nat) (x3 : Int32) (s : yb_S) : Option (Int32 × yb_S) :=
  if (s.1 176 27) ≤ x3 then
    (some (yb_pI s 176 58 x1)).bind fun s5 =>
    (f_X12_hallHeads s5).bind fun q6 =>
    (f_X12_places (0 : Int32) s5).bind fun q8 =>
    (f_X12_hallHeads q8.2).bind fun q10 =>
    (some (yb_pI q8.2 176 58 (-1 : Int32))).bind fun s12 =>
    l_X12_beside_81 x2 q8.1 (q6 - q10) yb_N (0 : Int32) s12
  else
    (yb_rd s 195 24 x3).bind fun v19 =>
    (yb_wr s x2 24 x3 v19).bind fun s20 =>
    rc25 (x3 + (1 : Int32)) s20
def l_X12_beside_25 (x1 : Int32) (x2 : Nat) (n : Nat) (x3 : Int32) (s : yb_S) : Option (Int32 × yb_S) :=
  yb_it (α := Int32 × yb_S) (fun rc q => f_X12_beside_25 (fun x3 s => rc (x3, s)) x1 x2 q.1 q.2) n (x3, s)
def f_X12_beside (a1 : Int32) (nx : Nat) (s : yb_S) : Option (Int32 × yb_S) :=
  (f_X12_in (a1.toInt64) (0 : Int64) (((s.1 176 54) - (1 : Int32)).toInt64) s).bind fun q1 =>
  if q1 = 0 then
    some ((-1 : Int32), s)
  else
    (some (yb_zI s nx)).bind fun s0 =>
    l_X12_beside_25 a1 nx yb_N (0 : Int32) s0
def j_X12_canAsk_168 (rc118 : (Int32 → yb_S → Option (Int32 × yb_S))) (x2 : Int32) (x3 : Int32) (s : yb_S) : Option (Int32 × yb_S) :=
  rc118 (x3 + (1 : Int32)) s
def f_X12_canAsk_118 (rc118 : (Int32 → yb_S → Option (Int32 × yb_S))) (x2 : Int32) (x3 : Int32) (s : yb_S) : Option (Int32 × yb_S) :=
  if (s.1 176 15) ≤ x3 then
    some ((1 : Int32), s)
  else
    if ((x2 >>> (x3 &&& 31)) &&& (1 : Int32)) = 0 then
      j_X12_canAsk_168 rc118 x2 x3 s
    else
      if (s.1 176 75) = (6 : Int32) then
        some ((0 : Int32), s)
      else
        (yb_wr s 593 6 (s.1 176 75) x3).bind fun s13 =>
        (some (yb_pI s13 176 75 ((s13.1 176 75) + (1 : Int32)))).bind fun s14 =>
        j_X12_canAsk_168 rc118 x2 x3 s14
def l_X12_canAsk_118 (x2 : Int32) (n : Nat) (x3 : Int32) (s : yb_S) : Option (Int32 × yb_S) :=
  yb_it (α := Int32 × yb_S) (fun rc q => f_X12_canAsk_118 (fun x3 s => rc (x3, s)) x2 q.1 q.2) n (x3, s)
def j_X12_canAsk_110 (rc50 : (Int32 → yb_S → Option (Int32 × yb_S))) (x1 : Int32) (x2 : Int32) (x3 : Int32) (s : yb_S) : Option (Int32 × yb_S) :=
  rc50 (x3 + (1 : Int32)) s
def f_X12_canAsk_50 (rc50 : (Int32 → yb_S → Option (Int32 × yb_S))) (x1 : Int32) (x2 : Int32) (x3 : Int32) (s : yb_S) : Option (Int32 × yb_S) :=
  if (s.1 176 27) ≤ x3 then
    l_X12_canAsk_118 x2 yb_N (0 : Int32) s
  else
    if ((x1 >>> (x3 &&& 31)) &&& (1 : Int32)) = 0 then
      j_X12_canAsk_110 rc50 x1 x2 x3 s
    else
      if (s.1 176 74) = (6 : Int32) then
        some ((0 : Int32), s)
      else
        (yb_rd s 195 24 x3).bind fun v17 =>
        if v17 = (2 : Int32) then
          some ((0 : Int32), s)
        else
          (yb_wr s 592 6 (s.1 176 74) x3).bind fun s19 =>
          (some (yb_pI s19 176 74 ((s19.1 176 74) + (1 : Int32)))).bind fun s20 =>
          j_X12_canAsk_110 rc50 x1 x2 x3 s20
def l_X12_canAsk_50 (x1 : Int32) (x2 : Int32) (n : Nat) (x3 : Int32) (s : yb_S) : Option (Int32 × yb_S) :=
  yb_it (α := Int32 × yb_S) (fun rc q => f_X12_canAsk_50 (fun x3 s => rc (x3, s)) x1 x2 q.1 q.2) n (x3, s)
def f_X12_canAsk (a1 : Int32) (a2 : Int32) (s : yb_S) : Option (Int32 × yb_S) :=
  (some (yb_pI s 176 74 (0 : Int32))).bind fun s1 =>
  (some (yb_pI s1 176 75 (0 : Int32))).bind fun s2 =>
  (f_X12_in (a1.toInt64) (1 : Int64) ((((1 : Int32) <<< ((s2.1 176 27) &&& 31)) - (1 : Int32)).toInt64) s2).bind fun q3 =>
  if q3 = 0 then
    some ((0 : Int32), s2)
  else
    (f_X12_in (a2.toInt64) (1 : Int64) ((((1 : Int32) <<< ((s2.1 176 15) &&& 31)) - (1 : Int32)).toInt64) s2).bind fun q6 =>
    if q6 = 0 then
      some ((0 : Int32), s2)
    else
      l_X12_canAsk_50 a1 a2 yb_N (0 : Int32) s2
def f_X12_looks_230 (rc230 : (Int32 → yb_S → Option yb_S)) (x4 : Int32) (s : yb_S) : Option yb_S :=
  if (s.1 176 74) ≤ x4 then
    some s
  else
    (yb_rd s 596 6 x4).bind fun v8 =>
    (yb_wr s 597 6 x4 v8).bind fun s9 =>
    rc230 (x4 + (1 : Int32)) s9
def l_X12_looks_230 (n : Nat) (x4 : Int32) (s : yb_S) : Option yb_S :=
  yb_it (α := Int32 × yb_S) (fun rc q => f_X12_looks_230 (fun x4 s => rc (x4, s)) q.1 q.2) n (x4, s)
def j_X12_looks_212 (x1 : Int32) (x2 : Int32) (x3 : Int32) (s : yb_S) : Option yb_S :=
  (some (yb_pI s 176 76 x1)).bind fun s4 =>
  (some (yb_pI s4 176 77 x2)).bind fun s5 =>
  (some (yb_pI s5 176 78 x3)).bind fun s6 =>
  l_X12_looks_230 yb_N (0 : Int32) s6
def j_X12_looks_165 (rc9 : (Int32 → Int32 → Int32 → Int32 → yb_S → Option yb_S)) (x1 : Int32) (x2 : Int32) (x3 : Int32) (x4 : Int32) (s : yb_S) : Option yb_S :=
  rc9 x1 x2 x3 (x4 + (1 : Int32)) s
def j_X12_looks_157 (rc9 : (Int32 → Int32 → Int32 → Int32 → yb_S → Option yb_S)) (rc85 : (Int32 → Int32 → yb_S → Option yb_S)) (x1 : Int32) (x3 : Int32) (x4 : Int32) (x5 : Int32) (y0 : Int32) (y1 : Int32) (s : yb_S) : Option yb_S :=
  rc85 (y1 + y0) (x5 + (1 : Int32)) s
def j_X12_looks_156 (rc9 : (Int32 → Int32 → Int32 → Int32 → yb_S → Option yb_S)) (rc85 : (Int32 → Int32 → yb_S → Option yb_S)) (x1 : Int32) (x3 : Int32) (x4 : Int32) (x5 : Int32) (y0 : Int32) (s : yb_S) : Option yb_S :=
  j_X12_looks_157 rc9 rc85 x1 x3 x4 x5 (0 : Int32) y0 s
def f_X12_looks_85 (rc9 : (Int32 → Int32 → Int32 → Int32 → yb_S → Option yb_S)) (rc85 : (Int32 → Int32 → yb_S → Option yb_S)) (x1 : Int32) (x3 : Int32) (x4 : Int32) (x2 : Int32) (x5 : Int32) (s : yb_S) : Option yb_S :=
  if x4 ≤ x5 then
    j_X12_looks_165 rc9 x1 x2 x3 x4 s
  else
    (yb_rd s 596 6 x5).bind fun v23 =>
    if v23 = (-1 : Int32) then
      j_X12_looks_156 rc9 rc85 x1 x3 x4 x5 x2 s
    else
      (yb_rd s 596 6 x5).bind fun v25 =>
      (yb_rd s 183 24 v25).bind fun v26 =>
      (yb_rd s 596 6 x4).bind fun v27 =>
      (yb_rd s 183 24 v27).bind fun v28 =>
      if v26 = v28 then
        (yb_rd s 592 6 x5).bind fun v30 =>
        (yb_rd s 592 6 x4).bind fun v31 =>
        (f_X12_areKin v30 v31 s).bind fun q32 =>
        if q32.1 = 0 then
          j_X12_looks_156 rc9 rc85 x1 x3 x4 x5 x2 q32.2
        else
          j_X12_looks_157 rc9 rc85 x1 x3 x4 x5 (1 : Int32) x2 q32.2
      else
        j_X12_looks_156 rc9 rc85 x1 x3 x4 x5 x2 s
def l_X12_looks_85 (rc9 : (Int32 → Int32 → Int32 → Int32 → yb_S → Option yb_S)) (x1 : Int32) (x3 : Int32) (x4 : Int32) (n : Nat) (x2 : Int32) (x5 : Int32) (s : yb_S) : Option yb_S :=
  yb_it (α := Int32 × Int32 × yb_S) (fun rc q => f_X12_looks_85 rc9 (fun x2 x5 s => rc (x2, x5, s)) x1 x3 x4 q.1 q.2.1 q.2.2) n (x2, x5, s)
def j_X12_looks_80 (rc9 : (Int32 → Int32 → Int32 → Int32 → yb_S → Option yb_S)) (x1 : Int32) (x2 : Int32) (x4 : Int32) (y0 : Int32) (y1 : Int32) (s : yb_S) : Option yb_S :=
  l_X12_looks_85 rc9 x1 (y1 + y0) x4 yb_N x2 (0 : Int32) s
def f_X12_looks_9 (rc9 : (Int32 → Int32 → Int32 → Int32 → yb_S → Option yb_S)) (x1 : Int32) (x2 : Int32) (x3 : Int32) (x4 : Int32) (s : yb_S) : Option yb_S :=
  if (s.1 176 74) ≤ x4 then
    if x1 < (s.1 176 76) then
      some s
    else
      if x1 = (s.1 176 76) then
        if x2 < (s.1 176 77) then
          some s
        else
          if x2 = (s.1 176 77) then
            if (s.1 176 78) < x3 then
              j_X12_looks_212 x1 x2 x3 s
            else
              some s
          else
            j_X12_looks_212 x1 x2 x3 s
      else
        j_X12_looks_212 x1 x2 x3 s
  else
    (yb_rd s 596 6 x4).bind fun v13 =>
    if v13 = (-1 : Int32) then
      j_X12_looks_165 rc9 x1 x2 x3 x4 s
    else
      (yb_rd s 592 6 x4).bind fun v15 =>
      (yb_rd s 189 24 v15).bind fun v16 =>
      (yb_rd s 592 6 x4).bind fun v17 =>
      (yb_rd s 199 24 v17).bind fun v18 =>
      (yb_rd s 596 6 x4).bind fun v19 =>
      (yb_rd s 183 24 v19).bind fun v20 =>
      if v18 = v20 then
        j_X12_looks_80 rc9 (x1 + v16) x2 x4 (1 : Int32) x3 s
      else
        j_X12_looks_80 rc9 (x1 + v16) x2 x4 (0 : Int32) x3 s
def l_X12_looks_9 (n : Nat) (x1 : Int32) (x2 : Int32) (x3 : Int32) (x4 : Int32) (s : yb_S) : Option yb_S :=
  yb_it (α := Int32 × Int32 × Int32 × Int32 × yb_S) (fun rc q => f_X12_looks_9 (fun x1 x2 x3 x4 s => rc (x1, x2, x3, x4, s)) q.1 q.2.1 q.2.2.1 q.2.2.2.1 q.2.2.2.2) n (x1, x2, x3, x4, s)
def f_X12_looks (s : yb_S) : Option yb_S :=
  l_X12_looks_9 yb_N (0 : Int32) (0 : Int32) (0 : Int32) (0 : Int32) s
def j_X12_tries_91 (r_X12_tries : (Int32 → yb_S → Option yb_S)) (rc15 : (Int32 → yb_S → Option yb_S)) (x1 : Int32) (x2 : Int32) (s : yb_S) : Option yb_S :=
  rc15 (x2 + (1 : Int32)) s
def f_X12_tries_15 (r_X12_tries : (Int32 → yb_S → Option yb_S)) (rc15 : (Int32 → yb_S → Option yb_S)) (x1 : Int32) (x2 : Int32) (s : yb_S) : Option yb_S :=
  if (s.1 176 75) ≤ x2 then
    (yb_wr s 596 6 x1 (-1 : Int32)).bind fun s3 =>
    (r_X12_tries (x1 + (1 : Int32)) s3).bind fun q4 =>
    some q4
  else
    (yb_rd s 592 6 x1).bind fun v6 =>
    (yb_rd s 593 6 x2).bind fun v7 =>
    (f_X12_barOf v6 v7 s).bind fun q8 =>
    if q8.1 = 0 then
      (yb_rd q8.2 593 6 x2).bind fun v11 =>
      (yb_wr q8.2 596 6 x1 v11).bind fun s12 =>
      (yb_rd s12 592 6 x1).bind fun v13 =>
      (yb_rd s12 593 6 x2).bind fun v14 =>
      (f_X12_houses v13 v14 s12).bind fun q15 =>
      (r_X12_tries (x1 + (1 : Int32)) q15).bind fun q17 =>
      (yb_rd q17 592 6 x1).bind fun v19 =>
      (f_X12_houses v19 (-1 : Int32) q17).bind fun q20 =>
      j_X12_tries_91 r_X12_tries rc15 x1 x2 q20
    else
      j_X12_tries_91 r_X12_tries rc15 x1 x2 q8.2
def l_X12_tries_15 (r_X12_tries : (Int32 → yb_S → Option yb_S)) (x1 : Int32) (n : Nat) (x2 : Int32) (s : yb_S) : Option yb_S :=
  yb_it (α := Int32 × yb_S) (fun rc q => f_X12_tries_15 r_X12_tries (fun x2 s => rc (x2, s)) x1 q.1 q.2) n (x2, s)
def f_X12_tries (r_X12_tries : (Int32 → yb_S → Option yb_S)) (a1 : Int32) (s : yb_S) : Option yb_S :=
  if a1 = (s.1 176 74) then
    (f_X12_looks s).bind fun q22 =>
    some q22
  else
    l_X12_tries_15 r_X12_tries a1 yb_N (0 : Int32) s
def gg_X12_tries : Nat → (Int32 → yb_S → Option yb_S)
  | 0 => fun _ _ => none
  | n + 1 => f_X12_tries ((gg_X12_tries n))
def g_X12_tries : (Int32 → yb_S → Option yb_S) := (gg_X12_tries 120)
def f_X12_best_120 (rc120 : (Int32 → yb_S → Option (Int32 × yb_S))) (x3 : Int32) (x4 : Int32) (s : yb_S) : Option (Int32 × yb_S) :=
  if (s.1 176 74) ≤ x4 then
    if x3 = (-1 : Int32) then
      some ((s.1 176 76), s)
    else
      (yb_rd s 597 6 x3).bind fun v15 =>
      some (v15, s)
  else
    (yb_rd s 592 6 x4).bind fun v16 =>
    (yb_rd s 594 6 x4).bind fun v17 =>
    (yb_wr s 195 24 v16 v17).bind fun s18 =>
    (yb_rd s18 592 6 x4).bind fun v19 =>
    (yb_rd s18 595 6 x4).bind fun v20 =>
    (yb_wr s18 196 24 v19 v20).bind fun s21 =>
    rc120 (x4 + (1 : Int32)) s21
def l_X12_best_120 (x3 : Int32) (n : Nat) (x4 : Int32) (s : yb_S) : Option (Int32 × yb_S) :=
  yb_it (α := Int32 × yb_S) (fun rc q => f_X12_best_120 (fun x4 s => rc (x4, s)) x3 q.1 q.2) n (x4, s)
def f_X12_best_32 (rc32 : (Int32 → yb_S → Option (Int32 × yb_S))) (x3 : Int32) (x4 : Int32) (s : yb_S) : Option (Int32 × yb_S) :=
  if (s.1 176 74) ≤ x4 then
    (some (yb_pI s 176 76 (-1 : Int32))).bind fun s8 =>
    (some (yb_pI s8 176 77 (-1 : Int32))).bind fun s9 =>
    (some (yb_pI s9 176 78 (-1 : Int32))).bind fun s10 =>
    (g_X12_tries (0 : Int32) s10).bind fun q11 =>
    l_X12_best_120 x3 yb_N (0 : Int32) q11
  else
    (yb_rd s 592 6 x4).bind fun v22 =>
    (yb_rd s 195 24 v22).bind fun v23 =>
    (yb_wr s 594 6 x4 v23).bind fun s24 =>
    (yb_rd s24 592 6 x4).bind fun v25 =>
    (yb_rd s24 196 24 v25).bind fun v26 =>
    (yb_wr s24 595 6 x4 v26).bind fun s27 =>
    (yb_rd s27 592 6 x4).bind fun v28 =>
    (f_X12_houses v28 (-1 : Int32) s27).bind fun q29 =>
    rc32 (x4 + (1 : Int32)) q29
def l_X12_best_32 (x3 : Int32) (n : Nat) (x4 : Int32) (s : yb_S) : Option (Int32 × yb_S) :=
  yb_it (α := Int32 × yb_S) (fun rc q => f_X12_best_32 (fun x4 s => rc (x4, s)) x3 q.1 q.2) n (x4, s)
def f_X12_best (a1 : Int32) (a2 : Int32) (a3 : Int32) (s : yb_S) : Option (Int32 × yb_S) :=
  (f_X12_canAsk a1 a2 s).bind fun q1 =>
  if q1.1 = 0 then
    some ((-1 : Int32), q1.2)
  else
    (f_X12_in (a3.toInt64) (-1 : Int64) (((q1.2.1 176 74) - (1 : Int32)).toInt64) q1.2).bind fun q4 =>
    if q4 = 0 then
      some ((-1 : Int32), q1.2)
    else
      l_X12_best_32 a3 yb_N (0 : Int32) q1.2
def j_X12_beyond_42 (rc4 : (Int32 → Int32 → yb_S → Option (Int32 × yb_S))) (x2 : Int32) (y0 : Int32) (y1 : Int32) (s : yb_S) : Option (Int32 × yb_S) :=
  rc4 (y1 + y0) (x2 + (1 : Int32)) s
def j_X12_beyond_41 (rc4 : (Int32 → Int32 → yb_S → Option (Int32 × yb_S))) (x2 : Int32) (y0 : Int32) (s : yb_S) : Option (Int32 × yb_S) :=
  j_X12_beyond_42 rc4 x2 (0 : Int32) y0 s
def f_X12_beyond_4 (rc4 : (Int32 → Int32 → yb_S → Option (Int32 × yb_S))) (x1 : Int32) (x2 : Int32) (s : yb_S) : Option (Int32 × yb_S) :=
  if (s.1 176 27) ≤ x2 then
    some (x1, s)
  else
    (yb_rd s 195 24 x2).bind fun v2 =>
    if v2 = 0 then
      (yb_rd s 197 24 x2).bind fun v4 =>
      (f_X12_askedOf x2 (2 : Int32) s).bind fun q5 =>
      if v4 ≤ q5.1 then
        j_X12_beyond_41 rc4 x2 x1 q5.2
      else
        j_X12_beyond_42 rc4 x2 (1 : Int32) x1 q5.2
    else
      j_X12_beyond_41 rc4 x2 x1 s
def l_X12_beyond_4 (n : Nat) (x1 : Int32) (x2 : Int32) (s : yb_S) : Option (Int32 × yb_S) :=
  yb_it (α := Int32 × Int32 × yb_S) (fun rc q => f_X12_beyond_4 (fun x1 x2 s => rc (x1, x2, s)) q.1 q.2.1 q.2.2) n (x1, x2, s)
def f_X12_beyond (s : yb_S) : Option (Int32 × yb_S) :=
  l_X12_beyond_4 yb_N (0 : Int32) (0 : Int32) s
def f_X12_boat (a1 : Int32) (a2 : Int32) (a3 : Int32) (s : yb_S) : Option (Int32 × yb_S) :=
  (f_X12_in (a1.toInt64) ((s.1 176 7).toInt64) (200 : Int64) s).bind fun q1 =>
  if q1 = 0 then
    some ((-1 : Int32), s)
  else
    if a2 < 0 then
      some ((-1 : Int32), s)
    else
      if a3 < a2 then
        some ((-1 : Int32), s)
      else
        if (200 : Int32) < a3 then
          some ((-1 : Int32), s)
        else
          if (s.1 176 84) = (40 : Int32) then
            some ((-1 : Int32), s)
          else
            (yb_wr s 598 40 (s.1 176 84) a1).bind fun s8 =>
            (yb_wr s8 599 40 (s8.1 176 84) a2).bind fun s9 =>
            (yb_wr s9 600 40 (s9.1 176 84) a3).bind fun s10 =>
            (some (yb_pI s10 176 84 ((s10.1 176 84) + (1 : Int32)))).bind fun s11 =>
            some ((s11.1 176 84), s11)
def f_X12_hasEnded (a1 : Int32) (s : yb_S) : Option Int32 :=
  (f_X12_in (a1.toInt64) (0 : Int64) (((s.1 176 7) - (1 : Int32)).toInt64) s).bind fun q1 =>
  some q1
def j_X12_check_71 (rc30 : (Int32 → yb_S → Option (Int32 × yb_S))) (x1 : Int32) (x2 : Int32) (x3 : Int32) (x4 : Nat) (x5 : Int32) (y0 : Int64) (y1 : Int32) (y2 : Nat) (s : yb_S) : Option (Int32 × yb_S) :=
  (yb_wl s y2 5 y1 y0).bind fun s20 =>
  rc30 (x5 + (1 : Int32)) s20
def f_X12_check_30 (rc30 : (Int32 → yb_S → Option (Int32 × yb_S))) (x1 : Int32) (x2 : Int32) (x3 : Int32) (x4 : Nat) (x5 : Int32) (s : yb_S) : Option (Int32 × yb_S) :=
  if (5 : Int32) ≤ x5 then
    (yb_rl s x4 5 (0 : Int32)).bind fun v8 =>
    (yb_rl s x4 5 (1 : Int32)).bind fun v9 =>
    (yb_rl s x4 5 (2 : Int32)).bind fun v10 =>
    (yb_rl s x4 5 (3 : Int32)).bind fun v11 =>
    if (lg_cmp ((v8 + v9) + v10) v11) = 0 then
      (yb_rl s x4 5 (4 : Int32)).bind fun v13 =>
      (yb_ri 392 1 200 x1).bind fun r14 =>
      (yb_rl s r14 5 (4 : Int32)).bind fun v15 =>
      if (lg_cmp v13 v15) = 0 then
        some ((0 : Int32), s)
      else
        some ((2 : Int32), s)
    else
      some ((1 : Int32), s)
  else
    if x5 = x2 then
      (yb_ri 392 1 200 x1).bind fun r21 =>
      (yb_rl s r21 5 x5).bind fun v22 =>
      j_X12_check_71 rc30 x1 x2 x3 x4 x5 (((v22.toInt32) ^^^ x3).toInt64) x5 x4 s
    else
      (yb_ri 392 1 200 x1).bind fun r18 =>
      (yb_rl s r18 5 x5).bind fun v19 =>
      j_X12_check_71 rc30 x1 x2 x3 x4 x5 v19 x5 x4 s
def l_X12_check_30 (x1 : Int32) (x2 : Int32) (x3 : Int32) (x4 : Nat) (n : Nat) (x5 : Int32) (s : yb_S) : Option (Int32 × yb_S) :=
  yb_it (α := Int32 × yb_S) (fun rc q => f_X12_check_30 (fun x5 s => rc (x5, s)) x1 x2 x3 x4 q.1 q.2) n (x5, s)
def f_X12_check (a1 : Int32) (a2 : Int32) (a3 : Int32) (nx : Nat) (s : yb_S) : Option (Int32 × yb_S) :=
  (f_X12_hasEnded a1 s).bind fun q1 =>
  if q1 = 0 then
    some ((-1 : Int32), s)
  else
    (f_X12_in (a2.toInt64) (0 : Int64) (4 : Int64) s).bind fun q4 =>
    if q4 = 0 then
      some ((-1 : Int32), s)
    else
      (some (yb_zL s nx)).bind fun s0 =>
      l_X12_check_30 a1 a2 a3 nx yb_N (0 : Int32) s0
def f_X12_isLetter (a0 : Int32) (s : yb_S) : Option Int32 :=
  if a0 < (97 : Int32) then
    some (0 : Int32)
  else
    if (122 : Int32) < a0 then
      some (0 : Int32)
    else
      some (1 : Int32)
def f_X12_isDigit (a0 : Int32) (s : yb_S) : Option Int32 :=
  if a0 < (48 : Int32) then
    some (0 : Int32)
  else
    if (57 : Int32) < a0 then
      some (0 : Int32)
    else
      some (1 : Int32)
def f_X12_skips_141 (rc141 : (yb_S → Option yb_S)) (s : yb_S) : Option yb_S :=
  if (s.1 176 44) ≤ (s.1 176 46) then
    some s
  else
    (yb_rd s 242 500 (s.1 176 46)).bind fun v14 =>
    (f_X12_isDigit v14 s).bind fun q15 =>
    if q15 = 0 then
      some s
    else
      (some (yb_pI s 176 46 ((s.1 176 46) + (1 : Int32)))).bind fun s18 =>
      rc141 s18
def l_X12_skips_141 (n : Nat) (s : yb_S) : Option yb_S :=
  yb_it (α := yb_S) (fun rc q => f_X12_skips_141 (fun s => rc s) q) n s
def f_X12_skips_87 (rc87 : (yb_S → Option yb_S)) (s : yb_S) : Option yb_S :=
  if (s.1 176 44) ≤ (s.1 176 46) then
    some s
  else
    (yb_rd s 242 500 (s.1 176 46)).bind fun v20 =>
    (f_X12_isLetter v20 s).bind fun q21 =>
    if q21 = 0 then
      some s
    else
      (some (yb_pI s 176 46 ((s.1 176 46) + (1 : Int32)))).bind fun s24 =>
      rc87 s24
def l_X12_skips_87 (n : Nat) (s : yb_S) : Option yb_S :=
  yb_it (α := yb_S) (fun rc q => f_X12_skips_87 (fun s => rc s) q) n s
def j_X12_skips_52 (s : yb_S) : Option yb_S :=
  (some (yb_pI s 176 46 (s.1 176 45))).bind fun s2 =>
  if (s2.1 176 45) = (s2.1 176 44) then
    some s2
  else
    (yb_rd s2 242 500 (s2.1 176 45)).bind fun v4 =>
    (f_X12_isLetter v4 s2).bind fun q5 =>
    if q5 = 0 then
      (yb_rd s2 242 500 (s2.1 176 45)).bind fun v8 =>
      (f_X12_isDigit v8 s2).bind fun q9 =>
      if q9 = 0 then
        (some (yb_pI s2 176 46 ((s2.1 176 45) + (1 : Int32)))).bind fun s12 =>
        some s12
      else
        l_X12_skips_141 yb_N s2
    else
      l_X12_skips_87 yb_N s2
def j_X12_skips_39 (rc0 : (yb_S → Option yb_S)) (s : yb_S) : Option yb_S :=
  (some (yb_pI s 176 45 ((s.1 176 45) + (1 : Int32)))).bind fun s27 =>
  rc0 s27
def f_X12_skips_0 (rc0 : (yb_S → Option yb_S)) (s : yb_S) : Option yb_S :=
  if (s.1 176 44) ≤ (s.1 176 45) then
    j_X12_skips_52 s
  else
    (yb_rd s 242 500 (s.1 176 45)).bind fun v25 =>
    if v25 = (32 : Int32) then
      j_X12_skips_39 rc0 s
    else
      (yb_rd s 242 500 (s.1 176 45)).bind fun v28 =>
      if v28 = (10 : Int32) then
        j_X12_skips_39 rc0 s
      else
        j_X12_skips_52 s
def l_X12_skips_0 (n : Nat) (s : yb_S) : Option yb_S :=
  yb_it (α := yb_S) (fun rc q => f_X12_skips_0 (fun s => rc s) q) n s
def f_X12_skips (s : yb_S) : Option yb_S :=
  l_X12_skips_0 yb_N s
def f_X12_goesOn (s : yb_S) : Option yb_S :=
  (some (yb_pI s 176 45 (s.1 176 46))).bind fun s1 =>
  (f_X12_skips s1).bind fun q2 =>
  some q2
def f_X12_fails (s : yb_S) : Option (Int32 × yb_S) :=
  if (s.1 176 47) = (-1 : Int32) then
    (some (yb_pI s 176 47 (s.1 176 45))).bind fun s2 =>
    some ((0 : Int32), s2)
  else
    some ((0 : Int32), s)
def f_X12_passes (a1 : Int32) (s : yb_S) : Option (Int32 × yb_S) :=
  if a1 = 0 then
    (f_X12_fails s).bind fun q4 =>
    some (q4.1, q4.2)
  else
    (f_X12_goesOn s).bind fun q2 =>
    some ((1 : Int32), q2)
def f_X12_isWord_str_31 (rc31 : (Int32 → Option Int32)) (x1 : Nat) (s : yb_S) (x2 : Int32) : Option Int32 :=
  (yb_sl x1).bind fun v5 =>
  if v5 ≤ x2 then
    some (1 : Int32)
  else
    (yb_rd s 242 500 ((s.1 176 45) + x2)).bind fun v8 =>
    (yb_sc x1 x2).bind fun v9 =>
    if v8 = v9 then
      rc31 (x2 + (1 : Int32))
    else
      some (0 : Int32)
def l_X12_isWord_str_31 (x1 : Nat) (s : yb_S) (n : Nat) (x2 : Int32) : Option Int32 :=
  yb_it (α := Int32) (fun rc q => f_X12_isWord_str_31 (fun x2 => rc x2) x1 s q) n x2
def f_X12_isWord_str (w : Nat) (s : yb_S) : Option Int32 :=
  (yb_sl w).bind fun v1 =>
  if ((s.1 176 46) - (s.1 176 45)) = v1 then
    if (s.1 176 45) = (s.1 176 44) then
      some (0 : Int32)
    else
      l_X12_isWord_str_31 w s yb_N (0 : Int32)
  else
    some (0 : Int32)
def f_X12_puts (a1 : Int32) (a2 : Int32) (s : yb_S) : Option (Int32 × yb_S) :=
  (yb_ri 244 7 11 (10 : Int32)).bind fun r1 =>
  (yb_ri (r1 + 1) 1 6 (s.1 176 55)).bind fun r2 =>
  (yb_wr s r2 1040 ((2 : Int32) * (s.1 176 48)) a1).bind fun s3 =>
  (yb_ri 244 7 11 (10 : Int32)).bind fun r4 =>
  (yb_ri (r4 + 1) 1 6 (s3.1 176 55)).bind fun r5 =>
  (yb_wr s3 r5 1040 (((2 : Int32) * (s3.1 176 48)) + (1 : Int32)) a2).bind fun s6 =>
  (some (yb_pI s6 176 48 ((s6.1 176 48) + (1 : Int32)))).bind fun s7 =>
  some ((1 : Int32), s7)
def f_X12_isSign (a1 : Int32) (s : yb_S) : Option Int32 :=
  if (s.1 176 44) ≤ (s.1 176 45) then
    some (0 : Int32)
  else
    (yb_rd s 242 500 (s.1 176 45)).bind fun v2 =>
    if v2 = a1 then
      some (1 : Int32)
    else
      some (0 : Int32)
def j_X12_isNumber_80 (rc38 : (Int32 → yb_S → Option (Int32 × yb_S))) (x1 : Int32) (y0 : Int32) (s : yb_S) : Option (Int32 × yb_S) :=
  (some (yb_pI s 176 49 y0)).bind fun s10 =>
  rc38 (x1 + (1 : Int32)) s10
def f_X12_isNumber_38 (rc38 : (Int32 → yb_S → Option (Int32 × yb_S))) (x1 : Int32) (s : yb_S) : Option (Int32 × yb_S) :=
  if (s.1 176 46) ≤ x1 then
    some ((1 : Int32), s)
  else
    if (s.1 176 49) ≤ (99999 : Int32) then
      (yb_rd s 242 500 x1).bind fun v9 =>
      j_X12_isNumber_80 rc38 x1 ((((10 : Int32) * (s.1 176 49)) + v9) - (48 : Int32)) s
    else
      j_X12_isNumber_80 rc38 x1 (999999 : Int32) s
def l_X12_isNumber_38 (n : Nat) (x1 : Int32) (s : yb_S) : Option (Int32 × yb_S) :=
  yb_it (α := Int32 × yb_S) (fun rc q => f_X12_isNumber_38 (fun x1 s => rc (x1, s)) q.1 q.2) n (x1, s)
def f_X12_isNumber (s : yb_S) : Option (Int32 × yb_S) :=
  if (s.1 176 45) = (s.1 176 44) then
    some ((0 : Int32), s)
  else
    (yb_rd s 242 500 (s.1 176 45)).bind fun v2 =>
    (f_X12_isDigit v2 s).bind fun q3 =>
    if q3 = 0 then
      some ((0 : Int32), s)
    else
      (some (yb_pI s 176 49 (0 : Int32))).bind fun s6 =>
      l_X12_isNumber_38 yb_N (s6.1 176 45) s6
def f_X12_factor_105 (r_X12_factor : (Int32 → yb_S → Option (Int32 × yb_S))) (r_X12_product : (Int32 → yb_S → Option (Int32 × yb_S))) (r_X12_sum : (Int32 → yb_S → Option (Int32 × yb_S))) (rc105 : (Int32 → Option (Int32 × yb_S))) (s : yb_S) (x2 : Int32) : Option (Int32 × yb_S) :=
  if (18 : Int32) ≤ x2 then
    (f_X12_fails s).bind fun q8 =>
    some (q8.1, q8.2)
  else
    (yb_ri 100007 1 18 x2).bind fun r10 =>
    (f_X12_isWord_str r10 s).bind fun q11 =>
    if q11 = 0 then
      rc105 (x2 + (1 : Int32))
    else
      (f_X12_passes (1 : Int32) s).bind fun q14 =>
      if q14.1 = 0 then
        some ((0 : Int32), q14.2)
      else
        (f_X12_puts (118 : Int32) x2 q14.2).bind fun q17 =>
        if q17.1 = 0 then
          some ((0 : Int32), q17.2)
        else
          some ((1 : Int32), q17.2)
def l_X12_factor_105 (r_X12_factor : (Int32 → yb_S → Option (Int32 × yb_S))) (r_X12_product : (Int32 → yb_S → Option (Int32 × yb_S))) (r_X12_sum : (Int32 → yb_S → Option (Int32 × yb_S))) (s : yb_S) (n : Nat) (x2 : Int32) : Option (Int32 × yb_S) :=
  yb_it (α := Int32) (fun rc q => f_X12_factor_105 r_X12_factor r_X12_product r_X12_sum (fun x2 => rc x2) s q) n x2
def j_X12_factor_81 (r_X12_factor : (Int32 → yb_S → Option (Int32 × yb_S))) (r_X12_product : (Int32 → yb_S → Option (Int32 × yb_S))) (r_X12_sum : (Int32 → yb_S → Option (Int32 × yb_S))) (x2 : Int32) (y0 : Int32) (s : yb_S) : Option (Int32 × yb_S) :=
  (f_X12_passes y0 s).bind fun q21 =>
  if q21.1 = 0 then
    some ((0 : Int32), q21.2)
  else
    (f_X12_puts (110 : Int32) x2 q21.2).bind fun q24 =>
    if q24.1 = 0 then
      some ((0 : Int32), q24.2)
    else
      some ((1 : Int32), q24.2)
def j_X12_factor_21 (r_X12_factor : (Int32 → yb_S → Option (Int32 × yb_S))) (r_X12_product : (Int32 → yb_S → Option (Int32 × yb_S))) (r_X12_sum : (Int32 → yb_S → Option (Int32 × yb_S))) (x1 : Int32) (y0 : Int32) (s : yb_S) : Option (Int32 × yb_S) :=
  (f_X12_passes y0 s).bind fun q28 =>
  if q28.1 = 0 then
    some ((0 : Int32), q28.2)
  else
    (r_X12_sum (x1 + (1 : Int32)) q28.2).bind fun q31 =>
    if q31.1 = 0 then
      some ((0 : Int32), q31.2)
    else
      (f_X12_isSign (41 : Int32) q31.2).bind fun q34 =>
      (f_X12_passes q34 q31.2).bind fun q36 =>
      if q36.1 = 0 then
        some ((0 : Int32), q36.2)
      else
        some ((1 : Int32), q36.2)
def f_X12_factor (r_X12_factor : (Int32 → yb_S → Option (Int32 × yb_S))) (r_X12_product : (Int32 → yb_S → Option (Int32 × yb_S))) (r_X12_sum : (Int32 → yb_S → Option (Int32 × yb_S))) (a1 : Int32) (s : yb_S) : Option (Int32 × yb_S) :=
  (f_X12_isSign (40 : Int32) s).bind fun q1 =>
  if q1 = 0 then
    (f_X12_isNumber s).bind fun q4 =>
    if q4.1 = 0 then
      l_X12_factor_105 r_X12_factor r_X12_product r_X12_sum q4.2 yb_N (0 : Int32)
    else
      if (99999 : Int32) < (q4.2.1 176 49) then
        j_X12_factor_81 r_X12_factor r_X12_product r_X12_sum (q4.2.1 176 49) (0 : Int32) q4.2
      else
        j_X12_factor_81 r_X12_factor r_X12_product r_X12_sum (q4.2.1 176 49) (1 : Int32) q4.2
  else
    if (8 : Int32) ≤ a1 then
      j_X12_factor_21 r_X12_factor r_X12_product r_X12_sum a1 (0 : Int32) s
    else
      j_X12_factor_21 r_X12_factor r_X12_product r_X12_sum a1 (1 : Int32) s
def j_X12_product_28 (r_X12_factor : (Int32 → yb_S → Option (Int32 × yb_S))) (r_X12_product : (Int32 → yb_S → Option (Int32 × yb_S))) (r_X12_sum : (Int32 → yb_S → Option (Int32 × yb_S))) (rc10 : (yb_S → Option (Int32 × yb_S))) (x1 : Int32) (s : yb_S) : Option (Int32 × yb_S) :=
  (yb_rd s 242 500 (s.1 176 45)).bind fun v7 =>
  (f_X12_goesOn s).bind fun q8 =>
  (r_X12_factor x1 q8).bind fun q10 =>
  if q10.1 = 0 then
    some ((0 : Int32), q10.2)
  else
    (f_X12_puts v7 (0 : Int32) q10.2).bind fun q13 =>
    rc10 q13.2
def f_X12_product_10 (r_X12_factor : (Int32 → yb_S → Option (Int32 × yb_S))) (r_X12_product : (Int32 → yb_S → Option (Int32 × yb_S))) (r_X12_sum : (Int32 → yb_S → Option (Int32 × yb_S))) (rc10 : (yb_S → Option (Int32 × yb_S))) (x1 : Int32) (s : yb_S) : Option (Int32 × yb_S) :=
  (f_X12_isSign (42 : Int32) s).bind fun q4 =>
  if q4 = 0 then
    (f_X12_isSign (47 : Int32) s).bind fun q15 =>
    if q15 = 0 then
      some ((1 : Int32), s)
    else
      j_X12_product_28 r_X12_factor r_X12_product r_X12_sum rc10 x1 s
  else
    j_X12_product_28 r_X12_factor r_X12_product r_X12_sum rc10 x1 s
def l_X12_product_10 (r_X12_factor : (Int32 → yb_S → Option (Int32 × yb_S))) (r_X12_product : (Int32 → yb_S → Option (Int32 × yb_S))) (r_X12_sum : (Int32 → yb_S → Option (Int32 × yb_S))) (x1 : Int32) (n : Nat) (s : yb_S) : Option (Int32 × yb_S) :=
  yb_it (α := yb_S) (fun rc q => f_X12_product_10 r_X12_factor r_X12_product r_X12_sum (fun s => rc s) x1 q) n s
def f_X12_product (r_X12_factor : (Int32 → yb_S → Option (Int32 × yb_S))) (r_X12_product : (Int32 → yb_S → Option (Int32 × yb_S))) (r_X12_sum : (Int32 → yb_S → Option (Int32 × yb_S))) (a1 : Int32) (s : yb_S) : Option (Int32 × yb_S) :=
  (r_X12_factor a1 s).bind fun q1 =>
  if q1.1 = 0 then
    some ((0 : Int32), q1.2)
  else
    l_X12_product_10 r_X12_factor r_X12_product r_X12_sum a1 yb_N q1.2
def j_X12_sum_28 (r_X12_factor : (Int32 → yb_S → Option (Int32 × yb_S))) (r_X12_product : (Int32 → yb_S → Option (Int32 × yb_S))) (r_X12_sum : (Int32 → yb_S → Option (Int32 × yb_S))) (rc10 : (yb_S → Option (Int32 × yb_S))) (x1 : Int32) (s : yb_S) : Option (Int32 × yb_S) :=
  (yb_rd s 242 500 (s.1 176 45)).bind fun v7 =>
  (f_X12_goesOn s).bind fun q8 =>
  (r_X12_product x1 q8).bind fun q10 =>
  if q10.1 = 0 then
    some ((0 : Int32), q10.2)
  else
    (f_X12_puts v7 (0 : Int32) q10.2).bind fun q13 =>
    rc10 q13.2
def f_X12_sum_10 (r_X12_factor : (Int32 → yb_S → Option (Int32 × yb_S))) (r_X12_product : (Int32 → yb_S → Option (Int32 × yb_S))) (r_X12_sum : (Int32 → yb_S → Option (Int32 × yb_S))) (rc10 : (yb_S → Option (Int32 × yb_S))) (x1 : Int32) (s : yb_S) : Option (Int32 × yb_S) :=
  (f_X12_isSign (43 : Int32) s).bind fun q4 =>
  if q4 = 0 then
    (f_X12_isSign (45 : Int32) s).bind fun q15 =>
    if q15 = 0 then
      some ((1 : Int32), s)
    else
      j_X12_sum_28 r_X12_factor r_X12_product r_X12_sum rc10 x1 s
  else
    j_X12_sum_28 r_X12_factor r_X12_product r_X12_sum rc10 x1 s
def l_X12_sum_10 (r_X12_factor : (Int32 → yb_S → Option (Int32 × yb_S))) (r_X12_product : (Int32 → yb_S → Option (Int32 × yb_S))) (r_X12_sum : (Int32 → yb_S → Option (Int32 × yb_S))) (x1 : Int32) (n : Nat) (s : yb_S) : Option (Int32 × yb_S) :=
  yb_it (α := yb_S) (fun rc q => f_X12_sum_10 r_X12_factor r_X12_product r_X12_sum (fun s => rc s) x1 q) n s
def f_X12_sum (r_X12_factor : (Int32 → yb_S → Option (Int32 × yb_S))) (r_X12_product : (Int32 → yb_S → Option (Int32 × yb_S))) (r_X12_sum : (Int32 → yb_S → Option (Int32 × yb_S))) (a1 : Int32) (s : yb_S) : Option (Int32 × yb_S) :=
  (r_X12_product a1 s).bind fun q1 =>
  if q1.1 = 0 then
    some ((0 : Int32), q1.2)
  else
    l_X12_sum_10 r_X12_factor r_X12_product r_X12_sum a1 yb_N q1.2
def gg_X12_factor : Nat → ((Int32 → yb_S → Option (Int32 × yb_S)) × (Int32 → yb_S → Option (Int32 × yb_S)) × (Int32 → yb_S → Option (Int32 × yb_S)))
  | 0 => (fun _ _ => none, fun _ _ => none, fun _ _ => none)
  | n + 1 => (f_X12_factor ((gg_X12_factor n).1) ((gg_X12_factor n).2.1) ((gg_X12_factor n).2.2), f_X12_product ((gg_X12_factor n).1) ((gg_X12_factor n).2.1) ((gg_X12_factor n).2.2), f_X12_sum ((gg_X12_factor n).1) ((gg_X12_factor n).2.1) ((gg_X12_factor n).2.2))
def g_X12_factor : (Int32 → yb_S → Option (Int32 × yb_S)) := (gg_X12_factor 120).1
def g_X12_product : (Int32 → yb_S → Option (Int32 × yb_S)) := (gg_X12_factor 120).2.1
def g_X12_sum : (Int32 → yb_S → Option (Int32 × yb_S)) := (gg_X12_factor 120).2.2
def f_X12_each_10 (r_X12_each : (Int32 → yb_S → Option (Int32 × yb_S))) (r_X12_either : (Int32 → yb_S → Option (Int32 × yb_S))) (r_X12_test : (Int32 → yb_S → Option (Int32 × yb_S))) (rc10 : (yb_S → Option (Int32 × yb_S))) (x1 : Int32) (s : yb_S) : Option (Int32 × yb_S) :=
  (f_X12_isWord_str 100026 s).bind fun q4 =>
  if q4 = 0 then
    some ((1 : Int32), s)
  else
    (f_X12_goesOn s).bind fun q7 =>
    (r_X12_test x1 q7).bind fun q9 =>
    if q9.1 = 0 then
      some ((0 : Int32), q9.2)
    else
      (f_X12_puts (38 : Int32) (0 : Int32) q9.2).bind fun q12 =>
      rc10 q12.2
def l_X12_each_10 (r_X12_each : (Int32 → yb_S → Option (Int32 × yb_S))) (r_X12_either : (Int32 → yb_S → Option (Int32 × yb_S))) (r_X12_test : (Int32 → yb_S → Option (Int32 × yb_S))) (x1 : Int32) (n : Nat) (s : yb_S) : Option (Int32 × yb_S) :=
  yb_it (α := yb_S) (fun rc q => f_X12_each_10 r_X12_each r_X12_either r_X12_test (fun s => rc s) x1 q) n s
def f_X12_each (r_X12_each : (Int32 → yb_S → Option (Int32 × yb_S))) (r_X12_either : (Int32 → yb_S → Option (Int32 × yb_S))) (r_X12_test : (Int32 → yb_S → Option (Int32 × yb_S))) (a1 : Int32) (s : yb_S) : Option (Int32 × yb_S) :=
  (r_X12_test a1 s).bind fun q1 =>
  if q1.1 = 0 then
    some ((0 : Int32), q1.2)
  else
    l_X12_each_10 r_X12_each r_X12_either r_X12_test a1 yb_N q1.2
def f_X12_either_10 (r_X12_each : (Int32 → yb_S → Option (Int32 × yb_S))) (r_X12_either : (Int32 → yb_S → Option (Int32 × yb_S))) (r_X12_test : (Int32 → yb_S → Option (Int32 × yb_S))) (rc10 : (yb_S → Option (Int32 × yb_S))) (x1 : Int32) (s : yb_S) : Option (Int32 × yb_S) :=
  (f_X12_isWord_str 100027 s).bind fun q4 =>
  if q4 = 0 then
    some ((1 : Int32), s)
  else
    (f_X12_goesOn s).bind fun q7 =>
    (r_X12_each x1 q7).bind fun q9 =>
    if q9.1 = 0 then
      some ((0 : Int32), q9.2)
    else
      (f_X12_puts (124 : Int32) (0 : Int32) q9.2).bind fun q12 =>
      rc10 q12.2
def l_X12_either_10 (r_X12_each : (Int32 → yb_S → Option (Int32 × yb_S))) (r_X12_either : (Int32 → yb_S → Option (Int32 × yb_S))) (r_X12_test : (Int32 → yb_S → Option (Int32 × yb_S))) (x1 : Int32) (n : Nat) (s : yb_S) : Option (Int32 × yb_S) :=
  yb_it (α := yb_S) (fun rc q => f_X12_either_10 r_X12_each r_X12_either r_X12_test (fun s => rc s) x1 q) n s
def f_X12_either (r_X12_each : (Int32 → yb_S → Option (Int32 × yb_S))) (r_X12_either : (Int32 → yb_S → Option (Int32 × yb_S))) (r_X12_test : (Int32 → yb_S → Option (Int32 × yb_S))) (a1 : Int32) (s : yb_S) : Option (Int32 × yb_S) :=
  (r_X12_each a1 s).bind fun q1 =>
  if q1.1 = 0 then
    some ((0 : Int32), q1.2)
  else
    l_X12_either_10 r_X12_each r_X12_either r_X12_test a1 yb_N q1.2
def j_X12_test_152 (r_X12_each : (Int32 → yb_S → Option (Int32 × yb_S))) (r_X12_either : (Int32 → yb_S → Option (Int32 × yb_S))) (r_X12_test : (Int32 → yb_S → Option (Int32 × yb_S))) (x1 : Int32) (s : yb_S) : Option (Int32 × yb_S) :=
  (yb_rd s 242 500 (s.1 176 45)).bind fun v13 =>
  (f_X12_goesOn s).bind fun q14 =>
  (g_X12_sum x1 q14).bind fun q16 =>
  if q16.1 = 0 then
    some ((0 : Int32), q16.2)
  else
    (f_X12_puts v13 (0 : Int32) q16.2).bind fun q19 =>
    if q19.1 = 0 then
      some ((0 : Int32), q19.2)
    else
      some ((1 : Int32), q19.2)
def j_X12_test_75 (r_X12_each : (Int32 → yb_S → Option (Int32 × yb_S))) (r_X12_either : (Int32 → yb_S → Option (Int32 × yb_S))) (r_X12_test : (Int32 → yb_S → Option (Int32 × yb_S))) (x1 : Int32) (y0 : Int32) (s : yb_S) : Option (Int32 × yb_S) :=
  (f_X12_passes y0 s).bind fun q31 =>
  if q31.1 = 0 then
    some ((0 : Int32), q31.2)
  else
    (r_X12_either (x1 + (1 : Int32)) q31.2).bind fun q34 =>
    if q34.1 = 0 then
      some ((0 : Int32), q34.2)
    else
      (f_X12_isSign (93 : Int32) q34.2).bind fun q37 =>
      (f_X12_passes q37 q34.2).bind fun q39 =>
      if q39.1 = 0 then
        some ((0 : Int32), q39.2)
      else
        some ((1 : Int32), q39.2)
def j_X12_test_22 (r_X12_each : (Int32 → yb_S → Option (Int32 × yb_S))) (r_X12_either : (Int32 → yb_S → Option (Int32 × yb_S))) (r_X12_test : (Int32 → yb_S → Option (Int32 × yb_S))) (x1 : Int32) (y0 : Int32) (s : yb_S) : Option (Int32 × yb_S) :=
  (f_X12_passes y0 s).bind fun q43 =>
  if q43.1 = 0 then
    some ((0 : Int32), q43.2)
  else
    (r_X12_test (x1 + (1 : Int32)) q43.2).bind fun q46 =>
    if q46.1 = 0 then
      some ((0 : Int32), q46.2)
    else
      (f_X12_puts (33 : Int32) (0 : Int32) q46.2).bind fun q49 =>
      if q49.1 = 0 then
        some ((0 : Int32), q49.2)
      else
        some ((1 : Int32), q49.2)
def f_X12_test (r_X12_each : (Int32 → yb_S → Option (Int32 × yb_S))) (r_X12_either : (Int32 → yb_S → Option (Int32 × yb_S))) (r_X12_test : (Int32 → yb_S → Option (Int32 × yb_S))) (a1 : Int32) (s : yb_S) : Option (Int32 × yb_S) :=
  (f_X12_isWord_str 100025 s).bind fun q1 =>
  if q1 = 0 then
    (f_X12_isSign (91 : Int32) s).bind fun q4 =>
    if q4 = 0 then
      (g_X12_sum a1 s).bind fun q7 =>
      if q7.1 = 0 then
        some ((0 : Int32), q7.2)
      else
        (f_X12_isSign (60 : Int32) q7.2).bind fun q10 =>
        if q10 = 0 then
          (f_X12_isSign (62 : Int32) q7.2).bind fun q22 =>
          if q22 = 0 then
            (f_X12_isSign (61 : Int32) q7.2).bind fun q25 =>
            if q25 = 0 then
              (f_X12_fails q7.2).bind fun q28 =>
              some (q28.1, q28.2)
            else
              j_X12_test_152 r_X12_each r_X12_either r_X12_test a1 q7.2
          else
            j_X12_test_152 r_X12_each r_X12_either r_X12_test a1 q7.2
        else
          j_X12_test_152 r_X12_each r_X12_either r_X12_test a1 q7.2
    else
      if (8 : Int32) ≤ a1 then
        j_X12_test_75 r_X12_each r_X12_either r_X12_test a1 (0 : Int32) s
      else
        j_X12_test_75 r_X12_each r_X12_either r_X12_test a1 (1 : Int32) s
  else
    if (8 : Int32) ≤ a1 then
      j_X12_test_22 r_X12_each r_X12_either r_X12_test a1 (0 : Int32) s
    else
      j_X12_test_22 r_X12_each r_X12_either r_X12_test a1 (1 : Int32) s
def gg_X12_each : Nat → ((Int32 → yb_S → Option (Int32 × yb_S)) × (Int32 → yb_S → Option (Int32 × yb_S)) × (Int32 → yb_S → Option (Int32 × yb_S)))
  | 0 => (fun _ _ => none, fun _ _ => none, fun _ _ => none)
  | n + 1 => (f_X12_each ((gg_X12_each n).1) ((gg_X12_each n).2.1) ((gg_X12_each n).2.2), f_X12_either ((gg_X12_each n).1) ((gg_X12_each n).2.1) ((gg_X12_each n).2.2), f_X12_test ((gg_X12_each n).1) ((gg_X12_each n).2.1) ((gg_X12_each n).2.2))
def g_X12_each : (Int32 → yb_S → Option (Int32 × yb_S)) := (gg_X12_each 120).1
def g_X12_either : (Int32 → yb_S → Option (Int32 × yb_S)) := (gg_X12_each 120).2.1
def g_X12_test : (Int32 → yb_S → Option (Int32 × yb_S)) := (gg_X12_each 120).2.2
def j_X12_clauses_108 (s : yb_S) : Option (Int32 × yb_S) :=
  (yb_ri 322 1 11 (10 : Int32)).bind fun r12 =>
  (yb_wr s r12 6 (s.1 176 55) (s.1 176 48)).bind fun s13 =>
  (f_X12_isSign (59 : Int32) s13).bind fun q14 =>
  (f_X12_passes q14 s13).bind fun q16 =>
  some (q16.1, q16.2)
def j_X12_clauses_66 (y0 : Int32) (s : yb_S) : Option (Int32 × yb_S) :=
  (f_X12_passes y0 s).bind fun q4 =>
  if q4.1 = 0 then
    some ((0 : Int32), q4.2)
  else
    (some (yb_pI q4.2 176 48 (0 : Int32))).bind fun s7 =>
    if (4 : Int32) ≤ (s7.1 176 55) then
      (g_X12_either (0 : Int32) s7).bind fun q9 =>
      if q9.1 = 0 then
        some ((0 : Int32), q9.2)
      else
        j_X12_clauses_108 q9.2
    else
      (g_X12_sum (0 : Int32) s7).bind fun q18 =>
      if q18.1 = 0 then
        some ((0 : Int32), q18.2)
      else
        j_X12_clauses_108 q18.2
def j_X12_clauses_65 (s : yb_S) : Option (Int32 × yb_S) :=
  j_X12_clauses_66 (0 : Int32) s
def j_X12_clauses_31 (rc7 : (Int32 → yb_S → Option (Int32 × yb_S))) (x1 : Int32) (s : yb_S) : Option (Int32 × yb_S) :=
  rc7 (x1 + (1 : Int32)) s
def f_X12_clauses_7 (rc7 : (Int32 → yb_S → Option (Int32 × yb_S))) (x1 : Int32) (s : yb_S) : Option (Int32 × yb_S) :=
  if (6 : Int32) ≤ x1 then
    if (s.1 176 55) = (-1 : Int32) then
      j_X12_clauses_65 s
    else
      (yb_ri 322 1 11 (10 : Int32)).bind fun r21 =>
      (yb_rd s r21 6 (s.1 176 55)).bind fun v22 =>
      if v22 = 0 then
        j_X12_clauses_66 (1 : Int32) s
      else
        j_X12_clauses_65 s
  else
    (yb_ri 100001 1 6 x1).bind fun r24 =>
    (f_X12_isWord_str r24 s).bind fun q25 =>
    if q25 = 0 then
      j_X12_clauses_31 rc7 x1 s
    else
      (some (yb_pI s 176 55 x1)).bind fun s28 =>
      j_X12_clauses_31 rc7 x1 s28
def l_X12_clauses_7 (n : Nat) (x1 : Int32) (s : yb_S) : Option (Int32 × yb_S) :=
  yb_it (α := Int32 × yb_S) (fun rc q => f_X12_clauses_7 (fun x1 s => rc (x1, s)) q.1 q.2) n (x1, s)
def f_X12_clauses (s : yb_S) : Option (Int32 × yb_S) :=
  (some (yb_pI s 176 55 (-1 : Int32))).bind fun s1 =>
  l_X12_clauses_7 yb_N (0 : Int32) s1
def f_X12_count (a1 : Int32) (s : yb_S) : Option Int32 :=
  if a1 = (0 : Int32) then
    some (s.1 176 7)
  else
    if a1 = (1 : Int32) then
      some (s.1 176 6)
    else
      if a1 = (2 : Int32) then
        some (s.1 176 15)
      else
        if a1 = (3 : Int32) then
          some (s.1 176 27)
        else
          if a1 = (4 : Int32) then
            some (s.1 176 36)
          else
            if a1 = (5 : Int32) then
              some (s.1 176 54)
            else
              if a1 = (6 : Int32) then
                some (s.1 176 44)
              else
                if a1 = (7 : Int32) then
                  (f_X12_hallHeads s).bind fun q14 =>
                  some q14
                else
                  if a1 = (8 : Int32) then
                    some (s.1 176 8)
                  else
                    if a1 = (9 : Int32) then
                      (f_X12_hallHeads s).bind fun q16 =>
                      if q16 ≤ (s.1 176 8) then
                        some (0 : Int32)
                      else
                        (f_X12_hallHeads s).bind fun q19 =>
                        some (q19 - (s.1 176 8))
                    else
                      if a1 = (10 : Int32) then
                        some (s.1 176 84)
                      else
                        if a1 = (11 : Int32) then
                          some (s.1 176 85)
                        else
                          if a1 = (12 : Int32) then
                            some (s.1 176 40)
                          else
                            some (-1 : Int32)
def f_X12_within (a0 : Int32) (s : yb_S) : Option Int32 :=
  if 0 ≤ a0 then
    if a0 ≤ (1000000 : Int32) then
      some a0
    else
      some (1000000 : Int32)
  else
    some (0 : Int32)
def j_X12_day_273 (rc110 : (Int32 → yb_S → Option yb_S)) (x1 : Int32) (s : yb_S) : Option yb_S :=
  rc110 (x1 + (1 : Int32)) s
def j_X12_day_163 (rc110 : (Int32 → yb_S → Option yb_S)) (x1 : Int32) (y0 : Int32) (y1 : Int32) (y2 : Nat) (s : yb_S) : Option yb_S :=
  (yb_wr s y2 200 y1 y0).bind fun s12 =>
  (yb_ri 392 1 200 (s12.1 176 7)).bind fun r13 =>
  (yb_rd s12 195 24 x1).bind fun v14 =>
  (yb_rl s12 r13 5 v14).bind fun v15 =>
  (yb_rd s12 189 24 x1).bind fun v16 =>
  (yb_wl s12 r13 5 v14 (v15 + (v16.toInt64))).bind fun s17 =>
  (yb_ri 392 1 200 (s17.1 176 7)).bind fun r18 =>
  (yb_rl s17 r18 5 (3 : Int32)).bind fun v19 =>
  (yb_rd s17 189 24 x1).bind fun v20 =>
  (yb_wl s17 r18 5 (3 : Int32) (v19 + (v20.toInt64))).bind fun s21 =>
  (f_X12_isHoused x1 s21).bind fun q22 =>
  if q22 = 0 then
    j_X12_day_273 rc110 x1 s21
  else
    (yb_rd s21 196 24 x1).bind fun v25 =>
    (f_X12_asksOf_ x1 v25 s21).bind fun q26 =>
    (f_X12_tells (3 : Int32) q26).bind fun q28 =>
    (f_X12_within q28.1 q28.2).bind fun q30 =>
    (f_X12_townFor x1 q28.2).bind fun q32 =>
    (yb_rl q28.2 181 8 q32).bind fun v34 =>
    (yb_wl q28.2 181 8 q32 (v34 + (q30.toInt64))).bind fun s35 =>
    (yb_ri 392 1 200 (s35.1 176 7)).bind fun r36 =>
    (yb_rl s35 r36 5 (4 : Int32)).bind fun v37 =>
    (yb_wl s35 r36 5 (4 : Int32) (v37 + (q30.toInt64))).bind fun s38 =>
    j_X12_day_273 rc110 x1 s38
def f_X12_day_110 (rc110 : (Int32 → yb_S → Option yb_S)) (x1 : Int32) (s : yb_S) : Option yb_S :=
  if (s.1 176 27) ≤ x1 then
    (some (yb_pI s 176 7 ((s.1 176 7) + (1 : Int32)))).bind fun s5 =>
    some s5
  else
    (yb_ri 367 1 24 x1).bind fun r6 =>
    (yb_rd s 195 24 x1).bind fun v7 =>
    if v7 = 0 then
      j_X12_day_163 rc110 x1 (100 : Int32) (s.1 176 7) r6 s
    else
      (yb_rd s 195 24 x1).bind fun v9 =>
      if v9 = (2 : Int32) then
        j_X12_day_163 rc110 x1 (101 : Int32) (s.1 176 7) r6 s
      else
        (yb_rd s 196 24 x1).bind fun v11 =>
        j_X12_day_163 rc110 x1 v11 (s.1 176 7) r6 s
def l_X12_day_110 (n : Nat) (x1 : Int32) (s : yb_S) : Option yb_S :=
  yb_it (α := Int32 × yb_S) (fun rc q => f_X12_day_110 (fun x1 s => rc (x1, s)) q.1 q.2) n (x1, s)
def f_X12_day_85 (rc85 : (Int32 → yb_S → Option yb_S)) (x1 : Int32) (s : yb_S) : Option yb_S :=
  if (5 : Int32) ≤ x1 then
    l_X12_day_110 yb_N (0 : Int32) s
  else
    (yb_ri 392 1 200 (s.1 176 7)).bind fun r39 =>
    (yb_wl s r39 5 x1 (0 : Int64)).bind fun s40 =>
    rc85 (x1 + (1 : Int32)) s40
def l_X12_day_85 (n : Nat) (x1 : Int32) (s : yb_S) : Option yb_S :=
  yb_it (α := Int32 × yb_S) (fun rc q => f_X12_day_85 (fun x1 s => rc (x1, s)) q.1 q.2) n (x1, s)
def j_X12_day_77 (rc50 : (Int32 → yb_S → Option yb_S)) (x1 : Int32) (s : yb_S) : Option yb_S :=
  rc50 (x1 + (1 : Int32)) s
def f_X12_day_50 (rc50 : (Int32 → yb_S → Option yb_S)) (x1 : Int32) (s : yb_S) : Option yb_S :=
  if (s.1 176 27) ≤ x1 then
    l_X12_day_85 yb_N (0 : Int32) s
  else
    (yb_rd s 195 24 x1).bind fun v41 =>
    if v41 = 0 then
      (yb_rd s 197 24 x1).bind fun v43 =>
      (yb_wr s 197 24 x1 (v43 + (1 : Int32))).bind fun s44 =>
      j_X12_day_77 rc50 x1 s44
    else
      j_X12_day_77 rc50 x1 s
def l_X12_day_50 (n : Nat) (x1 : Int32) (s : yb_S) : Option yb_S :=
  yb_it (α := Int32 × yb_S) (fun rc q => f_X12_day_50 (fun x1 s => rc (x1, s)) q.1 q.2) n (x1, s)
def j_X12_day_42 (rc2 : (Int32 → yb_S → Option yb_S)) (x1 : Int32) (s : yb_S) : Option yb_S :=
  rc2 (x1 + (1 : Int32)) s
def f_X12_day_2 (rc2 : (Int32 → yb_S → Option yb_S)) (x1 : Int32) (s : yb_S) : Option yb_S :=
  if (s.1 176 27) ≤ x1 then
    l_X12_day_50 yb_N (0 : Int32) s
  else
    (f_X12_isHoused x1 s).bind fun q45 =>
    if q45 = 0 then
      j_X12_day_42 rc2 x1 s
    else
      (yb_rd s 196 24 x1).bind fun v48 =>
      (yb_rd s 188 24 v48).bind fun v49 =>
      if v49 = (s.1 176 7) then
        (f_X12_houses x1 (-1 : Int32) s).bind fun q51 =>
        j_X12_day_42 rc2 x1 q51
      else
        j_X12_day_42 rc2 x1 s
def l_X12_day_2 (n : Nat) (x1 : Int32) (s : yb_S) : Option yb_S :=
  yb_it (α := Int32 × yb_S) (fun rc q => f_X12_day_2 (fun x1 s => rc (x1, s)) q.1 q.2) n (x1, s)
def f_X12_day (s : yb_S) : Option yb_S :=
  l_X12_day_2 yb_N (0 : Int32) s
def f_X12_end (a1 : Int32) (s : yb_S) : Option (Int32 × yb_S) :=
  (f_X12_in (a1.toInt64) (0 : Int64) ((s.1 176 44).toInt64) s).bind fun q1 =>
  if q1 = 0 then
    some ((0 : Int32), s)
  else
    (some (yb_pI s 176 44 a1)).bind fun s4 =>
    some ((1 : Int32), s4)
def f_X12_ended (a1 : Int32) (a2 : Int32) (s : yb_S) : Option Int32 :=
  (f_X12_hasEnded a1 s).bind fun q1 =>
  if q1 = 0 then
    some (-1 : Int32)
  else
    (f_X12_in (a2.toInt64) (0 : Int64) (4 : Int64) s).bind fun q4 =>
    if q4 = 0 then
      some (-1 : Int32)
    else
      (yb_ri 392 1 200 a1).bind fun r7 =>
      (yb_rl s r7 5 a2).bind fun v8 =>
      some (v8.toInt32)
def j_X12_ends_53 (rc23 : (Int32 → Int32 → yb_S → Option (Int32 × yb_S))) (x1 : Int32) (x2 : Int32) (x3 : Int32) (s : yb_S) : Option (Int32 × yb_S) :=
  rc23 x2 (x3 + (1 : Int32)) s
def j_X12_ends_51 (rc23 : (Int32 → Int32 → yb_S → Option (Int32 × yb_S))) (x1 : Int32) (x3 : Int32) (s : yb_S) : Option (Int32 × yb_S) :=
  j_X12_ends_53 rc23 x1 x3 x3 s
def f_X12_ends_23 (rc23 : (Int32 → Int32 → yb_S → Option (Int32 × yb_S))) (x1 : Int32) (x2 : Int32) (x3 : Int32) (s : yb_S) : Option (Int32 × yb_S) :=
  if (s.1 176 15) ≤ x3 then
    some (x2, s)
  else
    if x2 = (-1 : Int32) then
      j_X12_ends_51 rc23 x1 x3 s
    else
      (f_X12_barOf x1 x3 s).bind fun q8 =>
      (f_X12_barOf x1 x2 q8.2).bind fun q10 =>
      if q10.1 ≤ q8.1 then
        j_X12_ends_53 rc23 x1 x2 x3 q10.2
      else
        j_X12_ends_51 rc23 x1 x3 q10.2
def l_X12_ends_23 (x1 : Int32) (n : Nat) (x2 : Int32) (x3 : Int32) (s : yb_S) : Option (Int32 × yb_S) :=
  yb_it (α := Int32 × Int32 × yb_S) (fun rc q => f_X12_ends_23 (fun x2 x3 s => rc (x2, x3, s)) x1 q.1 q.2.1 q.2.2) n (x2, x3, s)
def f_X12_ends (a1 : Int32) (s : yb_S) : Option (Int32 × yb_S) :=
  (f_X12_isFamily a1 s).bind fun q1 =>
  if q1 = 0 then
    some ((-1 : Int32), s)
  else
    (yb_rd s 195 24 a1).bind fun v4 =>
    if v4 = 0 then
      l_X12_ends_23 a1 yb_N (-1 : Int32) (0 : Int32) s
    else
      some ((-1 : Int32), s)
def f_X12_family (a1 : Int32) (a2 : Int32) (s : yb_S) : Option (Int32 × yb_S) :=
  if a1 < 0 then
    some ((-1 : Int32), s)
  else
    if a2 < 0 then
      some ((-1 : Int32), s)
    else
      (f_X12_in ((a1 / (100 : Int32)).toInt64) (1 : Int64) (9 : Int64) s).bind fun q3 =>
      if q3 = 0 then
        some ((-1 : Int32), s)
      else
        if (a1 / (100 : Int32)) < (yb_rem (a1 / (10 : Int32)) (10 : Int32)) then
          some ((-1 : Int32), s)
        else
          if (1 : Int32) < (yb_rem a1 (10 : Int32)) then
            some ((-1 : Int32), s)
          else
            if (3 : Int32) < (a2 / (100 : Int32)) then
              some ((-1 : Int32), s)
            else
              if (5 : Int32) < (yb_rem (a2 / (10 : Int32)) (10 : Int32)) then
                some ((-1 : Int32), s)
              else
                if (5 : Int32) < (yb_rem a2 (10 : Int32)) then
                  some ((-1 : Int32), s)
                else
                  if (s.1 176 27) = (24 : Int32) then
                    some ((-1 : Int32), s)
                  else
                    (yb_wr s 189 24 (s.1 176 27) (a1 / (100 : Int32))).bind fun s12 =>
                    (yb_wr s12 190 24 (s.1 176 27) (yb_rem (a1 / (10 : Int32)) (10 : Int32))).bind fun s13 =>
                    (yb_wr s13 191 24 (s.1 176 27) (yb_rem a1 (10 : Int32))).bind fun s14 =>
                    (yb_wr s14 192 24 (s.1 176 27) (a2 / (100 : Int32))).bind fun s15 =>
                    (yb_wr s15 193 24 (s.1 176 27) (yb_rem (a2 / (10 : Int32)) (10 : Int32))).bind fun s16 =>
                    (yb_wr s16 194 24 (s.1 176 27) (yb_rem a2 (10 : Int32))).bind fun s17 =>
                    (yb_wr s17 195 24 (s.1 176 27) (0 : Int32)).bind fun s18 =>
                    (yb_wr s18 196 24 (s.1 176 27) (-1 : Int32)).bind fun s19 =>
                    (yb_wr s19 198 24 (s.1 176 27) (s19.1 176 7)).bind fun s20 =>
                    (yb_wr s20 199 24 (s.1 176 27) (-1 : Int32)).bind fun s21 =>
                    (some (yb_pI s21 176 27 ((s21.1 176 27) + (1 : Int32)))).bind fun s22 =>
                    (some (yb_pI s22 176 42 (0 : Int32))).bind fun s23 =>
                    some ((s.1 176 27), s23)
def f_X12_reads_40 (rc40 : (Int32 → yb_S → Option yb_S)) (x1 : Int32) (s : yb_S) : Option yb_S :=
  if x1 = 0 then
    some s
  else
    if (s.1 176 44) ≤ (s.1 176 45) then
      some s
    else
      (f_X12_clauses s).bind fun q8 =>
      rc40 q8.1 q8.2
def l_X12_reads_40 (n : Nat) (x1 : Int32) (s : yb_S) : Option yb_S :=
  yb_it (α := Int32 × yb_S) (fun rc q => f_X12_reads_40 (fun x1 s => rc (x1, s)) q.1 q.2) n (x1, s)
def f_X12_reads_7 (rc7 : (Int32 → yb_S → Option yb_S)) (x1 : Int32) (s : yb_S) : Option yb_S :=
  if (6 : Int32) ≤ x1 then
    (some (yb_pI s 176 45 (0 : Int32))).bind fun s3 =>
    (f_X12_skips s3).bind fun q4 =>
    l_X12_reads_40 yb_N (1 : Int32) q4
  else
    (yb_ri 322 1 11 (10 : Int32)).bind fun r10 =>
    (yb_wr s r10 6 x1 (0 : Int32)).bind fun s11 =>
    rc7 (x1 + (1 : Int32)) s11
def l_X12_reads_7 (n : Nat) (x1 : Int32) (s : yb_S) : Option yb_S :=
  yb_it (α := Int32 × yb_S) (fun rc q => f_X12_reads_7 (fun x1 s => rc (x1, s)) q.1 q.2) n (x1, s)
def f_X12_reads (s : yb_S) : Option yb_S :=
  (some (yb_pI s 176 47 (-1 : Int32))).bind fun s1 =>
  l_X12_reads_7 yb_N (0 : Int32) s1
def f_X12_fault (s : yb_S) : Option (Int32 × yb_S) :=
  (f_X12_reads s).bind fun q1 =>
  some ((q1.1 176 47), q1)
def f_X12_feeds_2 (rc2 : (Int32 → yb_S → Option yb_S)) (x1 : Int32) (x2 : Int32) (s : yb_S) : Option yb_S :=
  if x2 < 0 then
    some s
  else
    (yb_wr s 242 500 (s.1 176 44) (vp_nar .byte ((x1.toUInt32 >>> (((8 : Int32) * x2).toUInt32 &&& Int32.toUInt32 31)).toInt32.toInt8.toInt32))).bind fun s2 =>
    (some (yb_pI s2 176 44 ((s2.1 176 44) + (1 : Int32)))).bind fun s3 =>
    rc2 (x2 + (-1 : Int32)) s3
def l_X12_feeds_2 (x1 : Int32) (n : Nat) (x2 : Int32) (s : yb_S) : Option yb_S :=
  yb_it (α := Int32 × yb_S) (fun rc q => f_X12_feeds_2 (fun x2 s => rc (x2, s)) x1 q.1 q.2) n (x2, s)
def f_X12_feeds (a1 : Int32) (s : yb_S) : Option yb_S :=
  l_X12_feeds_2 a1 yb_N (3 : Int32) s
def f_X12_feed (a1 : Int32) (a2 : Int32) (a3 : Int32) (a4 : Int32) (a5 : Int32) (s : yb_S) : Option (Int32 × yb_S) :=
  if ((s.1 176 44) + (20 : Int32)) ≤ (500 : Int32) then
    (f_X12_feeds a1 s).bind fun q2 =>
    (f_X12_feeds a2 q2).bind fun q4 =>
    (f_X12_feeds a3 q4).bind fun q6 =>
    (f_X12_feeds a4 q6).bind fun q8 =>
    (f_X12_feeds a5 q8).bind fun q10 =>
    some ((q10.1 176 44), q10)
  else
    some ((-1 : Int32), s)
def f_X12_finds (a1 : Int32) (a2 : Int32) (s : yb_S) : Option (Int32 × yb_S) :=
  (f_X12_isFamily a1 s).bind fun q1 =>
  if q1 = 0 then
    some ((-1 : Int32), s)
  else
    (f_X12_isFamily a2 s).bind fun q4 =>
    if q4 = 0 then
      some ((-1 : Int32), s)
    else
      (f_X12_surely a1 a2 s).bind fun q7 =>
      some (q7.1, q7.2)
def f_X12_foretell (a1 : Int32) (a2 : Int32) (s : yb_S) : Option (Int32 × yb_S) :=
  (f_X12_in (a1.toInt64) ((s.1 176 7).toInt64) (200 : Int64) s).bind fun q1 =>
  if q1 = 0 then
    some ((-1 : Int32), s)
  else
    (f_X12_in (a2.toInt64) (-100 : Int64) (100 : Int64) s).bind fun q4 =>
    if q4 = 0 then
      some ((-1 : Int32), s)
    else
      if (s.1 176 85) = (40 : Int32) then
        some ((-1 : Int32), s)
      else
        (yb_wr s 601 40 (s.1 176 85) a1).bind fun s8 =>
        (yb_wr s8 602 40 (s8.1 176 85) a2).bind fun s9 =>
        (some (yb_pI s9 176 85 ((s9.1 176 85) + (1 : Int32)))).bind fun s10 =>
        some ((s10.1 176 85), s10)
def f_X12_isTown (a1 : Int32) (s : yb_S) : Option Int32 :=
  (f_X12_in (a1.toInt64) (0 : Int64) (((s.1 176 6) - (1 : Int32)).toInt64) s).bind fun q1 =>
  some q1
def f_X12_full (a1 : Int32) (a2 : Int32) (s : yb_S) : Option (Int32 × yb_S) :=
  (f_X12_isTown a1 s).bind fun q1 =>
  if q1 = 0 then
    some ((0 : Int32), s)
  else
    (yb_rd s 182 8 a1).bind fun v4 =>
    if v4 = a2 then
      some ((0 : Int32), s)
    else
      (yb_wr s 182 8 a1 (vp_nar .boolean a2)).bind fun s6 =>
      some ((1 : Int32), s6)
def j_X12_go_41 (s : yb_S) : Option (Int32 × yb_S) :=
  some ((s.1 176 7), s)
def f_X12_go_16 (rc16 : (Int32 → yb_S → Option (Int32 × yb_S))) (x1 : Int32) (x2 : Int32) (s : yb_S) : Option (Int32 × yb_S) :=
  if x1 ≤ x2 then
    j_X12_go_41 s
  else
    if (200 : Int32) ≤ (s.1 176 7) then
      j_X12_go_41 s
    else
      (f_X12_day s).bind fun q6 =>
      rc16 (x2 + (1 : Int32)) q6
def l_X12_go_16 (x1 : Int32) (n : Nat) (x2 : Int32) (s : yb_S) : Option (Int32 × yb_S) :=
  yb_it (α := Int32 × yb_S) (fun rc q => f_X12_go_16 (fun x2 s => rc (x2, s)) x1 q.1 q.2) n (x2, s)
def f_X12_go (a1 : Int32) (s : yb_S) : Option (Int32 × yb_S) :=
  (f_X12_in (a1.toInt64) (0 : Int64) (40 : Int64) s).bind fun q1 =>
  if q1 = 0 then
    some ((-1 : Int32), s)
  else
    l_X12_go_16 a1 yb_N (0 : Int32) s
def j_X12_heapSize_28 (rc4 : (Int32 → Int32 → Option Int32)) (x1 : Int32) (x3 : Int32) (y0 : Int32) (y1 : Int32) (s : yb_S) : Option Int32 :=
  rc4 (y1 + y0) (x3 + (1 : Int32))
def f_X12_heapSize_4 (rc4 : (Int32 → Int32 → Option Int32)) (x1 : Int32) (s : yb_S) (x2 : Int32) (x3 : Int32) : Option Int32 :=
  if (s.1 176 36) ≤ x3 then
    some x2
  else
    (yb_rd s 213 60 x3).bind fun v2 =>
    if v2 = x1 then
      j_X12_heapSize_28 rc4 x1 x3 (1 : Int32) x2 s
    else
      j_X12_heapSize_28 rc4 x1 x3 (0 : Int32) x2 s
def l_X12_heapSize_4 (x1 : Int32) (s : yb_S) (n : Nat) (x2 : Int32) (x3 : Int32) : Option Int32 :=
  yb_it (α := Int32 × Int32) (fun rc q => f_X12_heapSize_4 (fun x2 x3 => rc (x2, x3)) x1 s q.1 q.2) n (x2, x3)
def f_X12_heapSize (a1 : Int32) (s : yb_S) : Option Int32 :=
  l_X12_heapSize_4 a1 s yb_N (0 : Int32) (0 : Int32)
def f_X12_home (a1 : Int32) (a2 : Int32) (a3 : Int32) (s : yb_S) : Option (Int32 × yb_S) :=
  (f_X12_isTown a1 s).bind fun q1 =>
  if q1 = 0 then
    some ((-1 : Int32), s)
  else
    if a2 < 0 then
      some ((-1 : Int32), s)
    else
      (f_X12_in ((a2 / (100 : Int32)).toInt64) (1 : Int64) (9 : Int64) s).bind fun q5 =>
      if q5 = 0 then
        some ((-1 : Int32), s)
      else
        if (1 : Int32) < (yb_rem (a2 / (10 : Int32)) (10 : Int32)) then
          some ((-1 : Int32), s)
        else
          if (4 : Int32) < (yb_rem a2 (10 : Int32)) then
            some ((-1 : Int32), s)
          else
            (f_X12_areDays a3 s).bind fun q10 =>
            if q10 = 0 then
              some ((-1 : Int32), s)
            else
              if (s.1 176 15) = (24 : Int32) then
                some ((-1 : Int32), s)
              else
                (yb_wr s 183 24 (s.1 176 15) a1).bind fun s14 =>
                (yb_wr s14 184 24 (s14.1 176 15) (a2 / (100 : Int32))).bind fun s15 =>
                (yb_wr s15 185 24 (s15.1 176 15) (yb_rem (a2 / (10 : Int32)) (10 : Int32))).bind fun s16 =>
                (yb_wr s16 186 24 (s16.1 176 15) (yb_rem a2 (10 : Int32))).bind fun s17 =>
                (yb_wr s17 187 24 (s17.1 176 15) (a3 / (1000 : Int32))).bind fun s18 =>
                (yb_wr s18 188 24 (s18.1 176 15) (yb_rem a3 (1000 : Int32))).bind fun s19 =>
                (some (yb_pI s19 176 15 ((s19.1 176 15) + (1 : Int32)))).bind fun s20 =>
                some (((s20.1 176 15) - (1 : Int32)), s20)
def f_X12_is (a1 : Int32) (a2 : Int32) (s : yb_S) : Option (Int32 × yb_S) :=
  (f_X12_isTown a1 s).bind fun q1 =>
  if q1 = 0 then
    some ((-1 : Int32), s)
  else
    if a2 = (0 : Int32) then
      (yb_rd s 177 8 a1).bind fun v10 =>
      some (v10, s)
    else
      if a2 = (1 : Int32) then
        (f_X12_headsIn a1 s).bind fun q11 =>
        some (q11, s)
      else
        if a2 = (2 : Int32) then
          (yb_rd s 179 8 a1).bind fun v13 =>
          (f_X12_pupilsIn a1 (-1 : Int32) s).bind fun q14 =>
          some ((v13 - q14), s)
        else
          if a2 = (3 : Int32) then
            (yb_rl s 181 8 a1).bind fun v16 =>
            if (lg_cmp v16 (2000000000 : Int64)) ≤ 0 then
              (yb_rl s 181 8 a1).bind fun v18 =>
              some ((v18.toInt32), s)
            else
              some ((2000000000 : Int32), s)
          else
            if a2 = (4 : Int32) then
              (yb_rd s 182 8 a1).bind fun v19 =>
              if v19 = 0 then
                some ((0 : Int32), s)
              else
                some ((1 : Int32), s)
            else
              if a2 = (5 : Int32) then
                (f_X12_lackOf a1 s).bind fun q21 =>
                if 0 ≤ q21.1 then
                  (f_X12_lackOf a1 q21.2).bind fun q24 =>
                  some (q24.1, q24.2)
                else
                  some ((0 : Int32), q21.2)
              else
                some ((-1 : Int32), s)
def f_X12_isMatch (a1 : Int32) (a2 : Int32) (s : yb_S) : Option Int32 :=
  (yb_rd s 207 60 a2).bind fun v1 =>
  (yb_rd s 207 60 a1).bind fun v2 =>
  if v1 = v2 then
    some (0 : Int32)
  else
    (f_X12_areBarred a2 a1 s).bind fun q4 =>
    if q4 = 0 then
      (f_X12_pointsOf a1 a2 s).bind fun q7 =>
      if q7 < (4 : Int32) then
        some (0 : Int32)
      else
        some (1 : Int32)
    else
      some (0 : Int32)
def j_X12_join_169 (rc136 : (Int32 → yb_S → Option (Int32 × yb_S))) (x1 : Int32) (x3 : Int32) (x4 : Int32) (s : yb_S) : Option (Int32 × yb_S) :=
  rc136 (x4 + (1 : Int32)) s
def f_X12_join_136 (rc136 : (Int32 → yb_S → Option (Int32 × yb_S))) (x1 : Int32) (x3 : Int32) (x4 : Int32) (s : yb_S) : Option (Int32 × yb_S) :=
  if (s.1 176 36) ≤ x4 then
    (some (yb_pI s 176 42 (0 : Int32))).bind fun s13 =>
    (yb_rd s13 213 60 x1).bind fun v14 =>
    (f_X12_heapSize v14 s13).bind fun q15 =>
    some (q15, s13)
  else
    (yb_rd s 213 60 x4).bind fun v17 =>
    if v17 = x3 then
      (yb_rd s 213 60 x1).bind fun v19 =>
      (yb_wr s 213 60 x4 v19).bind fun s20 =>
      j_X12_join_169 rc136 x1 x3 x4 s20
    else
      j_X12_join_169 rc136 x1 x3 x4 s
def l_X12_join_136 (x1 : Int32) (x3 : Int32) (n : Nat) (x4 : Int32) (s : yb_S) : Option (Int32 × yb_S) :=
  yb_it (α := Int32 × yb_S) (fun rc q => f_X12_join_136 (fun x4 s => rc (x4, s)) x1 x3 q.1 q.2) n (x4, s)
def j_X12_join_114 (rc35 : (Int32 → Option (Int32 × yb_S))) (rc46 : (Int32 → Option (Int32 × yb_S))) (x1 : Int32) (x2 : Int32) (x3 : Int32) (x4 : Int32) (s : yb_S) : Option (Int32 × yb_S) :=
  rc46 (x4 + (1 : Int32))
def f_X12_join_46 (rc35 : (Int32 → Option (Int32 × yb_S))) (rc46 : (Int32 → Option (Int32 × yb_S))) (x1 : Int32) (x2 : Int32) (x3 : Int32) (s : yb_S) (x4 : Int32) : Option (Int32 × yb_S) :=
  if (s.1 176 36) ≤ x4 then
    rc35 (x3 + (1 : Int32))
  else
    (yb_rd s 213 60 x3).bind fun v22 =>
    (yb_rd s 213 60 x1).bind fun v23 =>
    if v22 = v23 then
      (yb_rd s 213 60 x4).bind fun v25 =>
      (yb_rd s 213 60 x2).bind fun v26 =>
      if v25 = v26 then
        (yb_rd s 207 60 x3).bind fun v28 =>
        (yb_rd s 207 60 x4).bind fun v29 =>
        if v28 = v29 then
          some ((-1 : Int32), s)
        else
          (f_X12_areBarred x3 x4 s).bind fun q31 =>
          if q31 = 0 then
            j_X12_join_114 rc35 rc46 x1 x2 x3 x4 s
          else
            some ((-1 : Int32), s)
      else
        j_X12_join_114 rc35 rc46 x1 x2 x3 x4 s
    else
      j_X12_join_114 rc35 rc46 x1 x2 x3 x4 s
def l_X12_join_46 (rc35 : (Int32 → Option (Int32 × yb_S))) (x1 : Int32) (x2 : Int32) (x3 : Int32) (s : yb_S) (n : Nat) (x4 : Int32) : Option (Int32 × yb_S) :=
  yb_it (α := Int32) (fun rc q => f_X12_join_46 rc35 (fun x4 => rc x4) x1 x2 x3 s q) n x4
def f_X12_join_35 (rc35 : (Int32 → Option (Int32 × yb_S))) (x1 : Int32) (x2 : Int32) (s : yb_S) (x3 : Int32) : Option (Int32 × yb_S) :=
  if (s.1 176 36) ≤ x3 then
    (yb_rd s 213 60 x2).bind fun v11 =>
    l_X12_join_136 x1 v11 yb_N (0 : Int32) s
  else
    l_X12_join_46 rc35 x1 x2 x3 s yb_N (0 : Int32)
def l_X12_join_35 (x1 : Int32) (x2 : Int32) (s : yb_S) (n : Nat) (x3 : Int32) : Option (Int32 × yb_S) :=
  yb_it (α := Int32) (fun rc q => f_X12_join_35 (fun x3 => rc x3) x1 x2 s q) n x3
def f_X12_join (a1 : Int32) (a2 : Int32) (s : yb_S) : Option (Int32 × yb_S) :=
  (f_X12_isRecord a1 s).bind fun q1 =>
  if q1 = 0 then
    some ((-1 : Int32), s)
  else
    (f_X12_isRecord a2 s).bind fun q4 =>
    if q4 = 0 then
      some ((-1 : Int32), s)
    else
      (yb_rd s 213 60 a1).bind fun v7 =>
      (yb_rd s 213 60 a2).bind fun v8 =>
      if v7 = v8 then
        some ((-1 : Int32), s)
      else
        l_X12_join_35 a1 a2 s yb_N (0 : Int32)
def j_X12_kin_44 (rc14 : (Int32 → Int32 → yb_S → Option (Int32 × yb_S))) (x1 : Int32) (x3 : Int32) (y0 : Int32) (y1 : Int32) (s : yb_S) : Option (Int32 × yb_S) :=
  rc14 (y1 ||| y0) (x3 + (1 : Int32)) s
def j_X12_kin_43 (rc14 : (Int32 → Int32 → yb_S → Option (Int32 × yb_S))) (x1 : Int32) (x3 : Int32) (y0 : Int32) (s : yb_S) : Option (Int32 × yb_S) :=
  j_X12_kin_44 rc14 x1 x3 (0 : Int32) y0 s
def f_X12_kin_14 (rc14 : (Int32 → Int32 → yb_S → Option (Int32 × yb_S))) (x1 : Int32) (x2 : Int32) (x3 : Int32) (s : yb_S) : Option (Int32 × yb_S) :=
  if (s.1 176 27) ≤ x3 then
    some (x2, s)
  else
    if x3 = x1 then
      j_X12_kin_43 rc14 x1 x3 x2 s
    else
      (f_X12_areKin x1 x3 s).bind fun q6 =>
      if q6.1 = 0 then
        j_X12_kin_43 rc14 x1 x3 x2 q6.2
      else
        j_X12_kin_44 rc14 x1 x3 ((1 : Int32) <<< (x3 &&& 31)) x2 q6.2
def l_X12_kin_14 (x1 : Int32) (n : Nat) (x2 : Int32) (x3 : Int32) (s : yb_S) : Option (Int32 × yb_S) :=
  yb_it (α := Int32 × Int32 × yb_S) (fun rc q => f_X12_kin_14 (fun x2 x3 s => rc (x2, x3, s)) x1 q.1 q.2.1 q.2.2) n (x2, x3, s)
def f_X12_kin (a1 : Int32) (s : yb_S) : Option (Int32 × yb_S) :=
  (f_X12_isFamily a1 s).bind fun q1 =>
  if q1 = 0 then
    some ((-1 : Int32), s)
  else
    l_X12_kin_14 a1 yb_N (0 : Int32) (0 : Int32) s
def f_X12_lack (a1 : Int32) (s : yb_S) : Option (Int32 × yb_S) :=
  (f_X12_isTown a1 s).bind fun q1 =>
  if q1 = 0 then
    some ((-2147483648 : Int32), s)
  else
    (f_X12_lackOf a1 s).bind fun q4 =>
    some (q4.1, q4.2)
def j_X12_lacks_137 (y0 : Int32) (y1 : Int32) (s : yb_S) : Option Int32 :=
  some (y1 - y0)
def j_X12_lacks_119 (rc77 : (Int32 → Int32 → Option Int32)) (x1 : Int32) (x3 : Int32) (x4 : Int32) (x5 : Int32) (s : yb_S) : Option Int32 :=
  rc77 x4 (x5 + (1 : Int32))
def f_X12_lacks_77 (rc77 : (Int32 → Int32 → Option Int32)) (x1 : Int32) (x3 : Int32) (s : yb_S) (x4 : Int32) (x5 : Int32) : Option Int32 :=
  if (s.1 176 85) ≤ x5 then
    if 0 ≤ x4 then
      j_X12_lacks_137 x4 x3 s
    else
      j_X12_lacks_137 (0 : Int32) x3 s
  else
    (yb_rd s 601 40 x5).bind fun v6 =>
    (f_X12_in (v6.toInt64) ((s.1 176 7).toInt64) (x1.toInt64) s).bind fun q7 =>
    if q7 = 0 then
      j_X12_lacks_119 rc77 x1 x3 x4 x5 s
    else
      (yb_rd s 602 40 x5).bind fun v10 =>
      j_X12_lacks_119 rc77 x1 x3 (x4 + v10) x5 s
def l_X12_lacks_77 (x1 : Int32) (x3 : Int32) (s : yb_S) (n : Nat) (x4 : Int32) (x5 : Int32) : Option Int32 :=
  yb_it (α := Int32 × Int32) (fun rc q => f_X12_lacks_77 (fun x4 x5 => rc (x4, x5)) x1 x3 s q.1 q.2) n (x4, x5)
def j_X12_lacks_68 (rc14 : (Int32 → Int32 → Option Int32)) (x1 : Int32) (x2 : Int32) (x3 : Int32) (x4 : Int32) (x5 : Int32) (s : yb_S) : Option Int32 :=
  rc14 x3 (x5 + (1 : Int32))
def j_X12_lacks_66 (rc14 : (Int32 → Int32 → Option Int32)) (x1 : Int32) (x2 : Int32) (x4 : Int32) (x5 : Int32) (y0 : Int32) (y1 : Int32) (s : yb_S) : Option Int32 :=
  j_X12_lacks_68 rc14 x1 x2 (y1 + y0) x4 x5 s
def f_X12_lacks_14 (rc14 : (Int32 → Int32 → Option Int32)) (x1 : Int32) (x2 : Int32) (x4 : Int32) (s : yb_S) (x3 : Int32) (x5 : Int32) : Option Int32 :=
  if (s.1 176 84) ≤ x5 then
    l_X12_lacks_77 x1 x3 s yb_N x4 (0 : Int32)
  else
    (yb_rd s 598 40 x5).bind fun v11 =>
    (f_X12_in (v11.toInt64) ((s.1 176 7).toInt64) (x1.toInt64) s).bind fun q12 =>
    if q12 = 0 then
      j_X12_lacks_68 rc14 x1 x2 x3 x4 x5 s
    else
      if x2 = 0 then
        (yb_rd s 599 40 x5).bind fun v16 =>
        j_X12_lacks_66 rc14 x1 x2 x4 x5 v16 x3 s
      else
        (yb_rd s 600 40 x5).bind fun v17 =>
        j_X12_lacks_66 rc14 x1 x2 x4 x5 v17 x3 s
def l_X12_lacks_14 (x1 : Int32) (x2 : Int32) (x4 : Int32) (s : yb_S) (n : Nat) (x3 : Int32) (x5 : Int32) : Option Int32 :=
  yb_it (α := Int32 × Int32) (fun rc q => f_X12_lacks_14 (fun x3 x5 => rc (x3, x5)) x1 x2 x4 s q.1 q.2) n (x3, x5)
def f_X12_lacks (a1 : Int32) (a2 : Int32) (s : yb_S) : Option Int32 :=
  (f_X12_hallHeads s).bind fun q1 =>
  l_X12_lacks_14 a1 a2 (s.1 176 8) s yb_N q1 (0 : Int32)
def f_X12_night (a1 : Int32) (a2 : Int32) (s : yb_S) : Option Int32 :=
  (f_X12_isFamily a1 s).bind fun q1 =>
  if q1 = 0 then
    some (-1 : Int32)
  else
    (f_X12_hasEnded a2 s).bind fun q4 =>
    if q4 = 0 then
      some (-1 : Int32)
    else
      (yb_rd s 198 24 a1).bind fun v7 =>
      if a2 < v7 then
        some (-1 : Int32)
      else
        (yb_ri 367 1 24 a1).bind fun r9 =>
        (yb_rd s r9 200 a2).bind fun v10 =>
        some v10
def f_X12_lead_20 (rc20 : (Int32 → Option Int32)) (x1 : Int32) (x2 : Int32) (s : yb_S) (x3 : Int32) : Option Int32 :=
  if (s.1 176 27) ≤ x3 then
    some (-1 : Int32)
  else
    (f_X12_night x3 x2 s).bind fun q8 =>
    if q8 = x1 then
      some x3
    else
      rc20 (x3 + (1 : Int32))
def l_X12_lead_20 (x1 : Int32) (x2 : Int32) (s : yb_S) (n : Nat) (x3 : Int32) : Option Int32 :=
  yb_it (α := Int32) (fun rc q => f_X12_lead_20 (fun x3 => rc x3) x1 x2 s q) n x3
def f_X12_lead (a1 : Int32) (a2 : Int32) (s : yb_S) : Option Int32 :=
  (f_X12_isHome a1 s).bind fun q1 =>
  if q1 = 0 then
    some (-1 : Int32)
  else
    (f_X12_hasEnded a2 s).bind fun q4 =>
    if q4 = 0 then
      some (-1 : Int32)
    else
      l_X12_lead_20 a1 a2 s yb_N (0 : Int32)
def f_X12_leave (a1 : Int32) (s : yb_S) : Option (Int32 × yb_S) :=
  (f_X12_isFamily a1 s).bind fun q1 =>
  if q1 = 0 then
    some ((0 : Int32), s)
  else
    (yb_rd s 195 24 a1).bind fun v4 =>
    if v4 = (2 : Int32) then
      some ((0 : Int32), s)
    else
      (f_X12_houses a1 (-1 : Int32) s).bind fun q6 =>
      (yb_wr q6 195 24 a1 (2 : Int32)).bind fun s8 =>
      some ((1 : Int32), s8)
def j_X12_match_53 (rc14 : (Int32 → Int32 → Option Int32)) (x1 : Int32) (x2 : Int32) (x3 : Int32) (s : yb_S) : Option Int32 :=
  rc14 x2 (x3 + (1 : Int32))
def j_X12_match_51 (rc14 : (Int32 → Int32 → Option Int32)) (x1 : Int32) (x3 : Int32) (s : yb_S) : Option Int32 :=
  j_X12_match_53 rc14 x1 x3 x3 s
def f_X12_match_14 (rc14 : (Int32 → Int32 → Option Int32)) (x1 : Int32) (s : yb_S) (x2 : Int32) (x3 : Int32) : Option Int32 :=
  if (s.1 176 36) ≤ x3 then
    some x2
  else
    (f_X12_isMatch x1 x3 s).bind fun q5 =>
    if q5 = 0 then
      j_X12_match_53 rc14 x1 x2 x3 s
    else
      if x2 = (-1 : Int32) then
        j_X12_match_51 rc14 x1 x3 s
      else
        (f_X12_pointsOf x1 x3 s).bind fun q9 =>
        (f_X12_pointsOf x1 x2 s).bind fun q11 =>
        if q9 ≤ q11 then
          j_X12_match_53 rc14 x1 x2 x3 s
        else
          j_X12_match_51 rc14 x1 x3 s
def l_X12_match_14 (x1 : Int32) (s : yb_S) (n : Nat) (x2 : Int32) (x3 : Int32) : Option Int32 :=
  yb_it (α := Int32 × Int32) (fun rc q => f_X12_match_14 (fun x2 x3 => rc (x2, x3)) x1 s q.1 q.2) n (x2, x3)
def f_X12_match (a1 : Int32) (s : yb_S) : Option Int32 :=
  (f_X12_isRecord a1 s).bind fun q1 =>
  if q1 = 0 then
    some (-1 : Int32)
  else
    l_X12_match_14 a1 s yb_N (-1 : Int32) (0 : Int32)
def j_X12_move_123 (x1 : Int32) (x2 : Int32) (x5 : Int32) (s : yb_S) : Option (Int32 × yb_S) :=
  (f_X12_houses x1 x2 s).bind fun q17 =>
  some (x5, q17)
def j_X12_move_120 (x1 : Int32) (x2 : Int32) (x5 : Int32) (s : yb_S) : Option (Int32 × yb_S) :=
  j_X12_move_123 x1 x2 (x5 + (2 : Int32)) s
def j_X12_move_93 (x1 : Int32) (x2 : Int32) (x3 : Int32) (x4 : Int32) (y0 : Int32) (s : yb_S) : Option (Int32 × yb_S) :=
  (f_X12_wants x3 x1 s).bind fun q14 =>
  if q14 = 0 then
    j_X12_move_123 x1 x2 y0 s
  else
    if x4 = (-1 : Int32) then
      j_X12_move_120 x1 x2 y0 s
    else
      (f_X12_wants x4 x1 s).bind fun q20 =>
      if q20 = 0 then
        j_X12_move_120 x1 x2 y0 s
      else
        j_X12_move_123 x1 x2 y0 s
def j_X12_move_92 (x1 : Int32) (x2 : Int32) (x3 : Int32) (x4 : Int32) (s : yb_S) : Option (Int32 × yb_S) :=
  j_X12_move_93 x1 x2 x3 x4 (0 : Int32) s
def j_X12_move_71 (x1 : Int32) (x2 : Int32) (x3 : Int32) (y0 : Int32) (s : yb_S) : Option (Int32 × yb_S) :=
  (yb_rd s 190 24 x1).bind fun v12 =>
  if v12 ≤ 0 then
    j_X12_move_92 x1 x2 x3 y0 s
  else
    if x3 = y0 then
      j_X12_move_92 x1 x2 x3 y0 s
    else
      j_X12_move_93 x1 x2 x3 y0 (1 : Int32) s
def j_X12_move_50 (x1 : Int32) (x2 : Int32) (s : yb_S) : Option (Int32 × yb_S) :=
  (f_X12_townFor x1 s).bind fun q8 =>
  if x2 = (-1 : Int32) then
    j_X12_move_71 x1 x2 q8 (-1 : Int32) s
  else
    (yb_rd s 183 24 x2).bind fun v11 =>
    j_X12_move_71 x1 x2 q8 v11 s
def f_X12_move (a1 : Int32) (a2 : Int32) (s : yb_S) : Option (Int32 × yb_S) :=
  (f_X12_isFamily a1 s).bind fun q1 =>
  if q1 = 0 then
    some ((-1 : Int32), s)
  else
    (f_X12_isHoused a1 s).bind fun q4 =>
    if q4 = 0 then
      some ((-1 : Int32), s)
    else
      if a2 = (-1 : Int32) then
        j_X12_move_50 a1 a2 s
      else
        (f_X12_isHome a2 s).bind fun q24 =>
        if q24 = 0 then
          some ((-1 : Int32), s)
        else
          (yb_rd s 196 24 a1).bind fun v27 =>
          if a2 = v27 then
            some ((-1 : Int32), s)
          else
            (f_X12_barOf a1 a2 s).bind fun q29 =>
            if q29.1 = 0 then
              j_X12_move_50 a1 a2 q29.2
            else
              some ((-1 : Int32), q29.2)
def j_X12_mutual_55 (rc14 : (Int32 → Int32 → yb_S → Option (Int32 × yb_S))) (x1 : Int32) (x3 : Int32) (y0 : Int32) (y1 : Int32) (s : yb_S) : Option (Int32 × yb_S) :=
  rc14 (y1 ||| y0) (x3 + (1 : Int32)) s
def j_X12_mutual_54 (rc14 : (Int32 → Int32 → yb_S → Option (Int32 × yb_S))) (x1 : Int32) (x3 : Int32) (y0 : Int32) (s : yb_S) : Option (Int32 × yb_S) :=
  j_X12_mutual_55 rc14 x1 x3 (0 : Int32) y0 s
def f_X12_mutual_14 (rc14 : (Int32 → Int32 → yb_S → Option (Int32 × yb_S))) (x1 : Int32) (x2 : Int32) (x3 : Int32) (s : yb_S) : Option (Int32 × yb_S) :=
  if (s.1 176 27) ≤ x3 then
    some (x2, s)
  else
    if x3 = x1 then
      j_X12_mutual_54 rc14 x1 x3 x2 s
    else
      (f_X12_surely x1 x3 s).bind fun q6 =>
      if q6.1 = (-1 : Int32) then
        j_X12_mutual_54 rc14 x1 x3 x2 q6.2
      else
        (f_X12_surely x3 x1 q6.2).bind fun q9 =>
        if q9.1 = (-1 : Int32) then
          j_X12_mutual_54 rc14 x1 x3 x2 q9.2
        else
          j_X12_mutual_55 rc14 x1 x3 ((1 : Int32) <<< (x3 &&& 31)) x2 q9.2
def l_X12_mutual_14 (x1 : Int32) (n : Nat) (x2 : Int32) (x3 : Int32) (s : yb_S) : Option (Int32 × yb_S) :=
  yb_it (α := Int32 × Int32 × yb_S) (fun rc q => f_X12_mutual_14 (fun x2 x3 s => rc (x2, x3, s)) x1 q.1 q.2.1 q.2.2) n (x2, x3, s)
def f_X12_mutual (a1 : Int32) (s : yb_S) : Option (Int32 × yb_S) :=
  (f_X12_isFamily a1 s).bind fun q1 =>
  if q1 = 0 then
    some ((-1 : Int32), s)
  else
    l_X12_mutual_14 a1 yb_N (0 : Int32) (0 : Int32) s
def j_X12_part_55 (rc26 : (Int32 → yb_S → Option (Int32 × yb_S))) (x2 : Int32) (x3 : Int32) (x4 : Int32) (s : yb_S) : Option (Int32 × yb_S) :=
  rc26 (x4 + (1 : Int32)) s
def f_X12_part_26 (rc26 : (Int32 → yb_S → Option (Int32 × yb_S))) (x2 : Int32) (x3 : Int32) (x4 : Int32) (s : yb_S) : Option (Int32 × yb_S) :=
  if (s.1 176 36) ≤ x4 then
    (some (yb_pI s 176 42 (0 : Int32))).bind fun s8 =>
    some (x3, s8)
  else
    (yb_rd s 213 60 x4).bind fun v9 =>
    if v9 = x2 then
      (yb_wr s 213 60 x4 x4).bind fun s11 =>
      j_X12_part_55 rc26 x2 x3 x4 s11
    else
      j_X12_part_55 rc26 x2 x3 x4 s
def l_X12_part_26 (x2 : Int32) (x3 : Int32) (n : Nat) (x4 : Int32) (s : yb_S) : Option (Int32 × yb_S) :=
  yb_it (α := Int32 × yb_S) (fun rc q => f_X12_part_26 (fun x4 s => rc (x4, s)) x2 x3 q.1 q.2) n (x4, s)
def f_X12_part (a1 : Int32) (s : yb_S) : Option (Int32 × yb_S) :=
  (f_X12_isRecord a1 s).bind fun q1 =>
  if q1 = 0 then
    some ((-1 : Int32), s)
  else
    (yb_rd s 213 60 a1).bind fun v4 =>
    (f_X12_heapSize v4 s).bind fun q5 =>
    l_X12_part_26 v4 q5 yb_N (0 : Int32) s
def f_X12_passed (a1 : Int32) (a2 : Int32) (s : yb_S) : Option Int32 :=
  (f_X12_isFamily a1 s).bind fun q1 =>
  if q1 = 0 then
    some (-1 : Int32)
  else
    (f_X12_isFamily a2 s).bind fun q4 =>
    if q4 = 0 then
      some (-1 : Int32)
    else
      if (s.1 176 64) = 0 then
        some (-1 : Int32)
      else
        (yb_ri 342 1 24 a1).bind fun r8 =>
        (yb_rd s r8 24 a2).bind fun v9 =>
        some v9
def f_X12_place_10 (rc2 : (Int32 → yb_S → Option (Int32 × yb_S))) (rc10 : (Int32 → yb_S → Option (Int32 × yb_S))) (x1 : Int32) (x2 : Int32) (s : yb_S) : Option (Int32 × yb_S) :=
  if (24 : Int32) ≤ x2 then
    rc2 (x1 + (1 : Int32)) s
  else
    (yb_ri 342 1 24 x1).bind fun r6 =>
    (yb_wr s r6 24 x2 (-1 : Int32)).bind fun s7 =>
    rc10 (x2 + (1 : Int32)) s7
def l_X12_place_10 (rc2 : (Int32 → yb_S → Option (Int32 × yb_S))) (x1 : Int32) (n : Nat) (x2 : Int32) (s : yb_S) : Option (Int32 × yb_S) :=
  yb_it (α := Int32 × yb_S) (fun rc q => f_X12_place_10 rc2 (fun x2 s => rc (x2, s)) x1 q.1 q.2) n (x2, s)
def f_X12_place_2 (rc2 : (Int32 → yb_S → Option (Int32 × yb_S))) (x1 : Int32) (s : yb_S) : Option (Int32 × yb_S) :=
  if (24 : Int32) ≤ x1 then
    (some (yb_pI s 176 64 (1 : Int32))).bind fun s2 =>
    (f_X12_places (1 : Int32) s2).bind fun q3 =>
    some (q3.1, q3.2)
  else
    l_X12_place_10 rc2 x1 yb_N (0 : Int32) s
def l_X12_place_2 (n : Nat) (x1 : Int32) (s : yb_S) : Option (Int32 × yb_S) :=
  yb_it (α := Int32 × yb_S) (fun rc q => f_X12_place_2 (fun x1 s => rc (x1, s)) q.1 q.2) n (x1, s)
def f_X12_place (s : yb_S) : Option (Int32 × yb_S) :=
  l_X12_place_2 yb_N (0 : Int32) s
def j_X12_rank_35 (s : yb_S) : Option (Int32 × yb_S) :=
  some ((-2147483648 : Int32), s)
def j_X12_rank_29 (y0 : Int32) (y1 : Int32) (s : yb_S) : Option (Int32 × yb_S) :=
  (f_X12_askedOf y1 y0 s).bind fun q8 =>
  some (q8.1, q8.2)
def f_X12_rank (a1 : Int32) (a2 : Int32) (s : yb_S) : Option (Int32 × yb_S) :=
  (f_X12_isFamily a1 s).bind fun q1 =>
  if q1 = 0 then
    j_X12_rank_35 s
  else
    (f_X12_in (a2.toInt64) (0 : Int64) (1 : Int64) s).bind fun q4 =>
    if q4 = 0 then
      j_X12_rank_35 s
    else
      if a2 = 0 then
        j_X12_rank_29 (0 : Int32) a1 s
      else
        j_X12_rank_29 (2 : Int32) a1 s
def j_X12_record_59 (x1 : Int32) (x2 : Int32) (x3 : Int32) (x4 : Int32) (x5 : Int32) (s : yb_S) : Option (Int32 × yb_S) :=
  if (s.1 176 36) = (60 : Int32) then
    some ((-1 : Int32), s)
  else
    (yb_wr s 207 60 (s.1 176 36) x1).bind fun s15 =>
    (yb_wr s15 208 60 (s15.1 176 36) x2).bind fun s16 =>
    (yb_wr s16 209 60 (s16.1 176 36) x3).bind fun s17 =>
    (yb_wr s17 210 60 (s17.1 176 36) (x4 / (1000 : Int32))).bind fun s18 =>
    (yb_wr s18 211 60 (s18.1 176 36) (yb_rem x4 (1000 : Int32))).bind fun s19 =>
    (yb_wr s19 212 60 (s19.1 176 36) x5).bind fun s20 =>
    (yb_wr s20 213 60 (s20.1 176 36) (s20.1 176 36)).bind fun s21 =>
    (some (yb_pI s21 176 36 ((s21.1 176 36) + (1 : Int32)))).bind fun s22 =>
    (some (yb_pI s22 176 42 (0 : Int32))).bind fun s23 =>
    some (((s23.1 176 36) - (1 : Int32)), s23)
def f_X12_record (a1 : Int32) (a2 : Int32) (a3 : Int32) (a4 : Int32) (a5 : Int32) (s : yb_S) : Option (Int32 × yb_S) :=
  (f_X12_in (a1.toInt64) (0 : Int64) (2 : Int64) s).bind fun q1 =>
  if q1 = 0 then
    some ((-1 : Int32), s)
  else
    (f_X12_in (a2.toInt64) (0 : Int64) (999999 : Int64) s).bind fun q4 =>
    if q4 = 0 then
      some ((-1 : Int32), s)
    else
      (f_X12_in (a3.toInt64) (0 : Int64) (120 : Int64) s).bind fun q7 =>
      if q7 = 0 then
        some ((-1 : Int32), s)
      else
        (f_X12_areDays a4 s).bind fun q10 =>
        if q10 = 0 then
          some ((-1 : Int32), s)
        else
          if a5 = (-1 : Int32) then
            j_X12_record_59 a1 a2 a3 a4 a5 s
          else
            (f_X12_isFamily a5 s).bind fun q24 =>
            if q24 = 0 then
              some ((-1 : Int32), s)
            else
              j_X12_record_59 a1 a2 a3 a4 a5 s
def j_X12_rivals_65 (rc18 : (Int32 → Int32 → Option Int32)) (x1 : Int32) (x2 : Int32) (x4 : Int32) (y0 : Int32) (y1 : Int32) (s : yb_S) : Option Int32 :=
  rc18 (y1 + y0) (x4 + (1 : Int32))
def j_X12_rivals_64 (rc18 : (Int32 → Int32 → Option Int32)) (x1 : Int32) (x2 : Int32) (x4 : Int32) (y0 : Int32) (s : yb_S) : Option Int32 :=
  j_X12_rivals_65 rc18 x1 x2 x4 (0 : Int32) y0 s
def f_X12_rivals_18 (rc18 : (Int32 → Int32 → Option Int32)) (x1 : Int32) (x2 : Int32) (s : yb_S) (x3 : Int32) (x4 : Int32) : Option Int32 :=
  if (s.1 176 36) ≤ x4 then
    some x3
  else
    if x4 = x2 then
      j_X12_rivals_64 rc18 x1 x2 x4 x3 s
    else
      (f_X12_isMatch x1 x4 s).bind fun q6 =>
      if q6 = 0 then
        j_X12_rivals_64 rc18 x1 x2 x4 x3 s
      else
        (f_X12_pointsOf x1 x4 s).bind fun q9 =>
        (f_X12_pointsOf x1 x2 s).bind fun q11 =>
        if q9 = q11 then
          j_X12_rivals_65 rc18 x1 x2 x4 (1 : Int32) x3 s
        else
          j_X12_rivals_64 rc18 x1 x2 x4 x3 s
def l_X12_rivals_18 (x1 : Int32) (x2 : Int32) (s : yb_S) (n : Nat) (x3 : Int32) (x4 : Int32) : Option Int32 :=
  yb_it (α := Int32 × Int32) (fun rc q => f_X12_rivals_18 (fun x3 x4 => rc (x3, x4)) x1 x2 s q.1 q.2) n (x3, x4)
def f_X12_rivals (a1 : Int32) (s : yb_S) : Option Int32 :=
  (f_X12_match a1 s).bind fun q1 =>
  if q1 = (-1 : Int32) then
    some (-1 : Int32)
  else
    l_X12_rivals_18 a1 q1 s yb_N (0 : Int32) (0 : Int32)
def f_X12_same (a1 : Int32) (a2 : Int32) (s : yb_S) : Option Int32 :=
  (f_X12_isRecord a1 s).bind fun q1 =>
  if q1 = 0 then
    some (0 : Int32)
  else
    (f_X12_isRecord a2 s).bind fun q4 =>
    if q4 = 0 then
      some (0 : Int32)
    else
      (yb_rd s 213 60 a1).bind fun v7 =>
      (yb_rd s 213 60 a2).bind fun v8 =>
      if v7 = v8 then
        some (1 : Int32)
      else
        some (0 : Int32)
def f_X12_seek (a1 : Int32) (a2 : Int32) (a3 : Int32) (s : yb_S) : Option (Int32 × yb_S) :=
  (f_X12_isFamily a1 s).bind fun q1 =>
  if q1 = 0 then
    some ((0 : Int32), s)
  else
    (f_X12_in (a2.toInt64) (0 : Int64) (999999 : Int64) s).bind fun q4 =>
    if q4 = 0 then
      some ((0 : Int32), s)
    else
      (f_X12_in (a3.toInt64) (0 : Int64) (120 : Int64) s).bind fun q7 =>
      if q7 = 0 then
        some ((0 : Int32), s)
      else
        if (s.1 176 40) = (40 : Int32) then
          some ((0 : Int32), s)
        else
          (yb_wr s 214 40 (s.1 176 40) a1).bind fun s11 =>
          (yb_wr s11 215 40 (s11.1 176 40) a2).bind fun s12 =>
          (yb_wr s12 216 40 (s12.1 176 40) a3).bind fun s13 =>
          (some (yb_pI s13 176 40 ((s13.1 176 40) + (1 : Int32)))).bind fun s14 =>
          (some (yb_pI s14 176 42 (0 : Int32))).bind fun s15 =>
          some ((1 : Int32), s15)
def f_X12_sheet_60 (rc32 : (Int32 → yb_S → Option (Int32 × yb_S))) (rc60 : (Int32 → yb_S → Option (Int32 × yb_S))) (x1 : Int32) (x2 : Int32) (s : yb_S) : Option (Int32 × yb_S) :=
  (yb_ri 322 1 11 (10 : Int32)).bind fun r14 =>
  (yb_rd s r14 6 x1).bind fun v15 =>
  if ((2 : Int32) * v15) ≤ x2 then
    rc32 (x1 + (1 : Int32)) s
  else
    (yb_ri 244 7 11 (s.1 176 54)).bind fun r17 =>
    (yb_ri (r17 + 1) 1 6 x1).bind fun r18 =>
    (yb_ri 244 7 11 (10 : Int32)).bind fun r19 =>
    (yb_ri (r19 + 1) 1 6 x1).bind fun r20 =>
    (yb_rd s r20 1040 x2).bind fun v21 =>
    (yb_wr s r18 1040 x2 v21).bind fun s22 =>
    rc60 (x2 + (1 : Int32)) s22
def l_X12_sheet_60 (rc32 : (Int32 → yb_S → Option (Int32 × yb_S))) (x1 : Int32) (n : Nat) (x2 : Int32) (s : yb_S) : Option (Int32 × yb_S) :=
  yb_it (α := Int32 × yb_S) (fun rc q => f_X12_sheet_60 rc32 (fun x2 s => rc (x2, s)) x1 q.1 q.2) n (x2, s)
def f_X12_sheet_32 (rc32 : (Int32 → yb_S → Option (Int32 × yb_S))) (x1 : Int32) (s : yb_S) : Option (Int32 × yb_S) :=
  if (6 : Int32) ≤ x1 then
    (yb_wr s 333 10 (s.1 176 54) (s.1 176 7)).bind fun s7 =>
    (yb_wr s7 334 10 (s7.1 176 54) (-1 : Int32)).bind fun s8 =>
    (some (yb_pI s8 176 54 ((s8.1 176 54) + (1 : Int32)))).bind fun s9 =>
    some (((s9.1 176 54) - (1 : Int32)), s9)
  else
    (yb_ri 322 1 11 (s.1 176 54)).bind fun r10 =>
    (yb_ri 322 1 11 (10 : Int32)).bind fun r11 =>
    (yb_rd s r11 6 x1).bind fun v12 =>
    (yb_wr s r10 6 x1 v12).bind fun s13 =>
    l_X12_sheet_60 rc32 x1 yb_N (0 : Int32) s13
def l_X12_sheet_32 (n : Nat) (x1 : Int32) (s : yb_S) : Option (Int32 × yb_S) :=
  yb_it (α := Int32 × yb_S) (fun rc q => f_X12_sheet_32 (fun x1 s => rc (x1, s)) q.1 q.2) n (x1, s)
def f_X12_sheet (s : yb_S) : Option (Int32 × yb_S) :=
  if (s.1 176 54) = (10 : Int32) then
    some ((-1 : Int32), s)
  else
    (f_X12_reads s).bind fun q2 =>
    if (q2.1 176 47) = (-1 : Int32) then
      (some (yb_pI q2 176 44 (0 : Int32))).bind fun s5 =>
      l_X12_sheet_32 yb_N (0 : Int32) s5
    else
      some ((-1 : Int32), q2)
def j_X12_show_109 (x2 : Int32) (x3 : Int32) (s : yb_S) : Option (Int32 × yb_S) :=
  if x3 = 0 then
    (yb_rd s 195 24 x2).bind fun v27 =>
    some (v27, s)
  else
    if x3 = (1 : Int32) then
      (f_X12_townFor x2 s).bind fun q25 =>
      some (q25, s)
    else
      if x3 = (2 : Int32) then
        (yb_rd s 189 24 x2).bind fun v24 =>
        some (v24, s)
      else
        (yb_rd s 197 24 x2).bind fun v23 =>
        some (v23, s)
def j_X12_show_91 (x2 : Int32) (x3 : Int32) (y0 : Int32) (s : yb_S) : Option (Int32 × yb_S) :=
  (f_X12_tells (5 : Int32) s).bind fun q17 =>
  if q17.1 = (1 : Int32) then
    j_X12_show_109 x2 x3 q17.2
  else
    if y0 = 0 then
      some ((-1 : Int32), q17.2)
    else
      j_X12_show_109 x2 x3 q17.2
def j_X12_show_90 (x2 : Int32) (x3 : Int32) (s : yb_S) : Option (Int32 × yb_S) :=
  j_X12_show_91 x2 x3 (0 : Int32) s
def j_X12_show_62 (x1 : Int32) (x2 : Int32) (x3 : Int32) (y0 : Int32) (y1 : Int32) (s : yb_S) : Option (Int32 × yb_S) :=
  (yb_wr s 337 18 y1 y0).bind fun s13 =>
  (f_X12_isTown (x1 - (100 : Int32)) s13).bind fun q14 =>
  if q14 = 0 then
    j_X12_show_90 x2 x3 s13
  else
    (f_X12_townFor x2 s13).bind fun q29 =>
    if q29 = (x1 - (100 : Int32)) then
      j_X12_show_91 x2 x3 (1 : Int32) s13
    else
      j_X12_show_90 x2 x3 s13
def j_X12_show_27 (x1 : Int32) (x2 : Int32) (x3 : Int32) (s : yb_S) : Option (Int32 × yb_S) :=
  (f_X12_in (x3.toInt64) (0 : Int64) (3 : Int64) s).bind fun q7 =>
  if q7 = 0 then
    some ((-1 : Int32), s)
  else
    (f_X12_asksOf x2 s).bind fun q10 =>
    if x1 = x2 then
      j_X12_show_62 x1 x2 x3 (1 : Int32) (17 : Int32) q10
    else
      j_X12_show_62 x1 x2 x3 (0 : Int32) (17 : Int32) q10
def f_X12_show (a1 : Int32) (a2 : Int32) (a3 : Int32) (s : yb_S) : Option (Int32 × yb_S) :=
  (f_X12_isFamily a2 s).bind fun q1 =>
  if q1 = 0 then
    some ((-1 : Int32), s)
  else
    (f_X12_isFamily a1 s).bind fun q4 =>
    if q4 = 0 then
      (f_X12_isTown (a1 - (100 : Int32)) s).bind fun q32 =>
      if q32 = 0 then
        some ((-1 : Int32), s)
      else
        j_X12_show_27 a1 a2 a3 s
    else
      j_X12_show_27 a1 a2 a3 s
def f_X12_strike (a1 : Int32) (s : yb_S) : Option (Int32 × yb_S) :=
  (f_X12_in (a1.toInt64) (0 : Int64) (((s.1 176 54) - (1 : Int32)).toInt64) s).bind fun q1 =>
  if q1 = 0 then
    some ((0 : Int32), s)
  else
    (yb_rd s 334 10 a1).bind fun v4 =>
    if v4 = (-1 : Int32) then
      (yb_wr s 334 10 a1 (s.1 176 7)).bind fun s6 =>
      some ((1 : Int32), s6)
    else
      some ((0 : Int32), s)
def f_X12_told (a1 : Int32) (a2 : Int32) (s : yb_S) : Option Int32 :=
  (f_X12_isFamily a1 s).bind fun q1 =>
  if q1 = 0 then
    some (-1 : Int32)
  else
    if a2 = (0 : Int32) then
      (yb_rd s 195 24 a1).bind fun v10 =>
      some v10
    else
      if a2 = (1 : Int32) then
        (yb_rd s 196 24 a1).bind fun v11 =>
        some v11
      else
        if a2 = (2 : Int32) then
          (yb_rd s 197 24 a1).bind fun v12 =>
          some v12
        else
          if a2 = (3 : Int32) then
            (yb_rd s 189 24 a1).bind fun v13 =>
            some v13
          else
            if a2 = (4 : Int32) then
              (yb_rd s 198 24 a1).bind fun v14 =>
              some v14
            else
              if a2 = (5 : Int32) then
                (yb_rd s 199 24 a1).bind fun v15 =>
                some v15
              else
                some (-1 : Int32)
def f_X12_town (a1 : Int32) (a2 : Int32) (a3 : Int32) (s : yb_S) : Option (Int32 × yb_S) :=
  (f_X12_in (a1.toInt64) (0 : Int64) (999 : Int64) s).bind fun q1 =>
  if q1 = 0 then
    some ((-1 : Int32), s)
  else
    if a2 < 0 then
      some ((-1 : Int32), s)
    else
      if (15 : Int32) < (a2 / (100 : Int32)) then
        some ((-1 : Int32), s)
      else
        if (40 : Int32) < (yb_rem a2 (100 : Int32)) then
          some ((-1 : Int32), s)
        else
          (f_X12_in (a3.toInt64) (0 : Int64) (63 : Int64) s).bind fun q7 =>
          if q7 = 0 then
            some ((-1 : Int32), s)
          else
            if (s.1 176 6) = (8 : Int32) then
              some ((-1 : Int32), s)
            else
              (yb_wr s 177 8 (s.1 176 6) a1).bind fun s11 =>
              (yb_wr s11 178 8 (s11.1 176 6) (a2 / (100 : Int32))).bind fun s12 =>
              (yb_wr s12 179 8 (s12.1 176 6) (yb_rem a2 (100 : Int32))).bind fun s13 =>
              (yb_wr s13 180 8 (s13.1 176 6) a3).bind fun s14 =>
              (some (yb_pI s14 176 6 ((s14.1 176 6) + (1 : Int32)))).bind fun s15 =>
              some (((s15.1 176 6) - (1 : Int32)), s15)
def f_X12_why (a1 : Int32) (a2 : Int32) (s : yb_S) : Option Int32 :=
  (f_X12_in (a1.toInt64) (0 : Int64) (5 : Int64) s).bind fun q1 =>
  if q1 = 0 then
    some (-1 : Int32)
  else
    (f_X12_in (a2.toInt64) (0 : Int64) ((s.1 176 7).toInt64) s).bind fun q4 =>
    if q4 = 0 then
      some (-1 : Int32)
    else
      (f_X12_sheetFor a1 a2 s).bind fun q7 =>
      some q7
def j_X12_wish_33 (x1 : Int32) (x2 : Int32) (s : yb_S) : Option (Int32 × yb_S) :=
  (yb_wr s 199 24 x1 x2).bind fun s7 =>
  some ((1 : Int32), s7)
def f_X12_wish (a1 : Int32) (a2 : Int32) (s : yb_S) : Option (Int32 × yb_S) :=
  (f_X12_isFamily a1 s).bind fun q1 =>
  if q1 = 0 then
    some ((0 : Int32), s)
  else
    (yb_rd s 195 24 a1).bind fun v4 =>
    if v4 = (2 : Int32) then
      some ((0 : Int32), s)
    else
      if a2 = (-1 : Int32) then
        j_X12_wish_33 a1 a2 s
      else
        (f_X12_isTown a2 s).bind fun q8 =>
        if q8 = 0 then
          some ((0 : Int32), s)
        else
          j_X12_wish_33 a1 a2 s
def j_X12_worst_84 (rc38 : (Int32 → Int32 → Option Int32)) (x1 : Int32) (x2 : Int32) (x3 : Int32) (x4 : Int32) (s : yb_S) : Option Int32 :=
  rc38 x3 (x4 + (1 : Int32))
def j_X12_worst_75 (rc38 : (Int32 → Int32 → Option Int32)) (x1 : Int32) (x2 : Int32) (x3 : Int32) (x4 : Int32) (x5 : Int32) (s : yb_S) : Option Int32 :=
  if x5 ≤ x3 then
    j_X12_worst_84 rc38 x1 x2 x3 x4 s
  else
    j_X12_worst_84 rc38 x1 x2 x5 x4 s
def j_X12_worst_57 (rc38 : (Int32 → Int32 → Option Int32)) (x1 : Int32) (x2 : Int32) (x3 : Int32) (x4 : Int32) (y0 : Int32) (y1 : Int32) (s : yb_S) : Option Int32 :=
  (f_X12_lacks y1 y0 s).bind fun q10 =>
  if x2 = (1 : Int32) then
    if q10 ≤ 0 then
      j_X12_worst_75 rc38 x1 x2 x3 x4 q10 s
    else
      some x4
  else
    j_X12_worst_75 rc38 x1 x2 x3 x4 q10 s
def f_X12_worst_38 (rc38 : (Int32 → Int32 → Option Int32)) (x1 : Int32) (x2 : Int32) (s : yb_S) (x3 : Int32) (x4 : Int32) : Option Int32 :=
  if x1 < x4 then
    if x2 = (1 : Int32) then
      some (-1 : Int32)
    else
      some x3
  else
    if (2 : Int32) ≤ x2 then
      j_X12_worst_57 rc38 x1 x2 x3 x4 (0 : Int32) x4 s
    else
      j_X12_worst_57 rc38 x1 x2 x3 x4 (1 : Int32) x4 s
def l_X12_worst_38 (x1 : Int32) (x2 : Int32) (s : yb_S) (n : Nat) (x3 : Int32) (x4 : Int32) : Option Int32 :=
  yb_it (α := Int32 × Int32) (fun rc q => f_X12_worst_38 (fun x3 x4 => rc (x3, x4)) x1 x2 s q.1 q.2) n (x3, x4)
def f_X12_worst (a1 : Int32) (a2 : Int32) (s : yb_S) : Option Int32 :=
  (f_X12_in (a1.toInt64) ((s.1 176 7).toInt64) (200 : Int64) s).bind fun q1 =>
  if q1 = 0 then
    some (-1 : Int32)
  else
    (f_X12_in (a2.toInt64) (0 : Int64) (2 : Int64) s).bind fun q4 =>
    if q4 = 0 then
      some (-1 : Int32)
    else
      l_X12_worst_38 a1 a2 s yb_N (0 : Int32) (s.1 176 7)
