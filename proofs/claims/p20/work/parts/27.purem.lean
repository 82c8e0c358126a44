def rm_X7_isIn : Room := { frames := 0, cells := 0, slots := 0, locals := 0 }
def f_X7_isIn (u : St) (l0 : Int32) (l1 : Int32) (l2 : Int32) : Option (Int32) :=
  if l0 < l1 then
    some 0
  else
    if l2 < l0 then
      some 0
    else
      some 1
def rm_X7_finding : Room := { frames := 0, cells := 0, slots := 0, locals := 0 }
def f_X7_finding (u : St) (l1 : Int32) : Option (Int32 × St) :=
  if inb l1 6 = true then
  some (((-1000000) - l1), (up2 u 21 l1.toNatClampNeg ((u 21 l1.toNatClampNeg) + 1)))
  else none
def rm_X7_piece : Room := { frames := 1, cells := 0, slots := 0, locals := 22 }
def f_X7_piece_150 (u : St) (l1 : Int32) (l2 : Int32) (l3 : Int32) (s0 : Int32) : Option (Int32 × St) :=
  if s0 = 0 then
    (f_X7_finding u 1).bind fun q6 =>
    some (q6.1, q6.2)
  else
    if (u 0 0) = 32 then
      (f_X7_finding u 4).bind fun q4 =>
      some (q4.1, q4.2)
    else
      if inb (u 0 0) 32 = true then
      some ((((u 0 0) + 1) - 1), (up2 (up2 (up2 (up2 (up2 (up2 (up2 (up2 (up2 u 6 (u 0 0).toNatClampNeg (l1 / 1000)) 2 (u 0 0).toNatClampNeg ((l1 / 100) - (l1 / 100) / 10 * 10)) 3 (u 0 0).toNatClampNeg ((l1 / 10) - (l1 / 10) / 10 * 10)) 1 (u 0 0).toNatClampNeg (l1 - l1 / 10 * 10)) 4 (u 0 0).toNatClampNeg (l2 / 100)) 5 (u 0 0).toNatClampNeg (l2 - l2 / 100 * 100)) 7 (u 0 0).toNatClampNeg (l3 / 10)) 8 (u 0 0).toNatClampNeg (l3 - l3 / 10 * 10)) 0 0 ((u 0 0) + 1)))
      else none
def f_X7_piece_112 (u : St) (l1 : Int32) (l2 : Int32) (l3 : Int32) (s0 : Int32) (s1 : Int32) (s2 : Int32) : Option (Int32 × St) :=
  (f_X7_isIn u s0 s1 s2).bind fun q8 =>
  if q8 = 0 then
    f_X7_piece_150 u l1 l2 l3 0
  else
    (f_X7_isIn u (l3 / 10) 30 60).bind fun q11 =>
    if q11 = 0 then
      f_X7_piece_150 u l1 l2 l3 0
    else
      (f_X7_isIn u (l3 - l3 / 10 * 10) 0 6).bind fun q14 =>
      if q14 = 0 then
        f_X7_piece_150 u l1 l2 l3 0
      else
        f_X7_piece_150 u l1 l2 l3 1
def f_X7_piece_73 (u : St) (l1 : Int32) (l2 : Int32) (l3 : Int32) (s0 : Int32) : Option (Int32 × St) :=
  if s0 = 0 then
    f_X7_piece_150 u l1 l2 l3 0
  else
    (f_X7_isIn u (l2 / 100) 1 60).bind fun q18 =>
    if q18 = 0 then
      f_X7_piece_150 u l1 l2 l3 0
    else
      if (l1 - l1 / 10 * 10) = 2 then
        f_X7_piece_112 u l1 l2 l3 (l2 - l2 / 100 * 100) 1 1
      else
        f_X7_piece_112 u l1 l2 l3 (l2 - l2 / 100 * 100) 1 60
def f_X7_piece (u : St) (l1 : Int32) (l2 : Int32) (l3 : Int32) : Option (Int32 × St) :=
  if l1 < 0 then
    f_X7_piece_73 u l1 l2 l3 0
  else
    if l2 < 0 then
      f_X7_piece_73 u l1 l2 l3 0
    else
      if l3 < 0 then
        f_X7_piece_73 u l1 l2 l3 0
      else
        (f_X7_isIn u (l1 / 1000) 0 15).bind fun q25 =>
        if q25 = 0 then
          f_X7_piece_73 u l1 l2 l3 0
        else
          (f_X7_isIn u ((l1 / 100) - (l1 / 100) / 10 * 10) 0 5).bind fun q28 =>
          if q28 = 0 then
            f_X7_piece_73 u l1 l2 l3 0
          else
            (f_X7_isIn u ((l1 / 10) - (l1 / 10) / 10 * 10) 1 5).bind fun q31 =>
            if q31 = 0 then
              f_X7_piece_73 u l1 l2 l3 0
            else
              (f_X7_isIn u (l1 - l1 / 10 * 10) 0 2).bind fun q34 =>
              if q34 = 0 then
                f_X7_piece_73 u l1 l2 l3 0
              else
                f_X7_piece_73 u l1 l2 l3 1
def rm_X7_isPiece : Room := { frames := 0, cells := 0, slots := 0, locals := 0 }
def f_X7_isPiece (u : St) (l1 : Int32) : Option (Int32) :=
  if l1 < 0 then
    some 0
  else
    if (u 0 0) ≤ l1 then
      some 0
    else
      some 1
def rm_X7_as : Room := { frames := 1, cells := 0, slots := 0, locals := 22 }
def f_X7_as (u : St) (l1 : Int32) (l2 : Int32) : Option (Int32 × St) :=
  (f_X7_isPiece u l1).bind fun q1 =>
  if q1 = 0 then
    (f_X7_finding u 1).bind fun q4 =>
    some (q4.1, q4.2)
  else
    (f_X7_isIn u l2 0 2).bind fun q6 =>
    if q6 = 0 then
      (f_X7_finding u 1).bind fun q15 =>
      some (q15.1, q15.2)
    else
      if l2 = 0 then
        if inb l1 32 = true then
        some ((u 2 l1.toNatClampNeg), u)
        else none
      else
        if inb l1 32 = true then
        if (u 1 l1.toNatClampNeg) = l2 then
          some ((u 2 l1.toNatClampNeg), u)
        else
          (f_X7_finding u 5).bind fun q13 =>
          some (q13.1, q13.2)
        else none
def rm_X7_about : Room := { frames := 1, cells := 0, slots := 0, locals := 22 }
def f_X7_about (u : St) (l1 : Int32) (l2 : Int32) : Option (Int32 × St) :=
  (f_X7_isPiece u l1).bind fun q1 =>
  if q1 = 0 then
    (f_X7_finding u 1).bind fun q4 =>
    some (q4.1, q4.2)
  else
    (f_X7_isIn u l2 0 9).bind fun q6 =>
    if q6 = 0 then
      (f_X7_finding u 1).bind fun q30 =>
      some (q30.1, q30.2)
    else
      if l2 = 0 then
        if inb l1 32 = true then
        some ((u 1 l1.toNatClampNeg), u)
        else none
      else
        if l2 = 1 then
          if inb l1 32 = true then
          some ((u 2 l1.toNatClampNeg), u)
          else none
        else
          if l2 = 2 then
            if inb l1 32 = true then
            some ((u 3 l1.toNatClampNeg), u)
            else none
          else
            if l2 = 3 then
              if inb l1 32 = true then
              some ((u 4 l1.toNatClampNeg), u)
              else none
            else
              if l2 = 4 then
                if inb l1 32 = true then
                some ((u 5 l1.toNatClampNeg), u)
                else none
              else
                if l2 = 5 then
                  if inb l1 32 = true then
                  some ((u 6 l1.toNatClampNeg), u)
                  else none
                else
                  if l2 = 6 then
                    if inb l1 32 = true then
                    some ((u 7 l1.toNatClampNeg), u)
                    else none
                  else
                    if l2 = 7 then
                      if inb l1 32 = true then
                      some ((u 8 l1.toNatClampNeg), u)
                      else none
                    else
                      if l2 = 8 then
                        if inb l1 32 = true then
                        some ((u 9 l1.toNatClampNeg), u)
                        else none
                      else
                        if inb l1 32 = true then
                        if (u 9 l1.toNatClampNeg) = 2 then
                          some ((u 10 l1.toNatClampNeg), u)
                        else
                          if (u 9 l1.toNatClampNeg) = 3 then
                            some ((u 10 l1.toNatClampNeg), u)
                          else
                            some (0, u)
                        else none
def rm_X7_isLook : Room := { frames := 1, cells := 0, slots := 0, locals := 22 }
def f_X7_isLook (u : St) (l0 : Int32) : Option (Int32) :=
  (f_X7_isIn u l0 0 11).bind fun q1 =>
  if q1 = 0 ∨ q1 = 1 then some q1 else none
def rm_X7_rowOf : Room := { frames := 0, cells := 0, slots := 0, locals := 0 }
def f_X7_rowOf_5 (u : St) : Nat → Int32 → Int32 → Int32 → Int32 → Option (Int32)
  | 0, _, _, _, _ => none
  | n + 1, l1, l2, l3, l4 =>
    if inb l1 12 = true then
    if (u 11 l1.toNatClampNeg) ≤ l4 then
      some l3
    else
      if inb ((8 * l1) + l4) 96 = true then
      if (u 12 ((8 * l1) + l4).toNatClampNeg) = l2 then
        f_X7_rowOf_5 u n l1 l2 l4 (l4 + 1)
      else
        f_X7_rowOf_5 u n l1 l2 l3 (l4 + 1)
      else none
    else none
def f_X7_rowOf (u : St) (l1 : Int32) (l2 : Int32) : Option (Int32) :=
  f_X7_rowOf_5 u FU l1 l2 (-1) 0
def rm_X7_wear : Room := { frames := 2, cells := 0, slots := 0, locals := 42 }
def f_X7_wear (u : St) (l1 : Int32) (l2 : Int32) : Option (Int32 × St) :=
  (f_X7_isLook u l1).bind fun q1 =>
  if q1 = 0 then
    (f_X7_finding u 1).bind fun q4 =>
    some (q4.1, q4.2)
  else
    (f_X7_isPiece u l2).bind fun q6 =>
    if q6 = 0 then
      (f_X7_finding u 1).bind fun q19 =>
      some (q19.1, q19.2)
    else
      (f_X7_rowOf u l1 l2).bind fun q9 =>
      if q9 < 0 then
        if inb l1 12 = true then
        if (u 11 l1.toNatClampNeg) = 8 then
          (f_X7_finding u 4).bind fun q15 =>
          some (q15.1, q15.2)
        else
          if inb ((8 * l1) + (u 11 l1.toNatClampNeg)) 96 = true then
          some ((upd (u 11) l1.toNatClampNeg ((u 11 l1.toNatClampNeg) + 1) l1.toNatClampNeg), (up2 (up2 u 12 ((8 * l1) + (u 11 l1.toNatClampNeg)).toNatClampNeg l2) 11 l1.toNatClampNeg ((u 11 l1.toNatClampNeg) + 1)))
          else none
        else none
      else
        (f_X7_finding u 3).bind fun q17 =>
        some (q17.1, q17.2)
def rm_X7_bare : Room := { frames := 2, cells := 0, slots := 0, locals := 42 }
def f_X7_bare (u : St) (l1 : Int32) : Option (Int32 × St) :=
  (f_X7_isLook u l1).bind fun q1 =>
  if q1 = 0 then
    (f_X7_finding u 1).bind fun q5 =>
    some (q5.1, q5.2)
  else
    if inb l1 12 = true then
    some ((u 11 l1.toNatClampNeg), (up2 u 11 l1.toNatClampNeg 0))
    else none
def rm_X7_look : Room := { frames := 2, cells := 0, slots := 0, locals := 42 }
def f_X7_look (u : St) (l1 : Int32) (l2 : Int32) : Option (Int32 × St) :=
  (f_X7_isLook u l1).bind fun q1 =>
  if q1 = 0 then
    (f_X7_finding u 1).bind fun q12 =>
    some (q12.1, q12.2)
  else
    if l2 < 0 then
      (f_X7_finding u 2).bind fun q5 =>
      some (q5.1, q5.2)
    else
      if inb l1 12 = true then
      if l2 < (u 11 l1.toNatClampNeg) then
        if inb ((8 * l1) + l2) 96 = true then
        some ((u 12 ((8 * l1) + l2).toNatClampNeg), u)
        else none
      else
        (f_X7_finding u 2).bind fun q10 =>
        some (q10.1, q10.2)
      else none
def rm_X7_limit : Room := { frames := 1, cells := 0, slots := 0, locals := 22 }
def f_X7_limit (u : St) (l1 : Int32) : Option (Int32 × St) :=
  (f_X7_isIn u l1 1 30).bind fun q1 =>
  if q1 = 0 then
    (f_X7_finding u 1).bind fun q4 =>
    some (q4.1, q4.2)
  else
    some ((u 0 13), (up2 u 0 13 l1))
def rm_X7_isChange : Room := { frames := 2, cells := 0, slots := 0, locals := 42 }
def f_X7_isChange (u : St) (l1 : Int32) (l2 : Int32) (l3 : Int32) : Option (Int32) :=
  (f_X7_isLook u l1).bind fun q1 =>
  if q1 = 0 then
    some 0
  else
    (f_X7_isLook u l2).bind fun q4 =>
    if q4 = 0 then
      some 0
    else
      if l3 < 0 then
        some 0
      else
        if inb l2 12 = true then
        if (1 <<< ((u 11 l2.toNatClampNeg) &&& 31)) ≤ l3 then
          some 0
        else
          some 1
        else none
def rm_X7_has : Room := { frames := 0, cells := 0, slots := 0, locals := 0 }
def f_X7_has (u : St) (l0 : Int32) (l1 : Int32) : Option (Int32) :=
  if ((l0 >>> (l1 &&& 31)) &&& 1) = 1 then
    some 1
  else
    some 0
def rm_X7_thickAt : Room := { frames := 1, cells := 0, slots := 0, locals := 21 }
def f_X7_thickAt_83 (u : St) : Nat → Int32 → Int32 → Int32 → Int32 → Option (Int32)
  | 0, _, _, _, _ => none
  | n + 1, l1, l4, l5, l6 =>
    if inb l1 12 = true then
    if (u 11 l1.toNatClampNeg) ≤ l6 then
      some l5
    else
      if inb ((8 * l1) + l6) 96 = true then
      if inb (u 12 ((8 * l1) + l6).toNatClampNeg) 32 = true then
      if (u 2 (u 12 ((8 * l1) + l6).toNatClampNeg).toNatClampNeg) = l4 then
        f_X7_thickAt_83 u n l1 l4 (l5 + (u 3 (u 12 ((8 * l1) + l6).toNatClampNeg).toNatClampNeg)) (l6 + 1)
      else
        f_X7_thickAt_83 u n l1 l4 (l5 + 0) (l6 + 1)
      else none
      else none
    else none
def f_X7_thickAt_6 (u : St) : Nat → Int32 → Int32 → Int32 → Int32 → Int32 → Int32 → Option (Int32)
  | 0, _, _, _, _, _, _ => none
  | n + 1, l1, l2, l3, l4, l5, l6 =>
    if inb l2 12 = true then
    if (u 11 l2.toNatClampNeg) ≤ l6 then
      f_X7_thickAt_83 u FU l1 l4 l5 0
    else
      (f_X7_has u l3 l6).bind fun q8 =>
      if q8 = 0 then
        f_X7_thickAt_6 u n l1 l2 l3 l4 (l5 + 0) (l6 + 1)
      else
        if inb ((8 * l2) + l6) 96 = true then
        if inb (u 12 ((8 * l2) + l6).toNatClampNeg) 32 = true then
        if (u 2 (u 12 ((8 * l2) + l6).toNatClampNeg).toNatClampNeg) = l4 then
          f_X7_thickAt_6 u n l1 l2 l3 l4 (l5 + (u 3 (u 12 ((8 * l2) + l6).toNatClampNeg).toNatClampNeg)) (l6 + 1)
        else
          f_X7_thickAt_6 u n l1 l2 l3 l4 (l5 + 0) (l6 + 1)
        else none
        else none
    else none
def f_X7_thickAt (u : St) (l1 : Int32) (l2 : Int32) (l3 : Int32) (l4 : Int32) : Option (Int32) :=
  f_X7_thickAt_6 u FU l1 l2 l3 l4 0 0
def rm_X7_isAllowed : Room := { frames := 2, cells := 0, slots := 0, locals := 47 }
def f_X7_isAllowed_128 (k63 : Int32 → Int32 → Int32 → Int32 → Int32 → Int32 → Int32 → Option (Int32)) (u : St) (l1 : Int32) (l2 : Int32) (l3 : Int32) (l5 : Int32) (l6 : Int32) (l7 : Int32) (l8 : Int32) (s0 : Int32) (s1 : Int32) : Option (Int32) :=
  if inb l8 32 = true then
  if inb l6 32 = true then
  if (u 2 l8.toNatClampNeg) = (u 2 l6.toNatClampNeg) then
    if l5 ≤ l7 then
      k63 l1 l2 l3 ((s0 &&& s1) &&& 1) l5 l6 (l7 + 1)
    else
      (f_X7_rowOf u l1 l8).bind fun q5 =>
      if 0 ≤ q5 then
        k63 l1 l2 l3 ((s0 &&& s1) &&& 0) l5 l6 (l7 + 1)
      else
        k63 l1 l2 l3 ((s0 &&& s1) &&& 1) l5 l6 (l7 + 1)
  else
    k63 l1 l2 l3 ((s0 &&& s1) &&& 1) l5 l6 (l7 + 1)
  else none
  else none
def f_X7_isAllowed_63 (k6 : Int32 → Int32 → Int32 → Int32 → Int32 → Option (Int32)) (u : St) : Nat → Int32 → Int32 → Int32 → Int32 → Int32 → Int32 → Int32 → Option (Int32)
  | 0, _, _, _, _, _, _, _ => none
  | n + 1, l1, l2, l3, l4, l5, l6, l7 =>
    if inb l2 12 = true then
    if (u 11 l2.toNatClampNeg) ≤ l7 then
      if inb l6 32 = true then
      (f_X7_thickAt u l1 l2 l3 (u 2 l6.toNatClampNeg)).bind fun q11 =>
      if (u 0 13) < q11 then
        k6 l1 l2 l3 (l4 &&& 0) (l5 + 1)
      else
        k6 l1 l2 l3 (l4 &&& 1) (l5 + 1)
      else none
    else
      if inb ((8 * l2) + l7) 96 = true then
      if inb (u 12 ((8 * l2) + l7).toNatClampNeg) 32 = true then
      if inb l6 32 = true then
      if (u 2 (u 12 ((8 * l2) + l7).toNatClampNeg).toNatClampNeg) = (u 2 l6.toNatClampNeg) then
        if l5 < l7 then
          f_X7_isAllowed_128 (f_X7_isAllowed_63 k6 u n) u l1 l2 l3 l5 l6 l7 (u 12 ((8 * l2) + l7).toNatClampNeg) l4 1
        else
          (f_X7_has u l3 l7).bind fun q19 =>
          if q19 = 0 then
            f_X7_isAllowed_128 (f_X7_isAllowed_63 k6 u n) u l1 l2 l3 l5 l6 l7 (u 12 ((8 * l2) + l7).toNatClampNeg) l4 0
          else
            f_X7_isAllowed_128 (f_X7_isAllowed_63 k6 u n) u l1 l2 l3 l5 l6 l7 (u 12 ((8 * l2) + l7).toNatClampNeg) l4 1
      else
        f_X7_isAllowed_128 (f_X7_isAllowed_63 k6 u n) u l1 l2 l3 l5 l6 l7 (u 12 ((8 * l2) + l7).toNatClampNeg) l4 1
      else none
      else none
      else none
    else none
def f_X7_isAllowed_6 (u : St) : Nat → Int32 → Int32 → Int32 → Int32 → Int32 → Option (Int32)
  | 0, _, _, _, _, _ => none
  | n + 1, l1, l2, l3, l4, l5 =>
    if inb l2 12 = true then
    if (u 11 l2.toNatClampNeg) ≤ l5 then
      if l4 = 0 ∨ l4 = 1 then some l4 else none
    else
      if inb ((8 * l2) + l5) 96 = true then
      (f_X7_has u l3 l5).bind fun q26 =>
      if q26 = 0 then
        f_X7_isAllowed_6 u n l1 l2 l3 l4 (l5 + 1)
      else
        (f_X7_rowOf u l1 (u 12 ((8 * l2) + l5).toNatClampNeg)).bind fun q29 =>
        if 0 ≤ q29 then
          f_X7_isAllowed_63 (f_X7_isAllowed_6 u n) u FU l1 l2 l3 (l4 &&& 0) l5 (u 12 ((8 * l2) + l5).toNatClampNeg) 0
        else
          f_X7_isAllowed_63 (f_X7_isAllowed_6 u n) u FU l1 l2 l3 (l4 &&& 1) l5 (u 12 ((8 * l2) + l5).toNatClampNeg) 0
      else none
    else none
def f_X7_isAllowed (u : St) (l1 : Int32) (l2 : Int32) (l3 : Int32) : Option (Int32) :=
  f_X7_isAllowed_6 u FU l1 l2 l3 1 0
def rm_X7_allowed : Room := { frames := 3, cells := 0, slots := 0, locals := 75 }
def f_X7_allowed (u : St) (l1 : Int32) (l2 : Int32) (l3 : Int32) : Option (Int32 × St) :=
  (f_X7_isChange u l1 l2 l3).bind fun q1 =>
  if q1 = 0 then
    (f_X7_finding u 1).bind fun q7 =>
    some (q7.1, q7.2)
  else
    (f_X7_isAllowed u l1 l2 l3).bind fun q4 =>
    if q4 = 0 then
      some (0, u)
    else
      some (1, u)
def rm_X7_isOff : Room := { frames := 1, cells := 0, slots := 0, locals := 24 }
def f_X7_isOff (u : St) (l1 : Int32) (l2 : Int32) : Option (Int32) :=
  (f_X7_rowOf u l1 l2).bind fun q1 =>
  if q1 < 0 then
    some 0
  else
    (f_X7_has u (u 0 26) q1).bind fun q4 =>
    if q4 = 0 then
      some 0
    else
      some 1
def rm_X7_mustOff : Room := { frames := 2, cells := 0, slots := 0, locals := 47 }
def f_X7_mustOff_144 (u : St) : Nat → Int32 → Int32 → Int32 → Int32 → Int32 → Int32 → Int32 → Option (Int32)
  | 0, _, _, _, _, _, _, _ => none
  | n + 1, l1, l2, l3, l5, l6, l7, l8 =>
    if l6 ≤ l8 then
      if l7 = 0 ∨ l7 = 1 then some l7 else none
    else
      if inb ((8 * l2) + l8) 96 = true then
      if inb (u 12 ((8 * l2) + l8).toNatClampNeg) 32 = true then
      if inb l5 32 = true then
      if (u 2 (u 12 ((8 * l2) + l8).toNatClampNeg).toNatClampNeg) = (u 2 l5.toNatClampNeg) then
        (f_X7_has u l3 l8).bind fun q7 =>
        if q7 = 0 then
          (f_X7_rowOf u l1 (u 12 ((8 * l2) + l8).toNatClampNeg)).bind fun q10 =>
          if q10 < 0 then
            f_X7_mustOff_144 u n l1 l2 l3 l5 l6 (l7 ||| 1) (l8 + 1)
          else
            (f_X7_isOff u l1 (u 12 ((8 * l2) + l8).toNatClampNeg)).bind fun q13 =>
            if q13 = 0 then
              f_X7_mustOff_144 u n l1 l2 l3 l5 l6 (l7 ||| 0) (l8 + 1)
            else
              f_X7_mustOff_144 u n l1 l2 l3 l5 l6 (l7 ||| 1) (l8 + 1)
        else
          f_X7_mustOff_144 u n l1 l2 l3 l5 l6 (l7 ||| 0) (l8 + 1)
      else
        f_X7_mustOff_144 u n l1 l2 l3 l5 l6 (l7 ||| 0) (l8 + 1)
      else none
      else none
      else none
def f_X7_mustOff_38 (u : St) : Nat → Int32 → Int32 → Int32 → Int32 → Int32 → Int32 → Int32 → Int32 → Option (Int32)
  | 0, _, _, _, _, _, _, _, _ => none
  | n + 1, l1, l2, l3, l4, l5, l6, l7, l8 =>
    if inb l1 12 = true then
    if (u 11 l1.toNatClampNeg) ≤ l8 then
      f_X7_mustOff_144 u FU l1 l2 l3 l5 l6 l7 0
    else
      if inb ((8 * l1) + l8) 96 = true then
      (f_X7_rowOf u l2 (u 12 ((8 * l1) + l8).toNatClampNeg)).bind fun q19 =>
      if inb (u 12 ((8 * l1) + l8).toNatClampNeg) 32 = true then
      if inb l5 32 = true then
      if (u 2 (u 12 ((8 * l1) + l8).toNatClampNeg).toNatClampNeg) = (u 2 l5.toNatClampNeg) then
        if l4 ≤ l8 then
          f_X7_mustOff_38 u n l1 l2 l3 l4 l5 l6 l7 (l8 + 1)
        else
          (f_X7_has u (u 0 26) l8).bind fun q25 =>
          if q25 = 0 then
            if l6 < 0 then
              f_X7_mustOff_38 u n l1 l2 l3 l4 l5 l6 (l7 ||| 0) (l8 + 1)
            else
              if q19 < 0 then
                f_X7_mustOff_38 u n l1 l2 l3 l4 l5 l6 (l7 ||| 0) (l8 + 1)
              else
                if q19 ≤ l6 then
                  f_X7_mustOff_38 u n l1 l2 l3 l4 l5 l6 (l7 ||| 0) (l8 + 1)
                else
                  f_X7_mustOff_38 u n l1 l2 l3 l4 l5 l6 (l7 ||| 1) (l8 + 1)
          else
            f_X7_mustOff_38 u n l1 l2 l3 l4 l5 l6 (l7 ||| 1) (l8 + 1)
      else
        f_X7_mustOff_38 u n l1 l2 l3 l4 l5 l6 l7 (l8 + 1)
      else none
      else none
      else none
    else none
def f_X7_mustOff (u : St) (l1 : Int32) (l2 : Int32) (l3 : Int32) (l4 : Int32) : Option (Int32) :=
  if inb ((8 * l1) + l4) 96 = true then
  (f_X7_rowOf u l2 (u 12 ((8 * l1) + l4).toNatClampNeg)).bind fun q32 =>
  if 0 ≤ q32 then
    f_X7_mustOff_38 u FU l1 l2 l3 l4 (u 12 ((8 * l1) + l4).toNatClampNeg) q32 0 0
  else
    f_X7_mustOff_38 u FU l1 l2 l3 l4 (u 12 ((8 * l1) + l4).toNatClampNeg) q32 1 0
  else none
def rm_X7_tell : Room := { frames := 3, cells := 0, slots := 0, locals := 77 }
def f_X7_tell_146 (k87 : St → Int32 → Int32 → Int32 → Int32 → Option (St)) (u : St) (l1 : Int32) (l2 : Int32) (l3 : Int32) (l5 : Int32) (s1 : Int32) : Option (St) :=
  k87 (up2 u 0 27 (s1 ||| (1 <<< (l5 &&& 31)))) l1 l2 l3 (l5 + 1)
def f_X7_tell_87 : Nat → St → Int32 → Int32 → Int32 → Int32 → Option (St)
  | 0, _, _, _, _, _ => none
  | n + 1, u, l1, l2, l3, l5 =>
    if inb l2 12 = true then
    if (u 11 l2.toNatClampNeg) ≤ l5 then
      some u
    else
      if inb ((8 * l2) + l5) 96 = true then
      (f_X7_has u l3 l5).bind fun q4 =>
      if q4 = 0 then
        (f_X7_rowOf u l1 (u 12 ((8 * l2) + l5).toNatClampNeg)).bind fun q7 =>
        if q7 < 0 then
          f_X7_tell_146 (f_X7_tell_87 n) u l1 l2 l3 l5 (u 0 27)
        else
          (f_X7_isOff u l1 (u 12 ((8 * l2) + l5).toNatClampNeg)).bind fun q10 =>
          if q10 = 0 then
            f_X7_tell_87 n (up2 u 0 27 ((u 0 27) ||| 0)) l1 l2 l3 (l5 + 1)
          else
            f_X7_tell_146 (f_X7_tell_87 n) u l1 l2 l3 l5 (u 0 27)
      else
        f_X7_tell_87 n (up2 u 0 27 ((u 0 27) ||| 0)) l1 l2 l3 (l5 + 1)
      else none
    else none
def f_X7_tell_19 (k8 : St → Int32 → Int32 → Int32 → Int32 → Option (St)) : Nat → St → Int32 → Int32 → Int32 → Int32 → Int32 → Option (St)
  | 0, _, _, _, _, _, _ => none
  | n + 1, u, l1, l2, l3, l4, l5 =>
    if inb l1 12 = true then
    if (u 11 l1.toNatClampNeg) ≤ l5 then
      k8 u l1 l2 l3 l4
    else
      (f_X7_has u (u 0 26) l5).bind fun q15 =>
      if q15 = 0 then
        (f_X7_mustOff u l1 l2 l3 l5).bind fun q18 =>
        if q18 = 0 then
          f_X7_tell_19 k8 n u l1 l2 l3 l4 (l5 + 1)
        else
          f_X7_tell_19 k8 n (up2 u 0 26 ((u 0 26) ||| (1 <<< (l5 &&& 31)))) l1 l2 l3 1 (l5 + 1)
      else
        f_X7_tell_19 k8 n u l1 l2 l3 l4 (l5 + 1)
    else none
def f_X7_tell_8 : Nat → St → Int32 → Int32 → Int32 → Int32 → Option (St)
  | 0, _, _, _, _, _ => none
  | n + 1, u, l1, l2, l3, l4 =>
    if l4 = 0 then
      f_X7_tell_87 FU (up2 u 0 27 0) l1 l2 l3 0
    else
      f_X7_tell_19 (f_X7_tell_8 n) FU u l1 l2 l3 0 0
def f_X7_tell (u : St) (l1 : Int32) (l2 : Int32) (l3 : Int32) : Option (St) :=
  f_X7_tell_8 FU (up2 u 0 26 0) l1 l2 l3 1
def rm_X7_countOf : Room := { frames := 0, cells := 0, slots := 0, locals := 0 }
def f_X7_countOf_4 (u : St) : Nat → Int32 → Int32 → Int32 → Option (Int32)
  | 0, _, _, _ => none
  | n + 1, l0, l1, l2 =>
    if 12 ≤ l2 then
      some l1
    else
      f_X7_countOf_4 u n l0 (l1 + ((l0 >>> (l2 &&& 31)) &&& 1)) (l2 + 1)
def f_X7_countOf (u : St) (l0 : Int32) : Option (Int32) :=
  f_X7_countOf_4 u FU l0 0 0
def rm_X7_told : Room := { frames := 4, cells := 0, slots := 0, locals := 103 }
def f_X7_told (u : St) (l1 : Int32) (l2 : Int32) (l3 : Int32) (l4 : Int32) : Option (Int32 × St) :=
  (f_X7_isChange u l1 l2 l3).bind fun q1 =>
  if q1 = 0 then
    (f_X7_finding u 1).bind fun q4 =>
    some (q4.1, q4.2)
  else
    (f_X7_isIn u l4 0 3).bind fun q6 =>
    if q6 = 0 then
      (f_X7_finding u 1).bind fun q23 =>
      some (q23.1, q23.2)
    else
      (f_X7_isAllowed u l1 l2 l3).bind fun q9 =>
      if q9 = 0 then
        (f_X7_finding u 3).bind fun q21 =>
        some (q21.1, q21.2)
      else
        (f_X7_tell u l1 l2 l3).bind fun q12 =>
        if l4 = 0 then
          (f_X7_countOf q12 (q12 0 26)).bind fun q19 =>
          some (q19, q12)
        else
          if l4 = 1 then
            (f_X7_countOf q12 (q12 0 27)).bind fun q17 =>
            some (q17, q12)
          else
            if l4 = 2 then
              some ((q12 0 26), q12)
            else
              some ((q12 0 27), q12)
def rm_X7_secondsOf : Room := { frames := 4, cells := 0, slots := 0, locals := 103 }
def f_X7_secondsOf_198 (k127 : St → Int32 → Int32 → Int32 → Int32 → Int32 → Int32 → Option (Int32 × St)) (u : St) (l2 : Int32) (l4 : Int32) (l5 : Int32) (l7 : Int32) (l8 : Int32) (l9 : Int32) (l10 : Int32) (s0 : Int32) : Option (Int32 × St) :=
  if l10 ≤ 0 then
    k127 u l2 l4 l5 s0 (l7 ||| 0) (l8 + 1)
  else
    if inb l9 32 = true then
    if (u 1 l9.toNatClampNeg) = 1 then
      k127 u l2 l4 l5 s0 (l7 ||| 1) (l8 + 1)
    else
      k127 u l2 l4 l5 s0 (l7 ||| 0) (l8 + 1)
    else none
def f_X7_secondsOf_175 (k127 : St → Int32 → Int32 → Int32 → Int32 → Int32 → Int32 → Option (Int32 × St)) (u : St) (l2 : Int32) (l4 : Int32) (l5 : Int32) (l6 : Int32) (l7 : Int32) (l8 : Int32) (l9 : Int32) (s0 : Int32) : Option (Int32 × St) :=
  if s0 ≤ l6 then
    f_X7_secondsOf_198 k127 u l2 l4 (l5 + s0) l7 l8 l9 s0 l6
  else
    f_X7_secondsOf_198 k127 u l2 l4 (l5 + s0) l7 l8 l9 s0 s0
def f_X7_secondsOf_127 : Nat → St → Int32 → Int32 → Int32 → Int32 → Int32 → Int32 → Option (Int32 × St)
  | 0, _, _, _, _, _, _, _ => none
  | n + 1, u, l2, l4, l5, l6, l7, l8 =>
    if inb l2 12 = true then
    if (u 11 l2.toNatClampNeg) ≤ l8 then
      if (l4 + 1) = 0 then none else
      if l4 = 0 then
        if l7 = 0 then
          if ((l5 + l4) / (l4 + 1)) ≤ l6 then
            some (l6, u)
          else
            some (((l5 + l4) / (l4 + 1)), u)
        else
          some ((-1), u)
      else
        if ((l5 + l4) / (l4 + 1)) ≤ l6 then
          some (l6, u)
        else
          some (((l5 + l4) / (l4 + 1)), u)
    else
      if inb ((8 * l2) + l8) 96 = true then
      (f_X7_has u (u 0 27) l8).bind fun q13 =>
      if q13 = 0 then
        f_X7_secondsOf_175 (f_X7_secondsOf_127 n) u l2 l4 l5 l6 l7 l8 (u 12 ((8 * l2) + l8).toNatClampNeg) 0
      else
        if inb (u 12 ((8 * l2) + l8).toNatClampNeg) 32 = true then
        f_X7_secondsOf_175 (f_X7_secondsOf_127 n) u l2 l4 l5 l6 l7 l8 (u 12 ((8 * l2) + l8).toNatClampNeg) (u 4 (u 12 ((8 * l2) + l8).toNatClampNeg).toNatClampNeg)
        else none
      else none
    else none
def f_X7_secondsOf_90 (k19 : St → Int32 → Int32 → Int32 → Int32 → Int32 → Int32 → Int32 → Option (Int32 × St)) (u : St) (l1 : Int32) (l2 : Int32) (l4 : Int32) (l5 : Int32) (l7 : Int32) (l8 : Int32) (l9 : Int32) (l10 : Int32) (s0 : Int32) : Option (Int32 × St) :=
  if l10 ≤ 0 then
    k19 u l1 l2 l4 l5 s0 (l7 ||| 0) (l8 + 1)
  else
    if inb l9 32 = true then
    if (u 1 l9.toNatClampNeg) = 1 then
      k19 u l1 l2 l4 l5 s0 (l7 ||| 1) (l8 + 1)
    else
      k19 u l1 l2 l4 l5 s0 (l7 ||| 0) (l8 + 1)
    else none
def f_X7_secondsOf_67 (k19 : St → Int32 → Int32 → Int32 → Int32 → Int32 → Int32 → Int32 → Option (Int32 × St)) (u : St) (l1 : Int32) (l2 : Int32) (l4 : Int32) (l5 : Int32) (l6 : Int32) (l7 : Int32) (l8 : Int32) (l9 : Int32) (s0 : Int32) : Option (Int32 × St) :=
  if s0 ≤ l6 then
    f_X7_secondsOf_90 k19 u l1 l2 l4 (l5 + s0) l7 l8 l9 s0 l6
  else
    f_X7_secondsOf_90 k19 u l1 l2 l4 (l5 + s0) l7 l8 l9 s0 s0
def f_X7_secondsOf_19 : Nat → St → Int32 → Int32 → Int32 → Int32 → Int32 → Int32 → Int32 → Option (Int32 × St)
  | 0, _, _, _, _, _, _, _, _ => none
  | n + 1, u, l1, l2, l4, l5, l6, l7, l8 =>
    if inb l1 12 = true then
    if (u 11 l1.toNatClampNeg) ≤ l8 then
      f_X7_secondsOf_127 FU u l2 l4 l5 l6 l7 0
    else
      if inb ((8 * l1) + l8) 96 = true then
      (f_X7_has u (u 0 26) l8).bind fun q24 =>
      if q24 = 0 then
        f_X7_secondsOf_67 (f_X7_secondsOf_19 n) u l1 l2 l4 l5 l6 l7 l8 (u 12 ((8 * l1) + l8).toNatClampNeg) 0
      else
        if inb (u 12 ((8 * l1) + l8).toNatClampNeg) 32 = true then
        f_X7_secondsOf_67 (f_X7_secondsOf_19 n) u l1 l2 l4 l5 l6 l7 l8 (u 12 ((8 * l1) + l8).toNatClampNeg) (u 5 (u 12 ((8 * l1) + l8).toNatClampNeg).toNatClampNeg)
        else none
      else none
    else none
def f_X7_secondsOf (u : St) (l1 : Int32) (l2 : Int32) (l3 : Int32) (l4 : Int32) : Option (Int32 × St) :=
  (f_X7_tell u l1 l2 l3).bind fun q28 =>
  f_X7_secondsOf_19 FU q28 l1 l2 l4 0 0 0 0
def rm_X7_seconds : Room := { frames := 5, cells := 0, slots := 0, locals := 133 }
def f_X7_seconds (u : St) (l1 : Int32) (l2 : Int32) (l3 : Int32) (l4 : Int32) : Option (Int32 × St) :=
  (f_X7_isChange u l1 l2 l3).bind fun q1 =>
  if q1 = 0 then
    (f_X7_finding u 1).bind fun q4 =>
    some (q4.1, q4.2)
  else
    (f_X7_isIn u l4 0 3).bind fun q6 =>
    if q6 = 0 then
      (f_X7_finding u 1).bind fun q19 =>
      some (q19.1, q19.2)
    else
      (f_X7_isAllowed u l1 l2 l3).bind fun q9 =>
      if q9 = 0 then
        (f_X7_finding u 3).bind fun q17 =>
        some (q17.1, q17.2)
      else
        (f_X7_secondsOf u l1 l2 l3 l4).bind fun q12 =>
        if 0 ≤ q12.1 then
          some (q12.1, q12.2)
        else
          (f_X7_finding q12.2 2).bind fun q15 =>
          some (q15.1, q15.2)
def rm_X7_bestOf : Room := { frames := 5, cells := 0, slots := 0, locals := 133 }
def f_X7_bestOf_48 (k11 : St → Int32 → Int32 → Int32 → Int32 → Int32 → Option (Int32 × St)) (u : St) (l1 : Int32) (l2 : Int32) (l3 : Int32) (l4 : Int32) (l5 : Int32) (s0 : Int32) : Option (Int32 × St) :=
  if s0 < 0 then
    k11 u l1 l2 l3 l4 (l5 + 1)
  else
    if l4 < 0 then
      k11 (up2 u 0 28 l5) l1 l2 l3 s0 (l5 + 1)
    else
      if s0 < l4 then
        k11 (up2 u 0 28 l5) l1 l2 l3 s0 (l5 + 1)
      else
        if s0 = l4 then
          (f_X7_countOf u l5).bind fun q5 =>
          (f_X7_countOf u (u 0 28)).bind fun q7 =>
          if q7 ≤ q5 then
            k11 u l1 l2 l3 l4 (l5 + 1)
          else
            k11 (up2 u 0 28 l5) l1 l2 l3 s0 (l5 + 1)
        else
          k11 u l1 l2 l3 l4 (l5 + 1)
def f_X7_bestOf_11 : Nat → St → Int32 → Int32 → Int32 → Int32 → Int32 → Option (Int32 × St)
  | 0, _, _, _, _, _, _ => none
  | n + 1, u, l1, l2, l3, l4, l5 =>
    if inb l2 12 = true then
    if (1 <<< ((u 11 l2.toNatClampNeg) &&& 31)) ≤ l5 then
      some (l4, u)
    else
      (f_X7_isAllowed u l1 l2 l5).bind fun q12 =>
      if q12 = 0 then
        f_X7_bestOf_48 (f_X7_bestOf_11 n) u l1 l2 l3 l4 l5 (-1)
      else
        (f_X7_secondsOf u l1 l2 l5 l3).bind fun q15 =>
        f_X7_bestOf_48 (f_X7_bestOf_11 n) q15.2 l1 l2 l3 l4 l5 q15.1
    else none
def f_X7_bestOf (u : St) (l1 : Int32) (l2 : Int32) (l3 : Int32) : Option (Int32 × St) :=
  f_X7_bestOf_11 FU (up2 u 0 28 0) l1 l2 l3 (-1) 0
def rm_X7_best : Room := { frames := 6, cells := 0, slots := 0, locals := 159 }
def f_X7_best (u : St) (l1 : Int32) (l2 : Int32) (l3 : Int32) (l4 : Int32) : Option (Int32 × St) :=
  (f_X7_isLook u l1).bind fun q1 =>
  if q1 = 0 then
    (f_X7_finding u 1).bind fun q4 =>
    some (q4.1, q4.2)
  else
    (f_X7_isLook u l2).bind fun q6 =>
    if q6 = 0 then
      (f_X7_finding u 1).bind fun q9 =>
      some (q9.1, q9.2)
    else
      (f_X7_isIn u l3 0 3).bind fun q11 =>
      if q11 = 0 then
        (f_X7_finding u 1).bind fun q14 =>
        some (q14.1, q14.2)
      else
        (f_X7_isIn u l4 0 1).bind fun q16 =>
        if q16 = 0 then
          (f_X7_finding u 1).bind fun q25 =>
          some (q25.1, q25.2)
        else
          (f_X7_bestOf u l1 l2 l3).bind fun q19 =>
          if 0 ≤ q19.1 then
            if l4 = 0 then
              some ((q19.2 0 28), q19.2)
            else
              some (q19.1, q19.2)
          else
            (f_X7_finding q19.2 2).bind fun q23 =>
            some (q23.1, q23.2)
def rm_X7_isDoor : Room := { frames := 1, cells := 0, slots := 0, locals := 22 }
def f_X7_isDoor (u : St) (l0 : Int32) : Option (Int32) :=
  (f_X7_isIn u l0 0 5).bind fun q1 =>
  if q1 = 0 ∨ q1 = 1 then some q1 else none
def rm_X7_shift : Room := { frames := 2, cells := 0, slots := 0, locals := 42 }
def f_X7_shift_80 (u : St) (l1 : Int32) (l2 : Int32) (l3 : Int32) (l4 : Int32) (s0 : Int32) : Option (Int32 × St) :=
  if s0 = 0 then
    (f_X7_finding u 1).bind fun q6 =>
    some (q6.1, q6.2)
  else
    if (u 0 14) = 12 then
      (f_X7_finding u 4).bind fun q4 =>
      some (q4.1, q4.2)
    else
      if inb (u 0 14) 12 = true then
      some ((((u 0 14) + 1) - 1), (up2 (up2 (up2 (up2 (up2 (up2 (up2 u 13 (u 0 14).toNatClampNeg (l1 / 1000)) 14 (u 0 14).toNatClampNeg ((l1 / 10) - (l1 / 10) / 100 * 100)) 15 (u 0 14).toNatClampNeg (l1 - l1 / 10 * 10)) 16 (u 0 14).toNatClampNeg l2) 17 (u 0 14).toNatClampNeg l3) 18 (u 0 14).toNatClampNeg l4) 0 14 ((u 0 14) + 1)))
      else none
def f_X7_shift (u : St) (l1 : Int32) (l2 : Int32) (l3 : Int32) (l4 : Int32) : Option (Int32 × St) :=
  if l1 < 0 then
    f_X7_shift_80 u l1 l2 l3 l4 0
  else
    (f_X7_isLook u (l1 / 1000)).bind fun q9 =>
    if q9 = 0 then
      f_X7_shift_80 u l1 l2 l3 l4 0
    else
      (f_X7_isLook u ((l1 / 10) - (l1 / 10) / 100 * 100)).bind fun q12 =>
      if q12 = 0 then
        f_X7_shift_80 u l1 l2 l3 l4 0
      else
        (f_X7_isDoor u (l1 - l1 / 10 * 10)).bind fun q15 =>
        if q15 = 0 then
          f_X7_shift_80 u l1 l2 l3 l4 0
        else
          (f_X7_isIn u l2 0 20000).bind fun q18 =>
          if q18 = 0 then
            f_X7_shift_80 u l1 l2 l3 l4 0
          else
            (f_X7_isIn u l3 0 20000).bind fun q21 =>
            if q21 = 0 then
              f_X7_shift_80 u l1 l2 l3 l4 0
            else
              if l3 ≤ l2 then
                f_X7_shift_80 u l1 l2 l3 l4 0
              else
                (f_X7_isIn u l4 0 3).bind fun q25 =>
                if q25 = 0 then
                  f_X7_shift_80 u l1 l2 l3 l4 0
                else
                  f_X7_shift_80 u l1 l2 l3 l4 1
def rm_X7_less : Room := { frames := 1, cells := 0, slots := 0, locals := 21 }
def f_X7_less (u : St) : Option (Int32 × St) :=
  if (u 0 14) = 0 then
    (f_X7_finding u 2).bind fun q2 =>
    some (q2.1, q2.2)
  else
    some (((u 0 14) - 1), (up2 u 0 14 ((u 0 14) - 1)))
def rm_X7_way : Room := { frames := 2, cells := 0, slots := 0, locals := 42 }
def f_X7_way (u : St) (l1 : Int32) (l2 : Int32) (l3 : Int32) : Option (Int32 × St) :=
  (f_X7_isDoor u l1).bind fun q1 =>
  if q1 = 0 then
    (f_X7_finding u 1).bind fun q4 =>
    some (q4.1, q4.2)
  else
    (f_X7_isDoor u l2).bind fun q6 =>
    if q6 = 0 then
      (f_X7_finding u 1).bind fun q9 =>
      some (q9.1, q9.2)
    else
      if l1 = l2 then
        (f_X7_finding u 1).bind fun q12 =>
        some (q12.1, q12.2)
      else
        (f_X7_isIn u l3 0 600).bind fun q14 =>
        if q14 = 0 then
          (f_X7_finding u 1).bind fun q19 =>
          some (q19.1, q19.2)
        else
          if inb ((6 * l1) + l2) 36 = true then
          if inb ((6 * l2) + l1) 36 = true then
          some ((u 19 ((6 * l1) + l2).toNatClampNeg), (up2 (up2 u 19 ((6 * l1) + l2).toNatClampNeg l3) 19 ((6 * l2) + l1).toNatClampNeg l3))
          else none
          else none
def rm_X7_fits : Room := { frames := 6, cells := 0, slots := 0, locals := 159 }
def f_X7_fits (u : St) (l1 : Int32) : Option (Int32 × St) :=
  if l1 < 0 then
    (f_X7_finding u 1).bind fun q2 =>
    some (q2.1, q2.2)
  else
    if l1 < (u 0 14) then
      if inb l1 12 = true then
      (f_X7_bestOf u (u 13 l1.toNatClampNeg) (u 14 l1.toNatClampNeg) (u 18 l1.toNatClampNeg)).bind fun q6 =>
      if q6.1 < 0 then
        some (0, q6.2)
      else
        if ((q6.2 17 l1.toNatClampNeg) - (q6.2 16 l1.toNatClampNeg)) < q6.1 then
          some (0, q6.2)
        else
          some (1, q6.2)
      else none
    else
      (f_X7_finding u 1).bind fun q10 =>
      some (q10.1, q10.2)
def rm_X7_canGo : Room := { frames := 0, cells := 0, slots := 0, locals := 0 }
def f_X7_canGo (u : St) (l1 : Int32) (l2 : Int32) : Option (Int32) :=
  if inb l2 12 = true then
  if inb l1 12 = true then
  if inb ((6 * (u 15 l1.toNatClampNeg)) + (u 15 l2.toNatClampNeg)) 36 = true then
  if (u 16 l2.toNatClampNeg) < ((u 17 l1.toNatClampNeg) + (u 19 ((6 * (u 15 l1.toNatClampNeg)) + (u 15 l2.toNatClampNeg)).toNatClampNeg)) then
    some 0
  else
    some 1
  else none
  else none
  else none
def rm_X7_finds : Room := { frames := 1, cells := 0, slots := 0, locals := 22 }
def f_X7_finds_126 : Nat → St → Int32 → Option (Int32 × St)
  | 0, _, _ => none
  | n + 1, u, l4 =>
    if l4 < 0 then
      some (1, u)
    else
      if inb l4 36 = true then
      if inb (u 26 l4.toNatClampNeg) 36 = true then
      f_X7_finds_126 n (up2 u 23 (u 26 l4.toNatClampNeg).toNatClampNeg (u 25 l4.toNatClampNeg)) (l4 + (-1))
      else none
      else none
def f_X7_finds_39 : Nat → St → Int32 → Option (Int32 × St)
  | 0, _, _ => none
  | n + 1, u, l2 =>
    if l2 < 0 then
      some (0, u)
    else
      if inb l2 36 = true then
      if (upd (u 26) l2.toNatClampNeg ((u 26 l2.toNatClampNeg) + 1) l2.toNatClampNeg) = (u 0 30) then
        f_X7_finds_39 n (up2 u 26 l2.toNatClampNeg ((u 26 l2.toNatClampNeg) + 1)) (l2 + (-1))
      else
        if inb (upd (u 26) l2.toNatClampNeg ((u 26 l2.toNatClampNeg) + 1) l2.toNatClampNeg) 36 = true then
        if (u 24 (upd (u 26) l2.toNatClampNeg ((u 26 l2.toNatClampNeg) + 1) l2.toNatClampNeg).toNatClampNeg) = 0 then
          if inb (u 25 l2.toNatClampNeg) 36 = true then
          (f_X7_canGo (up2 u 26 l2.toNatClampNeg ((u 26 l2.toNatClampNeg) + 1)) (u 22 (u 25 l2.toNatClampNeg).toNatClampNeg) (u 22 (upd (u 26) l2.toNatClampNeg ((u 26 l2.toNatClampNeg) + 1) l2.toNatClampNeg).toNatClampNeg)).bind fun q10 =>
          if q10 = 0 then
            f_X7_finds_39 n (up2 u 26 l2.toNatClampNeg ((u 26 l2.toNatClampNeg) + 1)) l2
          else
            if 0 ≤ (u 23 (upd (u 26) l2.toNatClampNeg ((u 26 l2.toNatClampNeg) + 1) l2.toNatClampNeg).toNatClampNeg) then
              if inb (l2 + 1) 36 = true then
              f_X7_finds_39 n (up2 (up2 (up2 (up2 u 26 l2.toNatClampNeg ((u 26 l2.toNatClampNeg) + 1)) 24 (upd (u 26) l2.toNatClampNeg ((u 26 l2.toNatClampNeg) + 1) l2.toNatClampNeg).toNatClampNeg 1) 25 (l2 + 1).toNatClampNeg (u 23 (upd (u 26) l2.toNatClampNeg ((u 26 l2.toNatClampNeg) + 1) l2.toNatClampNeg).toNatClampNeg)) 26 (l2 + 1).toNatClampNeg (-1)) (l2 + 1)
              else none
            else
              f_X7_finds_126 FU (up2 (up2 u 26 l2.toNatClampNeg ((u 26 l2.toNatClampNeg) + 1)) 24 (upd (u 26) l2.toNatClampNeg ((u 26 l2.toNatClampNeg) + 1) l2.toNatClampNeg).toNatClampNeg 1) l2
          else none
        else
          f_X7_finds_39 n (up2 u 26 l2.toNatClampNeg ((u 26 l2.toNatClampNeg) + 1)) l2
        else none
      else none
def f_X7_finds_2 : Nat → St → Int32 → Int32 → Option (Int32 × St)
  | 0, _, _, _ => none
  | n + 1, u, l1, l2 =>
    if (u 0 30) ≤ l2 then
      f_X7_finds_39 FU (up2 (up2 u 25 0 l1) 26 0 (-1)) 0
    else
      if inb l2 36 = true then
      f_X7_finds_2 n (up2 u 24 l2.toNatClampNeg 0) l1 (l2 + 1)
      else none
def f_X7_finds (u : St) (l1 : Int32) : Option (Int32 × St) :=
  f_X7_finds_2 FU u l1 0
def rm_X7_dressers : Room := { frames := 2, cells := 0, slots := 0, locals := 46 }
def f_X7_dressers_76 : Nat → St → Int32 → Int32 → Option (Int32 × St)
  | 0, _, _, _ => none
  | n + 1, u, l1, l2 =>
    if (u 0 30) ≤ l2 then
      some (l1, u)
    else
      (f_X7_finds u l2).bind fun q2 =>
      if q2.1 = 0 then
        f_X7_dressers_76 n q2.2 (l1 - 0) (l2 + 1)
      else
        f_X7_dressers_76 n q2.2 (l1 - 1) (l2 + 1)
def f_X7_dressers_17 (k7 : St → Int32 → Option (Int32 × St)) : Nat → St → Int32 → Int32 → Option (Int32 × St)
  | 0, _, _, _ => none
  | n + 1, u, l1, l2 =>
    if inb l1 12 = true then
    if (u 18 l1.toNatClampNeg) ≤ l2 then
      k7 u (l1 + 1)
    else
      if inb (u 0 30) 36 = true then
      f_X7_dressers_17 k7 n (up2 (up2 (up2 u 22 (u 0 30).toNatClampNeg l1) 23 (u 0 30).toNatClampNeg (-1)) 0 30 ((u 0 30) + 1)) l1 (l2 + 1)
      else none
    else none
def f_X7_dressers_7 : Nat → St → Int32 → Option (Int32 × St)
  | 0, _, _ => none
  | n + 1, u, l1 =>
    if (u 0 14) ≤ l1 then
      f_X7_dressers_76 FU u (u 0 30) 0
    else
      f_X7_dressers_17 (f_X7_dressers_7 n) FU u l1 0
def f_X7_dressers (u : St) : Option (Int32 × St) :=
  f_X7_dressers_7 FU (up2 u 0 30 0) 0
def rm_X7_worn : Room := { frames := 1, cells := 0, slots := 0, locals := 21 }
def f_X7_worn (u : St) (l1 : Int32) : Option (Int32 × St) :=
  (f_X7_isPiece u l1).bind fun q1 =>
  if q1 = 0 then
    (f_X7_finding u 1).bind fun q8 =>
    some (q8.1, q8.2)
  else
    if inb l1 32 = true then
    if (u 9 l1.toNatClampNeg) = 0 then
      some (1, (up2 u 9 l1.toNatClampNeg 1))
    else
      (f_X7_finding u 3).bind fun q6 =>
      some (q6.1, q6.2)
    else none
def rm_X7_washing : Room := { frames := 0, cells := 0, slots := 0, locals := 0 }
def f_X7_washing_4 (u : St) : Nat → Int32 → Int32 → Option (Int32)
  | 0, _, _ => none
  | n + 1, l1, l2 =>
    if (u 0 0) ≤ l2 then
      some l1
    else
      if inb l2 32 = true then
      if (u 9 l2.toNatClampNeg) = 2 then
        f_X7_washing_4 u n (l1 + 1) (l2 + 1)
      else
        f_X7_washing_4 u n (l1 + 0) (l2 + 1)
      else none
def f_X7_washing (u : St) : Option (Int32) :=
  f_X7_washing_4 u FU 0 0
def rm_X7_wash : Room := { frames := 1, cells := 0, slots := 0, locals := 22 }
def f_X7_wash (u : St) (l1 : Int32) : Option (Int32 × St) :=
  (f_X7_isPiece u l1).bind fun q1 =>
  if q1 = 0 then
    (f_X7_finding u 1).bind fun q13 =>
    some (q13.1, q13.2)
  else
    if inb l1 32 = true then
    if (u 9 l1.toNatClampNeg) = 1 then
      (f_X7_washing u).bind fun q6 =>
      if q6 = 6 then
        (f_X7_finding u 4).bind fun q9 =>
        some (q9.1, q9.2)
      else
        some ((((u 0 22) + 2) + (u 3 l1.toNatClampNeg)), (up2 (up2 u 9 l1.toNatClampNeg 2) 10 l1.toNatClampNeg ((u 0 22) + 2)))
    else
      (f_X7_finding u 3).bind fun q11 =>
      some (q11.1, q11.2)
    else none
def rm_X7_hours : Room := { frames := 1, cells := 0, slots := 0, locals := 22 }
def f_X7_hours_100 (k47 : St → Int32 → Int32 → Option (Int32 × St)) (u : St) (l2 : Int32) (l3 : Int32) : Option (Int32 × St) :=
  if inb l3 32 = true then
  if (u 9 l3.toNatClampNeg) = 3 then
    if (u 0 22) < (u 10 l3.toNatClampNeg) then
      k47 u l2 (l3 + 1)
    else
      k47 (up2 u 9 l3.toNatClampNeg 0) (l2 + 1) (l3 + 1)
  else
    k47 u l2 (l3 + 1)
  else none
def f_X7_hours_47 : Nat → St → Int32 → Int32 → Option (Int32 × St)
  | 0, _, _, _ => none
  | n + 1, u, l2, l3 =>
    if (u 0 0) ≤ l3 then
      some (l2, u)
    else
      if inb l3 32 = true then
      if (u 9 l3.toNatClampNeg) = 2 then
        if (u 0 22) < (u 10 l3.toNatClampNeg) then
          f_X7_hours_100 (f_X7_hours_47 n) u l2 l3
        else
          f_X7_hours_100 (f_X7_hours_47 n) (up2 (up2 u 9 l3.toNatClampNeg 3) 10 l3.toNatClampNeg ((u 10 l3.toNatClampNeg) + (u 3 l3.toNatClampNeg))) l2 l3
      else
        f_X7_hours_100 (f_X7_hours_47 n) u l2 l3
      else none
def f_X7_hours (u : St) (l1 : Int32) : Option (Int32 × St) :=
  (f_X7_isIn u l1 1 100).bind fun q8 =>
  if q8 = 0 then
    (f_X7_finding u 1).bind fun q14 =>
    some (q14.1, q14.2)
  else
    if ((u 0 22) + l1) ≤ 100000 then
      f_X7_hours_47 FU (up2 u 0 22 ((u 0 22) + l1)) 0 0
    else
      (f_X7_finding u 4).bind fun q12 =>
      some (q12.1, q12.2)
def rm_X7_away : Room := { frames := 0, cells := 0, slots := 0, locals := 0 }
def f_X7_away (u : St) (l1 : Int32) (l2 : Int32) : Option (Int32) :=
  if inb l1 32 = true then
  if (u 7 l1.toNatClampNeg) ≤ l2 then
    if l2 ≤ ((u 7 l1.toNatClampNeg) + (u 8 l1.toNatClampNeg)) then
      some 0
    else
      some ((l2 - (u 7 l1.toNatClampNeg)) - (u 8 l1.toNatClampNeg))
  else
    some ((u 7 l1.toNatClampNeg) - l2)
  else none
def rm_X7_isInLook : Room := { frames := 1, cells := 0, slots := 0, locals := 24 }
def f_X7_isInLook_4 (u : St) : Nat → Int32 → Int32 → Int32 → Option (Int32)
  | 0, _, _, _ => none
  | n + 1, l1, l2, l3 =>
    if 12 ≤ l3 then
      if l2 = 0 ∨ l2 = 1 then some l2 else none
    else
      (f_X7_rowOf u l3 l1).bind fun q3 =>
      if q3 < 0 then
        f_X7_isInLook_4 u n l1 (l2 ||| 0) (l3 + 1)
      else
        f_X7_isInLook_4 u n l1 (l2 ||| 1) (l3 + 1)
def f_X7_isInLook (u : St) (l1 : Int32) : Option (Int32) :=
  f_X7_isInLook_4 u FU l1 0 0
def rm_X7_isFor : Room := { frames := 2, cells := 0, slots := 0, locals := 47 }
def f_X7_isFor (u : St) (l1 : Int32) (l2 : Int32) (l3 : Int32) : Option (Int32) :=
  if inb l1 32 = true then
  if inb l2 32 = true then
  if (u 6 l1.toNatClampNeg) = (u 6 l2.toNatClampNeg) then
    if (u 2 l1.toNatClampNeg) = (u 2 l2.toNatClampNeg) then
      (f_X7_away u l1 l3).bind fun q5 =>
      if q5 = 0 then
        if (u 9 l1.toNatClampNeg) = 0 then
          (f_X7_isInLook u l1).bind fun q9 =>
          if q9 = 0 then
            some 1
          else
            some 0
        else
          some 0
      else
        some 0
    else
      some 0
  else
    some 0
  else none
  else none
def rm_X7_tonight : Room := { frames := 3, cells := 0, slots := 0, locals := 70 }
def f_X7_tonight_194 (k29 : St → Int32 → Int32 → Int32 → Int32 → Option (Int32 × St)) : Nat → St → Int32 → Int32 → Int32 → Int32 → Int32 → Int32 → Int32 → Int32 → Option (Int32 × St)
  | 0, _, _, _, _, _, _, _, _, _ => none
  | n + 1, u, l1, l2, l3, l4, l5, l6, l7, l8 =>
    if (u 0 0) ≤ l8 then
      (f_X7_away u l5 l2).bind fun q2 =>
      if q2 = 0 then
        k29 u l1 l2 (l3 + 0) (l4 + 1)
      else
        if l7 ≤ l6 then
          (f_X7_away u l5 l2).bind fun q6 =>
          k29 u l1 l2 (l3 + (10 * q6)) (l4 + 1)
        else
          k29 u l1 l2 (l3 + 1) (l4 + 1)
    else
      (f_X7_isFor u l8 l5 l2).bind fun q8 =>
      if q8 = 0 then
        f_X7_tonight_194 k29 n u l1 l2 l3 l4 l5 l6 (l7 + 0) (l8 + 1)
      else
        f_X7_tonight_194 k29 n u l1 l2 l3 l4 l5 l6 (l7 + 1) (l8 + 1)
def f_X7_tonight_124 (k60 : St → Int32 → Int32 → Int32 → Int32 → Int32 → Int32 → Int32 → Option (Int32 × St)) (u : St) (l1 : Int32) (l2 : Int32) (l3 : Int32) (l4 : Int32) (l5 : Int32) (l6 : Int32) (l7 : Int32) (l8 : Int32) (s0 : Int32) : Option (Int32 × St) :=
  if s0 = 0 then
    k60 u l1 l2 l3 l4 l5 (l6 + 0) (l7 + 1)
  else
    (f_X7_away u l8 l2).bind fun q12 =>
    (f_X7_away u l5 l2).bind fun q14 =>
    if q14 < q12 then
      k60 u l1 l2 l3 l4 l5 (l6 + 1) (l7 + 1)
    else
      (f_X7_away u l8 l2).bind fun q17 =>
      (f_X7_away u l5 l2).bind fun q19 =>
      if q17 = q19 then
        if l4 ≤ l7 then
          k60 u l1 l2 l3 l4 l5 (l6 + 0) (l7 + 1)
        else
          k60 u l1 l2 l3 l4 l5 (l6 + 1) (l7 + 1)
      else
        k60 u l1 l2 l3 l4 l5 (l6 + 0) (l7 + 1)
def f_X7_tonight_60 (k29 : St → Int32 → Int32 → Int32 → Int32 → Option (Int32 × St)) : Nat → St → Int32 → Int32 → Int32 → Int32 → Int32 → Int32 → Int32 → Option (Int32 × St)
  | 0, _, _, _, _, _, _, _, _ => none
  | n + 1, u, l1, l2, l3, l4, l5, l6, l7 =>
    if inb l1 12 = true then
    if (u 11 l1.toNatClampNeg) ≤ l7 then
      f_X7_tonight_194 k29 FU u l1 l2 l3 l4 l5 l6 0 0
    else
      if inb ((8 * l1) + l7) 96 = true then
      if inb (u 12 ((8 * l1) + l7).toNatClampNeg) 32 = true then
      if inb l5 32 = true then
      if (u 6 (u 12 ((8 * l1) + l7).toNatClampNeg).toNatClampNeg) = (u 6 l5.toNatClampNeg) then
        if (u 2 (u 12 ((8 * l1) + l7).toNatClampNeg).toNatClampNeg) = (u 2 l5.toNatClampNeg) then
          f_X7_tonight_124 (f_X7_tonight_60 k29 n) u l1 l2 l3 l4 l5 l6 l7 (u 12 ((8 * l1) + l7).toNatClampNeg) 1
        else
          f_X7_tonight_124 (f_X7_tonight_60 k29 n) u l1 l2 l3 l4 l5 l6 l7 (u 12 ((8 * l1) + l7).toNatClampNeg) 0
      else
        f_X7_tonight_124 (f_X7_tonight_60 k29 n) u l1 l2 l3 l4 l5 l6 l7 (u 12 ((8 * l1) + l7).toNatClampNeg) 0
      else none
      else none
      else none
    else none
def f_X7_tonight_29 : Nat → St → Int32 → Int32 → Int32 → Int32 → Option (Int32 × St)
  | 0, _, _, _, _, _ => none
  | n + 1, u, l1, l2, l3, l4 =>
    if inb l1 12 = true then
    if (u 11 l1.toNatClampNeg) ≤ l4 then
      some (l3, u)
    else
      if inb ((8 * l1) + l4) 96 = true then
      f_X7_tonight_60 (f_X7_tonight_29 n) FU u l1 l2 l3 l4 (u 12 ((8 * l1) + l4).toNatClampNeg) 0 0
      else none
    else none
def f_X7_tonight (u : St) (l1 : Int32) (l2 : Int32) : Option (Int32 × St) :=
  (f_X7_isLook u l1).bind fun q33 =>
  if q33 = 0 then
    (f_X7_finding u 1).bind fun q36 =>
    some (q36.1, q36.2)
  else
    (f_X7_isIn u l2 30 66).bind fun q38 =>
    if q38 = 0 then
      (f_X7_finding u 1).bind fun q41 =>
      some (q41.1, q41.2)
    else
      f_X7_tonight_29 FU u l1 l2 0 0
def rm_X7_tell_ : Room := { frames := 1, cells := 0, slots := 0, locals := 21 }
def f_X7_tell_ (u : St) (l1 : Int32) : Option (Int32 × St) :=
  if (u 0 23) = 30 then
    (f_X7_finding u 4).bind fun q3 =>
    some (q3.1, q3.2)
  else
    if inb (u 0 23) 30 = true then
    some (((u 0 23) + 1), (up2 (up2 u 20 (u 0 23).toNatClampNeg l1) 0 23 ((u 0 23) + 1)))
    else none
def rm_X7_bodyPlace : Room := { frames := 0, cells := 0, slots := 0, locals := 0 }
def f_X7_bodyPlace_4 (u : St) : Nat → Int32 → Int32 → Int32 → Option (Int32)
  | 0, _, _, _ => none
  | n + 1, l1, l2, l3 =>
    if (u 0 36) ≤ l3 then
      some l2
    else
      if inb l3 48 = true then
      if (u 27 l3.toNatClampNeg) = l1 then
        f_X7_bodyPlace_4 u n l1 l3 (l3 + 1)
      else
        f_X7_bodyPlace_4 u n l1 l2 (l3 + 1)
      else none
def f_X7_bodyPlace (u : St) (l1 : Int32) : Option (Int32) :=
  f_X7_bodyPlace_4 u FU l1 (-1) 0
def rm_X7_handles : Room := { frames := 1, cells := 0, slots := 0, locals := 23 }
def f_X7_handles_148 : Nat → St → Int32 → Int32 → Option (Int32 × St)
  | 0, _, _, _ => none
  | n + 1, u, l4, l5 =>
    if (u 0 36) ≤ l5 then
      if l4 = 0 ∨ l4 = 1 then some (l4, u) else none
    else
      if inb (l5 + 1) 48 = true then
      if inb l5 48 = true then
      f_X7_handles_148 n (up2 u 27 l5.toNatClampNeg (u 27 (l5 + 1).toNatClampNeg)) l4 (l5 + 1)
      else none
      else none
def f_X7_handles_130 (u : St) (l3 : Int32) (l4 : Int32) : Option (Int32 × St) :=
  if l4 = 0 then
    if l4 = 0 ∨ l4 = 1 then some (l4, u) else none
  else
    f_X7_handles_148 FU (up2 u 0 36 ((u 0 36) - 1)) l4 l3
def f_X7_handles_82 : Nat → St → Int32 → Int32 → Int32 → Int32 → Option (Int32 × St)
  | 0, _, _, _, _, _ => none
  | n + 1, u, l2, l3, l4, l5 =>
    if (u 0 36) ≤ l5 then
      f_X7_handles_130 u l3 l4
    else
      if l4 = 0 then
        f_X7_handles_130 u l3 l4
      else
        if inb l5 48 = true then
        if inb (u 27 l5.toNatClampNeg) 32 = true then
        if inb l2 32 = true then
        if (u 2 (u 27 l5.toNatClampNeg).toNatClampNeg) = (u 2 l2.toNatClampNeg) then
          f_X7_handles_82 n u l2 l3 0 (l5 + 1)
        else
          f_X7_handles_82 n u l2 l3 1 (l5 + 1)
        else none
        else none
        else none
def f_X7_handles_11 (u : St) (l1 : Int32) (s0 : Int32) : Option (Int32 × St) :=
  (f_X7_isPiece u s0).bind fun q13 =>
  if q13 = 0 then
    some (0, u)
  else
    (f_X7_bodyPlace u s0).bind fun q16 =>
    if l1 < 0 then
      if q16 < 0 then
        f_X7_handles_82 FU u s0 q16 0 (q16 + 1)
      else
        f_X7_handles_82 FU u s0 q16 1 (q16 + 1)
    else
      if 0 ≤ q16 then
        if 0 ≤ q16 then
          some (0, u)
        else
          some (1, u)
      else
        if inb (u 0 36) 48 = true then
        if 0 ≤ q16 then
          some (0, (up2 (up2 u 27 (u 0 36).toNatClampNeg s0) 0 36 ((u 0 36) + 1)))
        else
          some (1, (up2 (up2 u 27 (u 0 36).toNatClampNeg s0) 0 36 ((u 0 36) + 1)))
        else none
def f_X7_handles (u : St) (l1 : Int32) : Option (Int32 × St) :=
  if l1 < 0 then
    f_X7_handles_11 u l1 ((-1) - l1)
  else
    f_X7_handles_11 u l1 l1
def rm_X7_isWorn : Room := { frames := 1, cells := 0, slots := 0, locals := 23 }
def f_X7_isWorn_62 (k21 : Int32 → Int32 → Int32 → Option (Int32)) (u : St) : Nat → Int32 → Int32 → Int32 → Int32 → Option (Int32)
  | 0, _, _, _, _ => none
  | n + 1, l1, l2, l3, l4 =>
    if l3 ≤ l4 then
      k21 l1 l2 (l3 + 1)
    else
      if l2 = 0 then
        k21 l1 l2 (l3 + 1)
      else
        if inb ((8 * l1) + l3) 96 = true then
        if inb ((8 * l1) + l4) 96 = true then
        if inb (u 12 ((8 * l1) + l3).toNatClampNeg) 32 = true then
        if inb (u 12 ((8 * l1) + l4).toNatClampNeg) 32 = true then
        if (u 2 (u 12 ((8 * l1) + l3).toNatClampNeg).toNatClampNeg) = (u 2 (u 12 ((8 * l1) + l4).toNatClampNeg).toNatClampNeg) then
          (f_X7_bodyPlace u (u 12 ((8 * l1) + l4).toNatClampNeg)).bind fun q8 =>
          (f_X7_bodyPlace u (u 12 ((8 * l1) + l3).toNatClampNeg)).bind fun q10 =>
          if q10 ≤ q8 then
            f_X7_isWorn_62 k21 u n l1 0 l3 (l4 + 1)
          else
            f_X7_isWorn_62 k21 u n l1 1 l3 (l4 + 1)
        else
          f_X7_isWorn_62 k21 u n l1 1 l3 (l4 + 1)
        else none
        else none
        else none
        else none
def f_X7_isWorn_21 (u : St) : Nat → Int32 → Int32 → Int32 → Option (Int32)
  | 0, _, _, _ => none
  | n + 1, l1, l2, l3 =>
    if inb l1 12 = true then
    if (u 11 l1.toNatClampNeg) ≤ l3 then
      if l2 = 0 ∨ l2 = 1 then some l2 else none
    else
      if l2 = 0 then
        if l2 = 0 ∨ l2 = 1 then some l2 else none
      else
        if inb ((8 * l1) + l3) 96 = true then
        (f_X7_bodyPlace u (u 12 ((8 * l1) + l3).toNatClampNeg)).bind fun q19 =>
        if q19 < 0 then
          f_X7_isWorn_62 (f_X7_isWorn_21 u n) u FU l1 0 l3 0
        else
          f_X7_isWorn_62 (f_X7_isWorn_21 u n) u FU l1 1 l3 0
        else none
    else none
def f_X7_isWorn (u : St) (l1 : Int32) : Option (Int32) :=
  if inb l1 12 = true then
  if (u 0 36) = (u 11 l1.toNatClampNeg) then
    f_X7_isWorn_21 u FU l1 1 0
  else
    f_X7_isWorn_21 u FU l1 0 0
  else none
def rm_X7_check : Room := { frames := 3, cells := 0, slots := 0, locals := 75 }
def f_X7_check_162 : Nat → St → Int32 → Int32 → Int32 → Option (Int32 × St)
  | 0, _, _, _, _ => none
  | n + 1, u, l2, l4, l5 =>
    if l4 ≤ l5 then
      (f_X7_isWorn u l2).bind fun q2 =>
      if q2 = 0 then
        some (99, u)
      else
        some (0, u)
    else
      if inb l5 30 = true then
      (f_X7_handles u (u 20 l5.toNatClampNeg)).bind fun q6 =>
      if q6.1 = 0 then
        some ((1 + l5), q6.2)
      else
        f_X7_check_162 n q6.2 l2 l4 (l5 + 1)
      else none
def f_X7_check_111 : Nat → St → Int32 → Int32 → Int32 → Int32 → Option (Int32 × St)
  | 0, _, _, _, _, _ => none
  | n + 1, u, l1, l2, l4, l5 =>
    if inb l1 12 = true then
    if (u 11 l1.toNatClampNeg) ≤ l5 then
      f_X7_check_162 FU u l2 l4 0
    else
      if inb ((8 * l1) + l5) 96 = true then
      if inb (u 0 36) 48 = true then
      f_X7_check_111 n (up2 (up2 u 27 (u 0 36).toNatClampNeg (u 12 ((8 * l1) + l5).toNatClampNeg)) 0 36 ((u 0 36) + 1)) l1 l2 l4 (l5 + 1)
      else none
      else none
    else none
def f_X7_check_51 : Nat → St → Int32 → Int32 → Int32 → Int32 → Int32 → Option (Int32 × St)
  | 0, _, _, _, _, _, _ => none
  | n + 1, u, l1, l2, l3, l4, l5 =>
    if inb l2 12 = true then
    if (u 11 l2.toNatClampNeg) ≤ l5 then
      f_X7_check_111 FU u l1 l2 l4 0
    else
      (f_X7_has u l3 l5).bind fun q15 =>
      if q15 = 0 then
        f_X7_check_51 n u l1 l2 l3 l4 (l5 + 1)
      else
        if inb ((8 * l2) + l5) 96 = true then
        if inb (u 0 36) 48 = true then
        f_X7_check_51 n (up2 (up2 u 27 (u 0 36).toNatClampNeg (u 12 ((8 * l2) + l5).toNatClampNeg)) 0 36 ((u 0 36) + 1)) l1 l2 l3 l4 (l5 + 1)
        else none
        else none
    else none
def f_X7_check (u : St) (l1 : Int32) (l2 : Int32) (l3 : Int32) : Option (Int32 × St) :=
  (f_X7_isChange (up2 u 0 23 0) l1 l2 l3).bind fun q20 =>
  if q20 = 0 then
    (f_X7_finding (up2 u 0 23 0) 1).bind fun q28 =>
    some (q28.1, q28.2)
  else
    (f_X7_isAllowed (up2 u 0 23 0) l1 l2 l3).bind fun q23 =>
    if q23 = 0 then
      (f_X7_finding (up2 u 0 23 0) 3).bind fun q26 =>
      some (q26.1, q26.2)
    else
      f_X7_check_51 FU (up2 (up2 u 0 23 0) 0 36 0) l1 l2 l3 (u 0 23) 0
def rm_X7_count : Room := { frames := 1, cells := 0, slots := 0, locals := 22 }
def f_X7_count (u : St) (l1 : Int32) : Option (Int32 × St) :=
  if l1 = 0 then
    some ((u 0 0), u)
  else
    if l1 = 1 then
      some ((u 0 14), u)
    else
      if l1 = 2 then
        some ((u 0 22), u)
      else
        if l1 = 3 then
          some ((u 0 23), u)
        else
          if l1 = 4 then
            (f_X7_washing u).bind fun q6 =>
            some (q6, u)
          else
            if l1 = 5 then
              some ((u 0 13), u)
            else
              (f_X7_finding u 1).bind fun q9 =>
              some (q9.1, q9.2)
def rm_X7_found : Room := { frames := 1, cells := 0, slots := 0, locals := 22 }
def f_X7_found (u : St) (l1 : Int32) : Option (Int32 × St) :=
  (f_X7_isIn u l1 1 5).bind fun q1 =>
  if q1 = 0 then
    (f_X7_finding u 1).bind fun q4 =>
    some (q4.1, q4.2)
  else
    if inb l1 6 = true then
    some ((u 21 l1.toNatClampNeg), u)
    else none
