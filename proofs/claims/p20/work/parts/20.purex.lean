def rm_X6_nameIn : Room := { frames := 0, cells := 0, slots := 0, locals := 0 }
def f_X6_nameIn (u : St) (l0 : Int32) : Option (Int32) :=
  some (l0 / 1000)
def rm_X6_isWithin : Room := { frames := 0, cells := 0, slots := 0, locals := 0 }
def f_X6_isWithin (u : St) (l0 : Int32) (l1 : Int32) (l2 : Int32) : Option (Int32) :=
  if l0 < l1 then
    some 0
  else
    if l2 < l0 then
      some 0
    else
      some 1
def rm_X6_placeIn : Room := { frames := 0, cells := 0, slots := 0, locals := 0 }
def f_X6_placeIn (u : St) (l0 : Int32) : Option (Int32) :=
  some ((l0 / 100) - (l0 / 100) / 10 * 10)
def rm_X6_thickIn : Room := { frames := 0, cells := 0, slots := 0, locals := 0 }
def f_X6_thickIn (u : St) (l0 : Int32) : Option (Int32) :=
  some ((l0 / 10) - (l0 / 10) / 10 * 10)
def rm_X6_kindIn : Room := { frames := 0, cells := 0, slots := 0, locals := 0 }
def f_X6_kindIn (u : St) (l0 : Int32) : Option (Int32) :=
  some (l0 - l0 / 10 * 10)
def rm_X6_onIn : Room := { frames := 0, cells := 0, slots := 0, locals := 0 }
def f_X6_onIn (u : St) (l0 : Int32) : Option (Int32) :=
  some (l0 / 100)
def rm_X6_offIn : Room := { frames := 0, cells := 0, slots := 0, locals := 0 }
def f_X6_offIn (u : St) (l0 : Int32) : Option (Int32) :=
  some (l0 - l0 / 100 * 100)
def rm_X6_sizeIn : Room := { frames := 0, cells := 0, slots := 0, locals := 0 }
def f_X6_sizeIn (u : St) (l0 : Int32) : Option (Int32) :=
  some (l0 / 10)
def rm_X6_spanIn : Room := { frames := 0, cells := 0, slots := 0, locals := 0 }
def f_X6_spanIn (u : St) (l0 : Int32) : Option (Int32) :=
  some (l0 - l0 / 10 * 10)
def rm_X6_isPieceTold : Room := { frames := 1, cells := 0, slots := 0, locals := 22 }
def f_X6_isPieceTold_93 (u : St) (l2 : Int32) (s0 : Int32) (s1 : Int32) (s2 : Int32) : Option (Int32) :=
  (f_X6_isWithin u s0 s1 s2).bind fun q1 =>
  if q1 = 0 then
    some 0
  else
    (f_X6_sizeIn u l2).bind fun q4 =>
    (f_X6_isWithin u q4 30 60).bind fun q6 =>
    if q6 = 0 then
      some 0
    else
      (f_X6_spanIn u l2).bind fun q9 =>
      (f_X6_isWithin u q9 0 6).bind fun q11 =>
      if q11 = 0 then
        some 0
      else
        some 1
def f_X6_isPieceTold (u : St) (l0 : Int32) (l1 : Int32) (l2 : Int32) : Option (Int32) :=
  if l0 < 0 then
    some 0
  else
    if l1 < 0 then
      some 0
    else
      if l2 < 0 then
        some 0
      else
        (f_X6_nameIn u l0).bind fun q17 =>
        (f_X6_isWithin u q17 0 15).bind fun q19 =>
        if q19 = 0 then
          some 0
        else
          (f_X6_placeIn u l0).bind fun q22 =>
          (f_X6_isWithin u q22 0 5).bind fun q24 =>
          if q24 = 0 then
            some 0
          else
            (f_X6_thickIn u l0).bind fun q27 =>
            (f_X6_isWithin u q27 1 5).bind fun q29 =>
            if q29 = 0 then
              some 0
            else
              (f_X6_kindIn u l0).bind fun q32 =>
              (f_X6_isWithin u q32 0 2).bind fun q34 =>
              if q34 = 0 then
                some 0
              else
                (f_X6_onIn u l1).bind fun q37 =>
                (f_X6_isWithin u q37 1 60).bind fun q39 =>
                if q39 = 0 then
                  some 0
                else
                  (f_X6_offIn u l1).bind fun q42 =>
                  (f_X6_kindIn u l0).bind fun q44 =>
                  if q44 = 2 then
                    f_X6_isPieceTold_93 u l2 q42 1 1
                  else
                    f_X6_isPieceTold_93 u l2 q42 1 60
def rm_X6_finding : Room := { frames := 1, cells := 0, slots := 0, locals := 22 }
def f_X6_finding (u : St) (l1 : Int32) : Option (Int32 × St) :=
  (f_X6_isWithin u l1 1 5).bind fun q1 =>
  if q1 = 0 then
    some (((-1000000) - l1), u)
  else
    if inb l1 6 = true then
    some (((-1000000) - l1), (up2 u 30 l1.toNatClampNeg ((u 30 l1.toNatClampNeg) + 1)))
    else none
def rm_X5_isFull : Room := { frames := 0, cells := 0, slots := 0, locals := 0 }
def f_X5_isFull (u : St) : Option (Int32) :=
  if (u 1 1) < 32 then
    some 0
  else
    some 1
def rm_X5_has : Room := { frames := 0, cells := 0, slots := 0, locals := 0 }
def f_X5_has (u : St) (l1 : Int32) : Option (Int32) :=
  if l1 < 0 then
    some 0
  else
    if (u 1 1) ≤ l1 then
      some 0
    else
      if 32 ≤ l1 then
        some 0
      else
        some 1
def rm_X5_setFact : Room := { frames := 1, cells := 0, slots := 0, locals := 21 }
def f_X5_setFact (u : St) (l1 : Int32) (l2 : Int32) (l3 : Int32) : Option (St) :=
  (f_X5_has u l1).bind fun q1 =>
  if q1 = 0 then
    some u
  else
    if l2 < 0 then
      some u
    else
      if 10 ≤ l2 then
        some u
      else
        if inb ((l1 * 10) + l2) 320 = true then
        some (up2 u 2 ((l1 * 10) + l2).toNatClampNeg l3)
        else none
def rm_X5_place : Room := { frames := 2, cells := 0, slots := 0, locals := 44 }
def f_X5_place (u : St) (l1 : Int32) (l2 : Int32) (l3 : Int32) : Option (St) :=
  (f_X5_setFact u l1 8 l2).bind fun q1 =>
  (f_X5_setFact q1 l1 9 l3).bind fun q3 =>
  some q3
def rm_X5_add : Room := { frames := 3, cells := 0, slots := 0, locals := 67 }
def f_X5_add (u : St) (l1 : Int32) (l2 : Int32) (l3 : Int32) : Option (Int32 × St) :=
  (f_X6_kindIn (up2 u 1 1 ((u 1 1) + 1)) l1).bind fun q1 =>
  (f_X5_setFact (up2 u 1 1 ((u 1 1) + 1)) (u 1 1) 0 q1).bind fun q3 =>
  (f_X6_placeIn q3 l1).bind fun q5 =>
  (f_X5_setFact q3 (u 1 1) 1 q5).bind fun q7 =>
  (f_X6_thickIn q7 l1).bind fun q9 =>
  (f_X5_setFact q7 (u 1 1) 2 q9).bind fun q11 =>
  (f_X6_onIn q11 l2).bind fun q13 =>
  (f_X5_setFact q11 (u 1 1) 3 q13).bind fun q15 =>
  (f_X6_offIn q15 l2).bind fun q17 =>
  (f_X5_setFact q15 (u 1 1) 4 q17).bind fun q19 =>
  (f_X6_nameIn q19 l1).bind fun q21 =>
  (f_X5_setFact q19 (u 1 1) 5 q21).bind fun q23 =>
  (f_X6_sizeIn q23 l3).bind fun q25 =>
  (f_X5_setFact q23 (u 1 1) 6 q25).bind fun q27 =>
  (f_X6_spanIn q27 l3).bind fun q29 =>
  (f_X5_setFact q27 (u 1 1) 7 q29).bind fun q31 =>
  (f_X5_place q31 (u 1 1) 0 0).bind fun q33 =>
  some ((u 1 1), q33)
def rm_X6_piece : Room := { frames := 4, cells := 0, slots := 0, locals := 91 }
def f_X6_piece (u : St) (l1 : Int32) (l2 : Int32) (l3 : Int32) : Option (Int32 × St) :=
  (f_X6_isPieceTold u l1 l2 l3).bind fun q1 =>
  if q1 = 0 then
    (f_X6_finding u 1).bind fun q11 =>
    some (q11.1, q11.2)
  else
    (f_X5_isFull u).bind fun q4 =>
    if q4 = 0 then
      (f_X5_add u l1 l2 l3).bind fun q7 =>
      some (q7.1, q7.2)
    else
      (f_X6_finding u 4).bind fun q9 =>
      some (q9.1, q9.2)
def rm_X5_fact : Room := { frames := 1, cells := 0, slots := 0, locals := 21 }
def f_X5_fact (u : St) (l1 : Int32) (l2 : Int32) : Option (Int32) :=
  (f_X5_has u l1).bind fun q1 =>
  if q1 = 0 then
    some (-1)
  else
    if l2 < 0 then
      some (-1)
    else
      if 10 ≤ l2 then
        some (-1)
      else
        if inb ((l1 * 10) + l2) 320 = true then
        some (u 2 ((l1 * 10) + l2).toNatClampNeg)
        else none
def rm_X6_as : Room := { frames := 2, cells := 0, slots := 0, locals := 43 }
def f_X6_as (u : St) (l1 : Int32) (l2 : Int32) : Option (Int32 × St) :=
  (f_X5_has u l1).bind fun q1 =>
  if q1 = 0 then
    (f_X6_finding u 1).bind fun q4 =>
    some (q4.1, q4.2)
  else
    (f_X6_isWithin u l2 0 2).bind fun q6 =>
    if q6 = 0 then
      (f_X6_finding u 1).bind fun q19 =>
      some (q19.1, q19.2)
    else
      if l2 = 0 then
        (f_X5_fact u l1 1).bind fun q10 =>
        some (q10, u)
      else
        (f_X5_fact u l1 0).bind fun q12 =>
        if q12 = l2 then
          (f_X5_fact u l1 1).bind fun q15 =>
          some (q15, u)
        else
          (f_X6_finding u 5).bind fun q17 =>
          some (q17.1, q17.2)
def rm_X6_about : Room := { frames := 2, cells := 0, slots := 0, locals := 43 }
def f_X6_about (u : St) (l1 : Int32) (l2 : Int32) : Option (Int32 × St) :=
  (f_X5_has u l1).bind fun q1 =>
  if q1 = 0 then
    (f_X6_finding u 1).bind fun q4 =>
    some (q4.1, q4.2)
  else
    (f_X6_isWithin u l2 0 9).bind fun q6 =>
    if q6 = 0 then
      (f_X6_finding u 1).bind fun q11 =>
      some (q11.1, q11.2)
    else
      (f_X5_fact u l1 l2).bind fun q9 =>
      some (q9, u)
def rm_X2_has : Room := { frames := 0, cells := 0, slots := 0, locals := 0 }
def f_X2_has (u : St) (l1 : Int32) : Option (Int32) :=
  if l1 < 0 then
    some 0
  else
    if 12 ≤ l1 then
      some 0
    else
      some 1
def rm_X2_sizeOf : Room := { frames := 1, cells := 0, slots := 0, locals := 21 }
def f_X2_sizeOf (u : St) (l1 : Int32) : Option (Int32) :=
  (f_X2_has u l1).bind fun q1 =>
  if q1 = 0 then
    some 0
  else
    if inb l1 12 = true then
    some (u 5 l1.toNatClampNeg)
    else none
def rm_X2_at : Room := { frames := 1, cells := 0, slots := 0, locals := 21 }
def f_X2_at (u : St) (l1 : Int32) (l2 : Int32) : Option (Int32) :=
  (f_X2_has u l1).bind fun q1 =>
  if q1 = 0 then
    some (-1)
  else
    if l2 < 0 then
      some (-1)
    else
      if 8 ≤ l2 then
        some (-1)
      else
        if inb l1 12 = true then
        if (u 5 l1.toNatClampNeg) ≤ l2 then
          some (-1)
        else
          if inb ((l1 * 8) + l2) 96 = true then
          some (u 4 ((l1 * 8) + l2).toNatClampNeg)
          else none
        else none
def rm_X2_indexOf : Room := { frames := 2, cells := 0, slots := 0, locals := 43 }
def f_X2_indexOf_9 (u : St) : Nat → Int32 → Int32 → Int32 → Int32 → Option (Int32)
  | 0, _, _, _, _ => none
  | n + 1, l1, l2, l3, l4 =>
    if l3 ≤ l4 then
      some (-1)
    else
      (f_X2_at u l1 l4).bind fun q2 =>
      if q2 = l2 then
        some l4
      else
        f_X2_indexOf_9 u n l1 l2 l3 (l4 + 1)
def f_X2_indexOf (u : St) (l1 : Int32) (l2 : Int32) : Option (Int32) :=
  (f_X2_sizeOf u l1).bind fun q5 =>
  f_X2_indexOf_9 u FU l1 l2 q5 0
def rm_X2_noteLooksWith : Room := { frames := 1, cells := 0, slots := 0, locals := 22 }
def f_X2_noteLooksWith (u : St) (l1 : Int32) (l2 : Int32) : Option (St) :=
  (f_X6_isWithin u l1 0 31).bind fun q1 =>
  if q1 = 0 then
    some u
  else
    if inb l1 32 = true then
    some (up2 u 6 l1.toNatClampNeg ((u 6 l1.toNatClampNeg) + l2))
    else none
def rm_X2_append : Room := { frames := 2, cells := 0, slots := 0, locals := 44 }
def f_X2_append (u : St) (l1 : Int32) (l2 : Int32) : Option (Int32 × St) :=
  (f_X2_has u l1).bind fun q1 =>
  if q1 = 0 then
    (f_X2_sizeOf u l1).bind fun q4 =>
    some (q4, u)
  else
    if inb l1 12 = true then
    if 8 ≤ (u 5 l1.toNatClampNeg) then
      (f_X2_sizeOf u l1).bind fun q8 =>
      some (q8, u)
    else
      if inb ((l1 * 8) + (u 5 l1.toNatClampNeg)) 96 = true then
      (f_X2_noteLooksWith (up2 (up2 u 4 ((l1 * 8) + (u 5 l1.toNatClampNeg)).toNatClampNeg l2) 5 l1.toNatClampNeg ((u 5 l1.toNatClampNeg) + 1)) l2 1).bind fun q11 =>
      (f_X2_sizeOf q11 l1).bind fun q13 =>
      some (q13, q11)
      else none
    else none
def rm_X6_wear : Room := { frames := 3, cells := 0, slots := 0, locals := 67 }
def f_X6_wear (u : St) (l1 : Int32) (l2 : Int32) : Option (Int32 × St) :=
  (f_X2_has u l1).bind fun q1 =>
  if q1 = 0 then
    (f_X6_finding u 1).bind fun q4 =>
    some (q4.1, q4.2)
  else
    (f_X5_has u l2).bind fun q6 =>
    if q6 = 0 then
      (f_X6_finding u 1).bind fun q21 =>
      some (q21.1, q21.2)
    else
      (f_X2_indexOf u l1 l2).bind fun q9 =>
      if q9 < 0 then
        (f_X2_sizeOf u l1).bind fun q12 =>
        if q12 < 8 then
          (f_X2_append u l1 l2).bind fun q15 =>
          some (q15.1, q15.2)
        else
          (f_X6_finding u 4).bind fun q17 =>
          some (q17.1, q17.2)
      else
        (f_X6_finding u 3).bind fun q19 =>
        some (q19.1, q19.2)
def rm_X2_clear : Room := { frames := 2, cells := 0, slots := 0, locals := 44 }
def f_X2_clear_8 : Nat → St → Int32 → Int32 → Int32 → Option (Int32 × St)
  | 0, _, _, _, _ => none
  | n + 1, u, l1, l2, l3 =>
    if l2 ≤ l3 then
      (f_X2_has u l1).bind fun q2 =>
      if q2 = 0 then
        some (l2, u)
      else
        if inb l1 12 = true then
        some (l2, (up2 u 5 l1.toNatClampNeg 0))
        else none
    else
      (f_X2_at u l1 l3).bind fun q6 =>
      (f_X2_noteLooksWith u q6 (-1)).bind fun q8 =>
      f_X2_clear_8 n q8 l1 l2 (l3 + 1)
def f_X2_clear (u : St) (l1 : Int32) : Option (Int32 × St) :=
  (f_X2_sizeOf u l1).bind fun q10 =>
  f_X2_clear_8 FU u l1 q10 0
def rm_X6_bare : Room := { frames := 3, cells := 0, slots := 0, locals := 67 }
def f_X6_bare (u : St) (l1 : Int32) : Option (Int32 × St) :=
  (f_X2_has u l1).bind fun q1 =>
  if q1 = 0 then
    (f_X6_finding u 1).bind fun q6 =>
    some (q6.1, q6.2)
  else
    (f_X2_clear u l1).bind fun q4 =>
    some (q4.1, q4.2)
def rm_X6_look : Room := { frames := 2, cells := 0, slots := 0, locals := 43 }
def f_X6_look (u : St) (l1 : Int32) (l2 : Int32) : Option (Int32 × St) :=
  (f_X2_has u l1).bind fun q1 =>
  if q1 = 0 then
    (f_X6_finding u 1).bind fun q9 =>
    some (q9.1, q9.2)
  else
    (f_X2_at u l1 l2).bind fun q4 =>
    if 0 ≤ q4 then
      some (q4, u)
    else
      (f_X6_finding u 2).bind fun q7 =>
      some (q7.1, q7.2)
def rm_X6_limit : Room := { frames := 2, cells := 0, slots := 0, locals := 43 }
def f_X6_limit (u : St) (l1 : Int32) : Option (Int32 × St) :=
  (f_X6_isWithin u l1 1 30).bind fun q1 =>
  if q1 = 0 then
    (f_X6_finding u 1).bind fun q4 =>
    some (q4.1, q4.2)
  else
    some ((u 0 9), (up2 u 0 9 l1))
def rm_X2_hasBits : Room := { frames := 2, cells := 0, slots := 0, locals := 42 }
def f_X2_hasBits (u : St) (l1 : Int32) (l2 : Int32) : Option (Int32) :=
  (f_X2_sizeOf u l1).bind fun q1 =>
  if (jushr l2 q1) = 0 then
    some 1
  else
    some 0
def rm_X6_isChange : Room := { frames := 3, cells := 0, slots := 0, locals := 64 }
def f_X6_isChange (u : St) (l1 : Int32) (l2 : Int32) (l3 : Int32) : Option (Int32) :=
  (f_X2_has u l1).bind fun q1 =>
  if q1 = 0 then
    some 0
  else
    (f_X2_has u l2).bind fun q4 =>
    if q4 = 0 then
      some 0
    else
      (f_X2_hasBits u l2 l3).bind fun q7 =>
      if q7 = 0 then
        some 0
      else
        some 1
def rm_X1_wigsOf : Room := { frames := 2, cells := 0, slots := 0, locals := 43 }
def f_X1_wigsOf_14 (u : St) : Nat → Int32 → Int32 → Int32 → Int32 → Option (Int32)
  | 0, _, _, _, _ => none
  | n + 1, l1, l2, l3, l4 =>
    if l3 ≤ l4 then
      some l2
    else
      (f_X2_at u l1 l4).bind fun q2 =>
      (f_X5_fact u q2 0).bind fun q4 =>
      if q4 = 1 then
        f_X1_wigsOf_14 u n l1 (l2 ||| (1 <<< (l4 &&& 31))) l3 (l4 + 1)
      else
        f_X1_wigsOf_14 u n l1 l2 l3 (l4 + 1)
def f_X1_wigsOf (u : St) (l1 : Int32) : Option (Int32) :=
  (f_X2_sizeOf u l1).bind fun q7 =>
  f_X1_wigsOf_14 u FU l1 0 q7 0
def rm_X5_haveOnePlace : Room := { frames := 2, cells := 0, slots := 0, locals := 43 }
def f_X5_haveOnePlace (u : St) (l1 : Int32) (l2 : Int32) : Option (Int32) :=
  (f_X5_fact u l1 1).bind fun q1 =>
  (f_X5_fact u l2 1).bind fun q3 =>
  if q1 = q3 then
    some 1
  else
    some 0
def rm_X1_aheadAtPlace : Room := { frames := 3, cells := 0, slots := 0, locals := 65 }
def f_X1_aheadAtPlace_16 (u : St) : Nat → Int32 → Int32 → Int32 → Int32 → Int32 → Option (Int32)
  | 0, _, _, _, _, _ => none
  | n + 1, l1, l2, l3, l4, l5 =>
    if l2 ≤ l5 then
      some l4
    else
      (f_X2_at u l1 l5).bind fun q2 =>
      (f_X5_haveOnePlace u q2 l3).bind fun q4 =>
      if q4 = 0 then
        f_X1_aheadAtPlace_16 u n l1 l2 l3 l4 (l5 + 1)
      else
        f_X1_aheadAtPlace_16 u n l1 l2 l3 (l4 ||| (1 <<< (l5 &&& 31))) (l5 + 1)
def f_X1_aheadAtPlace (u : St) (l1 : Int32) (l2 : Int32) : Option (Int32) :=
  (f_X2_at u l1 l2).bind fun q7 =>
  f_X1_aheadAtPlace_16 u FU l1 l2 q7 0 0
def rm_X6_hasBit : Room := { frames := 0, cells := 0, slots := 0, locals := 0 }
def f_X6_hasBit (u : St) (l0 : Int32) (l1 : Int32) : Option (Int32) :=
  if ((jushr l0 l1) &&& 1) = 0 then
    some 0
  else
    some 1
def rm_X1_isWantedUnder : Room := { frames := 1, cells := 0, slots := 0, locals := 21 }
def f_X1_isWantedUnder_2 (u : St) : Nat → Int32 → Int32 → Option (Int32)
  | 0, _, _ => none
  | n + 1, l1, l2 =>
    if l1 ≤ l2 then
      some 0
    else
      if inb l1 8 = true then
      (f_X6_hasBit u (u 10 l1.toNatClampNeg) l2).bind fun q3 =>
      if q3 = 0 then
        f_X1_isWantedUnder_2 u n l1 (l2 + 1)
      else
        if inb l2 8 = true then
        if (u 8 l2.toNatClampNeg) ≤ (u 8 l1.toNatClampNeg) then
          f_X1_isWantedUnder_2 u n l1 (l2 + 1)
        else
          some 1
        else none
      else none
def f_X1_isWantedUnder (u : St) (l1 : Int32) : Option (Int32) :=
  f_X1_isWantedUnder_2 u FU l1 0
def rm_X1_prepareWorn : Room := { frames := 4, cells := 0, slots := 0, locals := 90 }
def f_X1_prepareWorn_72 (u : St) (l3 : Int32) : Option (St) :=
  some (up2 u 7 6 ((u 7 6) ||| (1 <<< (l3 &&& 31))))
def f_X1_prepareWorn (u : St) (l1 : Int32) (l2 : Int32) (l3 : Int32) : Option (St) :=
  (f_X2_at u l1 l3).bind fun q1 =>
  (f_X5_fact u q1 4).bind fun q3 =>
  if inb l3 8 = true then
  (f_X2_indexOf (up2 u 13 l3.toNatClampNeg q3) l2 q1).bind fun q6 =>
  (f_X1_aheadAtPlace (up2 (up2 u 13 l3.toNatClampNeg q3) 8 l3.toNatClampNeg q6) l1 l3).bind fun q8 =>
  if (upd (u 8) l3.toNatClampNeg q6 l3.toNatClampNeg) < 0 then
    f_X1_prepareWorn_72 (up2 (up2 (up2 u 13 l3.toNatClampNeg q3) 8 l3.toNatClampNeg q6) 10 l3.toNatClampNeg q8) l3
  else
    (f_X1_isWantedUnder (up2 (up2 (up2 u 13 l3.toNatClampNeg q3) 8 l3.toNatClampNeg q6) 10 l3.toNatClampNeg q8) l3).bind fun q11 =>
    if q11 = 0 then
      some (up2 (up2 (up2 u 13 l3.toNatClampNeg q3) 8 l3.toNatClampNeg q6) 10 l3.toNatClampNeg q8)
    else
      f_X1_prepareWorn_72 (up2 (up2 (up2 u 13 l3.toNatClampNeg q3) 8 l3.toNatClampNeg q6) 10 l3.toNatClampNeg q8) l3
  else none
def rm_X1_thickBefore : Room := { frames := 3, cells := 0, slots := 0, locals := 65 }
def f_X1_thickBefore_6 (u : St) : Nat → Int32 → Int32 → Int32 → Int32 → Int32 → Option (Int32)
  | 0, _, _, _, _, _ => none
  | n + 1, l1, l2, l3, l4, l5 =>
    if l2 ≤ l5 then
      some l4
    else
      (f_X2_at u l1 l5).bind fun q2 =>
      (f_X5_haveOnePlace u q2 l3).bind fun q4 =>
      if q4 = 0 then
        f_X1_thickBefore_6 u n l1 l2 l3 l4 (l5 + 1)
      else
        (f_X5_fact u q2 2).bind fun q7 =>
        f_X1_thickBefore_6 u n l1 l2 l3 (l4 + q7) (l5 + 1)
def f_X1_thickBefore (u : St) (l1 : Int32) (l2 : Int32) (l3 : Int32) : Option (Int32) :=
  f_X1_thickBefore_6 u FU l1 l2 l3 0 0
def rm_X1_prepareWanted : Room := { frames := 4, cells := 0, slots := 0, locals := 91 }
def f_X1_prepareWanted (u : St) (l1 : Int32) (l2 : Int32) (l3 : Int32) : Option (St) :=
  (f_X2_at u l2 l3).bind fun q1 =>
  (f_X5_fact u q1 3).bind fun q3 =>
  if inb l3 8 = true then
  (f_X2_indexOf (up2 u 14 l3.toNatClampNeg q3) l1 q1).bind fun q6 =>
  (f_X1_aheadAtPlace (up2 (up2 u 14 l3.toNatClampNeg q3) 9 l3.toNatClampNeg q6) l2 l3).bind fun q8 =>
  (f_X1_thickBefore (up2 (up2 (up2 u 14 l3.toNatClampNeg q3) 9 l3.toNatClampNeg q6) 11 l3.toNatClampNeg q8) l1 (u 7 2) q1).bind fun q10 =>
  (f_X1_thickBefore (up2 (up2 (up2 u 14 l3.toNatClampNeg q3) 9 l3.toNatClampNeg q6) 11 l3.toNatClampNeg q8) l2 l3 q1).bind fun q12 =>
  (f_X5_fact (up2 (up2 (up2 u 14 l3.toNatClampNeg q3) 9 l3.toNatClampNeg q6) 11 l3.toNatClampNeg q8) q1 2).bind fun q14 =>
  some (up2 (up2 (up2 (up2 u 14 l3.toNatClampNeg q3) 9 l3.toNatClampNeg q6) 11 l3.toNatClampNeg q8) 12 l3.toNatClampNeg ((q10 + q12) + q14))
  else none
def rm_X1_prepare : Room := { frames := 5, cells := 0, slots := 0, locals := 115 }
def f_X1_prepare_82 : Nat → St → Int32 → Int32 → Int32 → Option (St)
  | 0, _, _, _, _ => none
  | n + 1, u, l1, l2, l3 =>
    if (u 7 3) ≤ l3 then
      some u
    else
      (f_X1_prepareWanted u l1 l2 l3).bind fun q2 =>
      f_X1_prepare_82 n q2 l1 l2 (l3 + 1)
def f_X1_prepare_59 : Nat → St → Int32 → Int32 → Int32 → Option (St)
  | 0, _, _, _, _ => none
  | n + 1, u, l1, l2, l3 =>
    if (u 7 2) ≤ l3 then
      f_X1_prepare_82 FU u l1 l2 0
    else
      (f_X1_prepareWorn u l1 l2 l3).bind fun q5 =>
      f_X1_prepare_59 n q5 l1 l2 (l3 + 1)
def f_X1_prepare (u : St) (l1 : Int32) (l2 : Int32) : Option (St) :=
  (f_X2_sizeOf u l1).bind fun q7 =>
  (f_X2_sizeOf (up2 u 7 2 (jmin 8 q7)) l2).bind fun q9 =>
  (f_X1_wigsOf (up2 (up2 u 7 2 (jmin 8 q7)) 7 3 (jmin 8 q9)) l1).bind fun q11 =>
  (f_X1_wigsOf (up2 (up2 (up2 u 7 2 (jmin 8 q7)) 7 3 (jmin 8 q9)) 7 4 q11) l2).bind fun q13 =>
  f_X1_prepare_59 FU (up2 (up2 (up2 (up2 (up2 u 7 2 (jmin 8 q7)) 7 3 (jmin 8 q9)) 7 4 q11) 7 5 q13) 7 6 0) l1 l2 0
def rm_X1_mayLieBeneath : Room := { frames := 1, cells := 0, slots := 0, locals := 21 }
def f_X1_mayLieBeneath_2 (u : St) : Nat → Int32 → Int32 → Int32 → Option (Int32)
  | 0, _, _, _ => none
  | n + 1, l1, l2, l3 =>
    if (u 7 3) ≤ l3 then
      some 1
    else
      (f_X6_hasBit u l1 l3).bind fun q2 =>
      if q2 = 0 then
        f_X1_mayLieBeneath_2 u n l1 l2 (l3 + 1)
      else
        if inb l3 8 = true then
        if 0 ≤ (u 9 l3.toNatClampNeg) then
          some 0
        else
          if ((u 11 l3.toNatClampNeg) &&& (l1 ^^^ (-1))) = 0 then
            if (u 12 l3.toNatClampNeg) ≤ l2 then
              f_X1_mayLieBeneath_2 u n l1 l2 (l3 + 1)
            else
              some 0
          else
            some 0
        else none
def f_X1_mayLieBeneath (u : St) (l1 : Int32) (l2 : Int32) : Option (Int32) :=
  f_X1_mayLieBeneath_2 u FU l1 l2 0
def rm_X6_isAllowed : Room := { frames := 6, cells := 0, slots := 0, locals := 138 }
def f_X6_isAllowed (u : St) (l1 : Int32) (l2 : Int32) (l3 : Int32) : Option (Int32 × St) :=
  (f_X1_prepare u l1 l2).bind fun q1 =>
  (f_X1_mayLieBeneath q1 l3 (q1 0 9)).bind fun q3 =>
  if q3 = 0 ∨ q3 = 1 then some (q3, q1) else none
def rm_X6_allowed : Room := { frames := 7, cells := 0, slots := 0, locals := 161 }
def f_X6_allowed (u : St) (l1 : Int32) (l2 : Int32) (l3 : Int32) : Option (Int32 × St) :=
  (f_X6_isChange u l1 l2 l3).bind fun q1 =>
  if q1 = 0 then
    (f_X6_finding u 1).bind fun q7 =>
    some (q7.1, q7.2)
  else
    (f_X6_isAllowed u l1 l2 l3).bind fun q4 =>
    if q4.1 = 0 then
      some (0, q4.2)
    else
      some (1, q4.2)
def rm_X1_missing : Room := { frames := 1, cells := 0, slots := 0, locals := 21 }
def f_X1_missing_45 (k4 : Int32 → Int32 → Int32 → Option (Int32)) (u : St) (l1 : Int32) (l2 : Int32) (l3 : Int32) : Option (Int32) :=
  k4 l1 (l2 ||| (1 <<< (l3 &&& 31))) (l3 + 1)
def f_X1_missing_4 (u : St) : Nat → Int32 → Int32 → Int32 → Option (Int32)
  | 0, _, _, _ => none
  | n + 1, l1, l2, l3 =>
    if (u 7 3) ≤ l3 then
      some l2
    else
      (f_X6_hasBit u l1 l3).bind fun q2 =>
      if q2 = 0 then
        if inb l3 8 = true then
        if (u 9 l3.toNatClampNeg) < 0 then
          f_X1_missing_45 (f_X1_missing_4 u n) u l1 l2 l3
        else
          (f_X6_hasBit u (u 7 14) (u 9 l3.toNatClampNeg)).bind fun q7 =>
          if q7 = 0 then
            f_X1_missing_4 u n l1 l2 (l3 + 1)
          else
            f_X1_missing_45 (f_X1_missing_4 u n) u l1 l2 l3
        else none
      else
        f_X1_missing_4 u n l1 l2 (l3 + 1)
def f_X1_missing (u : St) (l1 : Int32) : Option (Int32) :=
  f_X1_missing_4 u FU l1 0 0
def rm_X1_mustComeOff : Room := { frames := 0, cells := 0, slots := 0, locals := 0 }
def f_X1_mustComeOff (u : St) (l1 : Int32) : Option (Int32) :=
  if inb l1 8 = true then
  if ((u 10 l1.toNatClampNeg) &&& (u 7 14)) = 0 then
    if (u 8 l1.toNatClampNeg) < 0 then
      some 0
    else
      if inb (u 8 l1.toNatClampNeg) 8 = true then
      if ((u 11 (u 8 l1.toNatClampNeg).toNatClampNeg) &&& (u 7 15)) = 0 then
        some 0
      else
        some 1
      else none
  else
    some 1
  else none
def rm_X1_forcedOff : Room := { frames := 1, cells := 0, slots := 0, locals := 22 }
def f_X1_forcedOff_4 (u : St) : Nat → Int32 → Int32 → Option (Int32)
  | 0, _, _ => none
  | n + 1, l1, l2 =>
    if (u 7 2) ≤ l2 then
      some l1
    else
      (f_X6_hasBit u (u 7 14) l2).bind fun q2 =>
      if q2 = 0 then
        (f_X1_mustComeOff u l2).bind fun q5 =>
        if q5 = 0 then
          f_X1_forcedOff_4 u n l1 (l2 + 1)
        else
          f_X1_forcedOff_4 u n (l1 ||| (1 <<< (l2 &&& 31))) (l2 + 1)
      else
        f_X1_forcedOff_4 u n l1 (l2 + 1)
def f_X1_forcedOff (u : St) : Option (Int32) :=
  f_X1_forcedOff_4 u FU 0 0
def rm_X1_handle : Room := { frames := 2, cells := 0, slots := 0, locals := 44 }
def f_X1_handle_19 : Nat → St → Int32 → Int32 → Option (St)
  | 0, _, _, _ => none
  | n + 1, u, l1, l2 =>
    if 8 ≤ l2 then
      some u
    else
      (f_X1_forcedOff u).bind fun q2 =>
      if q2 = 0 then
        some u
      else
        (f_X1_missing (up2 u 7 14 ((u 7 14) ||| q2)) l1).bind fun q5 =>
        f_X1_handle_19 n (up2 (up2 u 7 14 ((u 7 14) ||| q2)) 7 15 q5) l1 (l2 + 1)
def f_X1_handle (u : St) (l1 : Int32) : Option (St) :=
  (f_X1_missing (up2 u 7 14 (u 7 6)) l1).bind fun q7 =>
  f_X1_handle_19 FU (up2 (up2 u 7 14 (u 7 6)) 7 15 q7) l1 0
def rm_J6_bitCount : Room := { frames := 0, cells := 0, slots := 0, locals := 0 }
def f_J6_bitCount (u : St) (l0 : Int32) : Option (Int32) :=
  some ((((((((l0 - ((jushr l0 1) &&& 1431655765)) &&& 858993459) + ((jushr (l0 - ((jushr l0 1) &&& 1431655765)) 2) &&& 858993459)) + (jushr (((l0 - ((jushr l0 1) &&& 1431655765)) &&& 858993459) + ((jushr (l0 - ((jushr l0 1) &&& 1431655765)) 2) &&& 858993459)) 4)) &&& 252645135) + (jushr (((((l0 - ((jushr l0 1) &&& 1431655765)) &&& 858993459) + ((jushr (l0 - ((jushr l0 1) &&& 1431655765)) 2) &&& 858993459)) + (jushr (((l0 - ((jushr l0 1) &&& 1431655765)) &&& 858993459) + ((jushr (l0 - ((jushr l0 1) &&& 1431655765)) 2) &&& 858993459)) 4)) &&& 252645135) 8)) + (jushr ((((((l0 - ((jushr l0 1) &&& 1431655765)) &&& 858993459) + ((jushr (l0 - ((jushr l0 1) &&& 1431655765)) 2) &&& 858993459)) + (jushr (((l0 - ((jushr l0 1) &&& 1431655765)) &&& 858993459) + ((jushr (l0 - ((jushr l0 1) &&& 1431655765)) 2) &&& 858993459)) 4)) &&& 252645135) + (jushr (((((l0 - ((jushr l0 1) &&& 1431655765)) &&& 858993459) + ((jushr (l0 - ((jushr l0 1) &&& 1431655765)) 2) &&& 858993459)) + (jushr (((l0 - ((jushr l0 1) &&& 1431655765)) &&& 858993459) + ((jushr (l0 - ((jushr l0 1) &&& 1431655765)) 2) &&& 858993459)) 4)) &&& 252645135) 8)) 16)) &&& 63)
def rm_X6_told : Room := { frames := 7, cells := 0, slots := 0, locals := 161 }
def f_X6_told_74 (u : St) (l4 : Int32) (s0 : Int32) : Option (Int32 × St) :=
  if 2 ≤ l4 then
    some (s0, u)
  else
    (f_J6_bitCount u s0).bind fun q2 =>
    some (q2, u)
def f_X6_told (u : St) (l1 : Int32) (l2 : Int32) (l3 : Int32) (l4 : Int32) : Option (Int32 × St) :=
  (f_X6_isChange u l1 l2 l3).bind fun q4 =>
  if q4 = 0 then
    (f_X6_finding u 1).bind fun q7 =>
    some (q7.1, q7.2)
  else
    (f_X6_isWithin u l4 0 3).bind fun q9 =>
    if q9 = 0 then
      (f_X6_finding u 1).bind fun q20 =>
      some (q20.1, q20.2)
    else
      (f_X6_isAllowed u l1 l2 l3).bind fun q12 =>
      if q12.1 = 0 then
        (f_X6_finding q12.2 3).bind fun q18 =>
        some (q18.1, q18.2)
      else
        (f_X1_handle q12.2 l3).bind fun q15 =>
        if (l4 - l4 / 2 * 2) = 0 then
          f_X6_told_74 q15 l4 (q15 7 14)
        else
          f_X6_told_74 q15 l4 (q15 7 15)
def rm_X1_sumOf_13 : Room := { frames := 1, cells := 0, slots := 0, locals := 21 }
def f_X1_sumOf_13_5 (u : St) : Nat → Int32 → Int32 → Int32 → Int32 → Option (Int32)
  | 0, _, _, _, _ => none
  | n + 1, l1, l2, l3, l4 =>
    if l1 ≤ l4 then
      some l3
    else
      if 8 ≤ l4 then
        some l3
      else
        (f_X6_hasBit u l2 l4).bind fun q3 =>
        if q3 = 0 then
          f_X1_sumOf_13_5 u n l1 l2 l3 (l4 + 1)
        else
          if inb l4 8 = true then
          f_X1_sumOf_13_5 u n l1 l2 (l3 + (u 13 l4.toNatClampNeg)) (l4 + 1)
          else none
def f_X1_sumOf_13 (u : St) (l1 : Int32) (l2 : Int32) : Option (Int32) :=
  f_X1_sumOf_13_5 u FU l1 l2 0 0
def rm_X1_sumOf_14 : Room := { frames := 1, cells := 0, slots := 0, locals := 21 }
def f_X1_sumOf_14_5 (u : St) : Nat → Int32 → Int32 → Int32 → Int32 → Option (Int32)
  | 0, _, _, _, _ => none
  | n + 1, l1, l2, l3, l4 =>
    if l1 ≤ l4 then
      some l3
    else
      if 8 ≤ l4 then
        some l3
      else
        (f_X6_hasBit u l2 l4).bind fun q3 =>
        if q3 = 0 then
          f_X1_sumOf_14_5 u n l1 l2 l3 (l4 + 1)
        else
          if inb l4 8 = true then
          f_X1_sumOf_14_5 u n l1 l2 (l3 + (u 14 l4.toNatClampNeg)) (l4 + 1)
          else none
def f_X1_sumOf_14 (u : St) (l1 : Int32) (l2 : Int32) : Option (Int32) :=
  f_X1_sumOf_14_5 u FU l1 l2 0 0
def rm_X1_mostOf_13 : Room := { frames := 1, cells := 0, slots := 0, locals := 21 }
def f_X1_mostOf_13_5 (u : St) : Nat → Int32 → Int32 → Int32 → Int32 → Option (Int32)
  | 0, _, _, _, _ => none
  | n + 1, l1, l2, l3, l4 =>
    if l1 ≤ l4 then
      some l3
    else
      if 8 ≤ l4 then
        some l3
      else
        (f_X6_hasBit u l2 l4).bind fun q3 =>
        if q3 = 0 then
          f_X1_mostOf_13_5 u n l1 l2 l3 (l4 + 1)
        else
          if inb l4 8 = true then
          f_X1_mostOf_13_5 u n l1 l2 (jmax l3 (u 13 l4.toNatClampNeg)) (l4 + 1)
          else none
def f_X1_mostOf_13 (u : St) (l1 : Int32) (l2 : Int32) : Option (Int32) :=
  f_X1_mostOf_13_5 u FU l1 l2 0 0
def rm_X1_mostOf_14 : Room := { frames := 1, cells := 0, slots := 0, locals := 21 }
def f_X1_mostOf_14_5 (u : St) : Nat → Int32 → Int32 → Int32 → Int32 → Option (Int32)
  | 0, _, _, _, _ => none
  | n + 1, l1, l2, l3, l4 =>
    if l1 ≤ l4 then
      some l3
    else
      if 8 ≤ l4 then
        some l3
      else
        (f_X6_hasBit u l2 l4).bind fun q3 =>
        if q3 = 0 then
          f_X1_mostOf_14_5 u n l1 l2 l3 (l4 + 1)
        else
          if inb l4 8 = true then
          f_X1_mostOf_14_5 u n l1 l2 (jmax l3 (u 14 l4.toNatClampNeg)) (l4 + 1)
          else none
def f_X1_mostOf_14 (u : St) (l1 : Int32) (l2 : Int32) : Option (Int32) :=
  f_X1_mostOf_14_5 u FU l1 l2 0 0
def rm_X1_secondsWith : Room := { frames := 2, cells := 0, slots := 0, locals := 45 }
def f_X1_secondsWith_50 (u : St) (l1 : Int32) : Option (Int32) :=
  (f_X1_sumOf_13 u (u 7 2) (u 7 14)).bind fun q1 =>
  (f_X1_sumOf_14 u (u 7 3) (u 7 15)).bind fun q3 =>
  (f_X1_mostOf_13 u (u 7 2) (u 7 14)).bind fun q5 =>
  (f_X1_mostOf_14 u (u 7 3) (u 7 15)).bind fun q7 =>
  if (l1 + 1) = 0 then none else
  some (jmax (((q1 + q3) + l1) / (l1 + 1)) (jmax q5 q7))
def f_X1_secondsWith_29 (u : St) (l1 : Int32) (s0 : Int32) : Option (Int32) :=
  (f_X6_isWithin u l1 0 3).bind fun q10 =>
  if q10 = 0 then
    some 1000000
  else
    if l1 = 0 then
      if s0 = 0 then
        f_X1_secondsWith_50 u l1
      else
        some 1000000
    else
      f_X1_secondsWith_50 u l1
def f_X1_secondsWith (u : St) (l1 : Int32) : Option (Int32) :=
  if ((u 7 14) &&& (u 7 4)) = 0 then
    if ((u 7 15) &&& (u 7 5)) = 0 then
      f_X1_secondsWith_29 u l1 0
    else
      f_X1_secondsWith_29 u l1 1
  else
    f_X1_secondsWith_29 u l1 1
def rm_X6_seconds : Room := { frames := 7, cells := 0, slots := 0, locals := 161 }
def f_X6_seconds (u : St) (l1 : Int32) (l2 : Int32) (l3 : Int32) (l4 : Int32) : Option (Int32 × St) :=
  (f_X6_isChange u l1 l2 l3).bind fun q1 =>
  if q1 = 0 then
    (f_X6_finding u 1).bind fun q4 =>
    some (q4.1, q4.2)
  else
    (f_X6_isWithin u l4 0 3).bind fun q6 =>
    if q6 = 0 then
      (f_X6_finding u 1).bind fun q21 =>
      some (q21.1, q21.2)
    else
      (f_X6_isAllowed u l1 l2 l3).bind fun q9 =>
      if q9.1 = 0 then
        (f_X6_finding q9.2 3).bind fun q19 =>
        some (q19.1, q19.2)
      else
        (f_X1_handle q9.2 l3).bind fun q12 =>
        (f_X1_secondsWith q12 l4).bind fun q14 =>
        if q14 = 1000000 then
          (f_X6_finding q12 2).bind fun q17 =>
          some (q17.1, q17.2)
        else
          some (q14, q12)
def rm_X1_keepIfBetter : Room := { frames := 1, cells := 0, slots := 0, locals := 20 }
def f_X1_keepIfBetter (u : St) (l1 : Int32) (l2 : Int32) : Option (St) :=
  if l2 < (u 7 17) then
    some (up2 (up2 u 7 16 l1) 7 17 l2)
  else
    if l2 = (u 7 17) then
      (f_J6_bitCount u l1).bind fun q3 =>
      (f_J6_bitCount u (u 7 16)).bind fun q5 =>
      if q5 ≤ q3 then
        some u
      else
        some (up2 (up2 u 7 16 l1) 7 17 l2)
    else
      some u
def rm_X1_findBest : Room := { frames := 6, cells := 0, slots := 0, locals := 138 }
def f_X1_findBest_20 : Nat → St → Int32 → Int32 → Int32 → Option (St)
  | 0, _, _, _, _ => none
  | n + 1, u, l3, l4, l5 =>
    if (1 <<< ((u 7 3) &&& 31)) ≤ l5 then
      some u
    else
      (f_X1_mayLieBeneath u l5 l4).bind fun q2 =>
      if q2 = 0 then
        f_X1_findBest_20 n u l3 l4 (l5 + 1)
      else
        (f_X1_handle u l5).bind fun q5 =>
        (f_X1_secondsWith q5 l3).bind fun q7 =>
        (f_X1_keepIfBetter q5 l5 q7).bind fun q9 =>
        f_X1_findBest_20 n q9 l3 l4 (l5 + 1)
def f_X1_findBest (u : St) (l1 : Int32) (l2 : Int32) (l3 : Int32) (l4 : Int32) : Option (St) :=
  (f_X1_prepare u l1 l2).bind fun q11 =>
  f_X1_findBest_20 FU (up2 (up2 q11 7 16 0) 7 17 1000000) l3 l4 0
def rm_X6_best : Room := { frames := 7, cells := 0, slots := 0, locals := 163 }
def f_X6_best (u : St) (l1 : Int32) (l2 : Int32) (l3 : Int32) (l4 : Int32) : Option (Int32 × St) :=
  (f_X6_isChange u l1 l2 0).bind fun q1 =>
  if q1 = 0 then
    (f_X6_finding u 1).bind fun q4 =>
    some (q4.1, q4.2)
  else
    (f_X6_isWithin u l3 0 3).bind fun q6 =>
    if q6 = 0 then
      (f_X6_finding u 1).bind fun q9 =>
      some (q9.1, q9.2)
    else
      (f_X6_isWithin u l4 0 1).bind fun q11 =>
      if q11 = 0 then
        (f_X6_finding u 1).bind fun q20 =>
        some (q20.1, q20.2)
      else
        (f_X1_findBest u l1 l2 l3 (u 0 9)).bind fun q14 =>
        if (q14 7 17) = 1000000 then
          (f_X6_finding q14 2).bind fun q18 =>
          some (q18.1, q18.2)
        else
          if l4 = 0 then
            some ((q14 7 16), q14)
          else
            some ((q14 7 17), q14)
def rm_X6_beforeIn : Room := { frames := 0, cells := 0, slots := 0, locals := 0 }
def f_X6_beforeIn (u : St) (l0 : Int32) : Option (Int32) :=
  some (l0 / 1000)
def rm_X6_afterIn : Room := { frames := 0, cells := 0, slots := 0, locals := 0 }
def f_X6_afterIn (u : St) (l0 : Int32) : Option (Int32) :=
  some ((l0 / 10) - (l0 / 10) / 100 * 100)
def rm_X6_doorIn : Room := { frames := 0, cells := 0, slots := 0, locals := 0 }
def f_X6_doorIn (u : St) (l0 : Int32) : Option (Int32) :=
  some (l0 - l0 / 10 * 10)
def rm_X6_isShiftTold : Room := { frames := 1, cells := 0, slots := 0, locals := 22 }
def f_X6_isShiftTold (u : St) (l0 : Int32) : Option (Int32) :=
  if l0 < 0 then
    some 0
  else
    (f_X6_beforeIn u l0).bind fun q2 =>
    (f_X6_isWithin u q2 0 11).bind fun q4 =>
    if q4 = 0 then
      some 0
    else
      (f_X6_afterIn u l0).bind fun q7 =>
      (f_X6_isWithin u q7 0 11).bind fun q9 =>
      if q9 = 0 then
        some 0
      else
        (f_X6_doorIn u l0).bind fun q12 =>
        (f_X6_isWithin u q12 0 5).bind fun q14 =>
        if q14 = 0 then
          some 0
        else
          some 1
def rm_X4_isFull : Room := { frames := 0, cells := 0, slots := 0, locals := 0 }
def f_X4_isFull (u : St) : Option (Int32) :=
  if (u 15 5) < 12 then
    some 0
  else
    some 1
def rm_X4_add : Room := { frames := 0, cells := 0, slots := 0, locals := 0 }
def f_X4_add (u : St) (l1 : Int32) (l2 : Int32) (l3 : Int32) (l4 : Int32) : Option (Int32 × St) :=
  if (u 15 5) < 0 then
    some ((u 15 5), u)
  else
    if (u 15 5) < 12 then
      if inb (u 15 5) 12 = true then
      some ((u 15 5), (up2 (up2 (up2 (up2 (up2 u 16 (u 15 5).toNatClampNeg l1) 17 (u 15 5).toNatClampNeg l2) 18 (u 15 5).toNatClampNeg l3) 19 (u 15 5).toNatClampNeg l4) 15 5 ((u 15 5) + 1)))
      else none
    else
      some ((u 15 5), u)
def rm_X6_shift : Room := { frames := 2, cells := 0, slots := 0, locals := 43 }
def f_X6_shift (u : St) (l1 : Int32) (l2 : Int32) (l3 : Int32) (l4 : Int32) : Option (Int32 × St) :=
  (f_X6_isShiftTold u l1).bind fun q1 =>
  if q1 = 0 then
    (f_X6_finding u 1).bind fun q4 =>
    some (q4.1, q4.2)
  else
    (f_X6_isWithin u l2 0 20000).bind fun q6 =>
    if q6 = 0 then
      (f_X6_finding u 1).bind fun q9 =>
      some (q9.1, q9.2)
    else
      (f_X6_isWithin u l3 0 20000).bind fun q11 =>
      if q11 = 0 then
        (f_X6_finding u 1).bind fun q14 =>
        some (q14.1, q14.2)
      else
        if l3 ≤ l2 then
          (f_X6_finding u 1).bind fun q17 =>
          some (q17.1, q17.2)
        else
          (f_X6_isWithin u l4 0 3).bind fun q19 =>
          if q19 = 0 then
            (f_X6_finding u 1).bind fun q29 =>
            some (q29.1, q29.2)
          else
            (f_X4_isFull u).bind fun q22 =>
            if q22 = 0 then
              (f_X4_add u l1 l2 l3 l4).bind fun q25 =>
              some (q25.1, q25.2)
            else
              (f_X6_finding u 4).bind fun q27 =>
              some (q27.1, q27.2)
def rm_X4_dropLatest : Room := { frames := 1, cells := 0, slots := 0, locals := 21 }
def f_X4_dropLatest (u : St) : Option (Int32 × St) :=
  some ((jmax 0 ((u 15 5) - 1)), (up2 u 15 5 (jmax 0 ((u 15 5) - 1))))
def rm_X6_less : Room := { frames := 2, cells := 0, slots := 0, locals := 43 }
def f_X6_less (u : St) : Option (Int32 × St) :=
  if (u 15 5) = 0 then
    (f_X6_finding u 2).bind fun q4 =>
    some (q4.1, q4.2)
  else
    (f_X4_dropLatest u).bind fun q2 =>
    some (q2.1, q2.2)
def rm_X4_wayBetween : Room := { frames := 1, cells := 0, slots := 0, locals := 22 }
def f_X4_wayBetween (u : St) (l1 : Int32) (l2 : Int32) : Option (Int32) :=
  (f_X6_isWithin u l1 0 5).bind fun q1 =>
  if q1 = 0 then
    some 0
  else
    (f_X6_isWithin u l2 0 5).bind fun q4 =>
    if q4 = 0 then
      some 0
    else
      if inb ((l1 * 6) + l2) 36 = true then
      some (u 20 ((l1 * 6) + l2).toNatClampNeg)
      else none
def rm_X4_setWay : Room := { frames := 2, cells := 0, slots := 0, locals := 44 }
def f_X4_setWay (u : St) (l1 : Int32) (l2 : Int32) (l3 : Int32) : Option (Int32 × St) :=
  (f_X4_wayBetween u l1 l2).bind fun q1 =>
  (f_X6_isWithin u l1 0 5).bind fun q3 =>
  if q3 = 0 then
    some (q1, u)
  else
    (f_X6_isWithin u l2 0 5).bind fun q6 =>
    if q6 = 0 then
      some (q1, u)
    else
      if inb ((l1 * 6) + l2) 36 = true then
      if inb ((l2 * 6) + l1) 36 = true then
      some (q1, (up2 (up2 u 20 ((l1 * 6) + l2).toNatClampNeg l3) 20 ((l2 * 6) + l1).toNatClampNeg l3))
      else none
      else none
def rm_X6_way : Room := { frames := 3, cells := 0, slots := 0, locals := 68 }
def f_X6_way (u : St) (l1 : Int32) (l2 : Int32) (l3 : Int32) : Option (Int32 × St) :=
  (f_X6_isWithin u l1 0 5).bind fun q1 =>
  if q1 = 0 then
    (f_X6_finding u 1).bind fun q4 =>
    some (q4.1, q4.2)
  else
    (f_X6_isWithin u l2 0 5).bind fun q6 =>
    if q6 = 0 then
      (f_X6_finding u 1).bind fun q9 =>
      some (q9.1, q9.2)
    else
      if l1 = l2 then
        (f_X6_finding u 1).bind fun q12 =>
        some (q12.1, q12.2)
      else
        (f_X6_isWithin u l3 0 600).bind fun q14 =>
        if q14 = 0 then
          (f_X6_finding u 1).bind fun q19 =>
          some (q19.1, q19.2)
        else
          (f_X4_setWay u l1 l2 l3).bind fun q17 =>
          some (q17.1, q17.2)
def rm_X4_has : Room := { frames := 0, cells := 0, slots := 0, locals := 0 }
def f_X4_has (u : St) (l1 : Int32) : Option (Int32) :=
  if l1 < 0 then
    some 0
  else
    if (u 15 5) ≤ l1 then
      some 0
    else
      if 12 ≤ l1 then
        some 0
      else
        some 1
def rm_X4_lookBefore : Room := { frames := 1, cells := 0, slots := 0, locals := 21 }
def f_X4_lookBefore (u : St) (l1 : Int32) : Option (Int32) :=
  (f_X4_has u l1).bind fun q1 =>
  if q1 = 0 then
    some (-1)
  else
    if inb l1 12 = true then
    (f_X6_beforeIn u (u 16 l1.toNatClampNeg)).bind fun q5 =>
    some q5
    else none
def rm_X4_lookAfter : Room := { frames := 1, cells := 0, slots := 0, locals := 21 }
def f_X4_lookAfter (u : St) (l1 : Int32) : Option (Int32) :=
  (f_X4_has u l1).bind fun q1 =>
  if q1 = 0 then
    some (-1)
  else
    if inb l1 12 = true then
    (f_X6_afterIn u (u 16 l1.toNatClampNeg)).bind fun q5 =>
    some q5
    else none
def rm_X4_handsOf : Room := { frames := 1, cells := 0, slots := 0, locals := 21 }
def f_X4_handsOf (u : St) (l1 : Int32) : Option (Int32) :=
  (f_X4_has u l1).bind fun q1 =>
  if q1 = 0 then
    some 0
  else
    if inb l1 12 = true then
    some (u 19 l1.toNatClampNeg)
    else none
def rm_X4_lengthOf : Room := { frames := 1, cells := 0, slots := 0, locals := 21 }
def f_X4_lengthOf (u : St) (l1 : Int32) : Option (Int32) :=
  (f_X4_has u l1).bind fun q1 =>
  if q1 = 0 then
    some 0
  else
    if inb l1 12 = true then
    some ((u 18 l1.toNatClampNeg) - (u 17 l1.toNatClampNeg))
    else none
def rm_X6_fits : Room := { frames := 7, cells := 0, slots := 0, locals := 163 }
def f_X6_fits (u : St) (l1 : Int32) : Option (Int32 × St) :=
  (f_X4_has u l1).bind fun q1 =>
  if q1 = 0 then
    (f_X6_finding u 1).bind fun q15 =>
    some (q15.1, q15.2)
  else
    (f_X4_lookBefore u l1).bind fun q4 =>
    (f_X4_lookAfter u l1).bind fun q6 =>
    (f_X4_handsOf u l1).bind fun q8 =>
    (f_X1_findBest u q4 q6 q8 (u 0 9)).bind fun q10 =>
    (f_X4_lengthOf q10 l1).bind fun q12 =>
    if q12 < (q10 7 17) then
      some (0, q10)
    else
      some (1, q10)
def rm_J7_fill_23 : Room := { frames := 0, cells := 0, slots := 0, locals := 0 }
def f_J7_fill_23_5 : Nat → St → Int32 → Int32 → Int32 → Option (St)
  | 0, _, _, _, _ => none
  | n + 1, u, l1, l2, l3 =>
    if l3 ≤ l2 then
      some u
    else
      if inb l2 144 = true then
      f_J7_fill_23_5 n (up2 u 23 l2.toNatClampNeg l1) l1 (l2 + 1) l3
      else none
def f_J7_fill_23 (u : St) (l1 : Int32) : Option (St) :=
  f_J7_fill_23_5 FU u l1 0 144
def rm_J7_fill_24 : Room := { frames := 0, cells := 0, slots := 0, locals := 0 }
def f_J7_fill_24_5 : Nat → St → Int32 → Int32 → Int32 → Option (St)
  | 0, _, _, _, _ => none
  | n + 1, u, l1, l2, l3 =>
    if l3 ≤ l2 then
      some u
    else
      if inb l2 12 = true then
      f_J7_fill_24_5 n (up2 u 24 l2.toNatClampNeg l1) l1 (l2 + 1) l3
      else none
def f_J7_fill_24 (u : St) (l1 : Int32) : Option (St) :=
  f_J7_fill_24_5 FU u l1 0 12
def rm_J7_fill_25 : Room := { frames := 0, cells := 0, slots := 0, locals := 0 }
def f_J7_fill_25_5 : Nat → St → Int32 → Int32 → Int32 → Option (St)
  | 0, _, _, _, _ => none
  | n + 1, u, l1, l2, l3 =>
    if l3 ≤ l2 then
      some u
    else
      if inb l2 12 = true then
      f_J7_fill_25_5 n (up2 u 25 l2.toNatClampNeg l1) l1 (l2 + 1) l3
      else none
def f_J7_fill_25 (u : St) (l1 : Int32) : Option (St) :=
  f_J7_fill_25_5 FU u l1 0 12
def rm_X3_enqueue : Room := { frames := 1, cells := 0, slots := 0, locals := 22 }
def f_X3_enqueue (u : St) (l1 : Int32) (l2 : Int32) : Option (St) :=
  (f_X6_isWithin u l1 0 11).bind fun q1 =>
  if q1 = 0 then
    some u
  else
    if inb l1 12 = true then
    if 0 ≤ (u 25 l1.toNatClampNeg) then
      some u
    else
      if 12 ≤ (u 21 6) then
        some u
      else
        if inb (u 21 6) 12 = true then
        some (up2 (up2 (up2 u 25 l1.toNatClampNeg l2) 26 (u 21 6).toNatClampNeg l1) 21 6 ((u 21 6) + 1))
        else none
    else none
def rm_X4_mayGo : Room := { frames := 2, cells := 0, slots := 0, locals := 44 }
def f_X4_mayGo (u : St) (l1 : Int32) (l2 : Int32) : Option (Int32) :=
  (f_X4_has u l1).bind fun q1 =>
  if q1 = 0 then
    some 0
  else
    (f_X4_has u l2).bind fun q4 =>
    if q4 = 0 then
      some 0
    else
      if inb l2 12 = true then
      if inb l1 12 = true then
      (f_X6_doorIn u (u 16 l1.toNatClampNeg)).bind fun q9 =>
      (f_X6_doorIn u (u 16 l2.toNatClampNeg)).bind fun q11 =>
      (f_X4_wayBetween u q9 q11).bind fun q13 =>
      if (u 17 l2.toNatClampNeg) < ((u 18 l1.toNatClampNeg) + q13) then
        some 0
      else
        some 1
      else none
      else none
def rm_X3_goingBetween : Room := { frames := 1, cells := 0, slots := 0, locals := 22 }
def f_X3_goingBetween (u : St) (l1 : Int32) (l2 : Int32) : Option (Int32) :=
  (f_X6_isWithin u l1 0 11).bind fun q1 =>
  if q1 = 0 then
    some 0
  else
    (f_X6_isWithin u l2 0 11).bind fun q4 =>
    if q4 = 0 then
      some 0
    else
      if inb ((l1 * 12) + l2) 144 = true then
      some (u 23 ((l1 * 12) + l2).toNatClampNeg)
      else none
def rm_X3_enqueueThoseGoingTo : Room := { frames := 2, cells := 0, slots := 0, locals := 44 }
def f_X3_enqueueThoseGoingTo_2 : Nat → St → Int32 → Int32 → Option (St)
  | 0, _, _, _ => none
  | n + 1, u, l1, l2 =>
    if 12 ≤ l2 then
      some u
    else
      (f_X3_goingBetween u l2 l1).bind fun q2 =>
      if q2 ≤ 0 then
        f_X3_enqueueThoseGoingTo_2 n u l1 (l2 + 1)
      else
        (f_X3_enqueue u l2 l1).bind fun q5 =>
        f_X3_enqueueThoseGoingTo_2 n q5 l1 (l2 + 1)
def f_X3_enqueueThoseGoingTo (u : St) (l1 : Int32) : Option (St) :=
  f_X3_enqueueThoseGoingTo_2 FU u l1 0
def rm_X3_search : Room := { frames := 3, cells := 0, slots := 0, locals := 66 }
def f_X3_search_53 (k29 : St → Int32 → Option (Int32 × St)) : Nat → St → Int32 → Int32 → Int32 → Option (Int32 × St)
  | 0, _, _, _, _ => none
  | n + 1, u, l2, l3, l4 =>
    if 12 ≤ l4 then
      k29 u (l2 + 1)
    else
      if inb l4 12 = true then
      if 0 ≤ (u 24 l4.toNatClampNeg) then
        f_X3_search_53 k29 n u l2 l3 (l4 + 1)
      else
        (f_X4_mayGo u l3 l4).bind fun q4 =>
        if q4 = 0 then
          f_X3_search_53 k29 n u l2 l3 (l4 + 1)
        else
          if (u 22 l4.toNatClampNeg) ≤ 0 then
            (f_X3_enqueueThoseGoingTo (up2 u 24 l4.toNatClampNeg l3) l4).bind fun q8 =>
            f_X3_search_53 k29 n q8 l2 l3 (l4 + 1)
          else
            some (l4, (up2 u 24 l4.toNatClampNeg l3))
      else none
def f_X3_search_29 : Nat → St → Int32 → Option (Int32 × St)
  | 0, _, _ => none
  | n + 1, u, l2 =>
    if (u 21 6) ≤ l2 then
      some ((-1), u)
    else
      if 12 ≤ l2 then
        some ((-1), u)
      else
        if inb l2 12 = true then
        f_X3_search_53 (f_X3_search_29 n) FU u l2 (u 26 l2.toNatClampNeg) 0
        else none
def f_X3_search (u : St) (l1 : Int32) : Option (Int32 × St) :=
  (f_J7_fill_24 u (-1)).bind fun q13 =>
  (f_J7_fill_25 q13 (-1)).bind fun q15 =>
  (f_X3_enqueue (up2 q15 21 6 0) l1 l1).bind fun q17 =>
  f_X3_search_29 FU q17 0
def rm_X3_noteGoing : Room := { frames := 1, cells := 0, slots := 0, locals := 22 }
def f_X3_noteGoing (u : St) (l1 : Int32) (l2 : Int32) (l3 : Int32) : Option (St) :=
  (f_X6_isWithin u l1 0 11).bind fun q1 =>
  if q1 = 0 then
    some u
  else
    (f_X6_isWithin u l2 0 11).bind fun q4 =>
    if q4 = 0 then
      some u
    else
      if inb ((l1 * 12) + l2) 144 = true then
      some (up2 u 23 ((l1 * 12) + l2).toNatClampNeg ((u 23 ((l1 * 12) + l2).toNatClampNeg) + l3))
      else none
def rm_X3_settle : Room := { frames := 2, cells := 0, slots := 0, locals := 45 }
def f_X3_settle_26 : Nat → St → Int32 → Int32 → Int32 → Option (St)
  | 0, _, _, _, _ => none
  | n + 1, u, l1, l3, l4 =>
    if 12 ≤ l4 then
      some u
    else
      (f_X6_isWithin u l3 0 11).bind fun q2 =>
      if q2 = 0 then
        some u
      else
        if inb l3 12 = true then
        (f_X3_noteGoing u (u 24 l3.toNatClampNeg) l3 1).bind fun q6 =>
        if (u 24 l3.toNatClampNeg) = l1 then
          some q6
        else
          (f_X6_isWithin q6 (u 24 l3.toNatClampNeg) 0 11).bind fun q9 =>
          if q9 = 0 then
            some q6
          else
            if inb (u 24 l3.toNatClampNeg) 12 = true then
            (f_X3_noteGoing q6 (u 24 l3.toNatClampNeg) (q6 25 (u 24 l3.toNatClampNeg).toNatClampNeg) (-1)).bind fun q13 =>
            f_X3_settle_26 n q13 l1 (q6 25 (u 24 l3.toNatClampNeg).toNatClampNeg) (l4 + 1)
            else none
        else none
def f_X3_settle (u : St) (l1 : Int32) (l2 : Int32) : Option (St) :=
  (f_X6_isWithin u l2 0 11).bind fun q15 =>
  if q15 = 0 then
    some u
  else
    if inb l2 12 = true then
    f_X3_settle_26 FU (up2 u 22 l2.toNatClampNeg ((u 22 l2.toNatClampNeg) - 1)) l1 l2 0
    else none
def rm_X3_sendOn : Room := { frames := 4, cells := 0, slots := 0, locals := 90 }
def f_X3_sendOn_14 : Nat → St → Int32 → Int32 → Int32 → Int32 → Option (Int32 × St)
  | 0, _, _, _, _, _ => none
  | n + 1, u, l1, l2, l3, l4 =>
    if l3 ≤ l4 then
      some (l2, u)
    else
      (f_X3_search u l1).bind fun q2 =>
      if 0 ≤ q2.1 then
        (f_X3_settle q2.2 l1 q2.1).bind fun q5 =>
        f_X3_sendOn_14 n q5 l1 (l2 + 1) l3 (l4 + 1)
      else
        some (l2, q2.2)
def f_X3_sendOn (u : St) (l1 : Int32) : Option (Int32 × St) :=
  (f_X4_handsOf u l1).bind fun q7 =>
  f_X3_sendOn_14 FU u l1 0 q7 0
def rm_X3_fewest : Room := { frames := 5, cells := 0, slots := 0, locals := 115 }
def f_X3_fewest_49 : Nat → St → Int32 → Int32 → Option (Int32 × St)
  | 0, _, _, _ => none
  | n + 1, u, l1, l2 =>
    if 12 ≤ l2 then
      some (l1, u)
    else
      (f_X3_sendOn u l2).bind fun q2 =>
      f_X3_fewest_49 n q2.2 (l1 - q2.1) (l2 + 1)
def f_X3_fewest_12 : Nat → St → Int32 → Int32 → Option (Int32 × St)
  | 0, _, _, _ => none
  | n + 1, u, l1, l2 =>
    if 12 ≤ l2 then
      f_X3_fewest_49 FU u l1 0
    else
      (f_X4_handsOf u l2).bind fun q5 =>
      if inb l2 12 = true then
      f_X3_fewest_12 n (up2 u 22 l2.toNatClampNeg q5) (l1 + (upd (u 22) l2.toNatClampNeg q5 l2.toNatClampNeg)) (l2 + 1)
      else none
def f_X3_fewest (u : St) : Option (Int32 × St) :=
  (f_J7_fill_23 u 0).bind fun q8 =>
  f_X3_fewest_12 FU q8 0 0
def rm_X6_dressers : Room := { frames := 6, cells := 0, slots := 0, locals := 137 }
def f_X6_dressers (u : St) : Option (Int32 × St) :=
  (f_X3_fewest u).bind fun q1 =>
  some (q1.1, q1.2)
def rm_X6_worn : Room := { frames := 3, cells := 0, slots := 0, locals := 67 }
def f_X6_worn (u : St) (l1 : Int32) : Option (Int32 × St) :=
  (f_X5_has u l1).bind fun q1 =>
  if q1 = 0 then
    (f_X6_finding u 1).bind fun q11 =>
    some (q11.1, q11.2)
  else
    (f_X5_fact u l1 8).bind fun q4 =>
    if q4 = 0 then
      (f_X5_place u l1 1 0).bind fun q7 =>
      some (1, q7)
    else
      (f_X6_finding u 3).bind fun q9 =>
      some (q9.1, q9.2)
def rm_X5_countInWash : Room := { frames := 2, cells := 0, slots := 0, locals := 43 }
def f_X5_countInWash_4 (u : St) : Nat → Int32 → Int32 → Option (Int32)
  | 0, _, _ => none
  | n + 1, l1, l2 =>
    if (u 1 1) ≤ l2 then
      some l1
    else
      (f_X5_fact u l2 8).bind fun q2 =>
      if q2 = 2 then
        f_X5_countInWash_4 u n (l1 + 1) (l2 + 1)
      else
        f_X5_countInWash_4 u n l1 (l2 + 1)
def f_X5_countInWash (u : St) : Option (Int32) :=
  f_X5_countInWash_4 u FU 0 0
def rm_X5_soak : Room := { frames := 3, cells := 0, slots := 0, locals := 67 }
def f_X5_soak (u : St) (l1 : Int32) : Option (Int32 × St) :=
  (f_X5_place u l1 2 ((u 1 2) + 2)).bind fun q1 =>
  (f_X5_fact q1 l1 2).bind fun q3 =>
  some ((((u 1 2) + 2) + q3), q1)
def rm_X6_wash : Room := { frames := 4, cells := 0, slots := 0, locals := 89 }
def f_X6_wash (u : St) (l1 : Int32) : Option (Int32 × St) :=
  (f_X5_has u l1).bind fun q1 =>
  if q1 = 0 then
    (f_X6_finding u 1).bind fun q16 =>
    some (q16.1, q16.2)
  else
    (f_X5_fact u l1 8).bind fun q4 =>
    if q4 = 1 then
      (f_X5_countInWash u).bind fun q7 =>
      if q7 < 6 then
        (f_X5_soak u l1).bind fun q10 =>
        some (q10.1, q10.2)
      else
        (f_X6_finding u 4).bind fun q12 =>
        some (q12.1, q12.2)
    else
      (f_X6_finding u 3).bind fun q14 =>
      some (q14.1, q14.2)
def rm_X5_dries : Room := { frames := 3, cells := 0, slots := 0, locals := 67 }
def f_X5_dries_45 (u : St) (l1 : Int32) : Option (Int32 × St) :=
  (f_X5_fact u l1 8).bind fun q1 =>
  if q1 = 3 then
    (f_X5_fact u l1 9).bind fun q4 =>
    if (u 1 2) < q4 then
      some (0, u)
    else
      (f_X5_place u l1 0 0).bind fun q7 =>
      some (1, q7)
  else
    some (0, u)
def f_X5_dries (u : St) (l1 : Int32) : Option (Int32 × St) :=
  (f_X5_fact u l1 8).bind fun q9 =>
  if q9 = 2 then
    (f_X5_fact u l1 9).bind fun q12 =>
    if (u 1 2) < q12 then
      f_X5_dries_45 u l1
    else
      (f_X5_fact u l1 9).bind fun q15 =>
      (f_X5_fact u l1 2).bind fun q17 =>
      (f_X5_place u l1 3 (q15 + q17)).bind fun q19 =>
      f_X5_dries_45 q19 l1
  else
    f_X5_dries_45 u l1
def rm_X5_passHours : Room := { frames := 4, cells := 0, slots := 0, locals := 88 }
def f_X5_passHours_14 : Nat → St → Int32 → Int32 → Option (Int32 × St)
  | 0, _, _, _ => none
  | n + 1, u, l2, l3 =>
    if (u 1 1) ≤ l3 then
      some (l2, u)
    else
      (f_X5_dries u l3).bind fun q2 =>
      if q2.1 = 0 then
        f_X5_passHours_14 n q2.2 l2 (l3 + 1)
      else
        f_X5_passHours_14 n q2.2 (l2 + 1) (l3 + 1)
def f_X5_passHours (u : St) (l1 : Int32) : Option (Int32 × St) :=
  f_X5_passHours_14 FU (up2 u 1 2 ((u 1 2) + l1)) 0 0
def rm_X6_hours : Room := { frames := 5, cells := 0, slots := 0, locals := 111 }
def f_X6_hours (u : St) (l1 : Int32) : Option (Int32 × St) :=
  (f_X6_isWithin u l1 1 100).bind fun q1 =>
  if q1 = 0 then
    (f_X6_finding u 1).bind fun q9 =>
    some (q9.1, q9.2)
  else
    if ((u 1 2) + l1) ≤ 100000 then
      (f_X5_passHours u l1).bind fun q5 =>
      some (q5.1, q5.2)
    else
      (f_X6_finding u 4).bind fun q7 =>
      some (q7.1, q7.2)
def rm_X5_sizesAway : Room := { frames := 2, cells := 0, slots := 0, locals := 43 }
def f_X5_sizesAway (u : St) (l1 : Int32) (l2 : Int32) : Option (Int32) :=
  (f_X5_fact u l1 6).bind fun q1 =>
  (f_X5_fact u l1 7).bind fun q3 =>
  some (jmax 0 (jmax (q1 - l2) (l2 - (q1 + q3))))
def rm_X5_areAlike : Room := { frames := 3, cells := 0, slots := 0, locals := 65 }
def f_X5_areAlike (u : St) (l1 : Int32) (l2 : Int32) : Option (Int32) :=
  (f_X5_haveOnePlace u l1 l2).bind fun q1 =>
  if q1 = 0 then
    some 0
  else
    (f_X5_fact u l1 5).bind fun q4 =>
    (f_X5_fact u l2 5).bind fun q6 =>
    if q4 = q6 then
      some 1
    else
      some 0
def rm_X6_countAheadForSwap : Room := { frames := 4, cells := 0, slots := 0, locals := 87 }
def f_X6_countAheadForSwap_39 (u : St) : Nat → Int32 → Int32 → Int32 → Int32 → Int32 → Int32 → Int32 → Int32 → Option (Int32)
  | 0, _, _, _, _, _, _, _, _ => none
  | n + 1, l1, l2, l3, l4, l5, l6, l7, l8 =>
    if l7 ≤ l8 then
      some l6
    else
      (f_X2_at u l1 l8).bind fun q2 =>
      (f_X5_sizesAway u q2 l3).bind fun q4 =>
      (f_X5_areAlike u l4 q2).bind fun q6 =>
      if q6 = 0 then
        f_X6_countAheadForSwap_39 u n l1 l2 l3 l4 l5 l6 l7 (l8 + 1)
      else
        if l5 < q4 then
          f_X6_countAheadForSwap_39 u n l1 l2 l3 l4 l5 (l6 + 1) l7 (l8 + 1)
        else
          if q4 = l5 then
            if l2 ≤ l8 then
              f_X6_countAheadForSwap_39 u n l1 l2 l3 l4 l5 l6 l7 (l8 + 1)
            else
              f_X6_countAheadForSwap_39 u n l1 l2 l3 l4 l5 (l6 + 1) l7 (l8 + 1)
          else
            f_X6_countAheadForSwap_39 u n l1 l2 l3 l4 l5 l6 l7 (l8 + 1)
def f_X6_countAheadForSwap (u : St) (l1 : Int32) (l2 : Int32) (l3 : Int32) : Option (Int32) :=
  (f_X2_at u l1 l2).bind fun q12 =>
  (f_X5_sizesAway u q12 l3).bind fun q14 =>
  (f_X2_sizeOf u l1).bind fun q16 =>
  f_X6_countAheadForSwap_39 u FU l1 l2 l3 q12 q14 0 q16 0
def rm_X2_isInNone : Room := { frames := 1, cells := 0, slots := 0, locals := 22 }
def f_X2_isInNone (u : St) (l1 : Int32) : Option (Int32) :=
  (f_X6_isWithin u l1 0 31).bind fun q1 =>
  if q1 = 0 then
    some 0
  else
    if inb l1 32 = true then
    if (u 6 l1.toNatClampNeg) = 0 then
      some 1
    else
      some 0
    else none
def rm_X6_countSpares : Room := { frames := 4, cells := 0, slots := 0, locals := 87 }
def f_X6_countSpares_5 (u : St) : Nat → Int32 → Int32 → Int32 → Int32 → Option (Int32)
  | 0, _, _, _, _ => none
  | n + 1, l1, l2, l3, l4 =>
    if 32 ≤ l4 then
      some l3
    else
      (f_X5_has u l4).bind fun q2 =>
      if q2 = 0 then
        f_X6_countSpares_5 u n l1 l2 l3 (l4 + 1)
      else
        (f_X5_areAlike u l1 l4).bind fun q5 =>
        if q5 = 0 then
          f_X6_countSpares_5 u n l1 l2 l3 (l4 + 1)
        else
          (f_X5_sizesAway u l4 l2).bind fun q8 =>
          if q8 = 0 then
            (f_X5_fact u l4 8).bind fun q11 =>
            if q11 = 0 then
              (f_X2_isInNone u l4).bind fun q14 =>
              if q14 = 0 then
                f_X6_countSpares_5 u n l1 l2 l3 (l4 + 1)
              else
                f_X6_countSpares_5 u n l1 l2 (l3 + 1) (l4 + 1)
            else
              f_X6_countSpares_5 u n l1 l2 l3 (l4 + 1)
          else
            f_X6_countSpares_5 u n l1 l2 l3 (l4 + 1)
def f_X6_countSpares (u : St) (l1 : Int32) (l2 : Int32) : Option (Int32) :=
  f_X6_countSpares_5 u FU l1 l2 0 0
def rm_X6_costTonight : Room := { frames := 5, cells := 0, slots := 0, locals := 117 }
def f_X6_costTonight (u : St) (l1 : Int32) (l2 : Int32) (l3 : Int32) : Option (Int32) :=
  (f_X2_at u l1 l2).bind fun q1 =>
  (f_X5_sizesAway u q1 l3).bind fun q3 =>
  if q3 = 0 then
    some 0
  else
    (f_X6_countAheadForSwap u l1 l2 l3).bind fun q6 =>
    (f_X6_countSpares u q1 l3).bind fun q8 =>
    if q8 ≤ q6 then
      some (10 * q3)
    else
      some 1
def rm_X6_tonight : Room := { frames := 6, cells := 0, slots := 0, locals := 142 }
def f_X6_tonight_43 : Nat → St → Int32 → Int32 → Int32 → Int32 → Int32 → Option (Int32 × St)
  | 0, _, _, _, _, _, _ => none
  | n + 1, u, l1, l2, l3, l4, l5 =>
    if l4 ≤ l5 then
      some (l3, u)
    else
      (f_X6_costTonight u l1 l5 l2).bind fun q2 =>
      f_X6_tonight_43 n u l1 l2 (l3 + q2) l4 (l5 + 1)
def f_X6_tonight (u : St) (l1 : Int32) (l2 : Int32) : Option (Int32 × St) :=
  (f_X2_has u l1).bind fun q4 =>
  if q4 = 0 then
    (f_X6_finding u 1).bind fun q7 =>
    some (q7.1, q7.2)
  else
    (f_X6_isWithin u l2 30 66).bind fun q9 =>
    if q9 = 0 then
      (f_X6_finding u 1).bind fun q14 =>
      some (q14.1, q14.2)
    else
      (f_X2_sizeOf u l1).bind fun q12 =>
      f_X6_tonight_43 FU u l1 l2 0 q12 0
def rm_X6_tell : Room := { frames := 2, cells := 0, slots := 0, locals := 43 }
def f_X6_tell (u : St) (l1 : Int32) : Option (Int32 × St) :=
  if (u 0 8) < 30 then
    if inb (u 0 8) 30 = true then
    some (((u 0 8) + 1), (up2 (up2 u 29 (u 0 8).toNatClampNeg l1) 0 8 ((u 0 8) + 1)))
    else none
  else
    (f_X6_finding u 4).bind fun q3 =>
    some (q3.1, q3.2)
def rm_J7_fill_28 : Room := { frames := 0, cells := 0, slots := 0, locals := 0 }
def f_J7_fill_28_5 : Nat → St → Int32 → Int32 → Int32 → Option (St)
  | 0, _, _, _, _ => none
  | n + 1, u, l1, l2, l3 =>
    if l3 ≤ l2 then
      some u
    else
      if inb l2 32 = true then
      f_J7_fill_28_5 n (up2 u 28 l2.toNatClampNeg l1) l1 (l2 + 1) l3
      else none
def f_J7_fill_28 (u : St) (l1 : Int32) : Option (St) :=
  f_J7_fill_28_5 FU u l1 0 32
def rm_X0_undress : Room := { frames := 1, cells := 0, slots := 0, locals := 23 }
def f_X0_undress (u : St) : Option (St) :=
  (f_J7_fill_28 u 0).bind fun q1 =>
  some (up2 q1 27 2 0)
def rm_X0_hasOn : Room := { frames := 1, cells := 0, slots := 0, locals := 21 }
def f_X0_hasOn (u : St) (l1 : Int32) : Option (Int32) :=
  (f_X5_has u l1).bind fun q1 =>
  if q1 = 0 then
    some 0
  else
    if 32 ≤ l1 then
      some 0
    else
      if inb l1 32 = true then
      if (u 28 l1.toNatClampNeg) ≤ 0 then
        some 0
      else
        some 1
      else none
def rm_X0_putOn : Room := { frames := 2, cells := 0, slots := 0, locals := 42 }
def f_X0_putOn (u : St) (l1 : Int32) : Option (Int32 × St) :=
  (f_X5_has u l1).bind fun q1 =>
  if q1 = 0 then
    some (0, u)
  else
    (f_X0_hasOn u l1).bind fun q4 =>
    if q4 = 0 then
      if inb l1 32 = true then
      some (1, (up2 (up2 u 27 2 ((u 27 2) + 1)) 28 l1.toNatClampNeg ((u 27 2) + 1)))
      else none
    else
      some (0, u)
def rm_X6_dressForChange : Room := { frames := 3, cells := 0, slots := 0, locals := 63 }
def f_X6_dressForChange_73 : Nat → St → Int32 → Int32 → Int32 → Option (St)
  | 0, _, _, _, _ => none
  | n + 1, u, l1, l4, l6 =>
    if l4 ≤ l6 then
      some u
    else
      (f_X2_at u l1 l6).bind fun q2 =>
      (f_X0_putOn u q2).bind fun q4 =>
      f_X6_dressForChange_73 n q4.2 l1 l4 (l6 + 1)
def f_X6_dressForChange_30 : Nat → St → Int32 → Int32 → Int32 → Int32 → Int32 → Int32 → Option (St)
  | 0, _, _, _, _, _, _, _ => none
  | n + 1, u, l1, l2, l3, l4, l5, l6 =>
    if l5 ≤ l6 then
      f_X6_dressForChange_73 FU u l1 l4 0
    else
      (f_X6_hasBit u l3 l6).bind fun q7 =>
      if q7 = 0 then
        f_X6_dressForChange_30 n u l1 l2 l3 l4 l5 (l6 + 1)
      else
        (f_X2_at u l2 l6).bind fun q10 =>
        (f_X0_putOn u q10).bind fun q12 =>
        f_X6_dressForChange_30 n q12.2 l1 l2 l3 l4 l5 (l6 + 1)
def f_X6_dressForChange (u : St) (l1 : Int32) (l2 : Int32) (l3 : Int32) : Option (St) :=
  (f_X2_sizeOf u l1).bind fun q14 =>
  (f_X2_sizeOf u l2).bind fun q16 =>
  (f_X0_undress u).bind fun q18 =>
  f_X6_dressForChange_30 FU q18 l1 l2 l3 q14 q16 0
def rm_X0_liesOver : Room := { frames := 3, cells := 0, slots := 0, locals := 65 }
def f_X0_liesOver (u : St) (l1 : Int32) (l2 : Int32) : Option (Int32) :=
  (f_X0_hasOn u l1).bind fun q1 =>
  if q1 = 0 then
    some 0
  else
    (f_X0_hasOn u l2).bind fun q4 =>
    if q4 = 0 then
      some 0
    else
      if inb l1 32 = true then
      if inb l2 32 = true then
      if (u 28 l1.toNatClampNeg) ≤ (u 28 l2.toNatClampNeg) then
        some 0
      else
        (f_X5_haveOnePlace u l1 l2).bind fun q10 =>
        if q10 = 0 then
          some 0
        else
          some 1
      else none
      else none
def rm_X0_takeOff : Room := { frames := 4, cells := 0, slots := 0, locals := 87 }
def f_X0_takeOff_12 : Nat → St → Int32 → Int32 → Option (Int32 × St)
  | 0, _, _, _ => none
  | n + 1, u, l1, l2 =>
    if 32 ≤ l2 then
      if inb l1 32 = true then
      some (1, (up2 u 28 l1.toNatClampNeg 0))
      else none
    else
      (f_X0_liesOver u l2 l1).bind fun q3 =>
      if q3 = 0 then
        f_X0_takeOff_12 n u l1 (l2 + 1)
      else
        some (0, u)
def f_X0_takeOff (u : St) (l1 : Int32) : Option (Int32 × St) :=
  (f_X0_hasOn u l1).bind fun q6 =>
  if q6 = 0 then
    some (0, u)
  else
    f_X0_takeOff_12 FU u l1 0
def rm_X0_handle : Room := { frames := 5, cells := 0, slots := 0, locals := 109 }
def f_X0_handle (u : St) (l1 : Int32) : Option (Int32 × St) :=
  if l1 < 0 then
    (f_X0_takeOff u ((-1) - l1)).bind fun q2 =>
    if q2.1 = 0 ∨ q2.1 = 1 then some (q2.1, q2.2) else none
  else
    (f_X0_putOn u l1).bind fun q5 =>
    if q5.1 = 0 ∨ q5.1 = 1 then some (q5.1, q5.2) else none
def rm_X0_countWorn : Room := { frames := 0, cells := 0, slots := 0, locals := 0 }
def f_X0_countWorn_4 (u : St) : Nat → Int32 → Int32 → Option (Int32)
  | 0, _, _ => none
  | n + 1, l1, l2 =>
    if 32 ≤ l2 then
      some l1
    else
      if inb l2 32 = true then
      if (u 28 l2.toNatClampNeg) ≤ 0 then
        f_X0_countWorn_4 u n l1 (l2 + 1)
      else
        f_X0_countWorn_4 u n (l1 + 1) (l2 + 1)
      else none
def f_X0_countWorn (u : St) : Option (Int32) :=
  f_X0_countWorn_4 u FU 0 0
def rm_X6_isJustWorn : Room := { frames := 4, cells := 0, slots := 0, locals := 87 }
def f_X6_isJustWorn_57 (k24 : Int32 → Int32 → Int32 → Option (Int32)) (u : St) : Nat → Int32 → Int32 → Int32 → Int32 → Int32 → Option (Int32)
  | 0, _, _, _, _, _ => none
  | n + 1, l1, l2, l3, l4, l5 =>
    if l3 ≤ l5 then
      k24 l1 l2 (l3 + 1)
    else
      (f_X2_at u l1 l5).bind fun q2 =>
      (f_X0_liesOver u q2 l4).bind fun q4 =>
      if q4 = 0 then
        f_X6_isJustWorn_57 k24 u n l1 l2 l3 l4 (l5 + 1)
      else
        some 0
def f_X6_isJustWorn_24 (u : St) : Nat → Int32 → Int32 → Int32 → Option (Int32)
  | 0, _, _, _ => none
  | n + 1, l1, l2, l3 =>
    if l2 ≤ l3 then
      some 1
    else
      (f_X2_at u l1 l3).bind fun q8 =>
      (f_X0_hasOn u q8).bind fun q10 =>
      if q10 = 0 then
        some 0
      else
        f_X6_isJustWorn_57 (f_X6_isJustWorn_24 u n) u FU l1 l2 l3 q8 0
def f_X6_isJustWorn (u : St) (l1 : Int32) : Option (Int32) :=
  (f_X2_sizeOf u l1).bind fun q13 =>
  (f_X0_countWorn u).bind fun q15 =>
  if q15 = q13 then
    f_X6_isJustWorn_24 u FU l1 q13 0
  else
    some 0
def rm_X6_check : Room := { frames := 7, cells := 0, slots := 0, locals := 161 }
def f_X6_check_95 (u : St) (l2 : Int32) : Option (Int32 × St) :=
  (f_X6_isJustWorn u l2).bind fun q1 =>
  if q1 = 0 then
    some (99, u)
  else
    some (0, u)
def f_X6_check_53 : Nat → St → Int32 → Int32 → Int32 → Option (Int32 × St)
  | 0, _, _, _, _ => none
  | n + 1, u, l2, l4, l5 =>
    if l4 ≤ l5 then
      f_X6_check_95 u l2
    else
      if 30 ≤ l5 then
        f_X6_check_95 u l2
      else
        if inb l5 30 = true then
        (f_X0_handle u (u 29 l5.toNatClampNeg)).bind fun q7 =>
        if q7.1 = 0 then
          some ((1 + l5), q7.2)
        else
          f_X6_check_53 n q7.2 l2 l4 (l5 + 1)
        else none
def f_X6_check (u : St) (l1 : Int32) (l2 : Int32) (l3 : Int32) : Option (Int32 × St) :=
  (f_X6_isChange u l1 l2 l3).bind fun q10 =>
  if q10 = 0 then
    (f_X6_finding u 1).bind fun q20 =>
    some (q20.1, q20.2)
  else
    (f_X6_isAllowed (up2 u 0 8 0) l1 l2 l3).bind fun q13 =>
    if q13.1 = 0 then
      (f_X6_finding q13.2 3).bind fun q18 =>
      some (q18.1, q18.2)
    else
      (f_X6_dressForChange q13.2 l1 l2 l3).bind fun q16 =>
      f_X6_check_53 FU q16 l2 (u 0 8) 0
def rm_X6_count : Room := { frames := 3, cells := 0, slots := 0, locals := 65 }
def f_X6_count (u : St) (l1 : Int32) : Option (Int32 × St) :=
  if l1 = 0 then
    some ((u 1 1), u)
  else
    if l1 = 1 then
      some ((u 15 5), u)
    else
      if l1 = 2 then
        some ((u 1 2), u)
      else
        if l1 = 3 then
          some ((u 0 8), u)
        else
          if l1 = 4 then
            (f_X5_countInWash u).bind fun q6 =>
            some (q6, u)
          else
            if l1 = 5 then
              some ((u 0 9), u)
            else
              (f_X6_finding u 1).bind fun q9 =>
              some (q9.1, q9.2)
def rm_X6_found : Room := { frames := 2, cells := 0, slots := 0, locals := 43 }
def f_X6_found (u : St) (l1 : Int32) : Option (Int32 × St) :=
  (f_X6_isWithin u l1 1 5).bind fun q1 =>
  if q1 = 0 then
    (f_X6_finding u 1).bind fun q4 =>
    some (q4.1, q4.2)
  else
    if inb l1 6 = true then
    some ((u 30 l1.toNatClampNeg), u)
    else none
