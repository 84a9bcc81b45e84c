def fX0_isDay (p0 : Int32) : Option (Int32) :=
  if p0 < 0 then (
    some 0
  ) else (
    if 109572 < p0 then (
      some 0
    ) else (
      some 1
    )
  )
def fX0_weekdayOf (p0 : Int32) : Option (Int32) :=
  some (p0 - p0 / 7 * 7)
def fX0_yearStart (p0 : Int32) : Option (Int32) :=
  bnd ((p0 - 1) : Int32) fun x1 =>
  bnd (((((x1 / 4) - (x1 / 100)) + (x1 / 400)) - 460) : Int32) fun x2 =>
  some (((p0 - 1900) * 365) + x2)
def fX0_monthLength (p0 p1 : Int32) : Option (Int32) :=
  if p0 < 1 then (
    some 0
  ) else (
    if p0 ≤ 12 then (
      if (p1 - p1 / 4 * 4) = 0 then (
        if (p1 - p1 / 100 * 100) = 0 then (
          if (p1 - p1 / 400 * 400) = 0 then (
            if p0 = 2 then (
              some 29
            ) else (
              bnd ((p0 - 1) : Int32) fun x28 =>
              ix x28 12 <|
              some (tML (Int32.toNatClampNeg x28))
            )
          ) else (
            if p0 = 2 then (
              bnd ((p0 - 1) : Int32) fun x25 =>
              ix x25 12 <|
              some (tML (Int32.toNatClampNeg x25))
            ) else (
              bnd ((p0 - 1) : Int32) fun x22 =>
              ix x22 12 <|
              some (tML (Int32.toNatClampNeg x22))
            )
          )
        ) else (
          if p0 = 2 then (
            some 29
          ) else (
            bnd ((p0 - 1) : Int32) fun x17 =>
            ix x17 12 <|
            some (tML (Int32.toNatClampNeg x17))
          )
        )
      ) else (
        if (p1 - p1 / 400 * 400) = 0 then (
          if p0 = 2 then (
            some 29
          ) else (
            bnd ((p0 - 1) : Int32) fun x12 =>
            ix x12 12 <|
            some (tML (Int32.toNatClampNeg x12))
          )
        ) else (
          if p0 = 2 then (
            bnd ((p0 - 1) : Int32) fun x9 =>
            ix x9 12 <|
            some (tML (Int32.toNatClampNeg x9))
          ) else (
            bnd ((p0 - 1) : Int32) fun x6 =>
            ix x6 12 <|
            some (tML (Int32.toNatClampNeg x6))
          )
        )
      )
    ) else (
      some 0
    )
  )
def fX0_dayNumber_42 : Nat → Int32 → Int32 → Int32 → Int32 → Option (Int32)
  | 0, _, _, _, _ => none
  | n + 1, x_1, x_2, x_3, x_4 =>
    if x_1 ≤ x_4 then (
      some x_3
    ) else (
      ob (fX0_monthLength x_4 x_2) fun o2 =>
      bnd ((x_3 + o2) : Int32) fun x3 =>
      bnd (x_4 + 1 : Int32) fun x4 =>
      fX0_dayNumber_42 n x_1 x_2 x3 x4
    )
def fX0_dayNumber (p0 p1 p2 : Int32) : Option (Int32) :=
  if p2 < 1900 then (
    some (-1)
  ) else (
    if 2199 < p2 then (
      some (-1)
    ) else (
      if p0 < 1 then (
        some (-1)
      ) else (
        ob (fX0_monthLength p1 p2) fun o8 =>
        if p0 ≤ o8 then (
          ob (fX0_yearStart p2) fun o10 =>
          bnd (((o10 + p0) - 1) : Int32) fun x11 =>
          fX0_dayNumber_42 1000 p1 p2 x11 1
        ) else (
          some (-1)
        )
      )
    )
  )
def fX0_yearOf_10 : Nat → Int32 → Int32 → Option (Int32)
  | 0, _, _ => none
  | n + 1, x_0, x_1 =>
    if 2199 ≤ x_1 then (
      some x_1
    ) else (
      ob (fX0_yearStart (x_1 + 1)) fun o2 =>
      if x_0 < o2 then (
        some x_1
      ) else (
        bnd (x_1 + 1 : Int32) fun x4 =>
        fX0_yearOf_10 n x_0 x4
      )
    )
def fX0_yearOf (p0 : Int32) : Option (Int32) :=
  bnd ((1900 + (p0 / 366)) : Int32) fun x5 =>
  fX0_yearOf_10 1000 p0 x5
def fX0_monthOf_14 : Nat → Int32 → Int32 → Int32 → Option (Int32)
  | 0, _, _, _ => none
  | n + 1, x_1, x_2, x_3 =>
    if 12 ≤ x_3 then (
      some x_3
    ) else (
      ob (fX0_monthLength x_3 x_1) fun o2 =>
      if x_2 < o2 then (
        some x_3
      ) else (
        ob (fX0_monthLength x_3 x_1) fun o4 =>
        bnd ((x_2 - o4) : Int32) fun x5 =>
        bnd (x_3 + 1 : Int32) fun x6 =>
        fX0_monthOf_14 n x_1 x5 x6
      )
    )
def fX0_monthOf (p0 : Int32) : Option (Int32) :=
  ob (fX0_yearOf p0) fun o7 =>
  ob (fX0_yearStart o7) fun o8 =>
  bnd ((p0 - o8) : Int32) fun x9 =>
  fX0_monthOf_14 1000 o7 x9 1
def fX0_dayOfMonth (p0 : Int32) : Option (Int32) :=
  ob (fX0_monthOf p0) fun o1 =>
  ob (fX0_yearOf p0) fun o2 =>
  ob (fX0_dayNumber 1 o1 o2) fun o3 =>
  some ((p0 - o3) + 1)
def fX8_isPrice (p0 : Int32) : Option (Int32) :=
  if p0 < 0 then (
    some 0
  ) else (
    if 1000 < p0 then (
      some 0
    ) else (
      some 1
    )
  )
def fX4_bytesIn_5 : Nat → Int32 → Int32 → Int32 → Option (Int32)
  | 0, _, _, _ => none
  | n + 1, x_0, x_1, x_2 =>
    if x_2 < 0 then (
      some x_1
    ) else (
      if ((Int32.toUInt32 x_0 >>> (Int32.toUInt32 x_2 &&& Int32.toUInt32 31)).toInt32 &&& 255) = 0 then (
        bnd (x_2 + (-8) : Int32) fun x3 =>
        fX4_bytesIn_5 n x_0 x_1 x3
      ) else (
        bnd (x_1 + 1 : Int32) fun x4 =>
        bnd (x_2 + (-8) : Int32) fun x5 =>
        fX4_bytesIn_5 n x_0 x4 x5
      )
    )
def fX4_bytesIn (p0 : Int32) : Option (Int32) :=
  fX4_bytesIn_5 1000 p0 0 24
def fJ9_floorMod_7cf53 (p0 p1 : Int32) : Option (Int32) :=
  nz p1 <|
  bnd ((p0 - p0 / p1 * p1) : Int32) fun x2 =>
  if 0 ≤ (p0 ^^^ p1) then (
    some x2
  ) else (
    if x2 = 0 then (
      some x2
    ) else (
      some (x2 + p1)
    )
  )
def fX9_isIn (p0 p1 p2 : Int32) : Option (Int32) :=
  if p0 < p1 then (
    some 0
  ) else (
    if p2 < p0 then (
      some 0
    ) else (
      some 1
    )
  )
def fX9_isLeap (p0 : Int32) : Option (Int32) :=
  if (p0 - p0 / 4 * 4) = 0 then (
    if (p0 - p0 / 100 * 100) = 0 then (
      if (p0 - p0 / 400 * 400) = 0 then (
        some 1
      ) else (
        some 0
      )
    ) else (
      some 1
    )
  ) else (
    if (p0 - p0 / 400 * 400) = 0 then (
      some 1
    ) else (
      some 0
    )
  )
def fX9_daysOf (p0 p1 : Int32) : Option (Int32) :=
  if p0 = 2 then (
    ob (fX9_isLeap p1) fun o6 =>
    if o6 = 0 then (
      some 28
    ) else (
      some 29
    )
  ) else (
    if p0 = 4 then (
      some 30
    ) else (
      if p0 = 6 then (
        some 30
      ) else (
        if p0 = 9 then (
          some 30
        ) else (
          if p0 = 11 then (
            some 30
          ) else (
            some 31
          )
        )
      )
    )
  )
def fX9_isDate (p0 p1 p2 : Int32) : Option (Int32) :=
  ob (fX9_isIn p2 1900 2199) fun o1 =>
  if o1 = 0 then (
    some 0
  ) else (
    ob (fX9_isIn p1 1 12) fun o3 =>
    if o3 = 0 then (
      some 0
    ) else (
      ob (fX9_daysOf p1 p2) fun o5 =>
      ob (fX9_isIn p0 1 o5) fun o6 =>
      if o6 = 0 then (
        some 0
      ) else (
        some 1
      )
    )
  )
def fX9_numberOf_44 : Nat → Int32 → Int32 → Int32 → Int32 → Option (Int32)
  | 0, _, _, _, _ => none
  | n + 1, x_1, x_2, x_3, x_4 =>
    if x_1 ≤ x_4 then (
      some x_3
    ) else (
      ob (fX9_daysOf x_4 x_2) fun o2 =>
      bnd ((x_3 + o2) : Int32) fun x3 =>
      bnd (x_4 + 1 : Int32) fun x4 =>
      fX9_numberOf_44 n x_1 x_2 x3 x4
    )
def fX9_numberOf_9 : Nat → Int32 → Int32 → Int32 → Int32 → Option (Int32)
  | 0, _, _, _, _ => none
  | n + 1, x_1, x_2, x_3, x_4 =>
    if x_2 ≤ x_4 then (
      fX9_numberOf_44 1000 x_1 x_2 x_3 1
    ) else (
      ob (fX9_isLeap x_4) fun o6 =>
      if o6 = 0 then (
        bnd ((x_3 + 365) : Int32) fun x8 =>
        bnd (x_4 + 1 : Int32) fun x9 =>
        fX9_numberOf_9 n x_1 x_2 x8 x9
      ) else (
        bnd ((x_3 + 366) : Int32) fun x10 =>
        bnd (x_4 + 1 : Int32) fun x11 =>
        fX9_numberOf_9 n x_1 x_2 x10 x11
      )
    )
def fX9_numberOf (p0 p1 p2 : Int32) : Option (Int32) :=
  bnd ((p0 - 1) : Int32) fun x12 =>
  fX9_numberOf_9 1000 p1 p2 x12 1900
def fX9_isDay (p0 : Int32) : Option (Int32) :=
  ob (fX9_isIn p0 0 109572) fun o1 =>
  tv o1 <|
  some o1
def fX9_bytesIn_5 : Nat → Int32 → Int32 → Int32 → Option (Int32)
  | 0, _, _, _ => none
  | n + 1, x_0, x_1, x_2 =>
    if x_2 < 0 then (
      some x_1
    ) else (
      if ((x_0 >>> (x_2 &&& 31)) &&& 255) = 0 then (
        bnd ((x_1 + 0) : Int32) fun x3 =>
        bnd (x_2 + (-8) : Int32) fun x4 =>
        fX9_bytesIn_5 n x_0 x3 x4
      ) else (
        bnd ((x_1 + 1) : Int32) fun x5 =>
        bnd (x_2 + (-8) : Int32) fun x6 =>
        fX9_bytesIn_5 n x_0 x5 x6
      )
    )
def fX9_bytesIn (p0 : Int32) : Option (Int32) :=
  fX9_bytesIn_5 1000 p0 0 24
def fX4_length (st : ST) : Option (Int32) :=
  some (st.1 2)
def fX4_byteAt (st : ST) (p1 : Int32) : Option (Int32) :=
  if p1 < 0 then (
    some (-1)
  ) else (
    if p1 < (st.1 2) then (
      ix p1 24 <|
      some (st.2 0 (Int32.toNatClampNeg p1))
    ) else (
      some (-1)
    )
  )
def fX4_append_3 : Nat → ST → Int32 → Int32 → Option (ST)
  | 0, _, _, _ => none
  | n + 1, st, x_1, x_2 =>
    if x_2 < 0 then (
      some st
    ) else (
      bnd (((Int32.toUInt32 x_1 >>> (Int32.toUInt32 x_2 &&& Int32.toUInt32 31)).toInt32 &&& 255) : Int32) fun x2 =>
      if x2 = 0 then (
        bnd (x_2 + (-8) : Int32) fun x4 =>
        fX4_append_3 n st x_1 x4
      ) else (
        if 24 ≤ (st.1 2) then (
          bnd (x_2 + (-8) : Int32) fun x6 =>
          fX4_append_3 n st x_1 x6
        ) else (
          bnd ((st.1 2) : Int32) fun x7 =>
          ix x7 24 <|
          bnd (setA st 0 (Int32.toNatClampNeg x7) x2) fun s9 =>
          bnd (((s9.1 2) + 1) : Int32) fun x10 =>
          bnd (setS s9 2 x10) fun s11 =>
          bnd (x_2 + (-8) : Int32) fun x12 =>
          fX4_append_3 n s11 x_1 x12
        )
      )
    )
def fX4_append (st : ST) (p1 : Int32) : Option (ST) :=
  fX4_append_3 1000 st p1 24
def fX4_cut (st : ST) (p1 : Int32) : Option (Int32 × ST) :=
  if p1 < 0 then (
    some (0, st)
  ) else (
    if p1 ≤ (st.1 2) then (
      bnd (setS st 2 p1) fun s3 =>
      some (1, s3)
    ) else (
      some (0, st)
    )
  )
def fX4_isText_2 : Nat → ST → Int32 → Option (Int32)
  | 0, _, _ => none
  | n + 1, st, x_1 =>
    if (st.1 2) ≤ x_1 then (
      some 1
    ) else (
      ix x_1 24 <|
      if (st.2 0 (Int32.toNatClampNeg x_1)) < 32 then (
        some 0
      ) else (
        ix x_1 24 <|
        if (st.2 0 (Int32.toNatClampNeg x_1)) ≤ 126 then (
          bnd (x_1 + 1 : Int32) fun x6 =>
          fX4_isText_2 n st x6
        ) else (
          some 0
        )
      )
    )
def fX4_isText (st : ST) : Option (Int32) :=
  fX4_isText_2 1000 st 0
def fX4_countOf_4 : Nat → ST → Int32 → Int32 → Int32 → Option (Int32)
  | 0, _, _, _, _ => none
  | n + 1, st, x_1, x_2, x_3 =>
    if (st.1 2) ≤ x_3 then (
      some x_2
    ) else (
      ix x_3 24 <|
      if (st.2 0 (Int32.toNatClampNeg x_3)) = x_1 then (
        bnd (x_2 + 1 : Int32) fun x5 =>
        bnd (x_3 + 1 : Int32) fun x6 =>
        fX4_countOf_4 n st x_1 x5 x6
      ) else (
        bnd (x_3 + 1 : Int32) fun x4 =>
        fX4_countOf_4 n st x_1 x_2 x4
      )
    )
def fX4_countOf (st : ST) (p1 : Int32) : Option (Int32) :=
  fX4_countOf_4 1000 st p1 0 0
def fX4_isPattern (st : ST) : Option (Int32) :=
  ob (fX4_countOf st 68) fun o1 =>
  ob (fX4_countOf st 77) fun o2 =>
  ob (fX4_countOf st 78) fun o3 =>
  bnd ((o2 + o3) : Int32) fun x4 =>
  ob (fX4_countOf st 89) fun o5 =>
  ob (fX4_countOf st 121) fun o6 =>
  bnd ((o5 + o6) : Int32) fun x7 =>
  ob (fX4_countOf st 87) fun o8 =>
  ob (fX4_isText st) fun o9 =>
  if o9 = 0 then (
    some 0
  ) else (
    if 1 < o1 then (
      some 0
    ) else (
      if x4 = 1 then (
        if x7 = 1 then (
          if 1 < o8 then (
            some 0
          ) else (
            some 1
          )
        ) else (
          some 0
        )
      ) else (
        some 0
      )
    )
  )
def fX5_size_p (st : ST) : Option (Int32) :=
  some (st.1 3)
def fX5_isFull_p (st : ST) : Option (Int32) :=
  if (st.1 3) < 8 then (
    some 0
  ) else (
    some 1
  )
def fX5_has_p (st : ST) (p1 : Int32) : Option (Int32) :=
  if p1 < 0 then (
    some 0
  ) else (
    if (st.1 3) ≤ p1 then (
      some 0
    ) else (
      some 1
    )
  )
def fX5_lengthOf_p (st : ST) (p1 : Int32) : Option (Int32) :=
  ob (fX5_has_p st p1) fun o1 =>
  if o1 = 0 then (
    some 0
  ) else (
    ix p1 8 <|
    some (st.2 2 (Int32.toNatClampNeg p1))
  )
def fX5_byteAt_p (st : ST) (p1 p2 : Int32) : Option (Int32) :=
  if p2 < 0 then (
    some (-1)
  ) else (
    ob (fX5_lengthOf_p st p1) fun o2 =>
    if p2 < o2 then (
      bnd (((p1 * 24) + p2) : Int32) fun x4 =>
      ix x4 192 <|
      some (st.2 1 (Int32.toNatClampNeg x4))
    ) else (
      some (-1)
    )
  )
def fX5_add_p_22 : Nat → ST → Int32 → Int32 → Int32 → Option (Int32 × ST)
  | 0, _, _, _, _ => none
  | n + 1, st, x_2, x_3, x_4 =>
    if x_3 ≤ x_4 then (
      ix x_2 8 <|
      bnd (setA st 2 (Int32.toNatClampNeg x_2) x_3) fun s3 =>
      bnd (((s3.1 3) + 1) : Int32) fun x4 =>
      bnd (setS s3 3 x4) fun s5 =>
      ob (fX4_cut s5 0) fun o6 =>
      some (x_2, o6.2)
    ) else (
      if 24 ≤ x_4 then (
        ix x_2 8 <|
        bnd (setA st 2 (Int32.toNatClampNeg x_2) x_3) fun s9 =>
        bnd (((s9.1 3) + 1) : Int32) fun x10 =>
        bnd (setS s9 3 x10) fun s11 =>
        ob (fX4_cut s11 0) fun o12 =>
        some (x_2, o12.2)
      ) else (
        ob (fX4_byteAt st x_4) fun o13 =>
        bnd (((x_2 * 24) + x_4) : Int32) fun x14 =>
        ix x14 192 <|
        bnd (setA st 1 (Int32.toNatClampNeg x14) o13) fun s16 =>
        bnd (x_4 + 1 : Int32) fun x17 =>
        fX5_add_p_22 n s16 x_2 x_3 x17
      )
    )
def fX5_add_p (st : ST) : Option (Int32 × ST) :=
  ob (fX5_isFull_p st) fun o18 =>
  if o18 = 0 then (
    bnd ((st.1 3) : Int32) fun x20 =>
    ob (fX4_length st) fun o21 =>
    fX5_add_p_22 1000 st x20 o21 0
  ) else (
    some ((-1), st)
  )
def fX5_size_c (st : ST) : Option (Int32) :=
  some (st.1 4)
def fX5_isFull_c (st : ST) : Option (Int32) :=
  if (st.1 4) < 30 then (
    some 0
  ) else (
    some 1
  )
def fX5_has_c (st : ST) (p1 : Int32) : Option (Int32) :=
  if p1 < 0 then (
    some 0
  ) else (
    if (st.1 4) ≤ p1 then (
      some 0
    ) else (
      some 1
    )
  )
def fX5_lengthOf_c (st : ST) (p1 : Int32) : Option (Int32) :=
  ob (fX5_has_c st p1) fun o1 =>
  if o1 = 0 then (
    some 0
  ) else (
    ix p1 30 <|
    some (st.2 4 (Int32.toNatClampNeg p1))
  )
def fX5_byteAt_c (st : ST) (p1 p2 : Int32) : Option (Int32) :=
  if p2 < 0 then (
    some (-1)
  ) else (
    ob (fX5_lengthOf_c st p1) fun o2 =>
    if p2 < o2 then (
      bnd (((p1 * 24) + p2) : Int32) fun x4 =>
      ix x4 720 <|
      some (st.2 3 (Int32.toNatClampNeg x4))
    ) else (
      some (-1)
    )
  )
def fX5_add_c_22 : Nat → ST → Int32 → Int32 → Int32 → Option (Int32 × ST)
  | 0, _, _, _, _ => none
  | n + 1, st, x_2, x_3, x_4 =>
    if x_3 ≤ x_4 then (
      ix x_2 30 <|
      bnd (setA st 4 (Int32.toNatClampNeg x_2) x_3) fun s3 =>
      bnd (((s3.1 4) + 1) : Int32) fun x4 =>
      bnd (setS s3 4 x4) fun s5 =>
      ob (fX4_cut s5 0) fun o6 =>
      some (x_2, o6.2)
    ) else (
      if 24 ≤ x_4 then (
        ix x_2 30 <|
        bnd (setA st 4 (Int32.toNatClampNeg x_2) x_3) fun s9 =>
        bnd (((s9.1 4) + 1) : Int32) fun x10 =>
        bnd (setS s9 4 x10) fun s11 =>
        ob (fX4_cut s11 0) fun o12 =>
        some (x_2, o12.2)
      ) else (
        ob (fX4_byteAt st x_4) fun o13 =>
        bnd (((x_2 * 24) + x_4) : Int32) fun x14 =>
        ix x14 720 <|
        bnd (setA st 3 (Int32.toNatClampNeg x14) o13) fun s16 =>
        bnd (x_4 + 1 : Int32) fun x17 =>
        fX5_add_c_22 n s16 x_2 x_3 x17
      )
    )
def fX5_add_c (st : ST) : Option (Int32 × ST) :=
  ob (fX5_isFull_c st) fun o18 =>
  if o18 = 0 then (
    bnd ((st.1 4) : Int32) fun x20 =>
    ob (fX4_length st) fun o21 =>
    fX5_add_c_22 1000 st x20 o21 0
  ) else (
    some ((-1), st)
  )
def fX5_removeAll_c (st : ST) : Option (ST) :=
  bnd (setS st 4 0) fun s1 =>
  some s1
def fX2_first (st : ST) : Option (Int32) :=
  some (st.1 11)
def fX2_last (st : ST) : Option (Int32) :=
  some (st.1 12)
def fX2_hold_16 : Nat → ST → Int32 → Int32 → Option (ST)
  | 0, _, _, _ => none
  | n + 1, st, x_2, x_3 =>
    if (st.1 5) ≤ x_3 then (
      some st
    ) else (
      ob (fX5_byteAt_c st x_2 x_3) fun o2 =>
      ix x_3 24 <|
      bnd (setA st 5 (Int32.toNatClampNeg x_3) o2) fun s4 =>
      bnd (x_3 + 1 : Int32) fun x5 =>
      fX2_hold_16 n s4 x_2 x5
    )
def fX2_hold (st : ST) (p2 : Int32) : Option (ST) :=
  ob (fX5_lengthOf_c st p2) fun o6 =>
  bnd ((if 24 < o6 then 24 else o6) : Int32) fun x7 =>
  bnd (setS st 5 x7) fun s8 =>
  fX2_hold_16 1000 s8 p2 0
def fX2_digitsHere (st : ST) : Option (Int32) :=
  bnd (((st.1 6) + 1) : Int32) fun x1 =>
  if (st.1 5) ≤ x1 then (
    some 1
  ) else (
    ix x1 24 <|
    if (st.2 5 (Int32.toNatClampNeg x1)) < 48 then (
      some 1
    ) else (
      ix x1 24 <|
      if 57 < (st.2 5 (Int32.toNatClampNeg x1)) then (
        some 1
      ) else (
        some 2
      )
    )
  )
def fX2_takeDigits_22 : Nat → ST → Int32 → Int32 → Int32 → Option (Int32 × ST)
  | 0, _, _, _, _ => none
  | n + 1, st, x_1, x_2, x_3 =>
    if ((st.1 6) + x_1) ≤ x_3 then (
      bnd (((st.1 6) + x_1) : Int32) fun x2 =>
      bnd (setS st 6 x2) fun s3 =>
      some (x_2, s3)
    ) else (
      ix x_3 24 <|
      if (st.2 5 (Int32.toNatClampNeg x_3)) < 48 then (
        some ((-1), st)
      ) else (
        ix x_3 24 <|
        if (st.2 5 (Int32.toNatClampNeg x_3)) ≤ 57 then (
          ix x_3 24 <|
          bnd ((((x_2 * 10) + (st.2 5 (Int32.toNatClampNeg x_3))) - 48) : Int32) fun x9 =>
          bnd (x_3 + 1 : Int32) fun x10 =>
          fX2_takeDigits_22 n st x_1 x9 x10
        ) else (
          some ((-1), st)
        )
      )
    )
def fX2_takeDigits (st : ST) (p1 : Int32) : Option (Int32 × ST) :=
  if p1 ≤ ((st.1 5) - (st.1 6)) then (
    bnd ((st.1 6) : Int32) fun x12 =>
    fX2_takeDigits_22 1000 st p1 0 x12
  ) else (
    some ((-1), st)
  )
def fX2_takeShortYear (st : ST) (p1 : Int32) : Option (Int32 × ST) :=
  ob (fX2_takeDigits st 2) fun o1 =>
  if o1.1 = (-1) then (
    some ((-1), o1.2)
  ) else (
    ob (fJ9_floorMod_7cf53 (o1.1 - p1) 100) fun o3 =>
    some ((p1 + o3), o1.2)
  )
def fX2_takeBlanks_5 : Nat → ST → Int32 → Option (Int32 × ST)
  | 0, _, _ => none
  | n + 1, st, x_1 =>
    if (st.1 5) ≤ (st.1 6) then (
      if (st.1 6) ≤ x_1 then (
        some (0, st)
      ) else (
        some (1, st)
      )
    ) else (
      bnd ((st.1 6) : Int32) fun x3 =>
      ix x3 24 <|
      if (st.2 5 (Int32.toNatClampNeg x3)) = 32 then (
        bnd (((st.1 6) + 1) : Int32) fun x7 =>
        bnd (setS st 6 x7) fun s8 =>
        fX2_takeBlanks_5 n s8 x_1
      ) else (
        if (st.1 6) ≤ x_1 then (
          some (0, st)
        ) else (
          some (1, st)
        )
      )
    )
def fX2_takeBlanks (st : ST) : Option (Int32 × ST) :=
  bnd ((st.1 6) : Int32) fun x9 =>
  fX2_takeBlanks_5 1000 st x9
def fX2_takeByte (st : ST) (p1 : Int32) : Option (Int32 × ST) :=
  if (st.1 5) ≤ (st.1 6) then (
    some (0, st)
  ) else (
    bnd ((st.1 6) : Int32) fun x2 =>
    ix x2 24 <|
    if (st.2 5 (Int32.toNatClampNeg x2)) = p1 then (
      bnd (((st.1 6) + 1) : Int32) fun x5 =>
      bnd (setS st 6 x5) fun s6 =>
      some (1, s6)
    ) else (
      some (0, st)
    )
  )
def fX2_standsHere_M_29 : Nat → ST → Int32 → Int32 → Option (Int32)
  | 0, _, _, _ => none
  | n + 1, st, x_2, x_3 =>
    if 3 ≤ x_3 then (
      some 1
    ) else (
      bnd (((st.1 6) + x_3) : Int32) fun x2 =>
      ix x2 24 <|
      bnd ((st.2 5 (Int32.toNatClampNeg x2)) : Int32) fun x4 =>
      if x4 < 65 then (
        bnd ((x_2 + x_3) : Int32) fun x6 =>
        ix x6 36 <|
        if x4 = (tMO (Int32.toNatClampNeg x6)) then (
          bnd (x_3 + 1 : Int32) fun x9 =>
          fX2_standsHere_M_29 n st x_2 x9
        ) else (
          some 0
        )
      ) else (
        if 90 < x4 then (
          bnd ((x_2 + x_3) : Int32) fun x11 =>
          ix x11 36 <|
          if x4 = (tMO (Int32.toNatClampNeg x11)) then (
            bnd (x_3 + 1 : Int32) fun x14 =>
            fX2_standsHere_M_29 n st x_2 x14
          ) else (
            some 0
          )
        ) else (
          bnd (((x4 - 65) + 97) : Int32) fun x15 =>
          bnd ((x_2 + x_3) : Int32) fun x16 =>
          ix x16 36 <|
          if x15 = (tMO (Int32.toNatClampNeg x16)) then (
            bnd (x_3 + 1 : Int32) fun x19 =>
            fX2_standsHere_M_29 n st x_2 x19
          ) else (
            some 0
          )
        )
      )
    )
def fX2_standsHere_M (st : ST) (p2 : Int32) : Option (Int32) :=
  if ((st.1 5) - (st.1 6)) < 3 then (
    some 0
  ) else (
    if p2 < 0 then (
      some 0
    ) else (
      if 3 ≤ (36 - p2) then (
        fX2_standsHere_M_29 1000 st p2 0
      ) else (
        some 0
      )
    )
  )
def fX2_takeWord_M_7 : Nat → ST → Int32 → Int32 → Option (Int32 × ST)
  | 0, _, _, _ => none
  | n + 1, st, x_2, x_3 =>
    if x_2 ≤ x_3 then (
      some ((-1), st)
    ) else (
      ob (fX2_standsHere_M st (x_3 * 3)) fun o2 =>
      if o2 = 0 then (
        bnd (x_3 + 1 : Int32) fun x4 =>
        fX2_takeWord_M_7 n st x_2 x4
      ) else (
        bnd (((st.1 6) + 3) : Int32) fun x5 =>
        bnd (setS st 6 x5) fun s6 =>
        some (x_3, s6)
      )
    )
def fX2_takeWord_M (st : ST) : Option (Int32 × ST) :=
  bnd ((36 / 3) : Int32) fun x7 =>
  fX2_takeWord_M_7 1000 st x7 0
def fX2_standsHere_W_29 : Nat → ST → Int32 → Int32 → Option (Int32)
  | 0, _, _, _ => none
  | n + 1, st, x_2, x_3 =>
    if 3 ≤ x_3 then (
      some 1
    ) else (
      bnd (((st.1 6) + x_3) : Int32) fun x2 =>
      ix x2 24 <|
      bnd ((st.2 5 (Int32.toNatClampNeg x2)) : Int32) fun x4 =>
      if x4 < 65 then (
        bnd ((x_2 + x_3) : Int32) fun x6 =>
        ix x6 21 <|
        if x4 = (tWD (Int32.toNatClampNeg x6)) then (
          bnd (x_3 + 1 : Int32) fun x9 =>
          fX2_standsHere_W_29 n st x_2 x9
        ) else (
          some 0
        )
      ) else (
        if 90 < x4 then (
          bnd ((x_2 + x_3) : Int32) fun x11 =>
          ix x11 21 <|
          if x4 = (tWD (Int32.toNatClampNeg x11)) then (
            bnd (x_3 + 1 : Int32) fun x14 =>
            fX2_standsHere_W_29 n st x_2 x14
          ) else (
            some 0
          )
        ) else (
          bnd (((x4 - 65) + 97) : Int32) fun x15 =>
          bnd ((x_2 + x_3) : Int32) fun x16 =>
          ix x16 21 <|
          if x15 = (tWD (Int32.toNatClampNeg x16)) then (
            bnd (x_3 + 1 : Int32) fun x19 =>
            fX2_standsHere_W_29 n st x_2 x19
          ) else (
            some 0
          )
        )
      )
    )
def fX2_standsHere_W (st : ST) (p2 : Int32) : Option (Int32) :=
  if ((st.1 5) - (st.1 6)) < 3 then (
    some 0
  ) else (
    if p2 < 0 then (
      some 0
    ) else (
      if 3 ≤ (21 - p2) then (
        fX2_standsHere_W_29 1000 st p2 0
      ) else (
        some 0
      )
    )
  )
def fX2_takeWord_W_7 : Nat → ST → Int32 → Int32 → Option (Int32 × ST)
  | 0, _, _, _ => none
  | n + 1, st, x_2, x_3 =>
    if x_2 ≤ x_3 then (
      some ((-1), st)
    ) else (
      ob (fX2_standsHere_W st (x_3 * 3)) fun o2 =>
      if o2 = 0 then (
        bnd (x_3 + 1 : Int32) fun x4 =>
        fX2_takeWord_W_7 n st x_2 x4
      ) else (
        bnd (((st.1 6) + 3) : Int32) fun x5 =>
        bnd (setS st 6 x5) fun s6 =>
        some (x_3, s6)
      )
    )
def fX2_takeWord_W (st : ST) : Option (Int32 × ST) :=
  bnd ((21 / 3) : Int32) fun x7 =>
  fX2_takeWord_W_7 1000 st x7 0
def fX2_take (st : ST) (p1 p2 : Int32) : Option (Int32 × ST) :=
  if p1 = 32 then (
    ob (fX2_takeBlanks st) fun o2 =>
    tv o2.1 <|
    some (o2.1, o2.2)
  ) else (
  if p1 = 68 then (
    ob (fX2_digitsHere st) fun o5 =>
    ob (fX2_takeDigits st o5) fun o6 =>
    bnd (setS o6.2 7 o6.1) fun s7 =>
    if (s7.1 7) = (-1) then (
      some (0, s7)
    ) else (
      some (1, s7)
    )
  ) else (
  if p1 = 77 then (
    ob (fX2_digitsHere st) fun o10 =>
    ob (fX2_takeDigits st o10) fun o11 =>
    bnd (setS o11.2 8 o11.1) fun s12 =>
    if (s12.1 8) = (-1) then (
      some (0, s12)
    ) else (
      some (1, s12)
    )
  ) else (
  if p1 = 78 then (
    ob (fX2_takeWord_M st) fun o15 =>
    bnd ((1 + o15.1) : Int32) fun x16 =>
    bnd (setS o15.2 8 x16) fun s17 =>
    if (s17.1 8) < 1 then (
      some (0, s17)
    ) else (
      some (1, s17)
    )
  ) else (
  if p1 = 87 then (
    ob (fX2_takeWord_W st) fun o20 =>
    bnd (setS o20.2 10 o20.1) fun s21 =>
    if (s21.1 10) = (-1) then (
      some (0, s21)
    ) else (
      some (1, s21)
    )
  ) else (
  if p1 = 89 then (
    ob (fX2_takeDigits st 4) fun o24 =>
    bnd (setS o24.2 9 o24.1) fun s25 =>
    if (s25.1 9) = (-1) then (
      some (0, s25)
    ) else (
      some (1, s25)
    )
  ) else (
  if p1 = 121 then (
    ob (fX2_takeShortYear st p2) fun o28 =>
    bnd (setS o28.2 9 o28.1) fun s29 =>
    if (s29.1 9) = (-1) then (
      some (0, s29)
    ) else (
      some (1, s29)
    )
  ) else (
    ob (fX2_takeByte st p1) fun o31 =>
    tv o31.1 <|
    some (o31.1, o31.2)
  )))))))
def fX2_findSpan (st : ST) : Option (ST) :=
  if (st.1 7) = (-1) then (
    ob (fX0_dayNumber 1 (st.1 8) (st.1 9)) fun o15 =>
    if o15 = (-1) then (
      some st
    ) else (
      if (st.1 10) = (-1) then (
        bnd (setS st 11 o15) fun s18 =>
        ob (fX0_monthLength (s18.1 8) (s18.1 9)) fun o20 =>
        bnd (((o15 + o20) - 1) : Int32) fun x21 =>
        bnd (setS s18 12 x21) fun s22 =>
        some s22
      ) else (
        ob (fX0_weekdayOf o15) fun o23 =>
        if (st.1 10) = o23 then (
          bnd (setS st 11 o15) fun s25 =>
          ob (fX0_monthLength (s25.1 8) (s25.1 9)) fun o27 =>
          bnd (((o15 + o27) - 1) : Int32) fun x28 =>
          bnd (setS s25 12 x28) fun s29 =>
          some s29
        ) else (
          some st
        )
      )
    )
  ) else (
    ob (fX0_dayNumber (st.1 7) (st.1 8) (st.1 9)) fun o3 =>
    if o3 = (-1) then (
      some st
    ) else (
      if (st.1 10) = (-1) then (
        bnd (setS st 11 o3) fun s6 =>
        bnd (setS s6 12 o3) fun s8 =>
        some s8
      ) else (
        ob (fX0_weekdayOf o3) fun o9 =>
        if (st.1 10) = o9 then (
          bnd (setS st 11 o3) fun s11 =>
          bnd (setS s11 12 o3) fun s13 =>
          some s13
        ) else (
          some st
        )
      )
    )
  )
def fX2_scan_48 : Nat → ST → Int32 → Int32 → Int32 → Int32 → Int32 → Option (ST)
  | 0, _, _, _, _, _, _ => none
  | n + 1, st, x_2, x_3, x_4, x_5, x_6 =>
    if x_4 ≤ x_6 then (
      if x_5 = 0 then (
        some st
      ) else (
        if (st.1 6) = (st.1 5) then (
          ob (fX2_findSpan st) fun o4 =>
          some o4
        ) else (
          some st
        )
      )
    ) else (
      if x_5 = 0 then (
        if x_5 = 0 then (
          some st
        ) else (
          if (st.1 6) = (st.1 5) then (
            ob (fX2_findSpan st) fun o8 =>
            some o8
          ) else (
            some st
          )
        )
      ) else (
        ob (fX5_byteAt_p st x_2 x_6) fun o9 =>
        ob (fX2_take st o9 x_3) fun o10 =>
        bnd (x_6 + 1 : Int32) fun x11 =>
        fX2_scan_48 n o10.2 x_2 x_3 x_4 o10.1 x11
      )
    )
def fX2_scan (st : ST) (p2 p3 : Int32) : Option (ST) :=
  bnd (setS st 6 0) fun s12 =>
  bnd (setS s12 7 (-1)) fun s13 =>
  bnd (setS s13 8 (-1)) fun s14 =>
  bnd (setS s14 9 (-1)) fun s15 =>
  bnd (setS s15 10 (-1)) fun s16 =>
  bnd (setS s16 11 (-1)) fun s17 =>
  bnd (setS s17 12 (-1)) fun s18 =>
  ob (fX5_lengthOf_p s18 p2) fun o19 =>
  fX2_scan_48 1000 s18 p2 p3 o19 1 0
def fX3_forget (st : ST) (p1 : Int32) : Option (ST) :=
  if p1 < 0 then (
    some st
  ) else (
    if 30 ≤ p1 then (
      some st
    ) else (
      ix p1 30 <|
      bnd (setA st 8 (Int32.toNatClampNeg p1) 0) fun s4 =>
      some s4
    )
  )
def fX3_edge (st : ST) (p1 p2 p3 : Int32) : Option (Int32) :=
  if p1 < 0 then (
    some (-1)
  ) else (
    if 30 ≤ p1 then (
      some (-1)
    ) else (
      if p2 < 0 then (
        some (-1)
      ) else (
        if 8 ≤ p2 then (
          some (-1)
        ) else (
          if p3 < 0 then (
            some (-1)
          ) else (
            if p3 ≤ 1 then (
              bnd (((p1 * 8) + p2) : Int32) fun x7 =>
              if p3 = 0 then (
                ix x7 240 <|
                some (st.2 6 (Int32.toNatClampNeg x7))
              ) else (
                ix x7 240 <|
                some (st.2 7 (Int32.toNatClampNeg x7))
              )
            ) else (
              some (-1)
            )
          )
        )
      )
    )
  )
def fX3_isRead (st : ST) (p1 p2 : Int32) : Option (Int32) :=
  ob (fX3_edge st p1 p2 0) fun o1 =>
  if o1 = (-1) then (
    some 0
  ) else (
    some 1
  )
def fX3_isAlike (st : ST) (p1 p2 p3 : Int32) : Option (Int32) :=
  ob (fX3_edge st p1 p2 0) fun o1 =>
  ob (fX3_edge st p1 p3 0) fun o2 =>
  if o1 = o2 then (
    ob (fX3_edge st p1 p2 1) fun o4 =>
    ob (fX3_edge st p1 p3 1) fun o5 =>
    if o4 = o5 then (
      some 1
    ) else (
      some 0
    )
  ) else (
    some 0
  )
def fX3_isSaidAhead_2 : Nat → ST → Int32 → Int32 → Int32 → Option (Int32)
  | 0, _, _, _, _ => none
  | n + 1, st, x_1, x_2, x_3 =>
    if x_2 ≤ x_3 then (
      some 0
    ) else (
      ob (fX3_isAlike st x_1 x_3 x_2) fun o2 =>
      if o2 = 0 then (
        bnd (x_3 + 1 : Int32) fun x4 =>
        fX3_isSaidAhead_2 n st x_1 x_2 x4
      ) else (
        some 1
      )
    )
def fX3_isSaidAhead (st : ST) (p1 p2 : Int32) : Option (Int32) :=
  fX3_isSaidAhead_2 1000 st p1 p2 0
def fX3_unlike_4 : Nat → ST → Int32 → Int32 → Int32 → Option (Int32)
  | 0, _, _, _, _ => none
  | n + 1, st, x_1, x_2, x_3 =>
    ob (fX5_size_p st) fun o1 =>
    if o1 ≤ x_3 then (
      some x_2
    ) else (
      ob (fX3_isRead st x_1 x_3) fun o3 =>
      if o3 = 0 then (
        bnd (x_3 + 1 : Int32) fun x5 =>
        fX3_unlike_4 n st x_1 x_2 x5
      ) else (
        ob (fX3_isSaidAhead st x_1 x_3) fun o6 =>
        if o6 = 0 then (
          bnd (x_2 + 1 : Int32) fun x9 =>
          bnd (x_3 + 1 : Int32) fun x10 =>
          fX3_unlike_4 n st x_1 x9 x10
        ) else (
          bnd (x_3 + 1 : Int32) fun x8 =>
          fX3_unlike_4 n st x_1 x_2 x8
        )
      )
    )
def fX3_unlike (st : ST) (p1 : Int32) : Option (Int32) :=
  fX3_unlike_4 1000 st p1 0 0
def fX3_bring_68 : Nat → ST → Int32 → Int32 → Int32 → Int32 → Option (ST)
  | 0, _, _, _, _, _ => none
  | n + 1, st, x_1, x_2, x_3, x_5 =>
    if x_3 ≤ x_5 then (
      ix x_1 30 <|
      bnd (setA st 8 (Int32.toNatClampNeg x_1) x_3) fun s3 =>
      ix x_1 30 <|
      bnd (setA s3 9 (Int32.toNatClampNeg x_1) x_2) fun s5 =>
      some s5
    ) else (
      ob (fX2_scan st x_5 x_2) fun o6 =>
      ob (fX2_first o6) fun o7 =>
      bnd (((x_1 * 8) + x_5) : Int32) fun x8 =>
      ix x8 240 <|
      bnd (setA o6 6 (Int32.toNatClampNeg x8) o7) fun s10 =>
      ob (fX2_last s10) fun o11 =>
      bnd (((x_1 * 8) + x_5) : Int32) fun x12 =>
      ix x12 240 <|
      bnd (setA s10 7 (Int32.toNatClampNeg x12) o11) fun s14 =>
      bnd (x_5 + 1 : Int32) fun x15 =>
      fX3_bring_68 n s14 x_1 x_2 x_3 x15
    )
def fX3_bring (st : ST) (p1 p2 : Int32) : Option (ST) :=
  if p1 < 0 then (
    some st
  ) else (
    if p1 < 30 then (
      ob (fX5_size_p st) fun o18 =>
      bnd ((if 8 < o18 then 8 else o18) : Int32) fun x19 =>
      ix p1 30 <|
      if (st.2 9 (Int32.toNatClampNeg p1)) = p2 then (
        ix p1 30 <|
        bnd ((st.2 8 (Int32.toNatClampNeg p1)) : Int32) fun x25 =>
        if x19 ≤ x25 then (
          fX3_bring_68 1000 st p1 p2 x19 x25
        ) else (
          ob (fX2_hold st p1) fun o27 =>
          fX3_bring_68 1000 o27 p1 p2 x19 x25
        )
      ) else (
        if x19 ≤ 0 then (
          fX3_bring_68 1000 st p1 p2 x19 0
        ) else (
          ob (fX2_hold st p1) fun o23 =>
          fX3_bring_68 1000 o23 p1 p2 x19 0
        )
      )
    ) else (
      some st
    )
  )
def fX6_setCost (st : ST) (p1 p2 : Int32) : Option (ST) :=
  if p1 < 0 then (
    some st
  ) else (
    if 8 ≤ p1 then (
      some st
    ) else (
      ix p1 8 <|
      bnd (setA st 10 (Int32.toNatClampNeg p1) p2) fun s4 =>
      some s4
    )
  )
def fX6_setPrice (st : ST) (p1 p2 : Int32) : Option (Int32 × ST) :=
  if p1 < 0 then (
    some (0, st)
  ) else (
    if p1 < 3 then (
      ix p1 3 <|
      bnd (setA st 11 (Int32.toNatClampNeg p1) p2) fun s4 =>
      some (1, s4)
    ) else (
      some (0, st)
    )
  )
def fX6_styleOf (st : ST) (p1 : Int32) : Option (Int32) :=
  if p1 < 0 then (
    some (-1)
  ) else (
    if p1 < (st.1 13) then (
      ix p1 30 <|
      some (st.2 14 (Int32.toNatClampNeg p1))
    ) else (
      some (-1)
    )
  )
def fX6_missOf (st : ST) (p1 p2 : Int32) : Option (Int32) :=
  ob (fX3_edge st p1 p2 0) fun o1 =>
  if o1 = (-1) then (
    ix 1 3 <|
    some (st.2 11 (Int32.toNatClampNeg 1))
  ) else (
    some 0
  )
def fX6_breaksOrder (st : ST) (p1 p2 p3 : Int32) : Option (Int32) :=
  ob (fX3_edge st p1 p3 1) fun o1 =>
  if o1 = (-1) then (
    some 0
  ) else (
    ob (fX3_edge st (p1 - 1) p2 0) fun o3 =>
    if o3 ≤ o1 then (
      some 0
    ) else (
      some 1
    )
  )
def fX6_step (st : ST) (p1 p2 p3 : Int32) : Option (Int32) :=
  ob (fX6_missOf st p1 p3) fun o1 =>
  if p2 = p3 then (
    ob (fX6_breaksOrder st p1 p2 p3) fun o3 =>
    if o3 = 0 then (
      some o1
    ) else (
      ix 2 3 <|
      some (o1 + (st.2 11 (Int32.toNatClampNeg 2)))
    )
  ) else (
    ix 0 3 <|
    ix p3 8 <|
    bnd ((o1 + ((st.2 11 (Int32.toNatClampNeg 0)) + (st.2 10 (Int32.toNatClampNeg p3)))) : Int32) fun x8 =>
    ob (fX6_breaksOrder st p1 p2 p3) fun o9 =>
    if o9 = 0 then (
      some x8
    ) else (
      ix 2 3 <|
      some (x8 + (st.2 11 (Int32.toNatClampNeg 2)))
    )
  )
def fX6_through (st : ST) (p1 p2 : Int32) : Option (Int32) :=
  if p1 < 0 then (
    some (-1)
  ) else (
    if (st.1 13) ≤ p1 then (
      some (-1)
    ) else (
      if p2 < 0 then (
        some (-1)
      ) else (
        if p2 < (st.1 14) then (
          bnd (((p1 * 8) + p2) : Int32) fun x5 =>
          ix x5 240 <|
          bnd (((p1 * 8) + p2) : Int32) fun x7 =>
          ix x7 240 <|
          some ((st.2 12 (Int32.toNatClampNeg x5)) + (st.2 13 (Int32.toNatClampNeg x7)))
        ) else (
          some (-1)
        )
      )
    )
  )
def fX6_leastCost (st : ST) : Option (Int32) :=
  ob (fX6_styleOf st 0) fun o1 =>
  ob (fX6_through st 0 o1) fun o2 =>
  some o2
def fX6_leastOtherwise_11 : Nat → ST → Int32 → Int32 → Int32 → Int32 → Option (Int32)
  | 0, _, _, _, _, _ => none
  | n + 1, st, x_1, x_2, x_3, x_4 =>
    if (st.1 14) ≤ x_4 then (
      some x_3
    ) else (
      ob (fX3_isAlike st x_1 x_2 x_4) fun o2 =>
      if o2 = 0 then (
        ob (fX6_through st x_1 x_4) fun o5 =>
        if x_3 = (-1) then (
          bnd (x_4 + 1 : Int32) fun x9 =>
          fX6_leastOtherwise_11 n st x_1 x_2 o5 x9
        ) else (
          bnd ((if o5 < x_3 then o5 else x_3) : Int32) fun x7 =>
          bnd (x_4 + 1 : Int32) fun x8 =>
          fX6_leastOtherwise_11 n st x_1 x_2 x7 x8
        )
      ) else (
        bnd (x_4 + 1 : Int32) fun x4 =>
        fX6_leastOtherwise_11 n st x_1 x_2 x_3 x4
      )
    )
def fX6_leastOtherwise (st : ST) (p1 : Int32) : Option (Int32) :=
  ob (fX6_styleOf st p1) fun o10 =>
  fX6_leastOtherwise_11 1000 st p1 o10 (-1) 0
def fX6_addUpAhead_35 : Nat → ST → Int32 → Int32 → Int32 → Int32 → Option (Int32)
  | 0, _, _, _, _, _ => none
  | n + 1, st, x_1, x_2, x_3, x_4 =>
    if (st.1 14) ≤ x_4 then (
      some (x_3)
    ) else (
      if x_1 ≤ 0 then (
        some (x_3)
      ) else (
        bnd ((((x_1 - 1) * 8) + x_4) : Int32) fun x3 =>
        ix x3 240 <|
        ob (fX6_step st x_1 x_4 x_2) fun o5 =>
        bnd (((st.2 12 (Int32.toNatClampNeg x3)) + o5) : Int32) fun x6 =>
        if x_3 = (-1) then (
          bnd (x_4 + 1 : Int32) fun x10 =>
          fX6_addUpAhead_35 n st x_1 x_2 x6 x10
        ) else (
          bnd ((if x6 < x_3 then x6 else x_3) : Int32) fun x8 =>
          bnd (x_4 + 1 : Int32) fun x9 =>
          fX6_addUpAhead_35 n st x_1 x_2 x8 x9
        )
      )
    )
def fX6_addUpAhead_2 : Nat → ST → Int32 → Int32 → Option (ST)
  | 0, _, _, _ => none
  | n + 1, st, x_1, x_2 =>
    if (st.1 14) ≤ x_2 then (
      some st
    ) else (
      if x_1 = 0 then (
        ix x_2 8 <|
        ob (fX6_missOf st x_1 x_2) fun o19 =>
        bnd (((st.2 10 (Int32.toNatClampNeg x_2)) + o19) : Int32) fun x20 =>
        ob (fX6_addUpAhead_35 1000 st x_1 x_2 x20 0) fun o21 =>
        bnd (((x_1 * 8) + x_2) : Int32) fun x22 =>
        ix x22 240 <|
        bnd (setA st 12 (Int32.toNatClampNeg x22) o21) fun s24 =>
        bnd (x_2 + 1 : Int32) fun x25 =>
        fX6_addUpAhead_2 n s24 x_1 x25
      ) else (
        ob (fX6_addUpAhead_35 1000 st x_1 x_2 (-1) 0) fun o13 =>
        bnd (((x_1 * 8) + x_2) : Int32) fun x14 =>
        ix x14 240 <|
        bnd (setA st 12 (Int32.toNatClampNeg x14) o13) fun s16 =>
        bnd (x_2 + 1 : Int32) fun x17 =>
        fX6_addUpAhead_2 n s16 x_1 x17
      )
    )
def fX6_addUpAhead (st : ST) (p1 : Int32) : Option (ST) :=
  fX6_addUpAhead_2 1000 st p1 0
def fX6_addUpBehind_29 : Nat → ST → Int32 → Int32 → Int32 → Int32 → Option (Int32)
  | 0, _, _, _, _, _ => none
  | n + 1, st, x_1, x_2, x_3, x_4 =>
    if (st.1 14) ≤ x_4 then (
      some (x_3)
    ) else (
      if ((st.1 13) - 1) ≤ x_1 then (
        some (x_3)
      ) else (
        ob (fX6_step st (x_1 + 1) x_2 x_4) fun o3 =>
        bnd ((((x_1 + 1) * 8) + x_4) : Int32) fun x4 =>
        ix x4 240 <|
        bnd ((o3 + (st.2 13 (Int32.toNatClampNeg x4))) : Int32) fun x6 =>
        if x_3 = (-1) then (
          bnd (x_4 + 1 : Int32) fun x10 =>
          fX6_addUpBehind_29 n st x_1 x_2 x6 x10
        ) else (
          bnd ((if x6 < x_3 then x6 else x_3) : Int32) fun x8 =>
          bnd (x_4 + 1 : Int32) fun x9 =>
          fX6_addUpBehind_29 n st x_1 x_2 x8 x9
        )
      )
    )
def fX6_addUpBehind_2 : Nat → ST → Int32 → Int32 → Option (ST)
  | 0, _, _, _ => none
  | n + 1, st, x_1, x_2 =>
    if (st.1 14) ≤ x_2 then (
      some st
    ) else (
      if x_1 = ((st.1 13) - 1) then (
        ob (fX6_addUpBehind_29 1000 st x_1 x_2 0 0) fun o18 =>
        bnd (((x_1 * 8) + x_2) : Int32) fun x19 =>
        ix x19 240 <|
        bnd (setA st 13 (Int32.toNatClampNeg x19) o18) fun s21 =>
        bnd (x_2 + 1 : Int32) fun x22 =>
        fX6_addUpBehind_2 n s21 x_1 x22
      ) else (
        ob (fX6_addUpBehind_29 1000 st x_1 x_2 (-1) 0) fun o13 =>
        bnd (((x_1 * 8) + x_2) : Int32) fun x14 =>
        ix x14 240 <|
        bnd (setA st 13 (Int32.toNatClampNeg x14) o13) fun s16 =>
        bnd (x_2 + 1 : Int32) fun x17 =>
        fX6_addUpBehind_2 n s16 x_1 x17
      )
    )
def fX6_addUpBehind (st : ST) (p1 : Int32) : Option (ST) :=
  fX6_addUpBehind_2 1000 st p1 0
def fX6_cheapestStyle_7 : Nat → ST → Int32 → Int32 → Int32 → Int32 → Option (Int32)
  | 0, _, _, _, _, _ => none
  | n + 1, st, x_1, x_2, x_3, x_4 =>
    if (st.1 14) ≤ x_4 then (
      some x_2
    ) else (
      if x_1 = 0 then (
        ix x_4 8 <|
        ob (fX6_missOf st x_1 x_4) fun o15 =>
        bnd (((st.2 10 (Int32.toNatClampNeg x_4)) + o15) : Int32) fun x16 =>
        bnd (((x_1 * 8) + x_4) : Int32) fun x17 =>
        ix x17 240 <|
        bnd ((x16 + (st.2 13 (Int32.toNatClampNeg x17))) : Int32) fun x19 =>
        if x_3 = (-1) then (
          bnd (x_4 + 1 : Int32) fun x21 =>
          fX6_cheapestStyle_7 n st x_1 x_4 x19 x21
        ) else (
          if x_3 ≤ x19 then (
            bnd (x_4 + 1 : Int32) fun x23 =>
            fX6_cheapestStyle_7 n st x_1 x_2 x_3 x23
          ) else (
            bnd (x_4 + 1 : Int32) fun x24 =>
            fX6_cheapestStyle_7 n st x_1 x_4 x19 x24
          )
        )
      ) else (
        bnd ((x_1 - 1) : Int32) fun x3 =>
        ix x3 30 <|
        ob (fX6_step st x_1 (st.2 14 (Int32.toNatClampNeg x3)) x_4) fun o5 =>
        bnd (((x_1 * 8) + x_4) : Int32) fun x6 =>
        ix x6 240 <|
        bnd ((o5 + (st.2 13 (Int32.toNatClampNeg x6))) : Int32) fun x8 =>
        if x_3 = (-1) then (
          bnd (x_4 + 1 : Int32) fun x10 =>
          fX6_cheapestStyle_7 n st x_1 x_4 x8 x10
        ) else (
          if x_3 ≤ x8 then (
            bnd (x_4 + 1 : Int32) fun x12 =>
            fX6_cheapestStyle_7 n st x_1 x_2 x_3 x12
          ) else (
            bnd (x_4 + 1 : Int32) fun x13 =>
            fX6_cheapestStyle_7 n st x_1 x_4 x8 x13
          )
        )
      )
    )
def fX6_cheapestStyle (st : ST) (p1 : Int32) : Option (Int32) :=
  fX6_cheapestStyle_7 1000 st p1 0 (-1) 0
def fX6_settle_73 : Nat → ST → Int32 → Option (ST)
  | 0, _, _ => none
  | n + 1, st, x_3 =>
    if (st.1 13) ≤ x_3 then (
      some st
    ) else (
      ob (fX6_cheapestStyle st x_3) fun o2 =>
      ix x_3 30 <|
      bnd (setA st 14 (Int32.toNatClampNeg x_3) o2) fun s4 =>
      bnd (x_3 + 1 : Int32) fun x5 =>
      fX6_settle_73 n s4 x5
    )
def fX6_settle_56 : Nat → ST → Int32 → Option (ST)
  | 0, _, _ => none
  | n + 1, st, x_3 =>
    if x_3 < 0 then (
      fX6_settle_73 1000 st 0
    ) else (
      ob (fX6_addUpBehind st x_3) fun o7 =>
      bnd (x_3 + (-1) : Int32) fun x8 =>
      fX6_settle_56 n o7 x8
    )
def fX6_settle_30 : Nat → ST → Int32 → Option (ST)
  | 0, _, _ => none
  | n + 1, st, x_3 =>
    if (st.1 13) ≤ x_3 then (
      bnd (((st.1 13) - 1) : Int32) fun x10 =>
      fX6_settle_56 1000 st x10
    ) else (
      ob (fX6_addUpAhead st x_3) fun o11 =>
      bnd (x_3 + 1 : Int32) fun x12 =>
      fX6_settle_30 n o11 x12
    )
def fX6_settle (st : ST) (p1 p2 : Int32) : Option (ST) :=
  bnd ((if 0 < (if 30 < p1 then 30 else p1) then (if 30 < p1 then 30 else p1) else 0) : Int32) fun x13 =>
  bnd (setS st 13 x13) fun s14 =>
  bnd ((if 0 < (if 8 < p2 then 8 else p2) then (if 8 < p2 then 8 else p2) else 0) : Int32) fun x15 =>
  bnd (setS s14 14 x15) fun s16 =>
  fX6_settle_30 1000 s16 0
def fX1_byteAt (st : ST) (p1 : Int32) : Option (Int32) :=
  if p1 < 0 then (
    some (-1)
  ) else (
    if p1 < (st.1 15) then (
      ix p1 32 <|
      some (st.2 15 (Int32.toNatClampNeg p1))
    ) else (
      some (-1)
    )
  )
def fX1_putByte (st : ST) (p1 : Int32) : Option (ST) :=
  if 32 ≤ (st.1 15) then (
    some st
  ) else (
    bnd ((st.1 15) : Int32) fun x2 =>
    ix x2 32 <|
    bnd (setA st 15 (Int32.toNatClampNeg x2) p1) fun s4 =>
    bnd (((s4.1 15) + 1) : Int32) fun x5 =>
    bnd (setS s4 15 x5) fun s6 =>
    some s6
  )
def fX1_putTwo (st : ST) (p1 : Int32) : Option (ST) :=
  ob (fX1_putByte st (48 + (p1 / 10))) fun o1 =>
  ob (fX1_putByte o1 (48 + (p1 - p1 / 10 * 10))) fun o2 =>
  some o2
def fX1_putShort (st : ST) (p1 : Int32) : Option (ST) :=
  if p1 < 10 then (
    ob (fX1_putByte st (48 + p1)) fun o2 =>
    some o2
  ) else (
    ob (fX1_putTwo st p1) fun o3 =>
    some o3
  )
def fX1_putWord_M_7 : Nat → ST → Int32 → Int32 → Option (ST)
  | 0, _, _, _ => none
  | n + 1, st, x_3, x_4 =>
    if (x_3 + 3) ≤ x_4 then (
      some st
    ) else (
      if x_4 < 0 then (
        some st
      ) else (
        if 36 ≤ x_4 then (
          some st
        ) else (
          ix x_4 36 <|
          ob (fX1_putByte st (tMO (Int32.toNatClampNeg x_4))) fun o5 =>
          bnd (x_4 + 1 : Int32) fun x6 =>
          fX1_putWord_M_7 n o5 x_3 x6
        )
      )
    )
def fX1_putWord_M (st : ST) (p2 : Int32) : Option (ST) :=
  bnd ((p2 * 3) : Int32) fun x7 =>
  fX1_putWord_M_7 1000 st x7 x7
def fX1_putWord_W_7 : Nat → ST → Int32 → Int32 → Option (ST)
  | 0, _, _, _ => none
  | n + 1, st, x_3, x_4 =>
    if (x_3 + 3) ≤ x_4 then (
      some st
    ) else (
      if x_4 < 0 then (
        some st
      ) else (
        if 21 ≤ x_4 then (
          some st
        ) else (
          ix x_4 21 <|
          ob (fX1_putByte st (tWD (Int32.toNatClampNeg x_4))) fun o5 =>
          bnd (x_4 + 1 : Int32) fun x6 =>
          fX1_putWord_W_7 n o5 x_3 x6
        )
      )
    )
def fX1_putWord_W (st : ST) (p2 : Int32) : Option (ST) :=
  bnd ((p2 * 3) : Int32) fun x7 =>
  fX1_putWord_W_7 1000 st x7 x7
def fX1_putPart (st : ST) (p1 p2 : Int32) : Option (ST) :=
  if p1 = 68 then (
    ob (fX0_dayOfMonth p2) fun o2 =>
    ob (fX1_putShort st o2) fun o3 =>
    some o3
  ) else (
  if p1 = 77 then (
    ob (fX0_monthOf p2) fun o5 =>
    ob (fX1_putShort st o5) fun o6 =>
    some o6
  ) else (
  if p1 = 78 then (
    ob (fX0_monthOf p2) fun o8 =>
    ob (fX1_putWord_M st (o8 - 1)) fun o9 =>
    some o9
  ) else (
  if p1 = 87 then (
    ob (fX0_weekdayOf p2) fun o11 =>
    ob (fX1_putWord_W st o11) fun o12 =>
    some o12
  ) else (
  if p1 = 89 then (
    ob (fX0_yearOf p2) fun o14 =>
    ob (fX1_putTwo st (o14 / 100)) fun o15 =>
    ob (fX0_yearOf p2) fun o16 =>
    ob (fX1_putTwo o15 (o16 - o16 / 100 * 100)) fun o17 =>
    some o17
  ) else (
  if p1 = 121 then (
    ob (fX0_yearOf p2) fun o19 =>
    ob (fX1_putTwo st (o19 - o19 / 100 * 100)) fun o20 =>
    some o20
  ) else (
    ob (fX1_putByte st p1) fun o21 =>
    some o21
  ))))))
def fX1_setDown_15 : Nat → ST → Int32 → Int32 → Int32 → Int32 → Option (ST)
  | 0, _, _, _, _, _ => none
  | n + 1, st, x_1, x_3, x_4, x_5 =>
    if x_4 ≤ x_5 then (
      some st
    ) else (
      ob (fX5_byteAt_p st x_3 x_5) fun o2 =>
      ob (fX1_putPart st o2 x_1) fun o3 =>
      bnd (x_5 + 1 : Int32) fun x4 =>
      fX1_setDown_15 n o3 x_1 x_3 x_4 x4
    )
def fX1_setDown (st : ST) (p1 p3 : Int32) : Option (ST) :=
  bnd (setS st 15 0) fun s5 =>
  ob (fX5_lengthOf_p s5 p3) fun o6 =>
  fX1_setDown_15 1000 s5 p1 p3 o6 0
def fX1_equalsText_16 : Nat → ST → Int32 → Int32 → Option (Int32)
  | 0, _, _, _ => none
  | n + 1, st, x_2, x_3 =>
    if (st.1 15) ≤ x_3 then (
      some 1
    ) else (
      ob (fX1_byteAt st x_3) fun o2 =>
      ob (fX5_byteAt_c st x_2 x_3) fun o3 =>
      if o2 = o3 then (
        bnd (x_3 + 1 : Int32) fun x5 =>
        fX1_equalsText_16 n st x_2 x5
      ) else (
        some 0
      )
    )
def fX1_equalsText (st : ST) (p2 : Int32) : Option (Int32) :=
  ob (fX5_lengthOf_c st p2) fun o6 =>
  if (st.1 15) = o6 then (
    fX1_equalsText_16 1000 st p2 0
  ) else (
    some 0
  )
def fX8_isReadByBest (st : ST) (p1 : Int32) : Option (Int32) :=
  ob (fX6_styleOf st p1) fun o1 =>
  ob (fX3_isRead st p1 o1) fun o2 =>
  tv o2 <|
  some o2
def fX8_kindOf (st : ST) (p1 : Int32) : Option (Int32) :=
  ob (fX8_isReadByBest st p1) fun o1 =>
  if o1 = 0 then (
    some 3
  ) else (
    ob (fX3_unlike st p1) fun o3 =>
    if o3 = 1 then (
      some 0
    ) else (
      ob (fX6_leastOtherwise st p1) fun o5 =>
      ob (fX6_leastCost st) fun o6 =>
      if o5 = o6 then (
        some 2
      ) else (
        some 1
      )
    )
  )
def fX8_settle_31 : Nat → ST → Int32 → Option (Int32 × ST)
  | 0, _, _ => none
  | n + 1, st, x_1 =>
    ob (fX5_size_c st) fun o1 =>
    if o1 ≤ x_1 then (
      ob (fX5_size_c st) fun o3 =>
      ob (fX5_size_p st) fun o4 =>
      ob (fX6_settle st o3 o4) fun o5 =>
      bnd (setS o5 1 1) fun s6 =>
      some (1, s6)
    ) else (
      ob (fX3_bring st x_1 (st.1 0)) fun o7 =>
      bnd (x_1 + 1 : Int32) fun x8 =>
      fX8_settle_31 n o7 x8
    )
def fX8_settle (st : ST) : Option (Int32 × ST) :=
  ob (fX5_size_p st) fun o9 =>
  if o9 = 0 then (
    some (0, st)
  ) else (
    ob (fX5_size_c st) fun o11 =>
    if o11 = 0 then (
      some (0, st)
    ) else (
      if (st.1 1) = 0 then (
        fX8_settle_31 1000 st 0
      ) else (
        some (1, st)
      )
    )
  )
def fX8_feed (st : ST) (p1 p2 : Int32) : Option (Int32 × ST) :=
  ob (fX4_bytesIn p1) fun o1 =>
  ob (fX4_bytesIn p2) fun o2 =>
  bnd ((o1 + o2) : Int32) fun x3 =>
  ob (fX4_length st) fun o4 =>
  if (o4 + x3) ≤ 24 then (
    ob (fX4_append st p1) fun o6 =>
    ob (fX4_append o6 p2) fun o7 =>
    ob (fX4_length o7) fun o8 =>
    some (o8, o7)
  ) else (
    some ((-1), st)
  )
def fX8_end (st : ST) (p1 : Int32) : Option (Int32 × ST) :=
  ob (fX4_cut st p1) fun o1 =>
  tv o1.1 <|
  some (o1.1, o1.2)
def fX8_style (st : ST) (p1 : Int32) : Option (Int32 × ST) :=
  ob (fX8_isPrice p1) fun o1 =>
  if o1 = 0 then (
    some ((-1), st)
  ) else (
    ob (fX5_isFull_p st) fun o3 =>
    if o3 = 0 then (
      ob (fX4_isPattern st) fun o5 =>
      if o5 = 0 then (
        some ((-1), st)
      ) else (
        ob (fX5_add_p st) fun o7 =>
        ob (fX6_setCost o7.2 o7.1 p1) fun o8 =>
        bnd (setS o8 1 0) fun s9 =>
        some (o7.1, s9)
      )
    ) else (
      some ((-1), st)
    )
  )
def fX8_row (st : ST) : Option (Int32 × ST) :=
  ob (fX5_isFull_c st) fun o1 =>
  if o1 = 0 then (
    ob (fX4_isText st) fun o3 =>
    if o3 = 0 then (
      some ((-1), st)
    ) else (
      ob (fX5_add_c st) fun o5 =>
      ob (fX3_forget o5.2 o5.1) fun o6 =>
      bnd (setS o6 1 0) fun s7 =>
      some (o5.1, s7)
    )
  ) else (
    some ((-1), st)
  )
def fX8_clear (st : ST) : Option (ST) :=
  ob (fX5_removeAll_c st) fun o1 =>
  bnd (setS o1 1 0) fun s2 =>
  some s2
def fX8_window (st : ST) (p1 : Int32) : Option (Int32 × ST) :=
  if p1 < 1900 then (
    some (0, st)
  ) else (
    if p1 ≤ 2100 then (
      bnd (setS st 0 p1) fun s3 =>
      bnd (setS s3 1 0) fun s4 =>
      some (1, s4)
    ) else (
      some (0, st)
    )
  )
def fX8_price (st : ST) (p1 p2 : Int32) : Option (Int32 × ST) :=
  ob (fX8_isPrice p2) fun o1 =>
  if o1 = 0 then (
    some (0, st)
  ) else (
    ob (fX6_setPrice st p1 p2) fun o3 =>
    if o3.1 = 0 then (
      some (0, o3.2)
    ) else (
      bnd (setS o3.2 1 0) fun s5 =>
      some (1, s5)
    )
  )
def fX8_read (st : ST) (p1 p2 p3 : Int32) : Option (Int32 × ST) :=
  ob (fX5_has_c st p1) fun o1 =>
  if o1 = 0 then (
    some ((-1), st)
  ) else (
    ob (fX5_has_p st p2) fun o3 =>
    if o3 = 0 then (
      some ((-1), st)
    ) else (
      ob (fX3_bring st p1 (st.1 0)) fun o5 =>
      ob (fX3_edge o5 p1 p2 p3) fun o6 =>
      some (o6, o5)
    )
  )
def fX8_readings (st : ST) (p1 : Int32) : Option (Int32 × ST) :=
  ob (fX5_has_c st p1) fun o1 =>
  if o1 = 0 then (
    some ((-1), st)
  ) else (
    ob (fX3_bring st p1 (st.1 0)) fun o3 =>
    ob (fX3_unlike o3 p1) fun o4 =>
    some (o4, o3)
  )
def fX8_cost (st : ST) : Option (Int32 × ST) :=
  ob (fX8_settle st) fun o1 =>
  if o1.1 = 0 then (
    some ((-1), o1.2)
  ) else (
    ob (fX6_leastCost o1.2) fun o3 =>
    some (o3, o1.2)
  )
def fX8_told (st : ST) (p1 : Int32) : Option (Int32 × ST) :=
  ob (fX8_settle st) fun o1 =>
  if o1.1 = 0 then (
    some ((-1), o1.2)
  ) else (
    ob (fX5_has_c o1.2 p1) fun o3 =>
    if o3 = 0 then (
      some ((-1), o1.2)
    ) else (
      ob (fX6_styleOf o1.2 p1) fun o5 =>
      some (o5, o1.2)
    )
  )
def fX8_day (st : ST) (p1 p2 : Int32) : Option (Int32 × ST) :=
  ob (fX8_settle st) fun o1 =>
  if o1.1 = 0 then (
    some ((-1), o1.2)
  ) else (
    ob (fX5_has_c o1.2 p1) fun o3 =>
    if o3 = 0 then (
      some ((-1), o1.2)
    ) else (
      ob (fX6_styleOf o1.2 p1) fun o5 =>
      ob (fX3_edge o1.2 p1 o5 p2) fun o6 =>
      some (o6, o1.2)
    )
  )
def fX8_kind (st : ST) (p1 : Int32) : Option (Int32 × ST) :=
  ob (fX8_settle st) fun o1 =>
  if o1.1 = 0 then (
    some ((-1), o1.2)
  ) else (
    ob (fX5_has_c o1.2 p1) fun o3 =>
    if o3 = 0 then (
      some ((-1), o1.2)
    ) else (
      ob (fX8_kindOf o1.2 p1) fun o5 =>
      some (o5, o1.2)
    )
  )
def fX8_second (st : ST) (p1 : Int32) : Option (Int32 × ST) :=
  ob (fX8_settle st) fun o1 =>
  if o1.1 = 0 then (
    some ((-1), o1.2)
  ) else (
    ob (fX5_has_c o1.2 p1) fun o3 =>
    if o3 = 0 then (
      some ((-1), o1.2)
    ) else (
      ob (fX8_isReadByBest o1.2 p1) fun o5 =>
      if o5 = 0 then (
        some ((-1), o1.2)
      ) else (
        ob (fX6_leastOtherwise o1.2 p1) fun o7 =>
        some (o7, o1.2)
      )
    )
  )
def fX8_many_22 : Nat → ST → Int32 → Int32 → Int32 → Option (Int32 × ST)
  | 0, _, _, _, _ => none
  | n + 1, st, x_1, x_2, x_3 =>
    ob (fX5_size_c st) fun o1 =>
    if o1 ≤ x_3 then (
      some (x_2, st)
    ) else (
      ob (fX8_kindOf st x_3) fun o3 =>
      if o3 = x_1 then (
        bnd (x_2 + 1 : Int32) fun x6 =>
        bnd (x_3 + 1 : Int32) fun x7 =>
        fX8_many_22 n st x_1 x6 x7
      ) else (
        bnd (x_3 + 1 : Int32) fun x5 =>
        fX8_many_22 n st x_1 x_2 x5
      )
    )
def fX8_many (st : ST) (p1 : Int32) : Option (Int32 × ST) :=
  if p1 < 0 then (
    some ((-1), st)
  ) else (
    if 3 < p1 then (
      some ((-1), st)
    ) else (
      ob (fX8_settle st) fun o10 =>
      if o10.1 = 0 then (
        some ((-1), o10.2)
      ) else (
        fX8_many_22 1000 o10.2 p1 0 0
      )
    )
  )
def fX8_spans_13 : Nat → ST → Int32 → Int32 → Option (Int32 × ST)
  | 0, _, _, _ => none
  | n + 1, st, x_1, x_2 =>
    ob (fX5_size_c st) fun o1 =>
    if o1 ≤ x_2 then (
      some (x_1, st)
    ) else (
      ob (fX6_styleOf st x_2) fun o3 =>
      ob (fX6_styleOf st (x_2 - 1)) fun o4 =>
      if o3 = o4 then (
        bnd (x_2 + 1 : Int32) fun x6 =>
        fX8_spans_13 n st x_1 x6
      ) else (
        bnd (x_1 + 1 : Int32) fun x7 =>
        bnd (x_2 + 1 : Int32) fun x8 =>
        fX8_spans_13 n st x7 x8
      )
    )
def fX8_spans (st : ST) : Option (Int32 × ST) :=
  ob (fX8_settle st) fun o9 =>
  if o9.1 = 0 then (
    some ((-1), o9.2)
  ) else (
    fX8_spans_13 1000 o9.2 1 1
  )
def fX8_number (st : ST) (p1 p2 p3 : Int32) : Option (Int32) :=
  ob (fX0_dayNumber p1 p2 p3) fun o1 =>
  some o1
def fX8_write (st : ST) (p1 p2 p3 : Int32) : Option (Int32 × ST) :=
  ob (fX0_isDay p1) fun o1 =>
  if o1 = 0 then (
    some ((-1), st)
  ) else (
    ob (fX5_has_p st p2) fun o3 =>
    if o3 = 0 then (
      some ((-1), st)
    ) else (
      ob (fX1_setDown st p1 p2) fun o5 =>
      ob (fX1_byteAt o5 p3) fun o6 =>
      some (o6, o5)
    )
  )
def fX8_same (st : ST) (p1 : Int32) : Option (Int32 × ST) :=
  ob (fX8_settle st) fun o1 =>
  if o1.1 = 0 then (
    some ((-1), o1.2)
  ) else (
    ob (fX5_has_c o1.2 p1) fun o3 =>
    if o3 = 0 then (
      some ((-1), o1.2)
    ) else (
      ob (fX8_isReadByBest o1.2 p1) fun o5 =>
      if o5 = 0 then (
        some ((-1), o1.2)
      ) else (
        ob (fX6_styleOf o1.2 p1) fun o7 =>
        ob (fX3_edge o1.2 p1 o7 0) fun o8 =>
        ob (fX1_setDown o1.2 o8 o7) fun o9 =>
        ob (fX1_equalsText o9 p1) fun o10 =>
        if o10 = 0 then (
          some (0, o9)
        ) else (
          some (1, o9)
        )
      )
    )
  )
def fX8_count (st : ST) (p1 : Int32) : Option (Int32) :=
  if p1 = 0 then (
    ob (fX5_size_p st) fun o2 =>
    some o2
  ) else (
  if p1 = 1 then (
    ob (fX5_size_c st) fun o4 =>
    some o4
  ) else (
  if p1 = 2 then (
    ob (fX4_length st) fun o6 =>
    some o6
  ) else (
  if p1 = 3 then (
    some (st.1 0)
  ) else (
    some (-1)
  ))))
def fJ0_length_8abf5_3 : Option (Int32) := some 36
def fJ0_length_8abf5_4 : Option (Int32) := some 21
def fJ0_charAt_5068e_3 (p1 : Int32) : Option (Int32) := ix p1 36 <| some (tMO (Int32.toNatClampNeg p1))
def fJ0_charAt_5068e_4 (p1 : Int32) : Option (Int32) := ix p1 21 <| some (tWD (Int32.toNatClampNeg p1))

def fX9_thrown (st : ST) : Option (Int32) :=
  some (st.1 0)
def fX9_number (st : ST) (p1 p2 p3 : Int32) : Option (Int32 × ST) :=
  bnd (setS st 0 0) fun s1 =>
  ob (fX9_isDate p1 p2 p3) fun o2 =>
  if o2 = 0 then (
    some ((-1), s1)
  ) else (
    ob (fX9_numberOf p1 p2 p3) fun o4 =>
    some (o4, s1)
  )
def fX9_split_72 : Nat → ST → Int32 → Option (ST)
  | 0, _, _ => none
  | n + 1, st, x_2 =>
    ob (fX9_daysOf (st.1 13) (st.1 14)) fun o1 =>
    if x_2 < o1 then (
      bnd ((x_2 + 1) : Int32) fun x3 =>
      bnd (setS st 12 x3) fun s4 =>
      some s4
    ) else (
      ob (fX9_daysOf (st.1 13) (st.1 14)) fun o5 =>
      bnd ((x_2 - o5) : Int32) fun x6 =>
      bnd (((st.1 13) + 1) : Int32) fun x7 =>
      bnd (setS st 13 x7) fun s8 =>
      fX9_split_72 n s8 x6
    )
def fX9_split_9 : Nat → ST → Int32 → Option (ST)
  | 0, _, _ => none
  | n + 1, st, x_2 =>
    ob (fX9_isLeap (st.1 14)) fun o9 =>
    if o9 = 0 then (
      if x_2 < 365 then (
        bnd (setS st 13 1) fun s12 =>
        fX9_split_72 1000 s12 x_2
      ) else (
        ob (fX9_isLeap (st.1 14)) fun o13 =>
        if o13 = 0 then (
          bnd ((x_2 - 365) : Int32) fun x15 =>
          bnd (((st.1 14) + 1) : Int32) fun x16 =>
          bnd (setS st 14 x16) fun s17 =>
          fX9_split_9 n s17 x15
        ) else (
          bnd ((x_2 - 366) : Int32) fun x18 =>
          bnd (((st.1 14) + 1) : Int32) fun x19 =>
          bnd (setS st 14 x19) fun s20 =>
          fX9_split_9 n s20 x18
        )
      )
    ) else (
      if x_2 < 366 then (
        bnd (setS st 13 1) fun s22 =>
        fX9_split_72 1000 s22 x_2
      ) else (
        ob (fX9_isLeap (st.1 14)) fun o23 =>
        if o23 = 0 then (
          bnd ((x_2 - 365) : Int32) fun x25 =>
          bnd (((st.1 14) + 1) : Int32) fun x26 =>
          bnd (setS st 14 x26) fun s27 =>
          fX9_split_9 n s27 x25
        ) else (
          bnd ((x_2 - 366) : Int32) fun x28 =>
          bnd (((st.1 14) + 1) : Int32) fun x29 =>
          bnd (setS st 14 x29) fun s30 =>
          fX9_split_9 n s30 x28
        )
      )
    )
def fX9_split (st : ST) (p1 : Int32) : Option (ST) :=
  bnd (setS st 14 1900) fun s31 =>
  fX9_split_9 1000 s31 p1
def fX9_part (st : ST) (p1 p2 : Int32) : Option (Int32 × ST) :=
  ob (fX9_isDay p1) fun o1 =>
  if o1 = 0 then (
    bnd (setS st 0 1) fun s3 =>
    if (s3.1 0) ≤ 0 then (
      ob (fX9_split s3 p1) fun o5 =>
      if p2 = 0 then (
        some ((o5.1 12), o5)
      ) else (
        if p2 = 1 then (
          some ((o5.1 13), o5)
        ) else (
          if p2 = 2 then (
            some ((o5.1 14), o5)
          ) else (
            some ((p1 - p1 / 7 * 7), o5)
          )
        )
      )
    ) else (
      some (0, s3)
    )
  ) else (
    ob (fX9_isIn p2 0 3) fun o9 =>
    if o9 = 0 then (
      bnd (setS st 0 1) fun s11 =>
      if (s11.1 0) ≤ 0 then (
        ob (fX9_split s11 p1) fun o13 =>
        if p2 = 0 then (
          some ((o13.1 12), o13)
        ) else (
          if p2 = 1 then (
            some ((o13.1 13), o13)
          ) else (
            if p2 = 2 then (
              some ((o13.1 14), o13)
            ) else (
              some ((p1 - p1 / 7 * 7), o13)
            )
          )
        )
      ) else (
        some (0, s11)
      )
    ) else (
      bnd (setS st 0 0) fun s17 =>
      if (s17.1 0) ≤ 0 then (
        ob (fX9_split s17 p1) fun o19 =>
        if p2 = 0 then (
          some ((o19.1 12), o19)
        ) else (
          if p2 = 1 then (
            some ((o19.1 13), o19)
          ) else (
            if p2 = 2 then (
              some ((o19.1 14), o19)
            ) else (
              some ((p1 - p1 / 7 * 7), o19)
            )
          )
        )
      ) else (
        some (0, s17)
      )
    )
  )
def fX9_put_3 : Nat → ST → Int32 → Int32 → Option (ST)
  | 0, _, _, _ => none
  | n + 1, st, x_1, x_2 =>
    if x_2 < 0 then (
      some st
    ) else (
      if ((x_1 >>> (x_2 &&& 31)) &&& 255) = 0 then (
        bnd (x_2 + (-8) : Int32) fun x10 =>
        fX9_put_3 n st x_1 x10
      ) else (
        bnd ((Int32.toInt8 (x_1 >>> (x_2 &&& 31))).toInt32 : Int32) fun x3 =>
        bnd ((st.1 8) : Int32) fun x4 =>
        ix x4 24 <|
        bnd (setA st 1 (Int32.toNatClampNeg x4) (vp_nar .byte x3)) fun s6 =>
        bnd (((s6.1 8) + 1) : Int32) fun x7 =>
        bnd (setS s6 8 x7) fun s8 =>
        bnd (x_2 + (-8) : Int32) fun x9 =>
        fX9_put_3 n s8 x_1 x9
      )
    )
def fX9_put (st : ST) (p1 : Int32) : Option (ST) :=
  fX9_put_3 1000 st p1 24
def fX9_feed (st : ST) (p1 p2 : Int32) : Option (Int32 × ST) :=
  bnd (setS st 0 0) fun s1 =>
  ob (fX9_bytesIn p1) fun o2 =>
  ob (fX9_bytesIn p2) fun o3 =>
  if (((s1.1 8) + o2) + o3) ≤ 24 then (
    ob (fX9_put s1 p1) fun o5 =>
    ob (fX9_put o5 p2) fun o6 =>
    some ((o6.1 8), o6)
  ) else (
    some ((-1), s1)
  )
def fX9_end (st : ST) (p1 : Int32) : Option (Int32 × ST) :=
  bnd (setS st 0 0) fun s1 =>
  if p1 < 0 then (
    some (0, s1)
  ) else (
    if p1 ≤ (s1.1 8) then (
      bnd (setS s1 8 p1) fun s4 =>
      some (1, s4)
    ) else (
      some (0, s1)
    )
  )
def fX9_isPlain_4 : Nat → ST → Int32 → Int32 → Option (Int32)
  | 0, _, _, _ => none
  | n + 1, st, x_1, x_2 =>
    if (st.1 8) ≤ x_2 then (
      tv x_1 <|
      some x_1
    ) else (
      if x_1 = 0 then (
        bnd (x_2 + 1 : Int32) fun x4 =>
        fX9_isPlain_4 n st 0 x4
      ) else (
        ix x_2 24 <|
        ob (fX9_isIn (st.2 1 (Int32.toNatClampNeg x_2)) 32 126) fun o6 =>
        if o6 = 0 then (
          bnd (x_2 + 1 : Int32) fun x8 =>
          fX9_isPlain_4 n st 0 x8
        ) else (
          bnd (x_2 + 1 : Int32) fun x9 =>
          fX9_isPlain_4 n st 1 x9
        )
      )
    )
def fX9_isPlain (st : ST) : Option (Int32) :=
  fX9_isPlain_4 1000 st 1 0
def fX9_manyOf_4 : Nat → ST → Int32 → Int32 → Int32 → Option (Int32)
  | 0, _, _, _, _ => none
  | n + 1, st, x_1, x_2, x_3 =>
    if (st.1 8) ≤ x_3 then (
      some x_2
    ) else (
      ix x_3 24 <|
      if (st.2 1 (Int32.toNatClampNeg x_3)) = x_1 then (
        bnd ((x_2 + 1) : Int32) fun x6 =>
        bnd (x_3 + 1 : Int32) fun x7 =>
        fX9_manyOf_4 n st x_1 x6 x7
      ) else (
        bnd ((x_2 + 0) : Int32) fun x4 =>
        bnd (x_3 + 1 : Int32) fun x5 =>
        fX9_manyOf_4 n st x_1 x4 x5
      )
    )
def fX9_manyOf (st : ST) (p1 : Int32) : Option (Int32) :=
  fX9_manyOf_4 1000 st p1 0 0
def fX9_style_99 : Nat → ST → Int32 → Int32 → Option (Int32 × ST)
  | 0, _, _, _ => none
  | n + 1, st, x_1, x_2 =>
    if (st.1 8) ≤ x_2 then (
      bnd ((st.1 8) : Int32) fun x2 =>
      bnd ((st.1 9) : Int32) fun x3 =>
      ix x3 8 <|
      bnd (setA st 4 (Int32.toNatClampNeg x3) x2) fun s5 =>
      bnd ((s5.1 9) : Int32) fun x6 =>
      ix x6 8 <|
      bnd (setA s5 5 (Int32.toNatClampNeg x6) x_1) fun s8 =>
      bnd (((s8.1 9) + 1) : Int32) fun x9 =>
      bnd (setS s8 9 x9) fun s10 =>
      bnd (setS s10 8 0) fun s11 =>
      some (((s11.1 9) - 1), s11)
    ) else (
      ix x_2 24 <|
      bnd ((st.2 1 (Int32.toNatClampNeg x_2)) : Int32) fun x13 =>
      bnd (((24 * (st.1 9)) + x_2) : Int32) fun x14 =>
      ix x14 192 <|
      bnd (setA st 2 (Int32.toNatClampNeg x14) (vp_nar .byte x13)) fun s16 =>
      bnd (x_2 + 1 : Int32) fun x17 =>
      fX9_style_99 n s16 x_1 x17
    )
def fX9_style (st : ST) (p1 : Int32) : Option (Int32 × ST) :=
  bnd (setS st 0 0) fun s18 =>
  if (s18.1 9) = 8 then (
    some ((-1), s18)
  ) else (
    ob (fX9_isIn p1 0 1000) fun o20 =>
    if o20 = 0 then (
      some ((-1), s18)
    ) else (
      if (s18.1 8) = 0 then (
        some ((-1), s18)
      ) else (
        ob (fX9_isPlain s18) fun o23 =>
        if o23 = 0 then (
          some ((-1), s18)
        ) else (
          ob (fX9_manyOf s18 68) fun o25 =>
          if 1 < o25 then (
            some ((-1), s18)
          ) else (
            ob (fX9_manyOf s18 87) fun o27 =>
            if 1 < o27 then (
              some ((-1), s18)
            ) else (
              ob (fX9_manyOf s18 77) fun o29 =>
              ob (fX9_manyOf s18 78) fun o30 =>
              if (o29 + o30) = 1 then (
                ob (fX9_manyOf s18 89) fun o32 =>
                ob (fX9_manyOf s18 121) fun o33 =>
                if (o32 + o33) = 1 then (
                  fX9_style_99 1000 s18 p1 0
                ) else (
                  some ((-1), s18)
                )
              ) else (
                some ((-1), s18)
              )
            )
          )
        )
      )
    )
  )
def fX9_row_25 : Nat → ST → Int32 → Option (Int32 × ST)
  | 0, _, _ => none
  | n + 1, st, x_1 =>
    if (st.1 8) ≤ x_1 then (
      bnd ((st.1 8) : Int32) fun x2 =>
      bnd ((st.1 10) : Int32) fun x3 =>
      ix x3 30 <|
      bnd (setA st 6 (Int32.toNatClampNeg x3) x2) fun s5 =>
      bnd (((s5.1 10) + 1) : Int32) fun x6 =>
      bnd (setS s5 10 x6) fun s7 =>
      bnd (setS s7 8 0) fun s8 =>
      some (((s8.1 10) - 1), s8)
    ) else (
      ix x_1 24 <|
      bnd ((st.2 1 (Int32.toNatClampNeg x_1)) : Int32) fun x10 =>
      bnd (((24 * (st.1 10)) + x_1) : Int32) fun x11 =>
      ix x11 720 <|
      bnd (setA st 3 (Int32.toNatClampNeg x11) (vp_nar .byte x10)) fun s13 =>
      bnd (x_1 + 1 : Int32) fun x14 =>
      fX9_row_25 n s13 x14
    )
def fX9_row (st : ST) : Option (Int32 × ST) :=
  bnd (setS st 0 0) fun s15 =>
  if (s15.1 10) = 30 then (
    some ((-1), s15)
  ) else (
    ob (fX9_isPlain s15) fun o17 =>
    if o17 = 0 then (
      some ((-1), s15)
    ) else (
      fX9_row_25 1000 s15 0
    )
  )
def fX9_clear (st : ST) : Option (ST) :=
  bnd (setS st 0 0) fun s1 =>
  bnd (setS s1 10 0) fun s2 =>
  some s2
def fX9_window (st : ST) (p1 : Int32) : Option (Int32 × ST) :=
  bnd (setS st 0 0) fun s1 =>
  ob (fX9_isIn p1 1900 2100) fun o2 =>
  if o2 = 0 then (
    some (0, s1)
  ) else (
    bnd (setS s1 11 p1) fun s4 =>
    some (1, s4)
  )
def fX9_price (st : ST) (p1 p2 : Int32) : Option (Int32 × ST) :=
  bnd (setS st 0 0) fun s1 =>
  ob (fX9_isIn p1 0 2) fun o2 =>
  if o2 = 0 then (
    some (0, s1)
  ) else (
    ob (fX9_isIn p2 0 1000) fun o4 =>
    if o4 = 0 then (
      some (0, s1)
    ) else (
      ix p1 3 <|
      bnd (setA s1 7 (Int32.toNatClampNeg p1) p2) fun s7 =>
      some (1, s7)
    )
  )
def fX9_byteAt (st : ST) (p1 : Int32) : Option (Int32) :=
  bnd ((st.1 18) : Int32) fun x1 =>
  ix x1 30 <|
  if (st.2 6 (Int32.toNatClampNeg x1)) ≤ p1 then (
    some 0
  ) else (
    bnd (((24 * (st.1 18)) + p1) : Int32) fun x4 =>
    ix x4 720 <|
    some (st.2 3 (Int32.toNatClampNeg x4))
  )
def fX9_isDigit (st : ST) (p1 : Int32) : Option (Int32) :=
  ob (fX9_byteAt st p1) fun o1 =>
  ob (fX9_isIn o1 48 57) fun o2 =>
  tv o2 <|
  some o2
def fX9_digits_4 : Nat → ST → Int32 → Int32 → Int32 → Option (Int32 × ST)
  | 0, _, _, _, _ => none
  | n + 1, st, x_1, x_2, x_3 =>
    if x_1 ≤ x_3 then (
      some (x_2, st)
    ) else (
      ob (fX9_isDigit st (st.1 17)) fun o2 =>
      if o2 = 0 then (
        some ((-1), st)
      ) else (
        ob (fX9_byteAt st (st.1 17)) fun o4 =>
        bnd ((((10 * x_2) + o4) - 48) : Int32) fun x5 =>
        bnd (((st.1 17) + 1) : Int32) fun x6 =>
        bnd (setS st 17 x6) fun s7 =>
        bnd (x_3 + 1 : Int32) fun x8 =>
        fX9_digits_4 n s7 x_1 x5 x8
      )
    )
def fX9_digits (st : ST) (p1 : Int32) : Option (Int32 × ST) :=
  fX9_digits_4 1000 st p1 0 0
def fX9_word_3_17 : Nat → ST → Int32 → Int32 → Int32 → Option (Int32)
  | 0, _, _, _, _ => none
  | n + 1, st, x_2, x_3, x_4 =>
    if 3 ≤ x_4 then (
      some (x_3)
    ) else (
      ob (fX9_byteAt st ((st.1 17) + x_4)) fun o2 =>
      ob (fX9_isIn o2 65 90) fun o3 =>
      if o3 = 0 then (
        if x_3 = 0 then (
          bnd (x_4 + 1 : Int32) fun x6 =>
          fX9_word_3_17 n st x_2 0 x6
        ) else (
          ob (fJ0_charAt_5068e_3 ((3 * x_2) + x_4)) fun o7 =>
          if o2 = o7 then (
            bnd (x_4 + 1 : Int32) fun x10 =>
            fX9_word_3_17 n st x_2 1 x10
          ) else (
            bnd (x_4 + 1 : Int32) fun x9 =>
            fX9_word_3_17 n st x_2 0 x9
          )
        )
      ) else (
        bnd (o2 + 32 : Int32) fun x11 =>
        if x_3 = 0 then (
          bnd (x_4 + 1 : Int32) fun x13 =>
          fX9_word_3_17 n st x_2 0 x13
        ) else (
          ob (fJ0_charAt_5068e_3 ((3 * x_2) + x_4)) fun o14 =>
          if x11 = o14 then (
            bnd (x_4 + 1 : Int32) fun x17 =>
            fX9_word_3_17 n st x_2 1 x17
          ) else (
            bnd (x_4 + 1 : Int32) fun x16 =>
            fX9_word_3_17 n st x_2 0 x16
          )
        )
      )
    )
def fX9_word_3_2 : Nat → ST → Int32 → Option (Int32 × ST)
  | 0, _, _ => none
  | n + 1, st, x_2 =>
    ob (fJ0_length_8abf5_3) fun o18 =>
    if o18 ≤ (3 * x_2) then (
      some ((-1), st)
    ) else (
      ob (fX9_word_3_17 1000 st x_2 1 0) fun o20 =>
      if o20 = 0 then (
        bnd (x_2 + 1 : Int32) fun x22 =>
        fX9_word_3_2 n st x22
      ) else (
        bnd (((st.1 17) + 3) : Int32) fun x23 =>
        bnd (setS st 17 x23) fun s24 =>
        some (x_2, s24)
      )
    )
def fX9_word_3 (st : ST) : Option (Int32 × ST) :=
  fX9_word_3_2 1000 st 0
def fX9_word_4_17 : Nat → ST → Int32 → Int32 → Int32 → Option (Int32)
  | 0, _, _, _, _ => none
  | n + 1, st, x_2, x_3, x_4 =>
    if 3 ≤ x_4 then (
      some (x_3)
    ) else (
      ob (fX9_byteAt st ((st.1 17) + x_4)) fun o2 =>
      ob (fX9_isIn o2 65 90) fun o3 =>
      if o3 = 0 then (
        if x_3 = 0 then (
          bnd (x_4 + 1 : Int32) fun x6 =>
          fX9_word_4_17 n st x_2 0 x6
        ) else (
          ob (fJ0_charAt_5068e_4 ((3 * x_2) + x_4)) fun o7 =>
          if o2 = o7 then (
            bnd (x_4 + 1 : Int32) fun x10 =>
            fX9_word_4_17 n st x_2 1 x10
          ) else (
            bnd (x_4 + 1 : Int32) fun x9 =>
            fX9_word_4_17 n st x_2 0 x9
          )
        )
      ) else (
        bnd (o2 + 32 : Int32) fun x11 =>
        if x_3 = 0 then (
          bnd (x_4 + 1 : Int32) fun x13 =>
          fX9_word_4_17 n st x_2 0 x13
        ) else (
          ob (fJ0_charAt_5068e_4 ((3 * x_2) + x_4)) fun o14 =>
          if x11 = o14 then (
            bnd (x_4 + 1 : Int32) fun x17 =>
            fX9_word_4_17 n st x_2 1 x17
          ) else (
            bnd (x_4 + 1 : Int32) fun x16 =>
            fX9_word_4_17 n st x_2 0 x16
          )
        )
      )
    )
def fX9_word_4_2 : Nat → ST → Int32 → Option (Int32 × ST)
  | 0, _, _ => none
  | n + 1, st, x_2 =>
    ob (fJ0_length_8abf5_4) fun o18 =>
    if o18 ≤ (3 * x_2) then (
      some ((-1), st)
    ) else (
      ob (fX9_word_4_17 1000 st x_2 1 0) fun o20 =>
      if o20 = 0 then (
        bnd (x_2 + 1 : Int32) fun x22 =>
        fX9_word_4_2 n st x22
      ) else (
        bnd (((st.1 17) + 3) : Int32) fun x23 =>
        bnd (setS st 17 x23) fun s24 =>
        some (x_2, s24)
      )
    )
def fX9_word_4 (st : ST) : Option (Int32 × ST) :=
  fX9_word_4_2 1000 st 0
def fX9_reads_268 : Nat → ST → Int32 → Int32 → Int32 → Int32 → Int32 → Int32 → Int32 → Int32 → Option (ST)
  | 0, _, _, _, _, _, _, _, _, _ => none
  | n + 1, st, x_1, x_2, x_3, x_4, x_5, x_6, x_7, x_8 =>
    if x_8 = 32 then (
      ob (fX9_byteAt st (st.1 17)) fun o2 =>
      if o2 = 32 then (
        bnd (((st.1 17) + 1) : Int32) fun x4 =>
        bnd (setS st 17 x4) fun s5 =>
        fX9_reads_268 n s5 x_1 x_2 x_3 x_4 x_5 x_6 x_7 x_8
      ) else (
        some (st)
      )
    ) else (
      some (st)
    )
def fX9_reads_25 : Nat → ST → Int32 → Int32 → Int32 → Int32 → Int32 → Int32 → Int32 → Option (Int32 × ST)
  | 0, _, _, _, _, _, _, _, _ => none
  | n + 1, st, x_1, x_2, x_3, x_4, x_5, x_6, x_7 =>
    ix x_2 8 <|
    if (st.2 4 (Int32.toNatClampNeg x_2)) ≤ x_7 then (
      ix x_1 30 <|
      if (st.1 17) = (st.2 6 (Int32.toNatClampNeg x_1)) then (
        ob (fX9_isDate (if 1 < x_3 then x_3 else 1) x_4 x_5) fun o10 =>
        if o10 = 0 then (
          some (0, st)
        ) else (
          ob (fX9_numberOf (if 1 < x_3 then x_3 else 1) x_4 x_5) fun o12 =>
          bnd (setS st 15 o12) fun s13 =>
          if x_3 = 0 then (
            ob (fX9_daysOf x_4 x_5) fun o19 =>
            bnd ((((s13.1 15) + o19) - 1) : Int32) fun x20 =>
            bnd (setS s13 16 x20) fun s21 =>
            if x_6 = 7 then (
              some (1, s21)
            ) else (
              if ((s21.1 15) - (s21.1 15) / 7 * 7) = x_6 then (
                some (1, s21)
              ) else (
                some (0, s21)
              )
            )
          ) else (
            bnd ((s13.1 15) : Int32) fun x15 =>
            bnd (setS s13 16 x15) fun s16 =>
            if x_6 = 7 then (
              some (1, s16)
            ) else (
              if ((s16.1 15) - (s16.1 15) / 7 * 7) = x_6 then (
                some (1, s16)
              ) else (
                some (0, s16)
              )
            )
          )
        )
      ) else (
        some (0, st)
      )
    ) else (
      bnd (((24 * x_2) + x_7) : Int32) fun x24 =>
      ix x24 192 <|
      bnd ((st.2 2 (Int32.toNatClampNeg x24)) : Int32) fun x26 =>
      if x26 = 68 then (
        ob (fX9_isDigit st (st.1 17)) fun o28 =>
        if o28 = 0 then (
          ob (fX9_digits st 1) fun o30 =>
          if 1 ≤ o30.1 then (
            if x26 = 68 then (
              bnd (x_7 + 1 : Int32) fun x34 =>
              fX9_reads_25 n o30.2 x_1 x_2 o30.1 x_4 x_5 x_6 x34
            ) else (
              bnd (x_7 + 1 : Int32) fun x33 =>
              fX9_reads_25 n o30.2 x_1 x_2 x_3 o30.1 x_5 x_6 x33
            )
          ) else (
            some (0, o30.2)
          )
        ) else (
          ob (fX9_isDigit st ((st.1 17) + 1)) fun o35 =>
          if o35 = 0 then (
            ob (fX9_digits st 1) fun o37 =>
            if 1 ≤ o37.1 then (
              if x26 = 68 then (
                bnd (x_7 + 1 : Int32) fun x41 =>
                fX9_reads_25 n o37.2 x_1 x_2 o37.1 x_4 x_5 x_6 x41
              ) else (
                bnd (x_7 + 1 : Int32) fun x40 =>
                fX9_reads_25 n o37.2 x_1 x_2 x_3 o37.1 x_5 x_6 x40
              )
            ) else (
              some (0, o37.2)
            )
          ) else (
            ob (fX9_digits st 2) fun o42 =>
            if 1 ≤ o42.1 then (
              if x26 = 68 then (
                bnd (x_7 + 1 : Int32) fun x46 =>
                fX9_reads_25 n o42.2 x_1 x_2 o42.1 x_4 x_5 x_6 x46
              ) else (
                bnd (x_7 + 1 : Int32) fun x45 =>
                fX9_reads_25 n o42.2 x_1 x_2 x_3 o42.1 x_5 x_6 x45
              )
            ) else (
              some (0, o42.2)
            )
          )
        )
      ) else (
        if x26 = 77 then (
          ob (fX9_isDigit st (st.1 17)) fun o95 =>
          if o95 = 0 then (
            ob (fX9_digits st 1) fun o97 =>
            if 1 ≤ o97.1 then (
              if x26 = 68 then (
                bnd (x_7 + 1 : Int32) fun x101 =>
                fX9_reads_25 n o97.2 x_1 x_2 o97.1 x_4 x_5 x_6 x101
              ) else (
                bnd (x_7 + 1 : Int32) fun x100 =>
                fX9_reads_25 n o97.2 x_1 x_2 x_3 o97.1 x_5 x_6 x100
              )
            ) else (
              some (0, o97.2)
            )
          ) else (
            ob (fX9_isDigit st ((st.1 17) + 1)) fun o102 =>
            if o102 = 0 then (
              ob (fX9_digits st 1) fun o104 =>
              if 1 ≤ o104.1 then (
                if x26 = 68 then (
                  bnd (x_7 + 1 : Int32) fun x108 =>
                  fX9_reads_25 n o104.2 x_1 x_2 o104.1 x_4 x_5 x_6 x108
                ) else (
                  bnd (x_7 + 1 : Int32) fun x107 =>
                  fX9_reads_25 n o104.2 x_1 x_2 x_3 o104.1 x_5 x_6 x107
                )
              ) else (
                some (0, o104.2)
              )
            ) else (
              ob (fX9_digits st 2) fun o109 =>
              if 1 ≤ o109.1 then (
                if x26 = 68 then (
                  bnd (x_7 + 1 : Int32) fun x113 =>
                  fX9_reads_25 n o109.2 x_1 x_2 o109.1 x_4 x_5 x_6 x113
                ) else (
                  bnd (x_7 + 1 : Int32) fun x112 =>
                  fX9_reads_25 n o109.2 x_1 x_2 x_3 o109.1 x_5 x_6 x112
                )
              ) else (
                some (0, o109.2)
              )
            )
          )
        ) else (
          if x26 = 89 then (
            if x26 = 89 then (
              ob (fX9_digits st 4) fun o57 =>
              if o57.1 = (-1) then (
                some (0, o57.2)
              ) else (
                if x26 = 121 then (
                  ob (fJ9_floorMod_7cf53 (o57.1 - (o57.2.1 11)) 100) fun o61 =>
                  bnd (((o57.2.1 11) + o61) : Int32) fun x62 =>
                  bnd (x_7 + 1 : Int32) fun x63 =>
                  fX9_reads_25 n o57.2 x_1 x_2 x_3 x_4 x62 x_6 x63
                ) else (
                  bnd (x_7 + 1 : Int32) fun x60 =>
                  fX9_reads_25 n o57.2 x_1 x_2 x_3 x_4 o57.1 x_6 x60
                )
              )
            ) else (
              ob (fX9_digits st 2) fun o50 =>
              if o50.1 = (-1) then (
                some (0, o50.2)
              ) else (
                if x26 = 121 then (
                  ob (fJ9_floorMod_7cf53 (o50.1 - (o50.2.1 11)) 100) fun o54 =>
                  bnd (((o50.2.1 11) + o54) : Int32) fun x55 =>
                  bnd (x_7 + 1 : Int32) fun x56 =>
                  fX9_reads_25 n o50.2 x_1 x_2 x_3 x_4 x55 x_6 x56
                ) else (
                  bnd (x_7 + 1 : Int32) fun x53 =>
                  fX9_reads_25 n o50.2 x_1 x_2 x_3 x_4 o50.1 x_6 x53
                )
              )
            )
          ) else (
            if x26 = 121 then (
              if x26 = 89 then (
                ob (fX9_digits st 4) fun o88 =>
                if o88.1 = (-1) then (
                  some (0, o88.2)
                ) else (
                  if x26 = 121 then (
                    ob (fJ9_floorMod_7cf53 (o88.1 - (o88.2.1 11)) 100) fun o92 =>
                    bnd (((o88.2.1 11) + o92) : Int32) fun x93 =>
                    bnd (x_7 + 1 : Int32) fun x94 =>
                    fX9_reads_25 n o88.2 x_1 x_2 x_3 x_4 x93 x_6 x94
                  ) else (
                    bnd (x_7 + 1 : Int32) fun x91 =>
                    fX9_reads_25 n o88.2 x_1 x_2 x_3 x_4 o88.1 x_6 x91
                  )
                )
              ) else (
                ob (fX9_digits st 2) fun o81 =>
                if o81.1 = (-1) then (
                  some (0, o81.2)
                ) else (
                  if x26 = 121 then (
                    ob (fJ9_floorMod_7cf53 (o81.1 - (o81.2.1 11)) 100) fun o85 =>
                    bnd (((o81.2.1 11) + o85) : Int32) fun x86 =>
                    bnd (x_7 + 1 : Int32) fun x87 =>
                    fX9_reads_25 n o81.2 x_1 x_2 x_3 x_4 x86 x_6 x87
                  ) else (
                    bnd (x_7 + 1 : Int32) fun x84 =>
                    fX9_reads_25 n o81.2 x_1 x_2 x_3 x_4 o81.1 x_6 x84
                  )
                )
              )
            ) else (
              if x26 = 78 then (
                ob (fX9_word_3 st) fun o76 =>
                bnd ((1 + o76.1) : Int32) fun x77 =>
                if x77 = 0 then (
                  some (0, o76.2)
                ) else (
                  bnd (x_7 + 1 : Int32) fun x79 =>
                  fX9_reads_25 n o76.2 x_1 x_2 x_3 x77 x_5 x_6 x79
                )
              ) else (
                if x26 = 87 then (
                  ob (fX9_word_4 st) fun o73 =>
                  if o73.1 = (-1) then (
                    some (0, o73.2)
                  ) else (
                    bnd (x_7 + 1 : Int32) fun x75 =>
                    fX9_reads_25 n o73.2 x_1 x_2 x_3 x_4 x_5 o73.1 x75
                  )
                ) else (
                  ob (fX9_byteAt st (st.1 17)) fun o67 =>
                  if o67 = x26 then (
                    bnd (((st.1 17) + 1) : Int32) fun x69 =>
                    bnd (setS st 17 x69) fun s70 =>
                    ob (fX9_reads_268 1000 s70 x_1 x_2 x_3 x_4 x_5 x_6 x_7 x26) fun o71 =>
                    bnd (x_7 + 1 : Int32) fun x72 =>
                    fX9_reads_25 n o71 x_1 x_2 x_3 x_4 x_5 x_6 x72
                  ) else (
                    some (0, st)
                  )
                )
              )
            )
          )
        )
      )
    )
def fX9_reads (st : ST) (p1 p2 : Int32) : Option (Int32 × ST) :=
  bnd (setS st 18 p1) fun s114 =>
  bnd (setS s114 17 0) fun s115 =>
  fX9_reads_25 1000 s115 p1 p2 0 0 0 7 0
def fX9_readAll_12 : Nat → ST → Int32 → Int32 → Option (ST)
  | 0, _, _, _ => none
  | n + 1, st, x_1, x_2 =>
    if (st.1 9) ≤ x_2 then (
      some (st)
    ) else (
      ob (fX9_reads st x_1 x_2) fun o2 =>
      if o2.1 = 0 then (
        bnd (((8 * x_1) + x_2) : Int32) fun x4 =>
        ix x4 240 <|
        bnd (setA o2.2 8 (Int32.toNatClampNeg x4) (-1)) fun s6 =>
        if o2.1 = 0 then (
          bnd (((8 * x_1) + x_2) : Int32) fun x8 =>
          ix x8 240 <|
          bnd (setA s6 9 (Int32.toNatClampNeg x8) (-1)) fun s10 =>
          bnd (x_2 + 1 : Int32) fun x11 =>
          fX9_readAll_12 n s10 x_1 x11
        ) else (
          bnd ((s6.1 16) : Int32) fun x12 =>
          bnd (((8 * x_1) + x_2) : Int32) fun x13 =>
          ix x13 240 <|
          bnd (setA s6 9 (Int32.toNatClampNeg x13) x12) fun s15 =>
          bnd (x_2 + 1 : Int32) fun x16 =>
          fX9_readAll_12 n s15 x_1 x16
        )
      ) else (
        bnd ((o2.2.1 15) : Int32) fun x17 =>
        bnd (((8 * x_1) + x_2) : Int32) fun x18 =>
        ix x18 240 <|
        bnd (setA o2.2 8 (Int32.toNatClampNeg x18) x17) fun s20 =>
        if o2.1 = 0 then (
          bnd (((8 * x_1) + x_2) : Int32) fun x22 =>
          ix x22 240 <|
          bnd (setA s20 9 (Int32.toNatClampNeg x22) (-1)) fun s24 =>
          bnd (x_2 + 1 : Int32) fun x25 =>
          fX9_readAll_12 n s24 x_1 x25
        ) else (
          bnd ((s20.1 16) : Int32) fun x26 =>
          bnd (((8 * x_1) + x_2) : Int32) fun x27 =>
          ix x27 240 <|
          bnd (setA s20 9 (Int32.toNatClampNeg x27) x26) fun s29 =>
          bnd (x_2 + 1 : Int32) fun x30 =>
          fX9_readAll_12 n s29 x_1 x30
        )
      )
    )
def fX9_readAll_2 : Nat → ST → Int32 → Option (ST)
  | 0, _, _ => none
  | n + 1, st, x_1 =>
    if (st.1 10) ≤ x_1 then (
      some st
    ) else (
      ob (fX9_readAll_12 1000 st x_1 0) fun o32 =>
      bnd (x_1 + 1 : Int32) fun x33 =>
      fX9_readAll_2 n o32 x33
    )
def fX9_readAll (st : ST) : Option (ST) :=
  fX9_readAll_2 1000 st 0
def fX9_isRow (st : ST) (p1 : Int32) : Option (Int32) :=
  if p1 < 0 then (
    some 0
  ) else (
    if (st.1 10) ≤ p1 then (
      some 0
    ) else (
      some 1
    )
  )
def fX9_read (st : ST) (p1 p2 p3 : Int32) : Option (Int32 × ST) :=
  bnd (setS st 0 0) fun s1 =>
  ob (fX9_isRow s1 p1) fun o2 =>
  if o2 = 0 then (
    some ((-1), s1)
  ) else (
    ob (fX9_isIn p2 0 ((s1.1 9) - 1)) fun o4 =>
    if o4 = 0 then (
      some ((-1), s1)
    ) else (
      ob (fX9_isIn p3 0 1) fun o6 =>
      if o6 = 0 then (
        some ((-1), s1)
      ) else (
        ob (fX9_reads s1 p1 p2) fun o8 =>
        if o8.1 = 0 then (
          some ((-1), o8.2)
        ) else (
          if p3 = 0 then (
            some ((o8.2.1 15), o8.2)
          ) else (
            some ((o8.2.1 16), o8.2)
          )
        )
      )
    )
  )
def fX9_isSame (st : ST) (p1 p2 p3 : Int32) : Option (Int32) :=
  bnd (((8 * p1) + p2) : Int32) fun x1 =>
  ix x1 240 <|
  bnd (((8 * p1) + p3) : Int32) fun x3 =>
  ix x3 240 <|
  if (st.2 8 (Int32.toNatClampNeg x1)) = (st.2 8 (Int32.toNatClampNeg x3)) then (
    bnd (((8 * p1) + p2) : Int32) fun x6 =>
    ix x6 240 <|
    bnd (((8 * p1) + p3) : Int32) fun x8 =>
    ix x8 240 <|
    if (st.2 9 (Int32.toNatClampNeg x6)) = (st.2 9 (Int32.toNatClampNeg x8)) then (
      some 1
    ) else (
      some 0
    )
  ) else (
    some 0
  )
def fX9_readings_56 : Nat → ST → Int32 → Int32 → Int32 → Int32 → Int32 → Option (Int32)
  | 0, _, _, _, _, _, _ => none
  | n + 1, st, x_1, x_2, x_3, x_4, x_5 =>
    if x_3 ≤ x_5 then (
      some (x_4)
    ) else (
      if x_4 = 0 then (
        bnd (x_5 + 1 : Int32) fun x3 =>
        fX9_readings_56 n st x_1 x_2 x_3 0 x3
      ) else (
        ob (fX9_isSame st x_1 x_3 x_5) fun o4 =>
        if o4 = 0 then (
          bnd (x_5 + 1 : Int32) fun x7 =>
          fX9_readings_56 n st x_1 x_2 x_3 1 x7
        ) else (
          bnd (x_5 + 1 : Int32) fun x6 =>
          fX9_readings_56 n st x_1 x_2 x_3 0 x6
        )
      )
    )
def fX9_readings_23 : Nat → ST → Int32 → Int32 → Int32 → Option (Int32 × ST)
  | 0, _, _, _, _ => none
  | n + 1, st, x_1, x_2, x_3 =>
    if (st.1 9) ≤ x_3 then (
      some (x_2, st)
    ) else (
      bnd (((8 * x_1) + x_3) : Int32) fun x9 =>
      ix x9 240 <|
      if (st.2 8 (Int32.toNatClampNeg x9)) = (-1) then (
        ob (fX9_readings_56 1000 st x_1 x_2 x_3 0 0) fun o12 =>
        if o12 = 0 then (
          bnd ((x_2 + 0) : Int32) fun x14 =>
          bnd (x_3 + 1 : Int32) fun x15 =>
          fX9_readings_23 n st x_1 x14 x15
        ) else (
          bnd ((x_2 + 1) : Int32) fun x16 =>
          bnd (x_3 + 1 : Int32) fun x17 =>
          fX9_readings_23 n st x_1 x16 x17
        )
      ) else (
        ob (fX9_readings_56 1000 st x_1 x_2 x_3 1 0) fun o18 =>
        if o18 = 0 then (
          bnd ((x_2 + 0) : Int32) fun x20 =>
          bnd (x_3 + 1 : Int32) fun x21 =>
          fX9_readings_23 n st x_1 x20 x21
        ) else (
          bnd ((x_2 + 1) : Int32) fun x22 =>
          bnd (x_3 + 1 : Int32) fun x23 =>
          fX9_readings_23 n st x_1 x22 x23
        )
      )
    )
def fX9_readings (st : ST) (p1 : Int32) : Option (Int32 × ST) :=
  bnd (setS st 0 0) fun s24 =>
  ob (fX9_isRow s24 p1) fun o25 =>
  if o25 = 0 then (
    some ((-1), s24)
  ) else (
    ob (fX9_readAll s24) fun o27 =>
    fX9_readings_23 1000 o27 p1 0 0
  )
def fX9_miss (st : ST) (p1 p2 : Int32) : Option (Int32) :=
  bnd (((8 * p1) + p2) : Int32) fun x1 =>
  ix x1 240 <|
  if (st.2 8 (Int32.toNatClampNeg x1)) = (-1) then (
    ix 1 3 <|
    some (st.2 7 (Int32.toNatClampNeg 1))
  ) else (
    some 0
  )
def fX9_step (st : ST) (p1 p2 p3 : Int32) : Option (Int32) :=
  if p2 = p3 then (
    bnd (((8 * p1) + p2) : Int32) fun x15 =>
    bnd (((8 * (p1 + 1)) + p3) : Int32) fun x16 =>
    ix x15 240 <|
    if (st.2 8 (Int32.toNatClampNeg x15)) = (-1) then (
      some 0
    ) else (
      ix x16 240 <|
      if (st.2 8 (Int32.toNatClampNeg x16)) = (-1) then (
        some 0
      ) else (
        ix x15 240 <|
        ix x16 240 <|
        if (st.2 8 (Int32.toNatClampNeg x15)) ≤ (st.2 9 (Int32.toNatClampNeg x16)) then (
          some 0
        ) else (
          ix 2 3 <|
          some (0 + (st.2 7 (Int32.toNatClampNeg 2)))
        )
      )
    )
  ) else (
    ix 0 3 <|
    ix p3 8 <|
    bnd (((st.2 7 (Int32.toNatClampNeg 0)) + (st.2 5 (Int32.toNatClampNeg p3))) : Int32) fun x4 =>
    bnd (((8 * p1) + p2) : Int32) fun x5 =>
    bnd (((8 * (p1 + 1)) + p3) : Int32) fun x6 =>
    ix x5 240 <|
    if (st.2 8 (Int32.toNatClampNeg x5)) = (-1) then (
      some x4
    ) else (
      ix x6 240 <|
      if (st.2 8 (Int32.toNatClampNeg x6)) = (-1) then (
        some x4
      ) else (
        ix x5 240 <|
        ix x6 240 <|
        if (st.2 8 (Int32.toNatClampNeg x5)) ≤ (st.2 9 (Int32.toNatClampNeg x6)) then (
          some x4
        ) else (
          ix 2 3 <|
          some (x4 + (st.2 7 (Int32.toNatClampNeg 2)))
        )
      )
    )
  )
def fX9_finds_366 : Nat → ST → Int32 → Int32 → Int32 → Option (Int32)
  | 0, _, _, _, _ => none
  | n + 1, st, x_1, x_2, x_3 =>
    ob (fX9_miss st (x_1 - 1) x_3) fun o1 =>
    ob (fX9_step st (x_1 - 1) x_3 x_2) fun o2 =>
    bnd (((8 * x_1) + x_2) : Int32) fun x3 =>
    ix x3 240 <|
    bnd (((8 * (x_1 - 1)) + x_3) : Int32) fun x5 =>
    ix x5 240 <|
    if ((o1 + o2) + (st.2 11 (Int32.toNatClampNeg x3))) = (st.2 11 (Int32.toNatClampNeg x5)) then (
      some (x_2)
    ) else (
      bnd (x_2 + 1 : Int32) fun x8 =>
      fX9_finds_366 n st x_1 x8 x_3
    )
def fX9_finds_331 : Nat → ST → Int32 → Int32 → Option (Int32)
  | 0, _, _, _ => none
  | n + 1, st, x_1, x_2 =>
    ix x_2 8 <|
    ix x_2 240 <|
    if ((st.2 5 (Int32.toNatClampNeg x_2)) + (st.2 11 (Int32.toNatClampNeg x_2))) = (st.1 24) then (
      some (x_2)
    ) else (
      bnd (x_2 + 1 : Int32) fun x12 =>
      fX9_finds_331 n st x_1 x12
    )
def fX9_finds_317 : Nat → ST → Int32 → Option (Int32 × ST)
  | 0, _, _ => none
  | n + 1, st, x_1 =>
    if (st.1 10) ≤ x_1 then (
      some (1, st)
    ) else (
      if x_1 = 0 then (
        ob (fX9_finds_331 1000 st x_1 0) fun o22 =>
        ix x_1 30 <|
        bnd (setA st 12 (Int32.toNatClampNeg x_1) o22) fun s24 =>
        bnd (x_1 + 1 : Int32) fun x25 =>
        fX9_finds_317 n s24 x25
      ) else (
        bnd ((x_1 - 1) : Int32) fun x15 =>
        ix x15 30 <|
        bnd ((st.2 12 (Int32.toNatClampNeg x15)) : Int32) fun x17 =>
        ob (fX9_finds_366 1000 st x_1 0 x17) fun o18 =>
        ix x_1 30 <|
        bnd (setA st 12 (Int32.toNatClampNeg x_1) o18) fun s20 =>
        bnd (x_1 + 1 : Int32) fun x21 =>
        fX9_finds_317 n s20 x21
      )
    )
def fX9_finds_277 : Nat → ST → Int32 → Option (Int32 × ST)
  | 0, _, _ => none
  | n + 1, st, x_1 =>
    if (st.1 9) ≤ x_1 then (
      fX9_finds_317 1000 st 0
    ) else (
      ix x_1 8 <|
      ix x_1 240 <|
      bnd ((if ((st.2 5 (Int32.toNatClampNeg x_1)) + (st.2 11 (Int32.toNatClampNeg x_1))) < (st.1 24) then ((st.2 5 (Int32.toNatClampNeg x_1)) + (st.2 11 (Int32.toNatClampNeg x_1))) else (st.1 24)) : Int32) fun x29 =>
      bnd (setS st 24 x29) fun s30 =>
      bnd (x_1 + 1 : Int32) fun x31 =>
      fX9_finds_277 n s30 x31
    )
def fX9_finds_185 : Nat → ST → Int32 → Int32 → Int32 → Int32 → Option (Int32)
  | 0, _, _, _, _, _ => none
  | n + 1, st, x_1, x_2, x_3, x_4 =>
    if (st.1 9) ≤ x_4 then (
      some (x_3)
    ) else (
      if ((st.1 10) - 1) ≤ x_1 then (
        some (x_3)
      ) else (
        ob (fX9_step st x_1 x_2 x_4) fun o34 =>
        bnd (((8 * (x_1 + 1)) + x_4) : Int32) fun x35 =>
        ix x35 240 <|
        bnd ((if (o34 + (st.2 11 (Int32.toNatClampNeg x35))) < x_3 then (o34 + (st.2 11 (Int32.toNatClampNeg x35))) else x_3) : Int32) fun x37 =>
        bnd (x_4 + 1 : Int32) fun x38 =>
        fX9_finds_185 n st x_1 x_2 x37 x38
      )
    )
def fX9_finds_157 : Nat → ST → Int32 → Int32 → Option (ST)
  | 0, _, _, _ => none
  | n + 1, st, x_1, x_2 =>
    if (st.1 9) ≤ x_2 then (
      some (st)
    ) else (
      if x_1 = ((st.1 10) - 1) then (
        ob (fX9_finds_185 1000 st x_1 x_2 0 0) fun o48 =>
        ob (fX9_miss st x_1 x_2) fun o49 =>
        bnd ((o48 + o49) : Int32) fun x50 =>
        bnd (((8 * x_1) + x_2) : Int32) fun x51 =>
        ix x51 240 <|
        bnd (setA st 11 (Int32.toNatClampNeg x51) x50) fun s53 =>
        bnd (x_2 + 1 : Int32) fun x54 =>
        fX9_finds_157 n s53 x_1 x54
      ) else (
        ob (fX9_finds_185 1000 st x_1 x_2 100000000 0) fun o41 =>
        ob (fX9_miss st x_1 x_2) fun o42 =>
        bnd ((o41 + o42) : Int32) fun x43 =>
        bnd (((8 * x_1) + x_2) : Int32) fun x44 =>
        ix x44 240 <|
        bnd (setA st 11 (Int32.toNatClampNeg x44) x43) fun s46 =>
        bnd (x_2 + 1 : Int32) fun x47 =>
        fX9_finds_157 n s46 x_1 x47
      )
    )
def fX9_finds_151 : Nat → ST → Int32 → Option (Int32 × ST)
  | 0, _, _ => none
  | n + 1, st, x_1 =>
    if x_1 < 0 then (
      bnd (setS st 24 100000000) fun s56 =>
      fX9_finds_277 1000 s56 0
    ) else (
      ob (fX9_finds_157 1000 st x_1 0) fun o57 =>
      bnd (x_1 + (-1) : Int32) fun x58 =>
      fX9_finds_151 n o57 x58
    )
def fX9_finds_64 : Nat → ST → Int32 → Int32 → Int32 → Int32 → Option (Int32)
  | 0, _, _, _, _, _ => none
  | n + 1, st, x_1, x_2, x_3, x_4 =>
    if (st.1 9) ≤ x_4 then (
      some (x_3)
    ) else (
      if x_1 ≤ 0 then (
        some (x_3)
      ) else (
        bnd (((8 * (x_1 - 1)) + x_4) : Int32) fun x61 =>
        ix x61 240 <|
        ob (fX9_step st (x_1 - 1) x_4 x_2) fun o63 =>
        bnd ((if ((st.2 10 (Int32.toNatClampNeg x61)) + o63) < x_3 then ((st.2 10 (Int32.toNatClampNeg x61)) + o63) else x_3) : Int32) fun x64 =>
        bnd (x_4 + 1 : Int32) fun x65 =>
        fX9_finds_64 n st x_1 x_2 x64 x65
      )
    )
def fX9_finds_37 : Nat → ST → Int32 → Int32 → Option (ST)
  | 0, _, _, _ => none
  | n + 1, st, x_1, x_2 =>
    if (st.1 9) ≤ x_2 then (
      some (st)
    ) else (
      if x_1 = 0 then (
        ix x_2 8 <|
        bnd ((st.2 5 (Int32.toNatClampNeg x_2)) : Int32) fun x76 =>
        ob (fX9_finds_64 1000 st x_1 x_2 x76 0) fun o77 =>
        ob (fX9_miss st x_1 x_2) fun o78 =>
        bnd ((o77 + o78) : Int32) fun x79 =>
        bnd (((8 * x_1) + x_2) : Int32) fun x80 =>
        ix x80 240 <|
        bnd (setA st 10 (Int32.toNatClampNeg x80) x79) fun s82 =>
        bnd (x_2 + 1 : Int32) fun x83 =>
        fX9_finds_37 n s82 x_1 x83
      ) else (
        ob (fX9_finds_64 1000 st x_1 x_2 100000000 0) fun o68 =>
        ob (fX9_miss st x_1 x_2) fun o69 =>
        bnd ((o68 + o69) : Int32) fun x70 =>
        bnd (((8 * x_1) + x_2) : Int32) fun x71 =>
        ix x71 240 <|
        bnd (setA st 10 (Int32.toNatClampNeg x71) x70) fun s73 =>
        bnd (x_2 + 1 : Int32) fun x74 =>
        fX9_finds_37 n s73 x_1 x74
      )
    )
def fX9_finds_27 : Nat → ST → Int32 → Option (Int32 × ST)
  | 0, _, _ => none
  | n + 1, st, x_1 =>
    if (st.1 10) ≤ x_1 then (
      bnd (((st.1 10) - 1) : Int32) fun x85 =>
      fX9_finds_151 1000 st x85
    ) else (
      ob (fX9_finds_37 1000 st x_1 0) fun o86 =>
      bnd (x_1 + 1 : Int32) fun x87 =>
      fX9_finds_27 n o86 x87
    )
def fX9_finds (st : ST) : Option (Int32 × ST) :=
  bnd (setS st 0 0) fun s88 =>
  if (s88.1 9) = 0 then (
    some (0, s88)
  ) else (
    if (s88.1 10) = 0 then (
      some (0, s88)
    ) else (
      ob (fX9_readAll s88) fun o91 =>
      fX9_finds_27 1000 o91 0
    )
  )
def fX9_through (st : ST) (p1 p2 : Int32) : Option (Int32) :=
  bnd (((8 * p1) + p2) : Int32) fun x1 =>
  ix x1 240 <|
  bnd (((8 * p1) + p2) : Int32) fun x3 =>
  ix x3 240 <|
  ob (fX9_miss st p1 p2) fun o5 =>
  some (((st.2 10 (Int32.toNatClampNeg x1)) + (st.2 11 (Int32.toNatClampNeg x3))) - o5)
def fX9_cost (st : ST) : Option (Int32 × ST) :=
  ob (fX9_finds st) fun o1 =>
  if o1.1 = 0 then (
    some ((-1), o1.2)
  ) else (
    some ((o1.2.1 24), o1.2)
  )
def fX9_told (st : ST) (p1 : Int32) : Option (Int32 × ST) :=
  ob (fX9_finds st) fun o1 =>
  if o1.1 = 0 then (
    some ((-1), o1.2)
  ) else (
    ob (fX9_isRow o1.2 p1) fun o3 =>
    if o3 = 0 then (
      some ((-1), o1.2)
    ) else (
      ix p1 30 <|
      some ((o1.2.2 12 (Int32.toNatClampNeg p1)), o1.2)
    )
  )
def fX9_day (st : ST) (p1 p2 : Int32) : Option (Int32 × ST) :=
  ob (fX9_finds st) fun o1 =>
  if o1.1 = 0 then (
    some ((-1), o1.2)
  ) else (
    ob (fX9_isRow o1.2 p1) fun o3 =>
    if o3 = 0 then (
      some ((-1), o1.2)
    ) else (
      ob (fX9_isIn p2 0 1) fun o5 =>
      if o5 = 0 then (
        some ((-1), o1.2)
      ) else (
        if p2 = 0 then (
          ix p1 30 <|
          bnd (((8 * p1) + (o1.2.2 12 (Int32.toNatClampNeg p1))) : Int32) fun x12 =>
          ix x12 240 <|
          some ((o1.2.2 8 (Int32.toNatClampNeg x12)), o1.2)
        ) else (
          ix p1 30 <|
          bnd (((8 * p1) + (o1.2.2 12 (Int32.toNatClampNeg p1))) : Int32) fun x9 =>
          ix x9 240 <|
          some ((o1.2.2 9 (Int32.toNatClampNeg x9)), o1.2)
        )
      )
    )
  )
def fX9_other_5 : Nat → ST → Int32 → Int32 → Int32 → Option (Int32)
  | 0, _, _, _, _ => none
  | n + 1, st, x_1, x_2, x_3 =>
    if (st.1 9) ≤ x_3 then (
      some x_2
    ) else (
      ix x_1 30 <|
      ob (fX9_isSame st x_1 x_3 (st.2 12 (Int32.toNatClampNeg x_1))) fun o3 =>
      if o3 = 0 then (
        ob (fX9_through st x_1 x_3) fun o6 =>
        bnd ((if o6 < x_2 then o6 else x_2) : Int32) fun x7 =>
        bnd (x_3 + 1 : Int32) fun x8 =>
        fX9_other_5 n st x_1 x7 x8
      ) else (
        bnd (x_3 + 1 : Int32) fun x5 =>
        fX9_other_5 n st x_1 x_2 x5
      )
    )
def fX9_other (st : ST) (p1 : Int32) : Option (Int32) :=
  fX9_other_5 1000 st p1 100000000 0
def fX9_kindOf_26 : Nat → ST → Int32 → Int32 → Int32 → Option (Int32)
  | 0, _, _, _, _ => none
  | n + 1, st, x_1, x_2, x_3 =>
    if (st.1 9) ≤ x_3 then (
      if x_2 = 0 then (
        ob (fX9_other st x_1) fun o3 =>
        if o3 = (st.1 24) then (
          some 2
        ) else (
          some 1
        )
      ) else (
        some 0
      )
    ) else (
      if x_2 = 0 then (
        bnd (x_3 + 1 : Int32) fun x6 =>
        fX9_kindOf_26 n st x_1 0 x6
      ) else (
        bnd (((8 * x_1) + x_3) : Int32) fun x7 =>
        ix x7 240 <|
        if (st.2 8 (Int32.toNatClampNeg x7)) = (-1) then (
          bnd (x_3 + 1 : Int32) fun x10 =>
          fX9_kindOf_26 n st x_1 1 x10
        ) else (
          ix x_1 30 <|
          ob (fX9_isSame st x_1 x_3 (st.2 12 (Int32.toNatClampNeg x_1))) fun o12 =>
          if o12 = 0 then (
            bnd (x_3 + 1 : Int32) fun x14 =>
            fX9_kindOf_26 n st x_1 0 x14
          ) else (
            bnd (x_3 + 1 : Int32) fun x15 =>
            fX9_kindOf_26 n st x_1 1 x15
          )
        )
      )
    )
def fX9_kindOf (st : ST) (p1 : Int32) : Option (Int32) :=
  ix p1 30 <|
  bnd (((8 * p1) + (st.2 12 (Int32.toNatClampNeg p1))) : Int32) fun x17 =>
  ix x17 240 <|
  if (st.2 8 (Int32.toNatClampNeg x17)) = (-1) then (
    some 3
  ) else (
    fX9_kindOf_26 1000 st p1 1 0
  )
def fX9_kind (st : ST) (p1 : Int32) : Option (Int32 × ST) :=
  ob (fX9_finds st) fun o1 =>
  if o1.1 = 0 then (
    some ((-1), o1.2)
  ) else (
    ob (fX9_isRow o1.2 p1) fun o3 =>
    if o3 = 0 then (
      some ((-1), o1.2)
    ) else (
      ob (fX9_kindOf o1.2 p1) fun o5 =>
      some (o5, o1.2)
    )
  )
def fX9_second (st : ST) (p1 : Int32) : Option (Int32 × ST) :=
  ob (fX9_finds st) fun o1 =>
  if o1.1 = 0 then (
    some ((-1), o1.2)
  ) else (
    ob (fX9_isRow o1.2 p1) fun o3 =>
    if o3 = 0 then (
      some ((-1), o1.2)
    ) else (
      ob (fX9_kindOf o1.2 p1) fun o5 =>
      if o5 = 3 then (
        some ((-1), o1.2)
      ) else (
        ob (fX9_other o1.2 p1) fun o7 =>
        if o7 = 100000000 then (
          some ((-1), o1.2)
        ) else (
          some (o7, o1.2)
        )
      )
    )
  )
def fX9_many_22 : Nat → ST → Int32 → Int32 → Int32 → Option (Int32 × ST)
  | 0, _, _, _, _ => none
  | n + 1, st, x_1, x_2, x_3 =>
    if (st.1 10) ≤ x_3 then (
      some (x_2, st)
    ) else (
      ob (fX9_kindOf st x_3) fun o2 =>
      if o2 = x_1 then (
        bnd ((x_2 + 1) : Int32) fun x6 =>
        bnd (x_3 + 1 : Int32) fun x7 =>
        fX9_many_22 n st x_1 x6 x7
      ) else (
        bnd ((x_2 + 0) : Int32) fun x4 =>
        bnd (x_3 + 1 : Int32) fun x5 =>
        fX9_many_22 n st x_1 x4 x5
      )
    )
def fX9_many (st : ST) (p1 : Int32) : Option (Int32 × ST) :=
  ob (fX9_finds st) fun o8 =>
  if o8.1 = 0 then (
    some ((-1), o8.2)
  ) else (
    ob (fX9_isIn p1 0 3) fun o10 =>
    if o10 = 0 then (
      some ((-1), o8.2)
    ) else (
      fX9_many_22 1000 o8.2 p1 0 0
    )
  )
def fX9_spans_13 : Nat → ST → Int32 → Int32 → Option (Int32 × ST)
  | 0, _, _, _ => none
  | n + 1, st, x_1, x_2 =>
    if (st.1 10) ≤ x_2 then (
      some (x_1, st)
    ) else (
      ix x_2 30 <|
      bnd ((x_2 - 1) : Int32) fun x3 =>
      ix x3 30 <|
      if (st.2 12 (Int32.toNatClampNeg x_2)) = (st.2 12 (Int32.toNatClampNeg x3)) then (
        bnd ((x_1 + 0) : Int32) fun x6 =>
        bnd (x_2 + 1 : Int32) fun x7 =>
        fX9_spans_13 n st x6 x7
      ) else (
        bnd ((x_1 + 1) : Int32) fun x8 =>
        bnd (x_2 + 1 : Int32) fun x9 =>
        fX9_spans_13 n st x8 x9
      )
    )
def fX9_spans (st : ST) : Option (Int32 × ST) :=
  ob (fX9_finds st) fun o10 =>
  if o10.1 = 0 then (
    some ((-1), o10.2)
  ) else (
    fX9_spans_13 1000 o10.2 1 1
  )
def fX9_puts (st : ST) (p1 : Int32) : Option (ST) :=
  bnd ((Int32.toInt8 p1).toInt32 : Int32) fun x1 =>
  bnd ((st.1 26) : Int32) fun x2 =>
  ix x2 200 <|
  bnd (setA st 13 (Int32.toNatClampNeg x2) (vp_nar .byte x1)) fun s4 =>
  bnd (((s4.1 26) + 1) : Int32) fun x5 =>
  bnd (setS s4 26 x5) fun s6 =>
  some s6
def fX9_figures_37 : Nat → ST → Int32 → Int32 → Option (ST)
  | 0, _, _, _ => none
  | n + 1, st, x_1, x_5 =>
    if x_5 ≤ 0 then (
      some st
    ) else (
      nz x_5 <|
      ob (fX9_puts st (48 + ((x_1 / x_5) - (x_1 / x_5) / 10 * 10))) fun o3 =>
      bnd ((x_5 / 10) : Int32) fun x4 =>
      fX9_figures_37 n o3 x_1 x4
    )
def fX9_figures_6 : Nat → ST → Int32 → Int32 → Int32 → Int32 → Option (ST)
  | 0, _, _, _, _, _ => none
  | n + 1, st, x_1, x_2, x_3, x_4 =>
    if x_3 < x_2 then (
      bnd (x_3 + 1 : Int32) fun x6 =>
      bnd ((x_4 * 10) : Int32) fun x7 =>
      fX9_figures_6 n st x_1 x_2 x6 x7
    ) else (
      if x_1 < x_4 then (
        bnd ((x_4 / 10) : Int32) fun x9 =>
        fX9_figures_37 1000 st x_1 x9
      ) else (
        bnd (x_3 + 1 : Int32) fun x10 =>
        bnd ((x_4 * 10) : Int32) fun x11 =>
        fX9_figures_6 n st x_1 x_2 x10 x11
      )
    )
def fX9_figures (st : ST) (p1 p2 : Int32) : Option (ST) :=
  fX9_figures_6 1000 st p1 p2 1 10
def fX9_writes_188 : Nat → ST → Int32 → Int32 → Int32 → Int32 → Option (ST)
  | 0, _, _, _, _, _ => none
  | n + 1, st, x_1, x_2, x_3, x_5 =>
    if 3 ≤ x_5 then (
      some (st)
    ) else (
      ob (fJ0_charAt_5068e_4 ((3 * (x_1 - x_1 / 7 * 7)) + x_5)) fun o2 =>
      ob (fX9_puts st o2) fun o3 =>
      bnd (x_5 + 1 : Int32) fun x4 =>
      fX9_writes_188 n o3 x_1 x_2 x_3 x4
    )
def fX9_writes_150 : Nat → ST → Int32 → Int32 → Int32 → Int32 → Option (ST)
  | 0, _, _, _, _, _ => none
  | n + 1, st, x_1, x_2, x_3, x_5 =>
    if 3 ≤ x_5 then (
      some (st)
    ) else (
      ob (fJ0_charAt_5068e_3 (((3 * (st.1 13)) - 3) + x_5)) fun o6 =>
      ob (fX9_puts st o6) fun o7 =>
      bnd (x_5 + 1 : Int32) fun x8 =>
      fX9_writes_150 n o7 x_1 x_2 x_3 x8
    )
def fX9_writes_12 : Nat → ST → Int32 → Int32 → Int32 → Option (ST)
  | 0, _, _, _, _ => none
  | n + 1, st, x_1, x_2, x_3 =>
    ix x_2 8 <|
    if (st.2 4 (Int32.toNatClampNeg x_2)) ≤ x_3 then (
      some st
    ) else (
      bnd (((24 * x_2) + x_3) : Int32) fun x11 =>
      ix x11 192 <|
      bnd ((st.2 2 (Int32.toNatClampNeg x11)) : Int32) fun x13 =>
      if x13 = 68 then (
        ob (fX9_figures st (st.1 12) 1) fun o15 =>
        bnd (x_3 + 1 : Int32) fun x16 =>
        fX9_writes_12 n o15 x_1 x_2 x16
      ) else (
      if x13 = 77 then (
        ob (fX9_figures st (st.1 13) 1) fun o18 =>
        bnd (x_3 + 1 : Int32) fun x19 =>
        fX9_writes_12 n o18 x_1 x_2 x19
      ) else (
      if x13 = 78 then (
        ob (fX9_writes_150 1000 st x_1 x_2 x_3 0) fun o21 =>
        bnd (x_3 + 1 : Int32) fun x22 =>
        fX9_writes_12 n o21 x_1 x_2 x22
      ) else (
      if x13 = 87 then (
        ob (fX9_writes_188 1000 st x_1 x_2 x_3 0) fun o24 =>
        bnd (x_3 + 1 : Int32) fun x25 =>
        fX9_writes_12 n o24 x_1 x_2 x25
      ) else (
      if x13 = 89 then (
        ob (fX9_figures st (st.1 14) 4) fun o27 =>
        bnd (x_3 + 1 : Int32) fun x28 =>
        fX9_writes_12 n o27 x_1 x_2 x28
      ) else (
      if x13 = 121 then (
        ob (fX9_figures st ((st.1 14) - (st.1 14) / 100 * 100) 2) fun o30 =>
        bnd (x_3 + 1 : Int32) fun x31 =>
        fX9_writes_12 n o30 x_1 x_2 x31
      ) else (
        ob (fX9_puts st x13) fun o32 =>
        bnd (x_3 + 1 : Int32) fun x33 =>
        fX9_writes_12 n o32 x_1 x_2 x33
      ))))))
    )
def fX9_writes (st : ST) (p1 p2 : Int32) : Option (ST) :=
  ob (fX9_split st p1) fun o34 =>
  bnd (setS o34 26 0) fun s35 =>
  fX9_writes_12 1000 s35 p1 p2 0
def fX9_write (st : ST) (p1 p2 p3 : Int32) : Option (Int32 × ST) :=
  bnd (setS st 0 0) fun s1 =>
  ob (fX9_isDay p1) fun o2 =>
  if o2 = 0 then (
    some ((-1), s1)
  ) else (
    ob (fX9_isIn p2 0 ((s1.1 9) - 1)) fun o4 =>
    if o4 = 0 then (
      some ((-1), s1)
    ) else (
      ob (fX9_writes s1 p1 p2) fun o6 =>
      if p3 < 0 then (
        some ((-1), o6)
      ) else (
        if (o6.1 26) ≤ p3 then (
          some ((-1), o6)
        ) else (
          ix p3 200 <|
          some ((o6.2 13 (Int32.toNatClampNeg p3)), o6)
        )
      )
    )
  )
def fX9_same_84 : Nat → ST → Int32 → Int32 → Int32 → Option (Int32 × ST)
  | 0, _, _, _, _ => none
  | n + 1, st, x_1, x_2, x_3 =>
    if (st.1 26) ≤ x_3 then (
      if x_2 = 0 then (
        some (0, st)
      ) else (
        some (1, st)
      )
    ) else (
      if x_2 = 0 then (
        if x_2 = 0 then (
          some (0, st)
        ) else (
          some (1, st)
        )
      ) else (
        ix x_3 200 <|
        bnd (((24 * x_1) + x_3) : Int32) fun x6 =>
        ix x6 720 <|
        if (st.2 13 (Int32.toNatClampNeg x_3)) = (st.2 3 (Int32.toNatClampNeg x6)) then (
          bnd (x_3 + 1 : Int32) fun x10 =>
          fX9_same_84 n st x_1 1 x10
        ) else (
          bnd (x_3 + 1 : Int32) fun x9 =>
          fX9_same_84 n st x_1 0 x9
        )
      )
    )
def fX9_same (st : ST) (p1 : Int32) : Option (Int32 × ST) :=
  ob (fX9_finds st) fun o11 =>
  if o11.1 = 0 then (
    some ((-1), o11.2)
  ) else (
    ob (fX9_isRow o11.2 p1) fun o13 =>
    if o13 = 0 then (
      some ((-1), o11.2)
    ) else (
      ix p1 30 <|
      bnd (((8 * p1) + (o11.2.2 12 (Int32.toNatClampNeg p1))) : Int32) fun x16 =>
      ix x16 240 <|
      if (o11.2.2 8 (Int32.toNatClampNeg x16)) = (-1) then (
        some ((-1), o11.2)
      ) else (
        ix p1 30 <|
        bnd (((8 * p1) + (o11.2.2 12 (Int32.toNatClampNeg p1))) : Int32) fun x20 =>
        ix x20 240 <|
        ix p1 30 <|
        ob (fX9_writes o11.2 (o11.2.2 8 (Int32.toNatClampNeg x20)) (o11.2.2 12 (Int32.toNatClampNeg p1))) fun o23 =>
        ix p1 30 <|
        if (o23.1 26) = (o23.2 6 (Int32.toNatClampNeg p1)) then (
          fX9_same_84 1000 o23 p1 1 0
        ) else (
          fX9_same_84 1000 o23 p1 0 0
        )
      )
    )
  )
def fX9_count (st : ST) (p1 : Int32) : Option (Int32 × ST) :=
  bnd (setS st 0 0) fun s1 =>
  if p1 = 0 then (
    some ((s1.1 9), s1)
  ) else (
  if p1 = 1 then (
    some ((s1.1 10), s1)
  ) else (
  if p1 = 2 then (
    some ((s1.1 8), s1)
  ) else (
  if p1 = 3 then (
    some ((s1.1 11), s1)
  ) else (
    some ((-1), s1)
  ))))
