def MX9_isSign (a0 : Nat) (a1 : Int32) (h : Hp) : Option (Int32) :=
  h_g 9 h a0 <|
  (h_fI 9 h a0 11).bind fun x1 =>
  jn (
    some (0 : Int32)
  ) fun (j2 : Option (Int32)) =>
  if x1 = (3 : Int32) then (
    (h_fI 9 h a0 12).bind fun x3 =>
    if x3 = a1 then (
      some (1 : Int32)
    ) else (
      j2
    )
  ) else (
    j2
  )
def MX9_bad (a0 : Nat) (a1 : Int32) (h : Hp) : Option (Int32 × Hp) :=
  h_g 9 h a0 <|
  (h_fI 9 h a0 11).bind fun x1 =>
  jn (fun (w2 : Int32) =>
    (h_pI 9 h a0 13 w2).bind fun h4 =>
    (h_fI 9 h4 a0 9).bind fun x5 =>
    (h_pI 9 h4 a0 14 x5).bind fun h6 =>
    some ((0 : Int32), h6)
  ) fun (j3 : Int32 → Option (Int32 × Hp)) =>
  if x1 = (1 : Int32) then (
    j3 (1 : Int32)
  ) else (
    j3 a1
  )
def MX9_byteAt (a0 : Nat) (a1 : Int32) (h : Hp) : Option (Int32) :=
  h_g 9 h a0 <|
  (h_fI 9 h a0 8).bind fun x1 =>
  if x1 ≤ a1 then (
    some (-1 : Int32)
  ) else (
    (h_fR 9 h a0 0).bind fun x2 =>
    (h_ldI h x2 a1).bind fun x3 =>
    some x3
  )
def MX9_isLetter (a0 : Int32) : Option (Int32) :=
  jn (
    some (0 : Int32)
  ) fun (j1 : Option (Int32)) =>
  if a0 < (97 : Int32) then (
    j1
  ) else (
    if (122 : Int32) < a0 then (
      j1
    ) else (
      some (1 : Int32)
    )
  )
def MX9_go_B81 (a0 : Nat) (j16 : Hp → Option (Hp)) (self23 : Hp → Option (Hp)) (h22 : Hp) : Option (Hp) :=
  (h_fI 9 h22 a0 10).bind fun x24 =>
  (MX9_byteAt a0 x24 h22).bind fun x25 =>
  (MX9_isLetter x25).bind fun x26 =>
  if x26 = 0 then (
    j16 h22
  ) else (
    (h_fI 9 h22 a0 9).bind fun x27 =>
    jn (fun (h28 : Hp) =>
      (h_fI 9 h28 a0 10).bind fun x30 =>
      (h_pI 9 h28 a0 10 (x30 + (1 : Int32))).bind fun h31 =>
      self23 h31
    ) fun (j29 : Hp → Option (Hp)) =>
    if (8 : Int32) ≤ (x24 - x27) then (
      j29 h22
    ) else (
      (h_fL 9 h22 a0 15).bind fun x32 =>
      (h_pL 9 h22 a0 15 ((((27 : Int64) * x32) + x25.toInt64) - (96 : Int64))).bind fun h33 =>
      j29 h33
    )
  )
def MX9_go_B0 (a0 : Nat) (j2 : Hp → Option (Hp)) (self36 : Hp → Option (Hp)) (h35 : Hp) : Option (Hp) :=
  (h_fI 9 h35 a0 10).bind fun x37 =>
  (MX9_byteAt a0 x37 h35).bind fun x38 =>
  jn (
    (h_pI 9 h35 a0 10 (x37 + (1 : Int32))).bind fun h40 =>
    self36 h40
  ) fun (j39 : Option (Hp)) =>
  if x38 = (32 : Int32) then (
    j39
  ) else (
    if x38 = (10 : Int32) then (
      j39
    ) else (
      j2 h35
    )
  )
def MX9_go (fu : Nat) (a0 : Nat) (h : Hp) : Option (Hp) :=
  h_g 9 h a0 <|
  jn (fun (h1 : Hp) =>
    (h_fI 9 h1 a0 10).bind fun x3 =>
    (h_pI 9 h1 a0 9 x3).bind fun h4 =>
    (h_fI 9 h4 a0 10).bind fun x5 =>
    (MX9_byteAt a0 x5 h4).bind fun x6 =>
    if x6 = (-1 : Int32) then (
      (h_pI 9 h4 a0 11 (0 : Int32)).bind fun h34 =>
      some h34
    ) else (
      (MX9_isLetter x6).bind fun x7 =>
      if x7 = 0 then (
        (h_pI 9 h4 a0 10 (x5 + (1 : Int32))).bind fun h8 =>
        jn (fun (w9 : Int32) =>
          (h_pI 9 h8 a0 11 w9).bind fun h11 =>
          (h_pI 9 h11 a0 12 x6).bind fun h12 =>
          some h12
        ) fun (j10 : Int32 → Option (Hp)) =>
        jn (
          j10 (3 : Int32)
        ) fun (j13 : Option (Hp)) =>
        if x6 = (59 : Int32) then (
          j13
        ) else (
          if x6 = (123 : Int32) then (
            j13
          ) else (
            if x6 = (125 : Int32) then (
              j13
            ) else (
              j10 (1 : Int32)
            )
          )
        )
      ) else (
        (h_pL 9 h4 a0 15 (0 : Int64)).bind fun h14 =>
        jn (fun (h15 : Hp) =>
          (h_fI 9 h15 a0 10).bind fun x17 =>
          (h_fI 9 h15 a0 9).bind fun x18 =>
          jn (fun (w19 : Int32) =>
            (h_pI 9 h15 a0 11 w19).bind fun h21 =>
            some h21
          ) fun (j20 : Int32 → Option (Hp)) =>
          if (x17 - x18) ≤ (8 : Int32) then (
            j20 (2 : Int32)
          ) else (
            j20 (1 : Int32)
          )
        ) fun (j16 : Hp → Option (Hp)) =>
        wh1 (MX9_go_B81 a0 j16) fu h14
      )
    )
  ) fun (j2 : Hp → Option (Hp)) =>
  wh1 (MX9_go_B0 a0 j2) fu h
def MX9_eats (fu : Nat) (a0 : Nat) (a1 : Int32) (h : Hp) : Option (Int32 × Hp) :=
  h_g 9 h a0 <|
  (MX9_isSign a0 a1 h).bind fun x1 =>
  if x1 = 0 then (
    (MX9_bad a0 (2 : Int32) h).bind fun p3 =>
    (h_z p3.1).bind fun z4 =>
    some (z4, p3.2)
  ) else (
    (MX9_go fu a0 h).bind fun h2 =>
    some ((1 : Int32), h2)
  )
def MX9_spelt (a0 : Int32) (a1 : Int32) (a2 : Int32) (a3 : Int32) (a4 : Int32) : Option (Int64) :=
  jn (fun (v1 : Int64) =>
    jn (fun (v3 : Int64) =>
      if a4 ≤ 0 then (
        some v3
      ) else (
        some ((((27 : Int64) * v3) + a4.toInt64) - (96 : Int64))
      )
    ) fun (j4 : Int64 → Option (Int64)) =>
    if a3 ≤ 0 then (
      j4 v1
    ) else (
      j4 ((((27 : Int64) * v1) + a3.toInt64) - (96 : Int64))
    )
  ) fun (j2 : Int64 → Option (Int64)) =>
  if a2 ≤ 0 then (
    j2 ((((27 : Int64) * (a0.toInt64 - (96 : Int64))) + a1.toInt64) - (96 : Int64))
  ) else (
    j2 ((((27 : Int64) * ((((27 : Int64) * (a0.toInt64 - (96 : Int64))) + a1.toInt64) - (96 : Int64))) + a2.toInt64) - (96 : Int64))
  )
def MX9_wordOf (a0 : Int32) : Option (Int64) :=
  jn (
    some (-1 : Int64)
  ) fun (j1 : Option (Int64)) =>
  if a0 = (0 : Int32) then (
    (MX9_spelt (107 : Int32) (105 : Int32) (110 : Int32) (100 : Int32) (0 : Int32)).bind fun x2 =>
    some x2
  ) else (
  if a0 = (1 : Int32) then (
    (MX9_spelt (101 : Int32) (110 : Int32) (100 : Int32) (0 : Int32) (0 : Int32)).bind fun x3 =>
    some x3
  ) else (
  if a0 = (2 : Int32) then (
    (MX9_spelt (99 : Int32) (97 : Int32) (108 : Int32) (108 : Int32) (0 : Int32)).bind fun x4 =>
    some x4
  ) else (
  if a0 = (3 : Int32) then (
    (MX9_spelt (116 : Int32) (101 : Int32) (115 : Int32) (116 : Int32) (0 : Int32)).bind fun x5 =>
    some x5
  ) else (
  if a0 = (4 : Int32) then (
    (MX9_spelt (108 : Int32) (111 : Int32) (111 : Int32) (107 : Int32) (0 : Int32)).bind fun x6 =>
    some x6
  ) else (
  if a0 = (5 : Int32) then (
    (MX9_spelt (118 : Int32) (97 : Int32) (114 : Int32) (0 : Int32) (0 : Int32)).bind fun x7 =>
    some x7
  ) else (
  if a0 = (6 : Int32) then (
    j1
  ) else (
  if a0 = (7 : Int32) then (
    j1
  ) else (
  if a0 = (8 : Int32) then (
    j1
  ) else (
  if a0 = (9 : Int32) then (
    j1
  ) else (
  if a0 = (10 : Int32) then (
    (MX9_spelt (110 : Int32) (101 : Int32) (119 : Int32) (0 : Int32) (0 : Int32)).bind fun x8 =>
    some x8
  ) else (
  if a0 = (11 : Int32) then (
    (MX9_spelt (109 : Int32) (111 : Int32) (118 : Int32) (101 : Int32) (0 : Int32)).bind fun x9 =>
    some x9
  ) else (
  if a0 = (12 : Int32) then (
    (MX9_spelt (115 : Int32) (104 : Int32) (97 : Int32) (114 : Int32) (101 : Int32)).bind fun x10 =>
    some x10
  ) else (
  if a0 = (13 : Int32) then (
    (MX9_spelt (108 : Int32) (101 : Int32) (110 : Int32) (100 : Int32) (0 : Int32)).bind fun x11 =>
    some x11
  ) else (
  if a0 = (14 : Int32) then (
    (MX9_spelt (106 : Int32) (111 : Int32) (105 : Int32) (110 : Int32) (0 : Int32)).bind fun x12 =>
    some x12
  ) else (
  if a0 = (15 : Int32) then (
    (MX9_spelt (100 : Int32) (114 : Int32) (111 : Int32) (112 : Int32) (0 : Int32)).bind fun x13 =>
    some x13
  ) else (
  if a0 = (16 : Int32) then (
    (MX9_spelt (100 : Int32) (111 : Int32) (0 : Int32) (0 : Int32) (0 : Int32)).bind fun x14 =>
    some x14
  ) else (
  if a0 = (17 : Int32) then (
    (MX9_spelt (105 : Int32) (102 : Int32) (0 : Int32) (0 : Int32) (0 : Int32)).bind fun x15 =>
    some x15
  ) else (
  if a0 = (18 : Int32) then (
    (MX9_spelt (119 : Int32) (104 : Int32) (105 : Int32) (108 : Int32) (101 : Int32)).bind fun x16 =>
    some x16
  ) else (
  if a0 = (19 : Int32) then (
    (MX9_spelt (109 : Int32) (97 : Int32) (121 : Int32) (98 : Int32) (101 : Int32)).bind fun x17 =>
    some x17
  ) else (
  if a0 = (20 : Int32) then (
    (MX9_spelt (108 : Int32) (111 : Int32) (111 : Int32) (112 : Int32) (0 : Int32)).bind fun x18 =>
    some x18
  ) else (
  if a0 = (21 : Int32) then (
    (MX9_spelt (101 : Int32) (108 : Int32) (115 : Int32) (101 : Int32) (0 : Int32)).bind fun x19 =>
    some x19
  ) else (
  j1
  ))))))))))))))))))))))
def MX9_wordHere_B2 (h : Hp) (a0 : Nat) (self2 : Int32 → Option (Int32)) (v1 : Int32) : Option (Int32) :=
  if (21 : Int32) < v1 then (
    some (-1 : Int32)
  ) else (
    (h_fI 9 h a0 11).bind fun x3 =>
    if x3 = (2 : Int32) then (
      (h_fL 9 h a0 15).bind fun x4 =>
      (MX9_wordOf v1).bind fun x5 =>
      if (lg_cmp x4 x5) = 0 then (
        some v1
      ) else (
        self2 (v1 + (1 : Int32))
      )
    ) else (
      some (-1 : Int32)
    )
  )
def MX9_wordHere (fu : Nat) (a0 : Nat) (h : Hp) : Option (Int32) :=
  h_g 9 h a0 <|
  wh1 (MX9_wordHere_B2 h a0) fu (0 : Int32)
def MX9_isStatement (fu : Nat) (a0 : Nat) (h : Hp) : Option (Int32) :=
  h_g 9 h a0 <|
  (MX9_wordHere fu a0 h).bind fun x1 =>
  jn (
    some (0 : Int32)
  ) fun (j2 : Option (Int32)) =>
  if x1 < (10 : Int32) then (
    j2
  ) else (
    if (21 : Int32) ≤ x1 then (
      j2
    ) else (
      some (1 : Int32)
    )
  )
def MX9_isName (fu : Nat) (a0 : Nat) (h : Hp) : Option (Int32) :=
  h_g 9 h a0 <|
  (h_fI 9 h a0 11).bind fun x1 =>
  jn (
    some (0 : Int32)
  ) fun (j2 : Option (Int32)) =>
  if x1 = (2 : Int32) then (
    (MX9_wordHere fu a0 h).bind fun x3 =>
    if x3 = (-1 : Int32) then (
      some (1 : Int32)
    ) else (
      j2
    )
  ) else (
    j2
  )
def MX9_findIn_B2 (a2 : Int32) (h : Hp) (a0 : Nat) (a1 : Int32) (self2 : Int32 → Option (Int32)) (v1 : Int32) : Option (Int32) :=
  if a2 ≤ v1 then (
    some (-1 : Int32)
  ) else (
    (h_fR 9 h a0 3).bind fun x3 =>
    (h_ldL h x3 (a1 + v1)).bind fun x4 =>
    (h_fL 9 h a0 15).bind fun x5 =>
    if (lg_cmp x4 x5) = 0 then (
      some v1
    ) else (
      self2 (v1 + (1 : Int32))
    )
  )
def MX9_findIn (fu : Nat) (a0 : Nat) (a1 : Int32) (a2 : Int32) (h : Hp) : Option (Int32) :=
  h_g 9 h a0 <|
  wh1 (MX9_findIn_B2 a2 h a0 a1) fu (0 : Int32)
def MX9_readKnown (fu : Nat) (a0 : Nat) (a1 : Int32) (a2 : Int32) (h : Hp) : Option (Int32 × Hp) :=
  h_g 9 h a0 <|
  (MX9_isName fu a0 h).bind fun x1 =>
  if x1 = 0 then (
    (MX9_bad a0 (2 : Int32) h).bind fun p8 =>
    (h_z p8.1).bind fun z9 =>
    some (z9, p8.2)
  ) else (
    (MX9_findIn fu a0 a1 a2 h).bind fun x2 =>
    (h_pI 9 h a0 16 x2).bind fun h3 =>
    (h_fI 9 h3 a0 16).bind fun x4 =>
    if x4 = (-1 : Int32) then (
      (MX9_bad a0 (3 : Int32) h3).bind fun p6 =>
      (h_z p6.1).bind fun z7 =>
      some (z7, p6.2)
    ) else (
      (MX9_go fu a0 h3).bind fun h5 =>
      some ((1 : Int32), h5)
    )
  )
def MX9_readVariable (fu : Nat) (a0 : Nat) (h : Hp) : Option (Int32 × Hp) :=
  h_g 9 h a0 <|
  (h_fR 9 h a0 2).bind fun x1 =>
  (h_ldI h x1 (1 : Int32)).bind fun x2 =>
  (MX9_readKnown fu a0 (52 : Int32) x2 h).bind fun p3 =>
  (h_z p3.1).bind fun z4 =>
  some (z4, p3.2)
def MX9_isTwo (a0 : Int32) : Option (Int32) :=
  jn (
    some (0 : Int32)
  ) fun (j1 : Option (Int32)) =>
  if a0 < (1 : Int32) then (
    j1
  ) else (
    if (4 : Int32) < a0 then (
      j1
    ) else (
      some (1 : Int32)
    )
  )
def MX9_readOther (fu : Nat) (a0 : Nat) (a1 : Int32) (h : Hp) : Option (Int32 × Hp) :=
  h_g 9 h a0 <|
  (MX9_isName fu a0 h).bind fun x1 =>
  if x1 = 0 then (
    (MX9_bad a0 (2 : Int32) h).bind fun p15 =>
    (h_z p15.1).bind fun z16 =>
    some (z16, p15.2)
  ) else (
    (h_fR 9 h a0 2).bind fun x2 =>
    (h_ldI h x2 (1 : Int32)).bind fun x3 =>
    (MX9_findIn fu a0 (52 : Int32) x3 h).bind fun x4 =>
    if x4 = (-1 : Int32) then (
      (MX9_bad a0 (3 : Int32) h).bind fun p13 =>
      (h_z p13.1).bind fun z14 =>
      some (z14, p13.2)
    ) else (
      (h_ldI h x2 ((373 : Int32) + a1)).bind fun x5 =>
      jn (
        (MX9_bad a0 (5 : Int32) h).bind fun p7 =>
        (h_z p7.1).bind fun z8 =>
        some (z8, p7.2)
      ) fun (j6 : Option (Int32 × Hp)) =>
      if x4 = x5 then (
        j6
      ) else (
        (h_ldI h x2 ((327 : Int32) + x4)).bind fun x9 =>
        (h_ldI h x2 ((327 : Int32) + x5)).bind fun x10 =>
        if x9 = x10 then (
          (h_stI h x2 ((413 : Int32) + a1) x4).bind fun h11 =>
          (MX9_go fu a0 h11).bind fun h12 =>
          some ((1 : Int32), h12)
        ) else (
          j6
        )
      )
    )
  )
def MX9_isAsked (a0 : Int32) : Option (Int32) :=
  jn (
    some (1 : Int32)
  ) fun (j1 : Option (Int32)) =>
  if a0 = (7 : Int32) then (
    j1
  ) else (
    if a0 = (8 : Int32) then (
      j1
    ) else (
      some (0 : Int32)
    )
  )
def MX9_methodAt (a0 : Int32) (a1 : Int32) : Option (Int32) :=
  some (((6 : Int32) * a0) + a1)
def MX9_readMethod (fu : Nat) (a0 : Nat) (a1 : Int32) (a2 : Int32) (h : Hp) : Option (Int32 × Hp) :=
  h_g 9 h a0 <|
  (MX9_isName fu a0 h).bind fun x1 =>
  if x1 = 0 then (
    (MX9_bad a0 (2 : Int32) h).bind fun p17 =>
    (h_z p17.1).bind fun z18 =>
    some (z18, p17.2)
  ) else (
    (h_fR 9 h a0 2).bind fun x2 =>
    (h_ldI h x2 ((373 : Int32) + a1)).bind fun x3 =>
    (h_ldI h x2 ((327 : Int32) + x3)).bind fun x4 =>
    (h_ldI h x2 ((11 : Int32) + x4)).bind fun x5 =>
    (MX9_findIn fu a0 ((28 : Int32) + ((6 : Int32) * x4)) x5 h).bind fun x6 =>
    if x6 = (-1 : Int32) then (
      (MX9_bad a0 (3 : Int32) h).bind fun p15 =>
      (h_z p15.1).bind fun z16 =>
      some (z16, p15.2)
    ) else (
      (MX9_methodAt x4 x6).bind fun x7 =>
      (h_ldI h x2 ((15 : Int32) + x7)).bind fun x8 =>
      jn (fun (w9 : Int32) =>
        if w9 = a2 then (
          (h_stI h x2 ((453 : Int32) + a1) x6).bind fun h11 =>
          (MX9_go fu a0 h11).bind fun h12 =>
          some ((1 : Int32), h12)
        ) else (
          (MX9_bad a0 (5 : Int32) h).bind fun p13 =>
          (h_z p13.1).bind fun z14 =>
          some (z14, p13.2)
        )
      ) fun (j10 : Int32 → Option (Int32 × Hp)) =>
      if x8 = (1 : Int32) then (
        j10 (1 : Int32)
      ) else (
        j10 (0 : Int32)
      )
    )
  )
def MX9_hasBlock (a0 : Int32) : Option (Int32) :=
  if a0 < (7 : Int32) then (
    some (0 : Int32)
  ) else (
    some (1 : Int32)
  )
def MX9_readBlock_B11 (a0 : Nat) (rs : Nat → Int32 → Int32 → Int32 → Hp → Option (Int32 × Hp)) (a1 : Int32) (a2 : Int32) (a3 : Int32) (j3 : Hp → Option (Int32 × Hp)) (self6 : Hp → Option (Int32 × Hp)) (h5 : Hp) : Option (Int32 × Hp) :=
  (MX9_isSign a0 (125 : Int32) h5).bind fun x7 =>
  if x7 = 0 then (
    (rs a0 a1 a2 (a3 + (1 : Int32)) h5).bind fun p8 =>
    if p8.1 = 0 then (
      some ((0 : Int32), p8.2)
    ) else (
      self6 p8.2
    )
  ) else (
    j3 h5
  )
def MX9_readBlock_R (fu : Nat) (rs : Nat → Int32 → Int32 → Int32 → Hp → Option (Int32 × Hp)) (a0 : Nat) (a1 : Int32) (a2 : Int32) (a3 : Int32) (h : Hp) : Option (Int32 × Hp) :=
  h_g 9 h a0 <|
  (MX9_eats fu a0 (123 : Int32) h).bind fun p1 =>
  if p1.1 = 0 then (
    some ((0 : Int32), p1.2)
  ) else (
    jn (fun (h2 : Hp) =>
      (MX9_go fu a0 h2).bind fun h4 =>
      some ((1 : Int32), h4)
    ) fun (j3 : Hp → Option (Int32 × Hp)) =>
    wh1 (MX9_readBlock_B11 a0 rs a1 a2 a3 j3) fu p1.2
  )
def MX9_readStatement_R (fu : Nat) (rself : Nat → Int32 → Int32 → Int32 → Hp → Option (Int32 × Hp)) (a0 : Nat) (a1 : Int32) (a2 : Int32) (a3 : Int32) (h : Hp) : Option (Int32 × Hp) :=
  h_g 9 h a0 <|
  (MX9_isStatement fu a0 h).bind fun x1 =>
  if x1 = 0 then (
    (MX9_bad a0 (2 : Int32) h).bind fun p45 =>
    (h_z p45.1).bind fun z46 =>
    some (z46, p45.2)
  ) else (
    (h_fR 9 h a0 2).bind fun x2 =>
    (h_ldI h x2 (2 : Int32)).bind fun x3 =>
    jn (
      (MX9_bad a0 (6 : Int32) h).bind fun p5 =>
      (h_z p5.1).bind fun z6 =>
      some (z6, p5.2)
    ) fun (j4 : Option (Int32 × Hp)) =>
    if x3 = (40 : Int32) then (
      j4
    ) else (
      if a3 = (5 : Int32) then (
        j4
      ) else (
        (MX9_wordHere fu a0 h).bind fun x7 =>
        (h_stI h x2 (2 : Int32) (x3 + (1 : Int32))).bind fun h8 =>
        (h_fR 9 h8 a0 2).bind fun x9 =>
        (h_stI h8 x9 ((333 : Int32) + x3) (x7 - (10 : Int32))).bind fun h10 =>
        (h_fR 9 h10 a0 2).bind fun x11 =>
        (h_stI h10 x11 ((373 : Int32) + x3) (-1 : Int32)).bind fun h12 =>
        (h_fR 9 h12 a0 2).bind fun x13 =>
        (h_stI h12 x13 ((413 : Int32) + x3) (-1 : Int32)).bind fun h14 =>
        (h_fR 9 h14 a0 2).bind fun x15 =>
        (h_stI h14 x15 ((453 : Int32) + x3) (-1 : Int32)).bind fun h16 =>
        (h_fR 9 h16 a0 2).bind fun x17 =>
        (h_stI h16 x17 ((493 : Int32) + x3) a1).bind fun h18 =>
        (h_fR 9 h18 a0 2).bind fun x19 =>
        (h_stI h18 x19 ((533 : Int32) + x3) a2).bind fun h20 =>
        (MX9_go fu a0 h20).bind fun h21 =>
        jn (fun (h22 : Hp) =>
          (MX9_isTwo (x7 - (10 : Int32))).bind fun x24 =>
          jn (fun (h25 : Hp) =>
            jn (fun (h27 : Hp) =>
              (MX9_hasBlock (x7 - (10 : Int32))).bind fun x29 =>
              if x29 = 0 then (
                (MX9_eats fu a0 (59 : Int32) h27).bind fun p36 =>
                (h_z p36.1).bind fun z37 =>
                some (z37, p36.2)
              ) else (
                (MX9_readBlock_R fu rself a0 x3 (0 : Int32) a3 h27).bind fun p30 =>
                if p30.1 = 0 then (
                  some ((0 : Int32), p30.2)
                ) else (
                  jn (
                    (MX9_wordHere fu a0 p30.2).bind fun x32 =>
                    if x32 = (21 : Int32) then (
                      (MX9_go fu a0 p30.2).bind fun h33 =>
                      (MX9_readBlock_R fu rself a0 x3 (1 : Int32) a3 h33).bind fun p34 =>
                      (h_z p34.1).bind fun z35 =>
                      some (z35, p34.2)
                    ) else (
                      some ((1 : Int32), p30.2)
                    )
                  ) fun (j31 : Option (Int32 × Hp)) =>
                  if (x7 - (10 : Int32)) = (7 : Int32) then (
                    j31
                  ) else (
                    if (x7 - (10 : Int32)) = (9 : Int32) then (
                      j31
                    ) else (
                      some ((1 : Int32), p30.2)
                    )
                  )
                )
              )
            ) fun (j28 : Hp → Option (Int32 × Hp)) =>
            if (x7 - (10 : Int32)) < (6 : Int32) then (
              j28 h25
            ) else (
              if (8 : Int32) < (x7 - (10 : Int32)) then (
                j28 h25
              ) else (
                (MX9_isAsked (x7 - (10 : Int32))).bind fun x38 =>
                (MX9_readMethod fu a0 x3 x38 h25).bind fun p39 =>
                if p39.1 = 0 then (
                  some ((0 : Int32), p39.2)
                ) else (
                  j28 p39.2
                )
              )
            )
          ) fun (j26 : Hp → Option (Int32 × Hp)) =>
          if x24 = 0 then (
            j26 h22
          ) else (
            (MX9_readOther fu a0 x3 h22).bind fun p40 =>
            if p40.1 = 0 then (
              some ((0 : Int32), p40.2)
            ) else (
              j26 p40.2
            )
          )
        ) fun (j23 : Hp → Option (Int32 × Hp)) =>
        if (9 : Int32) ≤ (x7 - (10 : Int32)) then (
          j23 h21
        ) else (
          (MX9_readVariable fu a0 h21).bind fun p41 =>
          if p41.1 = 0 then (
            some ((0 : Int32), p41.2)
          ) else (
            (h_fR 9 p41.2 a0 2).bind fun x42 =>
            (h_fI 9 p41.2 a0 16).bind fun x43 =>
            (h_stI p41.2 x42 ((373 : Int32) + x3) x43).bind fun h44 =>
            j23 h44
          )
        )
      )
    )
  )
def MX9_readStatement (fu : Nat) (a0 : Nat) (a1 : Int32) (a2 : Int32) (a3 : Int32) (h : Hp) : Option (Int32 × Hp) := wh5 (MX9_readStatement_R fu) 7 a0 a1 a2 a3 h
def MX9_status (a0 : Nat) (h : Hp) : Option (Int32) :=
  h_g 9 h a0 <|
  (h_fI 9 h a0 5).bind fun x1 =>
  some x1
def MX9_refuse (a0 : Nat) (a1 : Int32) (h : Hp) : Option (Int32 × Hp) :=
  h_g 9 h a0 <|
  (h_pI 9 h a0 5 a1).bind fun h1 =>
  some ((-1 : Int32), h1)
def MX9_gives (a0 : Nat) (a1 : Int32) (h : Hp) : Option (Int32 × Hp) :=
  h_g 9 h a0 <|
  (h_pI 9 h a0 5 (0 : Int32)).bind fun h1 =>
  some (a1, h1)
def MX9_isFrom (a0 : Int32) (a1 : Int32) (a2 : Int32) : Option (Int32) :=
  jn (
    some (0 : Int32)
  ) fun (j1 : Option (Int32)) =>
  if a0 < a1 then (
    j1
  ) else (
    if a2 < a0 then (
      j1
    ) else (
      some (1 : Int32)
    )
  )
def MX9_has (a0 : Int32) (a1 : Int32) : Option (Int32) :=
  if ((a0 >>> (a1 &&& 31)) &&& (1 : Int32)) = (1 : Int32) then (
    some (1 : Int32)
  ) else (
    some (0 : Int32)
  )
def MX9_come_B3 (a0 : Nat) (a1 : Int32) (self3 : Int32 → Hp → Option (Hp)) (v1 : Int32) (h2 : Hp) : Option (Hp) :=
  if v1 < 0 then (
    some h2
  ) else (
    (h_fR 9 h2 a0 0).bind fun x4 =>
    (h_fI 9 h2 a0 4).bind fun x5 =>
    (h_stI h2 x4 x5 (((a1.toUInt32 >>> (v1.toUInt32 &&& Int32.toUInt32 31)).toInt32) &&& (255 : Int32))).bind fun h6 =>
    (h_fI 9 h6 a0 4).bind fun x7 =>
    (h_pI 9 h6 a0 4 (x7 + (1 : Int32))).bind fun h8 =>
    self3 (v1 + (-8 : Int32)) h8
  )
def MX9_come (fu : Nat) (a0 : Nat) (a1 : Int32) (h : Hp) : Option (Hp) :=
  h_g 9 h a0 <|
  wh2 (MX9_come_B3 a0 a1) fu (24 : Int32) h
def MX9_feed (fu : Nat) (a0 : Nat) (a1 : Int32) (a2 : Int32) (a3 : Int32) (a4 : Int32) (a5 : Int32) (h : Hp) : Option (Int32 × Hp) :=
  h_g 9 h a0 <|
  (h_fI 9 h a0 4).bind fun x1 =>
  if (x1 + (20 : Int32)) ≤ (900 : Int32) then (
    (MX9_come fu a0 a1 h).bind fun h2 =>
    (MX9_come fu a0 a2 h2).bind fun h3 =>
    (MX9_come fu a0 a3 h3).bind fun h4 =>
    (MX9_come fu a0 a4 h4).bind fun h5 =>
    (MX9_come fu a0 a5 h5).bind fun h6 =>
    (h_fI 9 h6 a0 4).bind fun x7 =>
    some (x7, h6)
  ) else (
    some ((-1 : Int32), h)
  )
def MX9_readKind (fu : Nat) (a0 : Nat) (h : Hp) : Option (Int32 × Hp) :=
  h_g 9 h a0 <|
  (h_fR 9 h a0 2).bind fun x1 =>
  (h_ldI h x1 (0 : Int32)).bind fun x2 =>
  (MX9_readKnown fu a0 (0 : Int32) x2 h).bind fun p3 =>
  (h_z p3.1).bind fun z4 =>
  some (z4, p3.2)
def MX9_readState (fu : Nat) (a0 : Nat) (a1 : Int32) (h : Hp) : Option (Int32 × Hp) :=
  h_g 9 h a0 <|
  (h_fR 9 h a0 2).bind fun x1 =>
  (h_ldI h x1 ((3 : Int32) + a1)).bind fun x2 =>
  (MX9_readKnown fu a0 ((4 : Int32) + ((6 : Int32) * a1)) x2 h).bind fun p3 =>
  (h_z p3.1).bind fun z4 =>
  some (z4, p3.2)
def MX9_readKindLine_B97 (fu : Nat) (a0 : Nat) (j32 : Hp → Option (Int32 × Hp)) (x2 : Int32) (j24 : Hp → Option (Int32 × Hp)) (j17 : Hp → Option (Int32 × Hp)) (j28 : Hp → Option (Int32 × Hp)) (self36 : Hp → Option (Int32 × Hp)) (h35 : Hp) : Option (Int32 × Hp) :=
  (MX9_isName fu a0 h35).bind fun x37 =>
  if x37 = 0 then (
    j32 h35
  ) else (
    (h_fR 9 h35 a0 2).bind fun x38 =>
    (h_ldI h35 x38 ((3 : Int32) + x2)).bind fun x39 =>
    (MX9_findIn fu a0 ((4 : Int32) + ((6 : Int32) * x2)) x39 h35).bind fun x40 =>
    if x40 = (-1 : Int32) then (
      if x39 = (6 : Int32) then (
        j24 h35
      ) else (
        (h_fR 9 h35 a0 3).bind fun x41 =>
        (h_fL 9 h35 a0 15).bind fun x42 =>
        (h_stL h35 x41 (((4 : Int32) + ((6 : Int32) * x2)) + x39) x42).bind fun h43 =>
        (h_fR 9 h43 a0 2).bind fun x44 =>
        (h_ldI h43 x44 ((3 : Int32) + x2)).bind fun x45 =>
        (h_stI h43 x44 ((3 : Int32) + x2) (x45 + (1 : Int32))).bind fun h46 =>
        (MX9_go fu a0 h46).bind fun h47 =>
        (MX9_isName fu a0 h47).bind fun x48 =>
        if x48 = 0 then (
          j17 h47
        ) else (
          self36 h47
        )
      )
    ) else (
      j28 h35
    )
  )
def MX9_readKindLine (fu : Nat) (a0 : Nat) (h : Hp) : Option (Int32 × Hp) :=
  h_g 9 h a0 <|
  (h_fR 9 h a0 2).bind fun x1 =>
  (h_ldI h x1 (0 : Int32)).bind fun x2 =>
  if x2 = (4 : Int32) then (
    (MX9_bad a0 (6 : Int32) h).bind fun p53 =>
    (h_z p53.1).bind fun z54 =>
    some (z54, p53.2)
  ) else (
    (MX9_go fu a0 h).bind fun h3 =>
    (MX9_isName fu a0 h3).bind fun x4 =>
    if x4 = 0 then (
      (MX9_bad a0 (2 : Int32) h3).bind fun p51 =>
      (h_z p51.1).bind fun z52 =>
      some (z52, p51.2)
    ) else (
      (MX9_findIn fu a0 (0 : Int32) x2 h3).bind fun x5 =>
      if x5 = (-1 : Int32) then (
        (h_fR 9 h3 a0 3).bind fun x6 =>
        (h_fL 9 h3 a0 15).bind fun x7 =>
        (h_stL h3 x6 ((0 : Int32) + x2) x7).bind fun h8 =>
        (MX9_go fu a0 h8).bind fun h9 =>
        (h_fR 9 h9 a0 2).bind fun x10 =>
        (h_stI h9 x10 ((3 : Int32) + x2) (0 : Int32)).bind fun h11 =>
        (h_fR 9 h11 a0 2).bind fun x12 =>
        (h_stI h11 x12 ((7 : Int32) + x2) (0 : Int32)).bind fun h13 =>
        (h_fR 9 h13 a0 2).bind fun x14 =>
        (h_stI h13 x14 ((11 : Int32) + x2) (0 : Int32)).bind fun h15 =>
        jn (fun (h16 : Hp) =>
          (h_fR 9 h16 a0 2).bind fun x18 =>
          (h_ldI h16 x18 (0 : Int32)).bind fun x19 =>
          (h_stI h16 x18 (0 : Int32) (x19 + (1 : Int32))).bind fun h20 =>
          (MX9_eats fu a0 (59 : Int32) h20).bind fun p21 =>
          (h_z p21.1).bind fun z22 =>
          some (z22, p21.2)
        ) fun (j17 : Hp → Option (Int32 × Hp)) =>
        jn (fun (h23 : Hp) =>
          (MX9_bad a0 (6 : Int32) h23).bind fun p25 =>
          (h_z p25.1).bind fun z26 =>
          some (z26, p25.2)
        ) fun (j24 : Hp → Option (Int32 × Hp)) =>
        jn (fun (h27 : Hp) =>
          (MX9_bad a0 (4 : Int32) h27).bind fun p29 =>
          (h_z p29.1).bind fun z30 =>
          some (z30, p29.2)
        ) fun (j28 : Hp → Option (Int32 × Hp)) =>
        jn (fun (h31 : Hp) =>
          (MX9_bad a0 (2 : Int32) h31).bind fun p33 =>
          (h_z p33.1).bind fun z34 =>
          some (z34, p33.2)
        ) fun (j32 : Hp → Option (Int32 × Hp)) =>
        wh1 (MX9_readKindLine_B97 fu a0 j32 x2 j24 j17 j28) fu h15
      ) else (
        (MX9_bad a0 (4 : Int32) h3).bind fun p49 =>
        (h_z p49.1).bind fun z50 =>
        some (z50, p49.2)
      )
    )
  )
def MX9_readEndLine_B18 (fu : Nat) (a0 : Nat) (x3 : Int32) (j5 : Hp → Option (Int32 × Hp)) (self9 : Hp → Option (Int32 × Hp)) (h8 : Hp) : Option (Int32 × Hp) :=
  (MX9_readState fu a0 x3 h8).bind fun p10 =>
  if p10.1 = 0 then (
    some ((0 : Int32), p10.2)
  ) else (
    (h_fR 9 p10.2 a0 2).bind fun x11 =>
    (h_ldI p10.2 x11 ((7 : Int32) + x3)).bind fun x12 =>
    (h_fI 9 p10.2 a0 16).bind fun x13 =>
    (h_stI p10.2 x11 ((7 : Int32) + x3) (x12 ||| ((1 : Int32) <<< (x13 &&& 31)))).bind fun h14 =>
    (MX9_isName fu a0 h14).bind fun x15 =>
    if x15 = 0 then (
      j5 h14
    ) else (
      self9 h14
    )
  )
def MX9_readEndLine (fu : Nat) (a0 : Nat) (h : Hp) : Option (Int32 × Hp) :=
  h_g 9 h a0 <|
  (MX9_go fu a0 h).bind fun h1 =>
  (MX9_readKind fu a0 h1).bind fun p2 =>
  if p2.1 = 0 then (
    some ((0 : Int32), p2.2)
  ) else (
    (h_fI 9 p2.2 a0 16).bind fun x3 =>
    jn (fun (h4 : Hp) =>
      (MX9_eats fu a0 (59 : Int32) h4).bind fun p6 =>
      (h_z p6.1).bind fun z7 =>
      some (z7, p6.2)
    ) fun (j5 : Hp → Option (Int32 × Hp)) =>
    wh1 (MX9_readEndLine_B18 fu a0 x3 j5) fu p2.2
  )
def MX9_cell (a0 : Int32) (a1 : Int32) (a2 : Int32) (a3 : Int32) : Option (Int32) :=
  (MX9_methodAt a1 a2).bind fun x1 =>
  some ((a0 + ((6 : Int32) * x1)) + a3)
def MX9_readMethodLine_B144 (j52 : Hp → Option (Int32 × Hp)) (a0 : Nat) (x3 : Int32) (x6 : Int32) (self58 : Int32 → Hp → Option (Int32 × Hp)) (v56 : Int32) (h57 : Hp) : Option (Int32 × Hp) :=
  if (6 : Int32) ≤ v56 then (
    j52 h57
  ) else (
    (h_fR 9 h57 a0 2).bind fun x59 =>
    (MX9_cell (39 : Int32) x3 x6 v56).bind fun x60 =>
    (h_stI h57 x59 x60 (-1 : Int32)).bind fun h61 =>
    (h_fR 9 h61 a0 2).bind fun x62 =>
    (MX9_cell (183 : Int32) x3 x6 v56).bind fun x63 =>
    (h_stI h61 x62 x63 (-1 : Int32)).bind fun h64 =>
    self58 (v56 + (1 : Int32)) h64
  )
def MX9_readMethodLine (fu : Nat) (a0 : Nat) (a1 : Int32) (h : Hp) : Option (Int32 × Hp) :=
  h_g 9 h a0 <|
  (MX9_go fu a0 h).bind fun h1 =>
  (MX9_readKind fu a0 h1).bind fun p2 =>
  if p2.1 = 0 then (
    some ((0 : Int32), p2.2)
  ) else (
    (h_fI 9 p2.2 a0 16).bind fun x3 =>
    (MX9_isName fu a0 p2.2).bind fun x4 =>
    if x4 = 0 then (
      (MX9_bad a0 (2 : Int32) p2.2).bind fun p71 =>
      (h_z p71.1).bind fun z72 =>
      some (z72, p71.2)
    ) else (
      (h_fR 9 p2.2 a0 2).bind fun x5 =>
      (h_ldI p2.2 x5 ((11 : Int32) + x3)).bind fun x6 =>
      (MX9_findIn fu a0 ((28 : Int32) + ((6 : Int32) * x3)) x6 p2.2).bind fun x7 =>
      jn (
        jn (fun (v9 : Int32) (h10 : Hp) =>
          (MX9_go fu a0 h10).bind fun h12 =>
          (MX9_isName fu a0 h12).bind fun x13 =>
          if x13 = 0 then (
            (MX9_bad a0 (2 : Int32) h12).bind fun p43 =>
            (h_z p43.1).bind fun z44 =>
            some (z44, p43.2)
          ) else (
            (h_fR 9 h12 a0 2).bind fun x14 =>
            (h_ldI h12 x14 ((3 : Int32) + x3)).bind fun x15 =>
            (MX9_findIn fu a0 ((4 : Int32) + ((6 : Int32) * x3)) x15 h12).bind fun x16 =>
            if x16 = (-1 : Int32) then (
              (MX9_bad a0 (3 : Int32) h12).bind fun p41 =>
              (h_z p41.1).bind fun z42 =>
              some (z42, p41.2)
            ) else (
              (MX9_cell (39 : Int32) x3 v9 x16).bind fun x17 =>
              (h_ldI h12 x14 x17).bind fun x18 =>
              if x18 = (-1 : Int32) then (
                (MX9_go fu a0 h12).bind fun h19 =>
                jn (fun (v20 : Int32) (v21 : Int32) (h22 : Hp) =>
                  jn (fun (v24 : Int32) (h25 : Hp) =>
                    (h_fR 9 h25 a0 2).bind fun x27 =>
                    (MX9_cell (39 : Int32) x3 v9 x16).bind fun x28 =>
                    (h_stI h25 x27 x28 v20).bind fun h29 =>
                    (h_fR 9 h29 a0 2).bind fun x30 =>
                    (MX9_cell (183 : Int32) x3 v9 x16).bind fun x31 =>
                    (h_stI h29 x30 x31 v24).bind fun h32 =>
                    (MX9_eats fu a0 (59 : Int32) h32).bind fun p33 =>
                    (h_z p33.1).bind fun z34 =>
                    some (z34, p33.2)
                  ) fun (j26 : Int32 → Hp → Option (Int32 × Hp)) =>
                  if a1 = (1 : Int32) then (
                    (MX9_readState fu a0 x3 h22).bind fun p35 =>
                    if p35.1 = 0 then (
                      some ((0 : Int32), p35.2)
                    ) else (
                      (h_fI 9 p35.2 a0 16).bind fun x36 =>
                      j26 x36 p35.2
                    )
                  ) else (
                    j26 v21 h22
                  )
                ) fun (j23 : Int32 → Int32 → Hp → Option (Int32 × Hp)) =>
                if a1 = (2 : Int32) then (
                  j23 x16 x16 h19
                ) else (
                  (MX9_readState fu a0 x3 h19).bind fun p37 =>
                  if p37.1 = 0 then (
                    some ((0 : Int32), p37.2)
                  ) else (
                    (h_fI 9 p37.2 a0 16).bind fun x38 =>
                    j23 x38 x38 p37.2
                  )
                )
              ) else (
                (MX9_bad a0 (4 : Int32) h12).bind fun p39 =>
                (h_z p39.1).bind fun z40 =>
                some (z40, p39.2)
              )
            )
          )
        ) fun (j11 : Int32 → Hp → Option (Int32 × Hp)) =>
        if x7 = (-1 : Int32) then (
          if x6 = (6 : Int32) then (
            (MX9_bad a0 (6 : Int32) p2.2).bind fun p65 =>
            (h_z p65.1).bind fun z66 =>
            some (z66, p65.2)
          ) else (
            (h_fR 9 p2.2 a0 3).bind fun x45 =>
            (h_fL 9 p2.2 a0 15).bind fun x46 =>
            (h_stL p2.2 x45 (((28 : Int32) + ((6 : Int32) * x3)) + x6) x46).bind fun h47 =>
            (h_fR 9 h47 a0 2).bind fun x48 =>
            (MX9_methodAt x3 x6).bind fun x49 =>
            (h_stI h47 x48 ((15 : Int32) + x49) a1).bind fun h50 =>
            jn (fun (h51 : Hp) =>
              (h_fR 9 h51 a0 2).bind fun x53 =>
              (h_ldI h51 x53 ((11 : Int32) + x3)).bind fun x54 =>
              (h_stI h51 x53 ((11 : Int32) + x3) (x54 + (1 : Int32))).bind fun h55 =>
              j11 x6 h55
            ) fun (j52 : Hp → Option (Int32 × Hp)) =>
            wh2 (MX9_readMethodLine_B144 j52 a0 x3 x6) fu (0 : Int32) h50
          )
        ) else (
          j11 x7 p2.2
        )
      ) fun (j8 : Option (Int32 × Hp)) =>
      if x7 = (-1 : Int32) then (
        j8
      ) else (
        (MX9_methodAt x3 x7).bind fun x67 =>
        (h_ldI p2.2 x5 ((15 : Int32) + x67)).bind fun x68 =>
        if x68 = a1 then (
          j8
        ) else (
          (MX9_bad a0 (5 : Int32) p2.2).bind fun p69 =>
          (h_z p69.1).bind fun z70 =>
          some (z70, p69.2)
        )
      )
    )
  )
def MX9_readVarLine (fu : Nat) (a0 : Nat) (h : Hp) : Option (Int32 × Hp) :=
  h_g 9 h a0 <|
  (h_fR 9 h a0 2).bind fun x1 =>
  (h_ldI h x1 (1 : Int32)).bind fun x2 =>
  if x2 = (6 : Int32) then (
    (MX9_bad a0 (6 : Int32) h).bind fun p23 =>
    (h_z p23.1).bind fun z24 =>
    some (z24, p23.2)
  ) else (
    (MX9_go fu a0 h).bind fun h3 =>
    (MX9_isName fu a0 h3).bind fun x4 =>
    if x4 = 0 then (
      (MX9_bad a0 (2 : Int32) h3).bind fun p21 =>
      (h_z p21.1).bind fun z22 =>
      some (z22, p21.2)
    ) else (
      (MX9_findIn fu a0 (52 : Int32) x2 h3).bind fun x5 =>
      if x5 = (-1 : Int32) then (
        (h_fR 9 h3 a0 3).bind fun x6 =>
        (h_fL 9 h3 a0 15).bind fun x7 =>
        (h_stL h3 x6 ((52 : Int32) + x2) x7).bind fun h8 =>
        (MX9_go fu a0 h8).bind fun h9 =>
        (MX9_readKind fu a0 h9).bind fun p10 =>
        if p10.1 = 0 then (
          some ((0 : Int32), p10.2)
        ) else (
          (h_fR 9 p10.2 a0 2).bind fun x11 =>
          (h_fI 9 p10.2 a0 16).bind fun x12 =>
          (h_stI p10.2 x11 ((327 : Int32) + x2) x12).bind fun h13 =>
          (h_fR 9 h13 a0 2).bind fun x14 =>
          (h_ldI h13 x14 (1 : Int32)).bind fun x15 =>
          (h_stI h13 x14 (1 : Int32) (x15 + (1 : Int32))).bind fun h16 =>
          (MX9_eats fu a0 (59 : Int32) h16).bind fun p17 =>
          (h_z p17.1).bind fun z18 =>
          some (z18, p17.2)
        )
      ) else (
        (MX9_bad a0 (4 : Int32) h3).bind fun p19 =>
        (h_z p19.1).bind fun z20 =>
        some (z20, p19.2)
      )
    )
  )
def MX9_readLine (fu : Nat) (a0 : Nat) (a1 : Int32) (h : Hp) : Option (Int32 × Hp) :=
  h_g 9 h a0 <|
  if a1 = (0 : Int32) then (
    (MX9_readKindLine fu a0 h).bind fun p1 =>
    (h_z p1.1).bind fun z2 =>
    some (z2, p1.2)
  ) else (
  if a1 = (1 : Int32) then (
    (MX9_readEndLine fu a0 h).bind fun p3 =>
    (h_z p3.1).bind fun z4 =>
    some (z4, p3.2)
  ) else (
  if a1 = (2 : Int32) then (
    (MX9_readMethodLine fu a0 (0 : Int32) h).bind fun p5 =>
    (h_z p5.1).bind fun z6 =>
    some (z6, p5.2)
  ) else (
  if a1 = (3 : Int32) then (
    (MX9_readMethodLine fu a0 (1 : Int32) h).bind fun p7 =>
    (h_z p7.1).bind fun z8 =>
    some (z8, p7.2)
  ) else (
  if a1 = (4 : Int32) then (
    (MX9_readMethodLine fu a0 (2 : Int32) h).bind fun p9 =>
    (h_z p9.1).bind fun z10 =>
    some (z10, p9.2)
  ) else (
  (MX9_readVarLine fu a0 h).bind fun p11 =>
  (h_z p11.1).bind fun z12 =>
  some (z12, p11.2)
  )))))
def MX9_readText_B36 (fu : Nat) (a0 : Nat) (self4 : Hp → Option (Int32 × Hp)) (h3 : Hp) : Option (Int32 × Hp) :=
  (h_fI 9 h3 a0 11).bind fun x5 =>
  if x5 = 0 then (
    some ((1 : Int32), h3)
  ) else (
    (MX9_readStatement fu a0 (-1 : Int32) (0 : Int32) (0 : Int32) h3).bind fun p6 =>
    if p6.1 = 0 then (
      some ((0 : Int32), p6.2)
    ) else (
      self4 p6.2
    )
  )
def MX9_readText_B0 (fu : Nat) (a0 : Nat) (j2 : Hp → Option (Int32 × Hp)) (self8 : Hp → Option (Int32 × Hp)) (h7 : Hp) : Option (Int32 × Hp) :=
  (h_fI 9 h7 a0 11).bind fun x9 =>
  if x9 = (2 : Int32) then (
    (MX9_wordHere fu a0 h7).bind fun x10 =>
    if x10 < 0 then (
      j2 h7
    ) else (
      if (5 : Int32) < x10 then (
        j2 h7
      ) else (
        (MX9_readLine fu a0 x10 h7).bind fun p11 =>
        if p11.1 = 0 then (
          some ((0 : Int32), p11.2)
        ) else (
          self8 p11.2
        )
      )
    )
  ) else (
    j2 h7
  )
def MX9_readText (fu : Nat) (a0 : Nat) (h : Hp) : Option (Int32 × Hp) :=
  h_g 9 h a0 <|
  jn (fun (h1 : Hp) =>
    wh1 (MX9_readText_B36 fu a0) fu h1
  ) fun (j2 : Hp → Option (Int32 × Hp)) =>
  wh1 (MX9_readText_B0 fu a0 j2) fu h
def MX9_load_B102 (j21 : Hp → Option (Int32 × Hp)) (a0 : Nat) (self27 : Int32 → Hp → Option (Int32 × Hp)) (v25 : Int32) (h26 : Hp) : Option (Int32 × Hp) :=
  if (573 : Int32) ≤ v25 then (
    j21 h26
  ) else (
    (h_fR 9 h26 a0 1).bind fun x28 =>
    (h_fR 9 h26 a0 2).bind fun x29 =>
    (h_ldI h26 x29 v25).bind fun x30 =>
    (h_stI h26 x28 v25 x30).bind fun h31 =>
    self27 (v25 + (1 : Int32)) h31
  )
def MX9_load (fu : Nat) (a0 : Nat) (a1 : Int32) (h : Hp) : Option (Int32 × Hp) :=
  h_g 9 h a0 <|
  (h_fI 9 h a0 4).bind fun x1 =>
  (MX9_isFrom a1 (0 : Int32) x1).bind fun x2 =>
  if x2 = 0 then (
    (MX9_refuse a0 (1 : Int32) h).bind fun p33 =>
    some (p33.1, p33.2)
  ) else (
    (h_pI 9 h a0 8 a1).bind fun h3 =>
    (h_pI 9 h3 a0 4 (0 : Int32)).bind fun h4 =>
    (h_pI 9 h4 a0 10 (0 : Int32)).bind fun h5 =>
    (h_pI 9 h5 a0 13 (0 : Int32)).bind fun h6 =>
    (h_pI 9 h6 a0 14 (-1 : Int32)).bind fun h7 =>
    (h_fR 9 h7 a0 2).bind fun x8 =>
    (h_stI h7 x8 (0 : Int32) (0 : Int32)).bind fun h9 =>
    (h_fR 9 h9 a0 2).bind fun x10 =>
    (h_stI h9 x10 (1 : Int32) (0 : Int32)).bind fun h11 =>
    (h_fR 9 h11 a0 2).bind fun x12 =>
    (h_stI h11 x12 (2 : Int32) (0 : Int32)).bind fun h13 =>
    (MX9_go fu a0 h13).bind fun h14 =>
    (MX9_readText fu a0 h14).bind fun p15 =>
    (h_fI 9 p15.2 a0 13).bind fun x16 =>
    (h_pI 9 p15.2 a0 6 x16).bind fun h17 =>
    (h_fI 9 h17 a0 14).bind fun x18 =>
    (h_pI 9 h17 a0 7 x18).bind fun h19 =>
    if p15.1 = 0 then (
      (MX9_refuse a0 (9 : Int32) h19).bind fun p32 =>
      some (p32.1, p32.2)
    ) else (
      jn (fun (h20 : Hp) =>
        (h_fR 9 h20 a0 1).bind fun x22 =>
        (h_ldI h20 x22 (2 : Int32)).bind fun x23 =>
        (MX9_gives a0 x23 h20).bind fun p24 =>
        some (p24.1, p24.2)
      ) fun (j21 : Hp → Option (Int32 × Hp)) =>
      wh2 (MX9_load_B102 j21 a0) fu (0 : Int32) h19
    )
  )
def MX9_fault (a0 : Nat) (a1 : Int32) (h : Hp) : Option (Int32) :=
  h_g 9 h a0 <|
  if a1 = 0 then (
    (h_fI 9 h a0 6).bind fun x2 =>
    some x2
  ) else (
    if a1 = (1 : Int32) then (
      (h_fI 9 h a0 7).bind fun x1 =>
      some x1
    ) else (
      some (-1 : Int32)
    )
  )
def MX9_isKind (a0 : Nat) (a1 : Int32) (h : Hp) : Option (Int32) :=
  h_g 9 h a0 <|
  (h_fR 9 h a0 1).bind fun x1 =>
  (h_ldI h x1 (0 : Int32)).bind fun x2 =>
  (MX9_isFrom a1 (0 : Int32) (x2 - (1 : Int32))).bind fun x3 =>
  (h_z x3).bind fun z4 =>
  some z4
def MX9_isState (a0 : Nat) (a1 : Int32) (a2 : Int32) (h : Hp) : Option (Int32) :=
  h_g 9 h a0 <|
  (MX9_isKind a0 a1 h).bind fun x1 =>
  jn (
    some (0 : Int32)
  ) fun (j2 : Option (Int32)) =>
  if x1 = 0 then (
    j2
  ) else (
    (h_fR 9 h a0 1).bind fun x3 =>
    (h_ldI h x3 ((3 : Int32) + a1)).bind fun x4 =>
    (MX9_isFrom a2 (0 : Int32) (x4 - (1 : Int32))).bind fun x5 =>
    if x5 = 0 then (
      j2
    ) else (
      some (1 : Int32)
    )
  )
def MX9_isMethod (a0 : Nat) (a1 : Int32) (a2 : Int32) (h : Hp) : Option (Int32) :=
  h_g 9 h a0 <|
  (MX9_isKind a0 a1 h).bind fun x1 =>
  jn (
    some (0 : Int32)
  ) fun (j2 : Option (Int32)) =>
  if x1 = 0 then (
    j2
  ) else (
    (h_fR 9 h a0 1).bind fun x3 =>
    (h_ldI h x3 ((11 : Int32) + a1)).bind fun x4 =>
    (MX9_isFrom a2 (0 : Int32) (x4 - (1 : Int32))).bind fun x5 =>
    if x5 = 0 then (
      j2
    ) else (
      some (1 : Int32)
    )
  )
def MX9_yes (a0 : Nat) (a1 : Int32) (a2 : Int32) (a3 : Int32) (h : Hp) : Option (Int32) :=
  h_g 9 h a0 <|
  (h_fR 9 h a0 1).bind fun x1 =>
  (MX9_cell (39 : Int32) a1 a2 a3).bind fun x2 =>
  (h_ldI h x1 x2).bind fun x3 =>
  some x3
def MX9_no (a0 : Nat) (a1 : Int32) (a2 : Int32) (a3 : Int32) (h : Hp) : Option (Int32) :=
  h_g 9 h a0 <|
  (h_fR 9 h a0 1).bind fun x1 =>
  (MX9_cell (183 : Int32) a1 a2 a3).bind fun x2 =>
  (h_ldI h x1 x2).bind fun x3 =>
  some x3
def MX9_canBe (a0 : Nat) (a1 : Int32) (a2 : Int32) (a3 : Int32) (h : Hp) : Option (Int32) :=
  h_g 9 h a0 <|
  (MX9_yes a0 a1 a2 a3 h).bind fun x1 =>
  if x1 = (-1 : Int32) then (
    some (0 : Int32)
  ) else (
    some (1 : Int32)
  )
def MX9_isEnd (a0 : Nat) (a1 : Int32) (a2 : Int32) (h : Hp) : Option (Int32) :=
  h_g 9 h a0 <|
  (h_fR 9 h a0 1).bind fun x1 =>
  (h_ldI h x1 ((7 : Int32) + a1)).bind fun x2 =>
  (MX9_has x2 a2).bind fun x3 =>
  (h_z x3).bind fun z4 =>
  some z4
def MX9_many (a0 : Nat) (a1 : Int32) (h : Hp) : Option (Int32 × Hp) :=
  h_g 9 h a0 <|
  (MX9_isFrom a1 (0 : Int32) (2 : Int32)).bind fun x1 =>
  if x1 = 0 then (
    (MX9_refuse a0 (1 : Int32) h).bind fun p2 =>
    some (p2.1, p2.2)
  ) else (
    (h_fR 9 h a0 1).bind fun x3 =>
    (h_ldI h x3 a1).bind fun x4 =>
    (MX9_gives a0 x4 h).bind fun p5 =>
    some (p5.1, p5.2)
  )
def MX9_reached_B33 (h : Hp) (x9 : Nat) (a1 : Int32) (j12 : Int32 → Option (Int32)) (v7 : Int32) (a0 : Nat) (self15 : Int32 → Int32 → Option (Int32)) (v13 : Int32) (v14 : Int32) : Option (Int32) :=
  (h_ldI h x9 ((11 : Int32) + a1)).bind fun x16 =>
  if x16 ≤ v14 then (
    j12 v13
  ) else (
    (MX9_has v13 v7).bind fun x17 =>
    jn (fun (v18 : Int32) =>
      self15 v18 (v14 + (1 : Int32))
    ) fun (j19 : Int32 → Option (Int32)) =>
    if x17 = 0 then (
      j19 v13
    ) else (
      (MX9_canBe a0 a1 v14 v7 h).bind fun x20 =>
      if x20 = 0 then (
        j19 v13
      ) else (
        (MX9_yes a0 a1 v14 v7 h).bind fun x21 =>
        (MX9_no a0 a1 v14 v7 h).bind fun x22 =>
        j19 (v13 ||| (((1 : Int32) <<< (x21 &&& 31)) ||| ((1 : Int32) <<< (x22 &&& 31))))
      )
    )
  )
def MX9_reached_B17 (fu : Nat) (h : Hp) (a0 : Nat) (a1 : Int32) (j5 : Int32 → Option (Int32)) (self8 : Int32 → Int32 → Option (Int32)) (v6 : Int32) (v7 : Int32) : Option (Int32) :=
  (h_fR 9 h a0 1).bind fun x9 =>
  (h_ldI h x9 ((3 : Int32) + a1)).bind fun x10 =>
  if x10 ≤ v7 then (
    j5 v6
  ) else (
    jn (fun (v11 : Int32) =>
      self8 v11 (v7 + (1 : Int32))
    ) fun (j12 : Int32 → Option (Int32)) =>
    wh2 (MX9_reached_B33 h x9 a1 j12 v7 a0) fu v6 (0 : Int32)
  )
def MX9_reached_B5 (fu : Nat) (h : Hp) (a0 : Nat) (a1 : Int32) (self3 : Int32 → Int32 → Option (Int32)) (v1 : Int32) (v2 : Int32) : Option (Int32) :=
  if v2 = v1 then (
    some v1
  ) else (
    jn (fun (v4 : Int32) =>
      self3 v4 v1
    ) fun (j5 : Int32 → Option (Int32)) =>
    wh2 (MX9_reached_B17 fu h a0 a1 j5) fu v1 (0 : Int32)
  )
def MX9_reached (fu : Nat) (a0 : Nat) (a1 : Int32) (a2 : Int32) (h : Hp) : Option (Int32) :=
  h_g 9 h a0 <|
  wh2 (MX9_reached_B5 fu h a0 a1) fu a2 (0 : Int32)
def MX9_kind_B164 (fu : Nat) (h : Hp) (a0 : Nat) (a1 : Int32) (j5 : Int32 → Option (Int32 × Hp)) (x3 : Int32) (self9 : Int32 → Int32 → Option (Int32 × Hp)) (v7 : Int32) (v8 : Int32) : Option (Int32 × Hp) :=
  (h_fR 9 h a0 1).bind fun x10 =>
  (h_ldI h x10 ((3 : Int32) + a1)).bind fun x11 =>
  if x11 ≤ v8 then (
    j5 v7
  ) else (
    (MX9_has x3 v8).bind fun x12 =>
    jn (fun (w13 : Int32) =>
      self9 (v7 ||| w13) (v8 + (1 : Int32))
    ) fun (j14 : Int32 → Option (Int32 × Hp)) =>
    jn (
      j14 (0 : Int32)
    ) fun (j15 : Option (Int32 × Hp)) =>
    if x12 = 0 then (
      j15
    ) else (
      (MX9_reached fu a0 a1 ((1 : Int32) <<< (v8 &&& 31)) h).bind fun x16 =>
      (h_ldI h x10 ((7 : Int32) + a1)).bind fun x17 =>
      if (x16 &&& x17) = 0 then (
        j14 ((1 : Int32) <<< (v8 &&& 31))
      ) else (
        j15
      )
    )
  )
def MX9_kind_B94 (h : Hp) (a0 : Nat) (j20 : Int32 → Option (Int32 × Hp)) (a1 : Int32) (self24 : Int32 → Int32 → Option (Int32 × Hp)) (v22 : Int32) (v23 : Int32) : Option (Int32 × Hp) :=
  (h_fR 9 h a0 1).bind fun x25 =>
  (h_ldI h x25 (1 : Int32)).bind fun x26 =>
  if x26 ≤ v23 then (
    j20 v22
  ) else (
    (h_ldI h x25 ((327 : Int32) + v23)).bind fun x27 =>
    jn (fun (w28 : Int32) =>
      self24 (v22 + w28) (v23 + (1 : Int32))
    ) fun (j29 : Int32 → Option (Int32 × Hp)) =>
    if x27 = a1 then (
      j29 (1 : Int32)
    ) else (
      j29 (0 : Int32)
    )
  )
def MX9_kind (fu : Nat) (a0 : Nat) (a1 : Int32) (a2 : Int32) (h : Hp) : Option (Int32 × Hp) :=
  h_g 9 h a0 <|
  (MX9_isFrom a2 (0 : Int32) (5 : Int32)).bind fun x1 =>
  if x1 = 0 then (
    (MX9_refuse a0 (1 : Int32) h).bind fun p40 =>
    some (p40.1, p40.2)
  ) else (
    (MX9_isKind a0 a1 h).bind fun x2 =>
    if x2 = 0 then (
      (MX9_refuse a0 (2 : Int32) h).bind fun p39 =>
      some (p39.1, p39.2)
    ) else (
      if a2 = 0 then (
        (h_fR 9 h a0 1).bind fun x36 =>
        (h_ldI h x36 ((3 : Int32) + a1)).bind fun x37 =>
        (MX9_gives a0 x37 h).bind fun p38 =>
        some (p38.1, p38.2)
      ) else (
        if a2 = (1 : Int32) then (
          (h_fR 9 h a0 1).bind fun x33 =>
          (h_ldI h x33 ((11 : Int32) + a1)).bind fun x34 =>
          (MX9_gives a0 x34 h).bind fun p35 =>
          some (p35.1, p35.2)
        ) else (
          if a2 = (2 : Int32) then (
            (h_fR 9 h a0 1).bind fun x30 =>
            (h_ldI h x30 ((7 : Int32) + a1)).bind fun x31 =>
            (MX9_gives a0 x31 h).bind fun p32 =>
            some (p32.1, p32.2)
          ) else (
            if a2 = (3 : Int32) then (
              jn (fun (v19 : Int32) =>
                (MX9_gives a0 v19 h).bind fun p21 =>
                some (p21.1, p21.2)
              ) fun (j20 : Int32 → Option (Int32 × Hp)) =>
              wh2 (MX9_kind_B94 h a0 j20 a1) fu (0 : Int32) (0 : Int32)
            ) else (
              (MX9_reached fu a0 a1 (1 : Int32) h).bind fun x3 =>
              if a2 = (4 : Int32) then (
                (MX9_gives a0 x3 h).bind fun p18 =>
                some (p18.1, p18.2)
              ) else (
                jn (fun (v4 : Int32) =>
                  (MX9_gives a0 v4 h).bind fun p6 =>
                  some (p6.1, p6.2)
                ) fun (j5 : Int32 → Option (Int32 × Hp)) =>
                wh2 (MX9_kind_B164 fu h a0 a1 j5 x3) fu (0 : Int32) (0 : Int32)
              )
            )
          )
        )
      )
    )
  )
def MX9_canSet_B5 (h : Hp) (a0 : Nat) (a1 : Int32) (a2 : Int32) (self3 : Int32 → Int32 → Option (Int32)) (v1 : Int32) (v2 : Int32) : Option (Int32) :=
  (h_fR 9 h a0 1).bind fun x4 =>
  (h_ldI h x4 ((3 : Int32) + a1)).bind fun x5 =>
  if x5 ≤ v2 then (
    some v1
  ) else (
    (MX9_canBe a0 a1 a2 v2 h).bind fun x6 =>
    jn (fun (w7 : Int32) =>
      self3 (v1 ||| w7) (v2 + (1 : Int32))
    ) fun (j8 : Int32 → Option (Int32)) =>
    if x6 = 0 then (
      j8 (0 : Int32)
    ) else (
      j8 ((1 : Int32) <<< (v2 &&& 31))
    )
  )
def MX9_canSet (fu : Nat) (a0 : Nat) (a1 : Int32) (a2 : Int32) (h : Hp) : Option (Int32) :=
  h_g 9 h a0 <|
  wh2 (MX9_canSet_B5 h a0 a1 a2) fu (0 : Int32) (0 : Int32)
def MX9_method (fu : Nat) (a0 : Nat) (a1 : Int32) (a2 : Int32) (a3 : Int32) (h : Hp) : Option (Int32 × Hp) :=
  h_g 9 h a0 <|
  (MX9_isFrom a3 (0 : Int32) (1 : Int32)).bind fun x1 =>
  if x1 = 0 then (
    (MX9_refuse a0 (1 : Int32) h).bind fun p11 =>
    some (p11.1, p11.2)
  ) else (
    (MX9_isMethod a0 a1 a2 h).bind fun x2 =>
    if x2 = 0 then (
      (MX9_refuse a0 (2 : Int32) h).bind fun p10 =>
      some (p10.1, p10.2)
    ) else (
      jn (fun (w3 : Int32) =>
        (MX9_gives a0 w3 h).bind fun p5 =>
        some (p5.1, p5.2)
      ) fun (j4 : Int32 → Option (Int32 × Hp)) =>
      if a3 = 0 then (
        (h_fR 9 h a0 1).bind fun x7 =>
        (MX9_methodAt a1 a2).bind fun x8 =>
        (h_ldI h x7 ((15 : Int32) + x8)).bind fun x9 =>
        j4 x9
      ) else (
        (MX9_canSet fu a0 a1 a2 h).bind fun x6 =>
        j4 x6
      )
    )
  )
def MX9_comes (a0 : Nat) (a1 : Int32) (a2 : Int32) (a3 : Int32) (a4 : Int32) (h : Hp) : Option (Int32 × Hp) :=
  h_g 9 h a0 <|
  (MX9_isMethod a0 a1 a2 h).bind fun x1 =>
  jn (
    (MX9_refuse a0 (2 : Int32) h).bind fun p3 =>
    some (p3.1, p3.2)
  ) fun (j2 : Option (Int32 × Hp)) =>
  if x1 = 0 then (
    j2
  ) else (
    (MX9_isState a0 a1 a3 h).bind fun x4 =>
    if x4 = 0 then (
      j2
    ) else (
      jn (fun (w5 : Int32) =>
        if w5 = (-1 : Int32) then (
          (MX9_refuse a0 (5 : Int32) h).bind fun p8 =>
          some (p8.1, p8.2)
        ) else (
          (MX9_gives a0 w5 h).bind fun p7 =>
          some (p7.1, p7.2)
        )
      ) fun (j6 : Int32 → Option (Int32 × Hp)) =>
      if a4 = 0 then (
        (MX9_no a0 a1 a2 a3 h).bind fun x9 =>
        j6 x9
      ) else (
        (MX9_yes a0 a1 a2 a3 h).bind fun x10 =>
        j6 x10
      )
    )
  )
def MX9_tell (a0 : Nat) (a1 : Int32) (a2 : Int32) (a3 : Int32) (a4 : Int32) (a5 : Int32) (h : Hp) : Option (Int32 × Hp) :=
  h_g 9 h a0 <|
  if (-1 : Int32) ≤ a5 then (
    (MX9_isMethod a0 a1 a2 h).bind fun x1 =>
    jn (
      (MX9_refuse a0 (2 : Int32) h).bind fun p3 =>
      some (p3.1, p3.2)
    ) fun (j2 : Option (Int32 × Hp)) =>
    if x1 = 0 then (
      j2
    ) else (
      (MX9_isState a0 a1 a3 h).bind fun x4 =>
      if x4 = 0 then (
        j2
      ) else (
        jn (
          jn (fun (w6 : Int32) =>
            if w6 = a5 then (
              (MX9_refuse a0 (4 : Int32) h).bind fun p28 =>
              some (p28.1, p28.2)
            ) else (
              (h_fR 9 h a0 1).bind fun x8 =>
              (MX9_methodAt a1 a2).bind fun x9 =>
              (h_ldI h x8 ((15 : Int32) + x9)).bind fun x10 =>
              jn (
                jn (fun (w12 : Int32) =>
                  jn (fun (h14 : Hp) =>
                    jn (fun (h16 : Hp) =>
                      (MX9_gives a0 w6 h16).bind fun p18 =>
                      some (p18.1, p18.2)
                    ) fun (j17 : Hp → Option (Int32 × Hp)) =>
                    jn (
                      (h_fR 9 h14 a0 1).bind fun x20 =>
                      (MX9_cell (183 : Int32) a1 a2 a3).bind fun x21 =>
                      (h_stI h14 x20 x21 a5).bind fun h22 =>
                      j17 h22
                    ) fun (j19 : Option (Int32 × Hp)) =>
                    if w12 = 0 then (
                      if a4 = 0 then (
                        j19
                      ) else (
                        j17 h14
                      )
                    ) else (
                      j19
                    )
                  ) fun (j15 : Hp → Option (Int32 × Hp)) =>
                  jn (
                    (MX9_cell (39 : Int32) a1 a2 a3).bind fun x24 =>
                    (h_stI h x8 x24 a5).bind fun h25 =>
                    j15 h25
                  ) fun (j23 : Option (Int32 × Hp)) =>
                  if w12 = 0 then (
                    if a4 = 0 then (
                      j15 h
                    ) else (
                      j23
                    )
                  ) else (
                    j23
                  )
                ) fun (j13 : Int32 → Option (Int32 × Hp)) =>
                jn (
                  j13 (1 : Int32)
                ) fun (j26 : Option (Int32 × Hp)) =>
                if x10 = (1 : Int32) then (
                  if a5 = (-1 : Int32) then (
                    j26
                  ) else (
                    if w6 = (-1 : Int32) then (
                      j26
                    ) else (
                      j13 (0 : Int32)
                    )
                  )
                ) else (
                  j26
                )
              ) fun (j11 : Option (Int32 × Hp)) =>
              if x10 = (2 : Int32) then (
                if a5 = (-1 : Int32) then (
                  j11
                ) else (
                  if a5 = a3 then (
                    j11
                  ) else (
                    (MX9_refuse a0 (5 : Int32) h).bind fun p27 =>
                    some (p27.1, p27.2)
                  )
                )
              ) else (
                j11
              )
            )
          ) fun (j7 : Int32 → Option (Int32 × Hp)) =>
          if a4 = 0 then (
            (MX9_no a0 a1 a2 a3 h).bind fun x29 =>
            j7 x29
          ) else (
            (MX9_yes a0 a1 a2 a3 h).bind fun x30 =>
            j7 x30
          )
        ) fun (j5 : Option (Int32 × Hp)) =>
        if a5 = (-1 : Int32) then (
          j5
        ) else (
          (MX9_isState a0 a1 a5 h).bind fun x31 =>
          if x31 = 0 then (
            j2
          ) else (
            j5
          )
        )
      )
    )
  ) else (
    (MX9_refuse a0 (1 : Int32) h).bind fun p32 =>
    some (p32.1, p32.2)
  )
def MX9_leastOf (a0 : Nat) (a1 : Int32) (a2 : Int32) (a3 : Int32) (h : Hp) : Option (Int32) :=
  h_g 9 h a0 <|
  (MX9_canBe a0 a1 a2 a3 h).bind fun x1 =>
  jn (
    some (99 : Int32)
  ) fun (j2 : Option (Int32)) =>
  if x1 = 0 then (
    j2
  ) else (
    (h_fR 9 h a0 1).bind fun x3 =>
    (MX9_methodAt a1 a2).bind fun x4 =>
    (h_ldI h x3 ((15 : Int32) + x4)).bind fun x5 =>
    if x5 = (2 : Int32) then (
      j2
    ) else (
      (h_fR 9 h a0 17).bind fun x6 =>
      (MX9_yes a0 a1 a2 a3 h).bind fun x7 =>
      (h_ldI h x6 x7).bind fun x8 =>
      (MX9_no a0 a1 a2 a3 h).bind fun x9 =>
      (h_ldI h x6 x9).bind fun x10 =>
      some ((jmin x8 x10) + (1 : Int32))
    )
  )
def MX9_laysEnds_B72 (a0 : Nat) (a1 : Int32) (j14 : Hp → Option (Hp)) (v8 : Int32) (self17 : Int32 → Hp → Option (Hp)) (v15 : Int32) (h16 : Hp) : Option (Hp) :=
  (h_fR 9 h16 a0 1).bind fun x18 =>
  (h_ldI h16 x18 ((11 : Int32) + a1)).bind fun x19 =>
  if x19 ≤ v15 then (
    j14 h16
  ) else (
    (h_fR 9 h16 a0 17).bind fun x20 =>
    (h_ldI h16 x20 v8).bind fun x21 =>
    (MX9_leastOf a0 a1 v15 v8 h16).bind fun x22 =>
    (h_stI h16 x20 v8 (jmin x21 x22)).bind fun h23 =>
    self17 (v15 + (1 : Int32)) h23
  )
def MX9_laysEnds_B57 (fu : Nat) (a0 : Nat) (a1 : Int32) (j7 : Hp → Option (Hp)) (self10 : Int32 → Hp → Option (Hp)) (v8 : Int32) (h9 : Hp) : Option (Hp) :=
  (h_fR 9 h9 a0 1).bind fun x11 =>
  (h_ldI h9 x11 ((3 : Int32) + a1)).bind fun x12 =>
  if x12 ≤ v8 then (
    j7 h9
  ) else (
    jn (fun (h13 : Hp) =>
      self10 (v8 + (1 : Int32)) h13
    ) fun (j14 : Hp → Option (Hp)) =>
    wh2 (MX9_laysEnds_B72 a0 a1 j14 v8) fu (0 : Int32) h9
  )
def MX9_laysEnds_B49 (fu : Nat) (a0 : Nat) (a1 : Int32) (self5 : Int32 → Hp → Option (Hp)) (v3 : Int32) (h4 : Hp) : Option (Hp) :=
  if (6 : Int32) ≤ v3 then (
    some h4
  ) else (
    jn (fun (h6 : Hp) =>
      self5 (v3 + (1 : Int32)) h6
    ) fun (j7 : Hp → Option (Hp)) =>
    wh2 (MX9_laysEnds_B57 fu a0 a1 j7) fu (0 : Int32) h4
  )
def MX9_laysEnds_B2 (j2 : Hp → Option (Hp)) (a0 : Nat) (a1 : Int32) (self26 : Int32 → Hp → Option (Hp)) (v24 : Int32) (h25 : Hp) : Option (Hp) :=
  if (6 : Int32) ≤ v24 then (
    j2 h25
  ) else (
    (h_fR 9 h25 a0 17).bind fun x27 =>
    (h_fR 9 h25 a0 1).bind fun x28 =>
    (h_ldI h25 x28 ((3 : Int32) + a1)).bind fun x29 =>
    jn (fun (w30 : Int32) =>
      (h_stI h25 x27 v24 w30).bind fun h32 =>
      self26 (v24 + (1 : Int32)) h32
    ) fun (j31 : Int32 → Option (Hp)) =>
    jn (
      j31 (99 : Int32)
    ) fun (j33 : Option (Hp)) =>
    if x29 ≤ v24 then (
      j33
    ) else (
      (MX9_isEnd a0 a1 v24 h25).bind fun x34 =>
      if x34 = 0 then (
        j33
      ) else (
        j31 (0 : Int32)
      )
    )
  )
def MX9_laysEnds (fu : Nat) (a0 : Nat) (a1 : Int32) (h : Hp) : Option (Hp) :=
  h_g 9 h a0 <|
  jn (fun (h1 : Hp) =>
    wh2 (MX9_laysEnds_B49 fu a0 a1) fu (0 : Int32) h1
  ) fun (j2 : Hp → Option (Hp)) =>
  wh2 (MX9_laysEnds_B2 j2 a0 a1) fu (0 : Int32) h
def MX9_toEnd (fu : Nat) (a0 : Nat) (a1 : Int32) (a2 : Int32) (h : Hp) : Option (Int32 × Hp) :=
  h_g 9 h a0 <|
  (MX9_isState a0 a1 a2 h).bind fun x1 =>
  if x1 = 0 then (
    (MX9_refuse a0 (2 : Int32) h).bind fun p7 =>
    some (p7.1, p7.2)
  ) else (
    (MX9_laysEnds fu a0 a1 h).bind fun h2 =>
    (h_fR 9 h2 a0 17).bind fun x3 =>
    (h_ldI h2 x3 a2).bind fun x4 =>
    if x4 = (99 : Int32) then (
      (MX9_refuse a0 (5 : Int32) h2).bind fun p6 =>
      some (p6.1, p6.2)
    ) else (
      (MX9_gives a0 x4 h2).bind fun p5 =>
      some (p5.1, p5.2)
    )
  )
def MX9_towards_B48 (a0 : Nat) (a1 : Int32) (a2 : Int32) (h2 : Hp) (x4 : Int32) (j8 : Int32 → Option (Int32 × Hp)) (self11 : Int32 → Option (Int32 × Hp)) (v10 : Int32) : Option (Int32 × Hp) :=
  (MX9_leastOf a0 a1 v10 a2 h2).bind fun x12 =>
  if x12 = x4 then (
    j8 v10
  ) else (
    self11 (v10 + (1 : Int32))
  )
def MX9_towards (fu : Nat) (a0 : Nat) (a1 : Int32) (a2 : Int32) (h : Hp) : Option (Int32 × Hp) :=
  h_g 9 h a0 <|
  (MX9_isState a0 a1 a2 h).bind fun x1 =>
  if x1 = 0 then (
    (MX9_refuse a0 (2 : Int32) h).bind fun p13 =>
    some (p13.1, p13.2)
  ) else (
    (MX9_laysEnds fu a0 a1 h).bind fun h2 =>
    (h_fR 9 h2 a0 17).bind fun x3 =>
    (h_ldI h2 x3 a2).bind fun x4 =>
    jn (
      (MX9_refuse a0 (5 : Int32) h2).bind fun p6 =>
      some (p6.1, p6.2)
    ) fun (j5 : Option (Int32 × Hp)) =>
    if x4 = (99 : Int32) then (
      j5
    ) else (
      if x4 = 0 then (
        j5
      ) else (
        jn (fun (v7 : Int32) =>
          (MX9_gives a0 v7 h2).bind fun p9 =>
          some (p9.1, p9.2)
        ) fun (j8 : Int32 → Option (Int32 × Hp)) =>
        wh1 (MX9_towards_B48 a0 a1 a2 h2 x4 j8) fu (0 : Int32)
      )
    )
  )
def MX9_differ_B20 (h : Hp) (a0 : Nat) (a1 : Int32) (a2 : Int32) (a3 : Int32) (self4 : Int32 → Option (Int32)) (v3 : Int32) : Option (Int32) :=
  (h_fR 9 h a0 1).bind fun x5 =>
  (h_ldI h x5 ((11 : Int32) + a1)).bind fun x6 =>
  if x6 ≤ v3 then (
    some (0 : Int32)
  ) else (
    (MX9_canBe a0 a1 v3 a2 h).bind fun x7 =>
    (MX9_canBe a0 a1 v3 a3 h).bind fun x8 =>
    if x7 = x8 then (
      jn (
        self4 (v3 + (1 : Int32))
      ) fun (j9 : Option (Int32)) =>
      if x7 = 0 then (
        j9
      ) else (
        (h_fR 9 h a0 18).bind fun x10 =>
        (MX9_yes a0 a1 v3 a2 h).bind fun x11 =>
        (MX9_yes a0 a1 v3 a3 h).bind fun x12 =>
        (h_ldZ h x10 (((6 : Int32) * x11) + x12)).bind fun x13 =>
        if x13 = 0 then (
          (MX9_no a0 a1 v3 a2 h).bind fun x14 =>
          (MX9_no a0 a1 v3 a3 h).bind fun x15 =>
          (h_ldZ h x10 (((6 : Int32) * x14) + x15)).bind fun x16 =>
          if x16 = 0 then (
            j9
          ) else (
            some (1 : Int32)
          )
        ) else (
          some (1 : Int32)
        )
      )
    ) else (
      some (1 : Int32)
    )
  )
def MX9_differ (fu : Nat) (a0 : Nat) (a1 : Int32) (a2 : Int32) (a3 : Int32) (h : Hp) : Option (Int32) :=
  h_g 9 h a0 <|
  (MX9_isEnd a0 a1 a2 h).bind fun x1 =>
  (MX9_isEnd a0 a1 a3 h).bind fun x2 =>
  if x1 = x2 then (
    wh1 (MX9_differ_B20 h a0 a1 a2 a3) fu (0 : Int32)
  ) else (
    some (1 : Int32)
  )
def MX9_alike_B78 (fu : Nat) (a0 : Nat) (a1 : Int32) (j28 : Int32 → Hp → Option (Int32 × Hp)) (v21 : Int32) (self32 : Int32 → Int32 → Hp → Option (Int32 × Hp)) (v29 : Int32) (v30 : Int32) (h31 : Hp) : Option (Int32 × Hp) :=
  (h_fR 9 h31 a0 1).bind fun x33 =>
  (h_ldI h31 x33 ((3 : Int32) + a1)).bind fun x34 =>
  if x34 ≤ v30 then (
    j28 v29 h31
  ) else (
    (h_fR 9 h31 a0 18).bind fun x35 =>
    (h_ldZ h31 x35 (((6 : Int32) * v21) + v30)).bind fun x36 =>
    jn (fun (v37 : Int32) (h38 : Hp) =>
      self32 v37 (v30 + (1 : Int32)) h38
    ) fun (j39 : Int32 → Hp → Option (Int32 × Hp)) =>
    if x36 = 0 then (
      (MX9_differ fu a0 a1 v21 v30 h31).bind fun x40 =>
      if x40 = 0 then (
        j39 v29 h31
      ) else (
        (h_stZ h31 x35 (((6 : Int32) * v21) + v30) (1 : Int32)).bind fun h41 =>
        j39 (1 : Int32) h41
      )
    ) else (
      j39 v29 h31
    )
  )
def MX9_alike_B62 (fu : Nat) (a0 : Nat) (a1 : Int32) (j19 : Int32 → Hp → Option (Int32 × Hp)) (self23 : Int32 → Int32 → Hp → Option (Int32 × Hp)) (v20 : Int32) (v21 : Int32) (h22 : Hp) : Option (Int32 × Hp) :=
  (h_fR 9 h22 a0 1).bind fun x24 =>
  (h_ldI h22 x24 ((3 : Int32) + a1)).bind fun x25 =>
  if x25 ≤ v21 then (
    j19 v20 h22
  ) else (
    jn (fun (v26 : Int32) (h27 : Hp) =>
      self23 v26 (v21 + (1 : Int32)) h27
    ) fun (j28 : Int32 → Hp → Option (Int32 × Hp)) =>
    wh3 (MX9_alike_B78 fu a0 a1 j28 v21) fu v20 (0 : Int32) h22
  )
def MX9_alike_B51 (fu : Nat) (j8 : Hp → Option (Int32 × Hp)) (a0 : Nat) (a1 : Int32) (self16 : Int32 → Hp → Option (Int32 × Hp)) (v14 : Int32) (h15 : Hp) : Option (Int32 × Hp) :=
  if v14 = 0 then (
    j8 h15
  ) else (
    jn (fun (v17 : Int32) (h18 : Hp) =>
      self16 v17 h18
    ) fun (j19 : Int32 → Hp → Option (Int32 × Hp)) =>
    wh3 (MX9_alike_B62 fu a0 a1 j19) fu (0 : Int32) (0 : Int32) h15
  )
def MX9_alike_B27 (j6 : Hp → Option (Int32 × Hp)) (a0 : Nat) (self44 : Int32 → Hp → Option (Int32 × Hp)) (v42 : Int32) (h43 : Hp) : Option (Int32 × Hp) :=
  if (36 : Int32) ≤ v42 then (
    j6 h43
  ) else (
    (h_fR 9 h43 a0 18).bind fun x45 =>
    (h_stZ h43 x45 v42 (0 : Int32)).bind fun h46 =>
    self44 (v42 + (1 : Int32)) h46
  )
def MX9_alike (fu : Nat) (a0 : Nat) (a1 : Int32) (a2 : Int32) (a3 : Int32) (h : Hp) : Option (Int32 × Hp) :=
  h_g 9 h a0 <|
  (MX9_isState a0 a1 a2 h).bind fun x1 =>
  jn (
    (MX9_refuse a0 (2 : Int32) h).bind fun p3 =>
    some (p3.1, p3.2)
  ) fun (j2 : Option (Int32 × Hp)) =>
  if x1 = 0 then (
    j2
  ) else (
    (MX9_isState a0 a1 a3 h).bind fun x4 =>
    if x4 = 0 then (
      j2
    ) else (
      jn (fun (h5 : Hp) =>
        jn (fun (h7 : Hp) =>
          (h_fR 9 h7 a0 18).bind fun x9 =>
          (h_ldZ h7 x9 (((6 : Int32) * a2) + a3)).bind fun x10 =>
          jn (fun (w11 : Int32) =>
            (MX9_gives a0 w11 h7).bind fun p13 =>
            some (p13.1, p13.2)
          ) fun (j12 : Int32 → Option (Int32 × Hp)) =>
          if x10 = 0 then (
            j12 (1 : Int32)
          ) else (
            j12 (0 : Int32)
          )
        ) fun (j8 : Hp → Option (Int32 × Hp)) =>
        wh2 (MX9_alike_B51 fu j8 a0 a1) fu (1 : Int32) h5
      ) fun (j6 : Hp → Option (Int32 × Hp)) =>
      wh2 (MX9_alike_B27 j6 a0) fu (0 : Int32) h
    )
  )
def MX9_rows_B296 (h5 : Hp) (a0 : Nat) (a1 : Int32) (j8 : Int64 → Option (Int32 × Hp)) (a3 : Int32) (self13 : Int64 → Int32 → Option (Int32 × Hp)) (v11 : Int64) (v12 : Int32) : Option (Int32 × Hp) :=
  (h_fR 9 h5 a0 1).bind fun x14 =>
  (h_ldI h5 x14 ((3 : Int32) + a1)).bind fun x15 =>
  if x15 ≤ v12 then (
    j8 v11
  ) else (
    jn (fun (w16 : Int64) =>
      self13 (v11 + w16) (v12 + (1 : Int32))
    ) fun (j17 : Int64 → Option (Int32 × Hp)) =>
    jn (
      (h_fR 9 h5 a0 19).bind fun x19 =>
      (h_ldL h5 x19 v12).bind fun x20 =>
      j17 x20
    ) fun (j18 : Option (Int32 × Hp)) =>
    if a3 = 0 then (
      j18
    ) else (
      (MX9_isEnd a0 a1 v12 h5).bind fun x21 =>
      if x21 = 0 then (
        j17 (0 : Int64)
      ) else (
        j18
      )
    )
  )
def MX9_rows_B257 (j30 : Hp → Option (Int32 × Hp)) (a0 : Nat) (self33 : Int32 → Hp → Option (Int32 × Hp)) (v31 : Int32) (h32 : Hp) : Option (Int32 × Hp) :=
  if (6 : Int32) ≤ v31 then (
    j30 h32
  ) else (
    (h_fR 9 h32 a0 19).bind fun x34 =>
    (h_fR 9 h32 a0 20).bind fun x35 =>
    (h_ldL h32 x35 v31).bind fun x36 =>
    (h_stL h32 x34 v31 x36).bind fun h37 =>
    self33 (v31 + (1 : Int32)) h37
  )
def MX9_rows_B115 (a0 : Nat) (a1 : Int32) (j44 : Hp → Option (Int32 × Hp)) (v38 : Int32) (self47 : Int32 → Hp → Option (Int32 × Hp)) (v45 : Int32) (h46 : Hp) : Option (Int32 × Hp) :=
  (h_fR 9 h46 a0 1).bind fun x48 =>
  (h_ldI h46 x48 ((11 : Int32) + a1)).bind fun x49 =>
  if x49 ≤ v45 then (
    j44 h46
  ) else (
    (MX9_canBe a0 a1 v45 v38 h46).bind fun x50 =>
    jn (fun (h51 : Hp) =>
      self47 (v45 + (1 : Int32)) h51
    ) fun (j52 : Hp → Option (Int32 × Hp)) =>
    if x50 = 0 then (
      j52 h46
    ) else (
      (h_fR 9 h46 a0 20).bind fun x53 =>
      (MX9_yes a0 a1 v45 v38 h46).bind fun x54 =>
      (h_ldL h46 x53 x54).bind fun x55 =>
      (h_fR 9 h46 a0 19).bind fun x56 =>
      (h_ldL h46 x56 v38).bind fun x57 =>
      (h_reml (x55 + x57) (1000000007 : Int64)).bind fun x58 =>
      (h_stL h46 x53 x54 x58).bind fun h59 =>
      (h_fR 9 h59 a0 1).bind fun x60 =>
      (MX9_methodAt a1 v45).bind fun x61 =>
      (h_ldI h59 x60 ((15 : Int32) + x61)).bind fun x62 =>
      if x62 = (1 : Int32) then (
        (h_fR 9 h59 a0 20).bind fun x63 =>
        (MX9_no a0 a1 v45 v38 h59).bind fun x64 =>
        (h_ldL h59 x63 x64).bind fun x65 =>
        (h_fR 9 h59 a0 19).bind fun x66 =>
        (h_ldL h59 x66 v38).bind fun x67 =>
        (h_reml (x65 + x67) (1000000007 : Int64)).bind fun x68 =>
        (h_stL h59 x63 x64 x68).bind fun h69 =>
        j52 h69
      ) else (
        j52 h59
      )
    )
  )
def MX9_rows_B99 (fu : Nat) (a0 : Nat) (a1 : Int32) (j28 : Hp → Option (Int32 × Hp)) (self40 : Int32 → Hp → Option (Int32 × Hp)) (v38 : Int32) (h39 : Hp) : Option (Int32 × Hp) :=
  (h_fR 9 h39 a0 1).bind fun x41 =>
  (h_ldI h39 x41 ((3 : Int32) + a1)).bind fun x42 =>
  if x42 ≤ v38 then (
    j28 h39
  ) else (
    jn (fun (h43 : Hp) =>
      self40 (v38 + (1 : Int32)) h43
    ) fun (j44 : Hp → Option (Int32 × Hp)) =>
    wh2 (MX9_rows_B115 a0 a1 j44 v38) fu (0 : Int32) h39
  )
def MX9_rows_B75 (j26 : Hp → Option (Int32 × Hp)) (a0 : Nat) (self72 : Int32 → Hp → Option (Int32 × Hp)) (v70 : Int32) (h71 : Hp) : Option (Int32 × Hp) :=
  if (6 : Int32) ≤ v70 then (
    j26 h71
  ) else (
    (h_fR 9 h71 a0 20).bind fun x73 =>
    (h_stL h71 x73 v70 (0 : Int64)).bind fun h74 =>
    self72 (v70 + (1 : Int32)) h74
  )
def MX9_rows_B66 (fu : Nat) (a2 : Int32) (j6 : Hp → Option (Int32 × Hp)) (a0 : Nat) (a1 : Int32) (self24 : Int32 → Hp → Option (Int32 × Hp)) (v22 : Int32) (h23 : Hp) : Option (Int32 × Hp) :=
  if a2 ≤ v22 then (
    j6 h23
  ) else (
    jn (fun (h25 : Hp) =>
      jn (fun (h27 : Hp) =>
        jn (fun (h29 : Hp) =>
          self24 (v22 + (1 : Int32)) h29
        ) fun (j30 : Hp → Option (Int32 × Hp)) =>
        wh2 (MX9_rows_B257 j30 a0) fu (0 : Int32) h27
      ) fun (j28 : Hp → Option (Int32 × Hp)) =>
      wh2 (MX9_rows_B99 fu a0 a1 j28) fu (0 : Int32) h25
    ) fun (j26 : Hp → Option (Int32 × Hp)) =>
    wh2 (MX9_rows_B75 j26 a0) fu (0 : Int32) h23
  )
def MX9_rows_B33 (j4 : Hp → Option (Int32 × Hp)) (a0 : Nat) (self77 : Int32 → Hp → Option (Int32 × Hp)) (v75 : Int32) (h76 : Hp) : Option (Int32 × Hp) :=
  if (6 : Int32) ≤ v75 then (
    j4 h76
  ) else (
    (h_fR 9 h76 a0 19).bind fun x78 =>
    jn (fun (w79 : Int64) =>
      (h_stL h76 x78 v75 w79).bind fun h81 =>
      self77 (v75 + (1 : Int32)) h81
    ) fun (j80 : Int64 → Option (Int32 × Hp)) =>
    if v75 = 0 then (
      j80 (1 : Int64)
    ) else (
      j80 (0 : Int64)
    )
  )
def MX9_rows (fu : Nat) (a0 : Nat) (a1 : Int32) (a2 : Int32) (a3 : Int32) (h : Hp) : Option (Int32 × Hp) :=
  h_g 9 h a0 <|
  (MX9_isFrom a2 (0 : Int32) (12 : Int32)).bind fun x1 =>
  if x1 = 0 then (
    (MX9_refuse a0 (1 : Int32) h).bind fun p83 =>
    some (p83.1, p83.2)
  ) else (
    (MX9_isKind a0 a1 h).bind fun x2 =>
    if x2 = 0 then (
      (MX9_refuse a0 (2 : Int32) h).bind fun p82 =>
      some (p82.1, p82.2)
    ) else (
      jn (fun (h3 : Hp) =>
        jn (fun (h5 : Hp) =>
          jn (fun (v7 : Int64) =>
            (h_reml v7 (1000000007 : Int64)).bind fun x9 =>
            (MX9_gives a0 x9.toInt32 h5).bind fun p10 =>
            some (p10.1, p10.2)
          ) fun (j8 : Int64 → Option (Int32 × Hp)) =>
          wh2 (MX9_rows_B296 h5 a0 a1 j8 a3) fu (0 : Int64) (0 : Int32)
        ) fun (j6 : Hp → Option (Int32 × Hp)) =>
        wh2 (MX9_rows_B66 fu a2 j6 a0 a1) fu (0 : Int32) h3
      ) fun (j4 : Hp → Option (Int32 × Hp)) =>
      wh2 (MX9_rows_B33 j4 a0) fu (0 : Int32) h
    )
  )
def MX9_statements (a0 : Nat) (h : Hp) : Option (Int32) :=
  h_g 9 h a0 <|
  (h_fR 9 h a0 1).bind fun x1 =>
  (h_ldI h x1 (2 : Int32)).bind fun x2 =>
  some x2
def MX9_isStatementAt (a0 : Nat) (a1 : Int32) (h : Hp) : Option (Int32) :=
  h_g 9 h a0 <|
  (MX9_statements a0 h).bind fun x1 =>
  (MX9_isFrom a1 (0 : Int32) (x1 - (1 : Int32))).bind fun x2 =>
  (h_z x2).bind fun z3 =>
  some z3
def MX9_isVariable (a0 : Nat) (a1 : Int32) (h : Hp) : Option (Int32) :=
  h_g 9 h a0 <|
  (h_fR 9 h a0 1).bind fun x1 =>
  (h_ldI h x1 (1 : Int32)).bind fun x2 =>
  (MX9_isFrom a1 (0 : Int32) (x2 - (1 : Int32))).bind fun x3 =>
  (h_z x3).bind fun z4 =>
  some z4
def MX9_sortAt (a0 : Nat) (a1 : Int32) (h : Hp) : Option (Int32) :=
  h_g 9 h a0 <|
  (h_fR 9 h a0 1).bind fun x1 =>
  (h_ldI h x1 ((333 : Int32) + a1)).bind fun x2 =>
  some x2
def MX9_nextIn_B3 (a0 : Nat) (h : Hp) (a2 : Int32) (a3 : Int32) (self2 : Int32 → Option (Int32)) (v1 : Int32) : Option (Int32) :=
  (MX9_statements a0 h).bind fun x3 =>
  if x3 ≤ v1 then (
    some (-1 : Int32)
  ) else (
    (h_fR 9 h a0 21).bind fun x4 =>
    (h_ldZ h x4 v1).bind fun x5 =>
    jn (
      self2 (v1 + (1 : Int32))
    ) fun (j6 : Option (Int32)) =>
    if x5 = 0 then (
      (h_fR 9 h a0 1).bind fun x7 =>
      (h_ldI h x7 ((493 : Int32) + v1)).bind fun x8 =>
      if x8 = a2 then (
        (h_ldI h x7 ((533 : Int32) + v1)).bind fun x9 =>
        if x9 = a3 then (
          some v1
        ) else (
          j6
        )
      ) else (
        j6
      )
    ) else (
      j6
    )
  )
def MX9_nextIn (fu : Nat) (a0 : Nat) (a1 : Int32) (a2 : Int32) (a3 : Int32) (h : Hp) : Option (Int32) :=
  h_g 9 h a0 <|
  wh1 (MX9_nextIn_B3 a0 h a2 a3) fu a1
def MX9_isRound (a0 : Nat) (a1 : Int32) (h : Hp) : Option (Int32) :=
  h_g 9 h a0 <|
  jn (
    some (1 : Int32)
  ) fun (j1 : Option (Int32)) =>
  if a1 = (8 : Int32) then (
    j1
  ) else (
    if a1 = (10 : Int32) then (
      j1
    ) else (
      some (0 : Int32)
    )
  )
def MX9_behind_R (fu : Nat) (rself : Nat → Int32 → Hp → Option (Int32)) (a0 : Nat) (a1 : Int32) (h : Hp) : Option (Int32) :=
  h_g 9 h a0 <|
  (h_fR 9 h a0 1).bind fun x1 =>
  (h_ldI h x1 ((493 : Int32) + a1)).bind fun x2 =>
  (h_ldI h x1 ((533 : Int32) + a1)).bind fun x3 =>
  (MX9_nextIn fu a0 (a1 + (1 : Int32)) x2 x3 h).bind fun x4 =>
  if x4 = (-1 : Int32) then (
    if x2 = (-1 : Int32) then (
      (MX9_statements a0 h).bind fun x8 =>
      some x8
    ) else (
      (MX9_sortAt a0 x2 h).bind fun x5 =>
      (MX9_isRound a0 x5 h).bind fun x6 =>
      if x6 = 0 then (
        (rself a0 x2 h).bind fun x7 =>
        some x7
      ) else (
        some x2
      )
    )
  ) else (
    some x4
  )
def MX9_behind (fu : Nat) (a0 : Nat) (a1 : Int32) (h : Hp) : Option (Int32) := wh3 (MX9_behind_R fu) 8 a0 a1 h
def MX9_firstPlace (fu : Nat) (a0 : Nat) (h : Hp) : Option (Int32) :=
  h_g 9 h a0 <|
  (MX9_nextIn fu a0 (0 : Int32) (-1 : Int32) (0 : Int32) h).bind fun x1 =>
  if x1 = (-1 : Int32) then (
    (MX9_statements a0 h).bind fun x2 =>
    some x2
  ) else (
    some x1
  )
def MX9_byYes (fu : Nat) (a0 : Nat) (a1 : Int32) (h : Hp) : Option (Int32) :=
  h_g 9 h a0 <|
  (MX9_sortAt a0 a1 h).bind fun x1 =>
  (MX9_hasBlock x1).bind fun x2 =>
  if x2 = 0 then (
    (MX9_behind fu a0 a1 h).bind fun x6 =>
    some x6
  ) else (
    (MX9_nextIn fu a0 (a1 + (1 : Int32)) a1 (0 : Int32) h).bind fun x3 =>
    if x3 = (-1 : Int32) then (
      (MX9_isRound a0 x1 h).bind fun x4 =>
      if x4 = 0 then (
        (MX9_behind fu a0 a1 h).bind fun x5 =>
        some x5
      ) else (
        some a1
      )
    ) else (
      some x3
    )
  )
def MX9_byNo (fu : Nat) (a0 : Nat) (a1 : Int32) (h : Hp) : Option (Int32) :=
  h_g 9 h a0 <|
  (MX9_sortAt a0 a1 h).bind fun x1 =>
  (MX9_hasBlock x1).bind fun x2 =>
  if x2 = 0 then (
    some (-1 : Int32)
  ) else (
    (MX9_isRound a0 x1 h).bind fun x3 =>
    jn (fun (w4 : Int32) =>
      if w4 = (-1 : Int32) then (
        (MX9_behind fu a0 a1 h).bind fun x6 =>
        some x6
      ) else (
        some w4
      )
    ) fun (j5 : Int32 → Option (Int32)) =>
    if x3 = 0 then (
      (MX9_nextIn fu a0 (a1 + (1 : Int32)) a1 (1 : Int32) h).bind fun x7 =>
      j5 x7
    ) else (
      j5 (-1 : Int32)
    )
  )
def MX9_allIn_B2 (a0 : Nat) (self3 : Int32 → Hp → Option (Hp)) (v1 : Int32) (h2 : Hp) : Option (Hp) :=
  if (40 : Int32) ≤ v1 then (
    some h2
  ) else (
    (h_fR 9 h2 a0 21).bind fun x4 =>
    (h_stZ h2 x4 v1 (0 : Int32)).bind fun h5 =>
    self3 (v1 + (1 : Int32)) h5
  )
def MX9_allIn (fu : Nat) (a0 : Nat) (h : Hp) : Option (Hp) :=
  h_g 9 h a0 <|
  wh2 (MX9_allIn_B2 a0) fu (0 : Int32) h
def MX9_statement_B161 (j22 : Int32 → Option (Int32 × Hp)) (h3 : Hp) (x19 : Nat) (self26 : Int32 → Int32 → Option (Int32 × Hp)) (v24 : Int32) (v25 : Int32) : Option (Int32 × Hp) :=
  if v25 = (-1 : Int32) then (
    j22 v24
  ) else (
    (h_ldI h3 x19 ((493 : Int32) + v25)).bind fun x27 =>
    self26 (v24 + (1 : Int32)) x27
  )
def MX9_statement (fu : Nat) (a0 : Nat) (a1 : Int32) (a2 : Int32) (h : Hp) : Option (Int32 × Hp) :=
  h_g 9 h a0 <|
  (MX9_isFrom a2 (0 : Int32) (6 : Int32)).bind fun x1 =>
  if x1 = 0 then (
    (MX9_refuse a0 (1 : Int32) h).bind fun p29 =>
    some (p29.1, p29.2)
  ) else (
    (MX9_isStatementAt a0 a1 h).bind fun x2 =>
    if x2 = 0 then (
      (MX9_refuse a0 (2 : Int32) h).bind fun p28 =>
      some (p28.1, p28.2)
    ) else (
      (MX9_allIn fu a0 h).bind fun h3 =>
      if a2 = (0 : Int32) then (
        (MX9_sortAt a0 a1 h3).bind fun x4 =>
        (MX9_gives a0 x4 h3).bind fun p5 =>
        some (p5.1, p5.2)
      ) else (
      if a2 = (1 : Int32) then (
        (h_fR 9 h3 a0 1).bind fun x6 =>
        (h_ldI h3 x6 ((373 : Int32) + a1)).bind fun x7 =>
        (MX9_gives a0 x7 h3).bind fun p8 =>
        some (p8.1, p8.2)
      ) else (
      if a2 = (2 : Int32) then (
        (h_fR 9 h3 a0 1).bind fun x9 =>
        (h_ldI h3 x9 ((413 : Int32) + a1)).bind fun x10 =>
        (MX9_gives a0 x10 h3).bind fun p11 =>
        some (p11.1, p11.2)
      ) else (
      if a2 = (3 : Int32) then (
        (h_fR 9 h3 a0 1).bind fun x12 =>
        (h_ldI h3 x12 ((453 : Int32) + a1)).bind fun x13 =>
        (MX9_gives a0 x13 h3).bind fun p14 =>
        some (p14.1, p14.2)
      ) else (
      if a2 = (4 : Int32) then (
        (MX9_byYes fu a0 a1 h3).bind fun x15 =>
        (MX9_gives a0 x15 h3).bind fun p16 =>
        some (p16.1, p16.2)
      ) else (
      if a2 = (5 : Int32) then (
        (MX9_byNo fu a0 a1 h3).bind fun x17 =>
        (MX9_gives a0 x17 h3).bind fun p18 =>
        some (p18.1, p18.2)
      ) else (
      (h_fR 9 h3 a0 1).bind fun x19 =>
      (h_ldI h3 x19 ((493 : Int32) + a1)).bind fun x20 =>
      jn (fun (v21 : Int32) =>
        (MX9_gives a0 v21 h3).bind fun p23 =>
        some (p23.1, p23.2)
      ) fun (j22 : Int32 → Option (Int32 × Hp)) =>
      wh2 (MX9_statement_B161 j22 h3 x19) fu (0 : Int32) x20
      ))))))
    )
  )
def MX9_variable (a0 : Nat) (a1 : Int32) (h : Hp) : Option (Int32 × Hp) :=
  h_g 9 h a0 <|
  (MX9_isVariable a0 a1 h).bind fun x1 =>
  if x1 = 0 then (
    (MX9_refuse a0 (2 : Int32) h).bind fun p2 =>
    some (p2.1, p2.2)
  ) else (
    (h_fR 9 h a0 1).bind fun x3 =>
    (h_ldI h x3 ((327 : Int32) + a1)).bind fun x4 =>
    (MX9_gives a0 x4 h).bind fun p5 =>
    some (p5.1, p5.2)
  )
def MX9_at (a0 : Int32) (a1 : Int32) : Option (Int32) :=
  some (((6 : Int32) * a0) + a1)
def MX9_takes_B2 (a0 : Nat) (a1 : Int32) (self3 : Int32 → Hp → Option (Hp)) (v1 : Int32) (h2 : Hp) : Option (Hp) :=
  if (6 : Int32) ≤ v1 then (
    some h2
  ) else (
    (h_fR 9 h2 a0 27).bind fun x4 =>
    (h_fR 9 h2 a0 23).bind fun x5 =>
    (MX9_at a1 v1).bind fun x6 =>
    (h_ldI h2 x5 x6).bind fun x7 =>
    (h_stI h2 x4 v1 x7).bind fun h8 =>
    (h_fR 9 h8 a0 28).bind fun x9 =>
    (h_fR 9 h8 a0 24).bind fun x10 =>
    (MX9_at a1 v1).bind fun x11 =>
    (h_ldI h8 x10 x11).bind fun x12 =>
    (h_stI h8 x9 v1 x12).bind fun h13 =>
    (h_fR 9 h13 a0 29).bind fun x14 =>
    (h_fR 9 h13 a0 25).bind fun x15 =>
    (MX9_at a1 v1).bind fun x16 =>
    (h_ldI h13 x15 x16).bind fun x17 =>
    (h_stI h13 x14 v1 x17).bind fun h18 =>
    (h_fR 9 h18 a0 30).bind fun x19 =>
    (h_fR 9 h18 a0 26).bind fun x20 =>
    (MX9_at a1 v1).bind fun x21 =>
    (h_ldI h18 x20 x21).bind fun x22 =>
    (h_stI h18 x19 v1 x22).bind fun h23 =>
    self3 (v1 + (1 : Int32)) h23
  )
def MX9_takes (fu : Nat) (a0 : Nat) (a1 : Int32) (h : Hp) : Option (Hp) :=
  h_g 9 h a0 <|
  wh2 (MX9_takes_B2 a0 a1) fu (0 : Int32) h
def MX9_merges_B24 (a1 : Int32) (a0 : Nat) (w3 : Int32) (self8 : Int32 → Hp → Option (Hp)) (v6 : Int32) (h7 : Hp) : Option (Hp) :=
  if (6 : Int32) ≤ v6 then (
    some h7
  ) else (
    (MX9_at a1 v6).bind fun x9 =>
    jn (fun (w10 : Int32) =>
      jn (fun (w12 : Int32) =>
        jn (fun (w14 : Int32) =>
          jn (fun (w16 : Int32) =>
            (h_fI 9 h7 a0 31).bind fun x18 =>
            jn (fun (w19 : Int32) =>
              (h_pZ 9 h7 a0 31 w19).bind fun h21 =>
              (h_fR 9 h21 a0 23).bind fun x22 =>
              (h_stI h21 x22 x9 w10).bind fun h23 =>
              (h_fR 9 h23 a0 24).bind fun x24 =>
              (h_stI h23 x24 x9 w12).bind fun h25 =>
              (h_fR 9 h25 a0 25).bind fun x26 =>
              (h_stI h25 x26 x9 w14).bind fun h27 =>
              (h_fR 9 h27 a0 26).bind fun x28 =>
              (h_stI h27 x28 x9 w16).bind fun h29 =>
              self8 (v6 + (1 : Int32)) h29
            ) fun (j20 : Int32 → Option (Hp)) =>
            jn (
              j20 (1 : Int32)
            ) fun (j30 : Option (Hp)) =>
            if x18 = 0 then (
              if w3 = 0 then (
                (h_fR 9 h7 a0 23).bind fun x31 =>
                (h_ldI h7 x31 x9).bind fun x32 =>
                if w10 = x32 then (
                  (h_fR 9 h7 a0 24).bind fun x33 =>
                  (h_ldI h7 x33 x9).bind fun x34 =>
                  if w12 = x34 then (
                    (h_fR 9 h7 a0 25).bind fun x35 =>
                    (h_ldI h7 x35 x9).bind fun x36 =>
                    if w14 = x36 then (
                      (h_fR 9 h7 a0 26).bind fun x37 =>
                      (h_ldI h7 x37 x9).bind fun x38 =>
                      if w16 = x38 then (
                        j20 (0 : Int32)
                      ) else (
                        j30
                      )
                    ) else (
                      j30
                    )
                  ) else (
                    j30
                  )
                ) else (
                  j30
                )
              ) else (
                j30
              )
            ) else (
              j30
            )
          ) fun (j17 : Int32 → Option (Hp)) =>
          if w3 = 0 then (
            (h_fR 9 h7 a0 26).bind fun x39 =>
            (h_ldI h7 x39 x9).bind fun x40 =>
            (h_fR 9 h7 a0 30).bind fun x41 =>
            (h_ldI h7 x41 v6).bind fun x42 =>
            j17 (x40 &&& x42)
          ) else (
            (h_fR 9 h7 a0 30).bind fun x43 =>
            (h_ldI h7 x43 v6).bind fun x44 =>
            j17 x44
          )
        ) fun (j15 : Int32 → Option (Hp)) =>
        if w3 = 0 then (
          (h_fR 9 h7 a0 25).bind fun x45 =>
          (h_ldI h7 x45 x9).bind fun x46 =>
          (h_fR 9 h7 a0 29).bind fun x47 =>
          (h_ldI h7 x47 v6).bind fun x48 =>
          j15 (x46 ||| x48)
        ) else (
          (h_fR 9 h7 a0 29).bind fun x49 =>
          (h_ldI h7 x49 v6).bind fun x50 =>
          j15 x50
        )
      ) fun (j13 : Int32 → Option (Hp)) =>
      if w3 = 0 then (
        (h_fR 9 h7 a0 24).bind fun x51 =>
        (h_ldI h7 x51 x9).bind fun x52 =>
        (h_fR 9 h7 a0 28).bind fun x53 =>
        (h_ldI h7 x53 v6).bind fun x54 =>
        j13 (x52 ||| x54)
      ) else (
        (h_fR 9 h7 a0 28).bind fun x55 =>
        (h_ldI h7 x55 v6).bind fun x56 =>
        j13 x56
      )
    ) fun (j11 : Int32 → Option (Hp)) =>
    if w3 = 0 then (
      (h_fR 9 h7 a0 23).bind fun x57 =>
      (h_ldI h7 x57 x9).bind fun x58 =>
      (h_fR 9 h7 a0 27).bind fun x59 =>
      (h_ldI h7 x59 v6).bind fun x60 =>
      j11 (x58 ||| x60)
    ) else (
      (h_fR 9 h7 a0 27).bind fun x61 =>
      (h_ldI h7 x61 v6).bind fun x62 =>
      j11 x62
    )
  )
def MX9_merges (fu : Nat) (a0 : Nat) (a1 : Int32) (h : Hp) : Option (Hp) :=
  h_g 9 h a0 <|
  (h_fR 9 h a0 22).bind fun x1 =>
  (h_ldZ h x1 a1).bind fun x2 =>
  jn (fun (w3 : Int32) =>
    (h_stZ h x1 a1 (1 : Int32)).bind fun h5 =>
    wh2 (MX9_merges_B24 a1 a0 w3) fu (0 : Int32) h5
  ) fun (j4 : Int32 → Option (Hp)) =>
  if x2 = 0 then (
    j4 (1 : Int32)
  ) else (
    j4 (0 : Int32)
  )
def MX9_frees_B2 (j2 : Hp → Option (Hp)) (a0 : Nat) (a1 : Int32) (self9 : Int32 → Hp → Option (Hp)) (v7 : Int32) (h8 : Hp) : Option (Hp) :=
  if (6 : Int32) ≤ v7 then (
    j2 h8
  ) else (
    (h_fR 9 h8 a0 29).bind fun x10 =>
    (h_ldI h8 x10 v7).bind fun x11 =>
    (h_stI h8 x10 v7 (x11 &&& (((1 : Int32) <<< (a1 &&& 31)) ^^^ (-1 : Int32)))).bind fun h12 =>
    (h_fR 9 h12 a0 30).bind fun x13 =>
    (h_ldI h12 x13 v7).bind fun x14 =>
    (h_stI h12 x13 v7 (x14 &&& (((1 : Int32) <<< (a1 &&& 31)) ^^^ (-1 : Int32)))).bind fun h15 =>
    self9 (v7 + (1 : Int32)) h15
  )
def MX9_frees (fu : Nat) (a0 : Nat) (a1 : Int32) (h : Hp) : Option (Hp) :=
  h_g 9 h a0 <|
  jn (fun (h1 : Hp) =>
    (h_fR 9 h1 a0 29).bind fun x3 =>
    (h_stI h1 x3 a1 (0 : Int32)).bind fun h4 =>
    (h_fR 9 h4 a0 30).bind fun x5 =>
    (h_stI h4 x5 a1 (0 : Int32)).bind fun h6 =>
    some h6
  ) fun (j2 : Hp → Option (Hp)) =>
  wh2 (MX9_frees_B2 j2 a0 a1) fu (0 : Int32) h
def MX9_empties (fu : Nat) (a0 : Nat) (a1 : Int32) (h : Hp) : Option (Hp) :=
  h_g 9 h a0 <|
  (MX9_frees fu a0 a1 h).bind fun h1 =>
  (h_fR 9 h1 a0 27).bind fun x2 =>
  (h_stI h1 x2 a1 (1 : Int32)).bind fun h3 =>
  (h_fR 9 h3 a0 28).bind fun x4 =>
  (h_stI h3 x4 a1 (0 : Int32)).bind fun h5 =>
  some h5
def MX9_joins_B56 (j13 : Hp → Option (Hp)) (a0 : Nat) (a1 : Int32) (self19 : Int32 → Hp → Option (Hp)) (v17 : Int32) (h18 : Hp) : Option (Hp) :=
  if (6 : Int32) ≤ v17 then (
    j13 h18
  ) else (
    (h_fR 9 h18 a0 29).bind fun x20 =>
    (h_ldI h18 x20 a1).bind fun x21 =>
    (MX9_has x21 v17).bind fun x22 =>
    jn (fun (h23 : Hp) =>
      (h_fR 9 h23 a0 30).bind fun x25 =>
      (h_ldI h23 x25 a1).bind fun x26 =>
      (MX9_has x26 v17).bind fun x27 =>
      jn (fun (h28 : Hp) =>
        self19 (v17 + (1 : Int32)) h28
      ) fun (j29 : Hp → Option (Hp)) =>
      if x27 = 0 then (
        j29 h23
      ) else (
        (h_ldI h23 x25 v17).bind fun x30 =>
        (h_stI h23 x25 v17 (x30 ||| ((1 : Int32) <<< (a1 &&& 31)))).bind fun h31 =>
        j29 h31
      )
    ) fun (j24 : Hp → Option (Hp)) =>
    if x22 = 0 then (
      j24 h18
    ) else (
      (h_ldI h18 x20 v17).bind fun x32 =>
      (h_stI h18 x20 v17 (x32 ||| ((1 : Int32) <<< (a1 &&& 31)))).bind fun h33 =>
      j24 h33
    )
  )
def MX9_joins (fu : Nat) (a0 : Nat) (a1 : Int32) (a2 : Int32) (a3 : Int32) (h : Hp) : Option (Hp) :=
  h_g 9 h a0 <|
  (MX9_frees fu a0 a1 h).bind fun h1 =>
  (h_fR 9 h1 a0 29).bind fun x2 =>
  (h_ldI h1 x2 a2).bind fun x3 =>
  jn (fun (w4 : Int32) =>
    (h_stI h1 x2 a1 (x3 ||| w4)).bind fun h6 =>
    (h_fR 9 h6 a0 30).bind fun x7 =>
    (h_ldI h6 x7 a2).bind fun x8 =>
    jn (fun (w9 : Int32) =>
      (h_stI h6 x7 a1 (x8 ||| w9)).bind fun h11 =>
      jn (fun (h12 : Hp) =>
        (h_fR 9 h12 a0 28).bind fun x14 =>
        (h_ldI h12 x14 a2).bind fun x15 =>
        (h_stI h12 x14 a1 x15).bind fun h16 =>
        some h16
      ) fun (j13 : Hp → Option (Hp)) =>
      wh2 (MX9_joins_B56 j13 a0 a1) fu (0 : Int32) h11
    ) fun (j10 : Int32 → Option (Hp)) =>
    if a3 = 0 then (
      j10 (0 : Int32)
    ) else (
      j10 ((1 : Int32) <<< (a2 &&& 31))
    )
  ) fun (j5 : Int32 → Option (Hp)) =>
  if a3 = 0 then (
    j5 (0 : Int32)
  ) else (
    j5 ((1 : Int32) <<< (a2 &&& 31))
  )
def MX9_goes (fu : Nat) (a0 : Nat) (a1 : Int32) (h : Hp) : Option (Hp) :=
  h_g 9 h a0 <|
  (h_fR 9 h a0 1).bind fun x1 =>
  (h_ldI h x1 ((373 : Int32) + a1)).bind fun x2 =>
  (h_ldI h x1 ((413 : Int32) + a1)).bind fun x3 =>
  (MX9_sortAt a0 a1 h).bind fun x4 =>
  if x4 = (0 : Int32) then (
    (MX9_empties fu a0 x2 h).bind fun h5 =>
    (h_fR 9 h5 a0 27).bind fun x6 =>
    (h_stI h5 x6 x2 (8 : Int32)).bind fun h7 =>
    (h_fR 9 h7 a0 28).bind fun x8 =>
    (h_stI h7 x8 x2 (1 : Int32)).bind fun h9 =>
    some h9
  ) else (
  if x4 = (1 : Int32) then (
    (MX9_joins fu a0 x2 x3 (0 : Int32) h).bind fun h10 =>
    (h_fR 9 h10 a0 27).bind fun x11 =>
    (h_ldI h10 x11 x3).bind fun x12 =>
    (h_stI h10 x11 x2 x12).bind fun h13 =>
    (MX9_empties fu a0 x3 h13).bind fun h14 =>
    some h14
  ) else (
  if x4 = (2 : Int32) then (
    (MX9_joins fu a0 x2 x3 (1 : Int32) h).bind fun h15 =>
    (h_fR 9 h15 a0 27).bind fun x16 =>
    (h_ldI h15 x16 x3).bind fun x17 =>
    (h_stI h15 x16 x3 ((4 : Int32) ||| (x17 &&& (1 : Int32)))).bind fun h18 =>
    (h_fR 9 h18 a0 27).bind fun x19 =>
    (h_ldI h18 x19 x3).bind fun x20 =>
    (h_stI h18 x19 x2 x20).bind fun h21 =>
    some h21
  ) else (
  if x4 = (3 : Int32) then (
    (MX9_joins fu a0 x2 x3 (1 : Int32) h).bind fun h22 =>
    (h_fR 9 h22 a0 27).bind fun x23 =>
    (h_ldI h22 x23 x3).bind fun x24 =>
    (h_stI h22 x23 x2 ((2 : Int32) ||| (x24 &&& (1 : Int32)))).bind fun h25 =>
    (h_fR 9 h25 a0 27).bind fun x26 =>
    (h_ldI h25 x26 x3).bind fun x27 =>
    (MX9_has x27 (3 : Int32)).bind fun x28 =>
    jn (fun (w29 : Int32) =>
      (h_stI h25 x26 x3 w29).bind fun h31 =>
      some h31
    ) fun (j30 : Int32 → Option (Hp)) =>
    if x28 = 0 then (
      j30 x27
    ) else (
      j30 ((x27 &&& (7 : Int32)) ||| (2 : Int32))
    )
  ) else (
  if x4 = (4 : Int32) then (
    (MX9_empties fu a0 x3 h).bind fun h32 =>
    (h_fR 9 h32 a0 27).bind fun x33 =>
    (h_fR 9 h32 a0 29).bind fun x34 =>
    (h_ldI h32 x34 x2).bind fun x35 =>
    jn (fun (w36 : Int32) =>
      (h_stI h32 x33 x2 w36).bind fun h38 =>
      some h38
    ) fun (j37 : Int32 → Option (Hp)) =>
    if x35 = 0 then (
      j37 (8 : Int32)
    ) else (
      (h_fR 9 h32 a0 30).bind fun x39 =>
      (h_ldI h32 x39 x2).bind fun x40 =>
      if x40 = 0 then (
        (h_ldI h32 x33 x2).bind fun x42 =>
        j37 (x42 ||| (8 : Int32))
      ) else (
        (h_ldI h32 x33 x2).bind fun x41 =>
        j37 x41
      )
    )
  ) else (
  (MX9_empties fu a0 x2 h).bind fun h43 =>
  some h43
  )))))
def MX9_imageOf_B6 (h : Hp) (a0 : Nat) (a1 : Int32) (a3 : Int32) (a2 : Int32) (a4 : Int32) (self3 : Int32 → Int32 → Option (Int32)) (v1 : Int32) (v2 : Int32) : Option (Int32) :=
  (h_fR 9 h a0 1).bind fun x4 =>
  (h_ldI h x4 ((3 : Int32) + a1)).bind fun x5 =>
  if x5 ≤ v2 then (
    some v1
  ) else (
    (MX9_has a3 v2).bind fun x6 =>
    jn (fun (v7 : Int32) =>
      self3 v7 (v2 + (1 : Int32))
    ) fun (j8 : Int32 → Option (Int32)) =>
    if x6 = 0 then (
      j8 v1
    ) else (
      (MX9_canBe a0 a1 a2 v2 h).bind fun x9 =>
      if x9 = 0 then (
        j8 v1
      ) else (
        jn (fun (w10 : Int32) =>
          j8 (v1 ||| ((1 : Int32) <<< (w10 &&& 31)))
        ) fun (j11 : Int32 → Option (Int32)) =>
        if a4 = 0 then (
          (MX9_no a0 a1 a2 v2 h).bind fun x12 =>
          j11 x12
        ) else (
          (MX9_yes a0 a1 a2 v2 h).bind fun x13 =>
          j11 x13
        )
      )
    )
  )
def MX9_imageOf (fu : Nat) (a0 : Nat) (a1 : Int32) (a2 : Int32) (a3 : Int32) (a4 : Int32) (h : Hp) : Option (Int32) :=
  h_g 9 h a0 <|
  wh2 (MX9_imageOf_B6 h a0 a1 a3 a2 a4) fu (0 : Int32) (0 : Int32)
def MX9_asks_B62 (fu : Nat) (j9 : Hp → Option (Int32 × Hp)) (x2 : Int32) (a0 : Nat) (x3 : Int32) (x4 : Int32) (a2 : Int32) (x7 : Int32) (self14 : Int32 → Hp → Option (Int32 × Hp)) (v12 : Int32) (h13 : Hp) : Option (Int32 × Hp) :=
  if (6 : Int32) ≤ v12 then (
    j9 h13
  ) else (
    jn (fun (h15 : Hp) =>
      self14 (v12 + (1 : Int32)) h15
    ) fun (j16 : Hp → Option (Int32 × Hp)) =>
    if v12 = x2 then (
      j16 h13
    ) else (
      (h_fR 9 h13 a0 30).bind fun x17 =>
      (h_ldI h13 x17 x2).bind fun x18 =>
      (MX9_has x18 v12).bind fun x19 =>
      if x19 = 0 then (
        (h_fR 9 h13 a0 29).bind fun x20 =>
        (h_ldI h13 x20 x2).bind fun x21 =>
        (MX9_has x21 v12).bind fun x22 =>
        if x22 = 0 then (
          j16 h13
        ) else (
          (h_fR 9 h13 a0 28).bind fun x23 =>
          (h_ldI h13 x23 v12).bind fun x24 =>
          (MX9_imageOf fu a0 x3 x4 x24 a2 h13).bind fun x25 =>
          (h_stI h13 x23 v12 (x24 ||| x25)).bind fun h26 =>
          j16 h26
        )
      ) else (
        (h_fR 9 h13 a0 28).bind fun x27 =>
        (h_stI h13 x27 v12 x7).bind fun h28 =>
        j16 h28
      )
    )
  )
def MX9_asks (fu : Nat) (a0 : Nat) (a1 : Int32) (a2 : Int32) (h : Hp) : Option (Int32 × Hp) :=
  h_g 9 h a0 <|
  (h_fR 9 h a0 1).bind fun x1 =>
  (h_ldI h x1 ((373 : Int32) + a1)).bind fun x2 =>
  (h_ldI h x1 ((327 : Int32) + x2)).bind fun x3 =>
  (h_ldI h x1 ((453 : Int32) + a1)).bind fun x4 =>
  (h_fR 9 h a0 28).bind fun x5 =>
  (h_ldI h x5 x2).bind fun x6 =>
  (MX9_imageOf fu a0 x3 x4 x6 a2 h).bind fun x7 =>
  if x7 = 0 then (
    some ((0 : Int32), h)
  ) else (
    jn (fun (h8 : Hp) =>
      (h_fR 9 h8 a0 28).bind fun x10 =>
      (h_stI h8 x10 x2 x7).bind fun h11 =>
      some ((1 : Int32), h11)
    ) fun (j9 : Hp → Option (Int32 × Hp)) =>
    wh2 (MX9_asks_B62 fu j9 x2 a0 x3 x4 a2 x7) fu (0 : Int32) h
  )
def MX9_passes (fu : Nat) (a0 : Nat) (a1 : Int32) (h : Hp) : Option (Hp) :=
  h_g 9 h a0 <|
  (MX9_sortAt a0 a1 h).bind fun x1 =>
  (MX9_takes fu a0 a1 h).bind fun h2 =>
  if (6 : Int32) ≤ x1 then (
    if x1 = (6 : Int32) then (
      (MX9_asks fu a0 a1 (1 : Int32) h2).bind fun p17 =>
      if p17.1 = 0 then (
        some p17.2
      ) else (
        (MX9_byYes fu a0 a1 p17.2).bind fun x18 =>
        (MX9_merges fu a0 x18 p17.2).bind fun h19 =>
        some h19
      )
    ) else (
      (MX9_isAsked x1).bind fun x3 =>
      if x3 = 0 then (
        (MX9_byYes fu a0 a1 h2).bind fun x4 =>
        (MX9_merges fu a0 x4 h2).bind fun h5 =>
        (MX9_byNo fu a0 a1 h5).bind fun x6 =>
        (MX9_merges fu a0 x6 h5).bind fun h7 =>
        some h7
      ) else (
        (MX9_asks fu a0 a1 (1 : Int32) h2).bind fun p8 =>
        jn (fun (h9 : Hp) =>
          (MX9_takes fu a0 a1 h9).bind fun h11 =>
          (MX9_asks fu a0 a1 (0 : Int32) h11).bind fun p12 =>
          if p12.1 = 0 then (
            some p12.2
          ) else (
            (MX9_byNo fu a0 a1 p12.2).bind fun x13 =>
            (MX9_merges fu a0 x13 p12.2).bind fun h14 =>
            some h14
          )
        ) fun (j10 : Hp → Option (Hp)) =>
        if p8.1 = 0 then (
          j10 p8.2
        ) else (
          (MX9_byYes fu a0 a1 p8.2).bind fun x15 =>
          (MX9_merges fu a0 x15 p8.2).bind fun h16 =>
          j10 h16
        )
      )
    )
  ) else (
    (MX9_goes fu a0 a1 h2).bind fun h20 =>
    (MX9_byYes fu a0 a1 h20).bind fun x21 =>
    (MX9_merges fu a0 x21 h20).bind fun h22 =>
    some h22
  )
def MX9_endsOf (a0 : Nat) (a1 : Int32) (h : Hp) : Option (Int32) :=
  h_g 9 h a0 <|
  (h_fR 9 h a0 1).bind fun x1 =>
  (h_ldI h x1 ((327 : Int32) + a1)).bind fun x2 =>
  (h_ldI h x1 ((7 : Int32) + x2)).bind fun x3 =>
  some x3
def MX9_whyAt_B15 (h1 : Hp) (a0 : Nat) (self44 : Int32 → Option (Int32 × Hp)) (v43 : Int32) : Option (Int32 × Hp) :=
  (h_fR 9 h1 a0 1).bind fun x45 =>
  (h_ldI h1 x45 (1 : Int32)).bind fun x46 =>
  if x46 ≤ v43 then (
    some ((0 : Int32), h1)
  ) else (
    (h_fR 9 h1 a0 27).bind fun x47 =>
    (h_ldI h1 x47 v43).bind fun x48 =>
    jn (
      self44 (v43 + (1 : Int32))
    ) fun (j49 : Option (Int32 × Hp)) =>
    if (x48 &&& (14 : Int32)) = 0 then (
      j49
    ) else (
      (h_fR 9 h1 a0 28).bind fun x50 =>
      (h_ldI h1 x50 v43).bind fun x51 =>
      (MX9_endsOf a0 v43 h1).bind fun x52 =>
      if (x51 &&& (x52 ^^^ (-1 : Int32))) = 0 then (
        j49
      ) else (
        some ((5 : Int32), h1)
      )
    )
  )
def MX9_whyAt (fu : Nat) (a0 : Nat) (a1 : Int32) (h : Hp) : Option (Int32 × Hp) :=
  h_g 9 h a0 <|
  (MX9_takes fu a0 a1 h).bind fun h1 =>
  (MX9_statements a0 h1).bind fun x2 =>
  if a1 = x2 then (
    wh1 (MX9_whyAt_B15 h1 a0) fu (0 : Int32)
  ) else (
    (h_fR 9 h1 a0 1).bind fun x3 =>
    (h_ldI h1 x3 ((373 : Int32) + a1)).bind fun x4 =>
    (h_ldI h1 x3 ((413 : Int32) + a1)).bind fun x5 =>
    (MX9_sortAt a0 a1 h1).bind fun x6 =>
    if x6 < (9 : Int32) then (
      if x6 = 0 then (
        (h_fR 9 h1 a0 27).bind fun x41 =>
        (h_ldI h1 x41 x4).bind fun x42 =>
        if (x42 &&& (14 : Int32)) = 0 then (
          some ((0 : Int32), h1)
        ) else (
          some ((1 : Int32), h1)
        )
      ) else (
        if (4 : Int32) ≤ x6 then (
          if x6 = (4 : Int32) then (
            (h_fR 9 h1 a0 27).bind fun x25 =>
            (h_ldI h1 x25 x4).bind fun x26 =>
            (MX9_has x26 (0 : Int32)).bind fun x27 =>
            jn (
              some ((1 : Int32), h1)
            ) fun (j28 : Option (Int32 × Hp)) =>
            if x27 = 0 then (
              (h_ldI h1 x25 x5).bind fun x29 =>
              (MX9_has x29 (0 : Int32)).bind fun x30 =>
              if x30 = 0 then (
                (h_fR 9 h1 a0 30).bind fun x31 =>
                (h_ldI h1 x31 x4).bind fun x32 =>
                (MX9_has x32 x5).bind fun x33 =>
                if x33 = 0 then (
                  some ((2 : Int32), h1)
                ) else (
                  some ((0 : Int32), h1)
                )
              ) else (
                j28
              )
            ) else (
              j28
            )
          ) else (
            (h_fR 9 h1 a0 27).bind fun x7 =>
            (h_ldI h1 x7 x4).bind fun x8 =>
            (MX9_has x8 (0 : Int32)).bind fun x9 =>
            if x9 = 0 then (
              if x6 = (5 : Int32) then (
                (h_fR 9 h1 a0 30).bind fun x19 =>
                (h_ldI h1 x19 x4).bind fun x20 =>
                jn (
                  some ((0 : Int32), h1)
                ) fun (j21 : Option (Int32 × Hp)) =>
                if x20 = 0 then (
                  (h_fR 9 h1 a0 28).bind fun x22 =>
                  (h_ldI h1 x22 x4).bind fun x23 =>
                  (MX9_endsOf a0 x4 h1).bind fun x24 =>
                  if (x23 &&& (x24 ^^^ (-1 : Int32))) = 0 then (
                    j21
                  ) else (
                    some ((5 : Int32), h1)
                  )
                ) else (
                  j21
                )
              ) else (
                (h_ldI h1 x3 ((327 : Int32) + x4)).bind fun x10 =>
                (h_ldI h1 x3 ((453 : Int32) + a1)).bind fun x11 =>
                (MX9_methodAt x10 x11).bind fun x12 =>
                (h_ldI h1 x3 ((15 : Int32) + x12)).bind fun x13 =>
                jn (
                  (h_fR 9 h1 a0 28).bind fun x15 =>
                  (h_ldI h1 x15 x4).bind fun x16 =>
                  (MX9_canSet fu a0 x10 x11 h1).bind fun x17 =>
                  if (x16 &&& (x17 ^^^ (-1 : Int32))) = 0 then (
                    some ((0 : Int32), h1)
                  ) else (
                    some ((4 : Int32), h1)
                  )
                ) fun (j14 : Option (Int32 × Hp)) =>
                if x13 = (2 : Int32) then (
                  j14
                ) else (
                  (MX9_has x8 (1 : Int32)).bind fun x18 =>
                  if x18 = 0 then (
                    j14
                  ) else (
                    some ((3 : Int32), h1)
                  )
                )
              )
            ) else (
              some ((1 : Int32), h1)
            )
          )
        ) else (
          (h_fR 9 h1 a0 27).bind fun x34 =>
          (h_ldI h1 x34 x4).bind fun x35 =>
          jn (
            some ((1 : Int32), h1)
          ) fun (j36 : Option (Int32 × Hp)) =>
          if (x35 &&& (14 : Int32)) = 0 then (
            (h_ldI h1 x34 x5).bind fun x37 =>
            (MX9_has x37 (0 : Int32)).bind fun x38 =>
            if x38 = 0 then (
              jn (
                some ((0 : Int32), h1)
              ) fun (j39 : Option (Int32 × Hp)) =>
              if x6 = (2 : Int32) then (
                (MX9_has x37 (1 : Int32)).bind fun x40 =>
                if x40 = 0 then (
                  j39
                ) else (
                  some ((3 : Int32), h1)
                )
              ) else (
                j39
              )
            ) else (
              j36
            )
          ) else (
            j36
          )
        )
      )
    ) else (
      some ((0 : Int32), h1)
    )
  )
def MX9_checks_B138 (fu : Nat) (a0 : Nat) (self15 : Int32 → Hp → Option (Hp)) (v13 : Int32) (h14 : Hp) : Option (Hp) :=
  (MX9_statements a0 h14).bind fun x16 =>
  if x16 < v13 then (
    some h14
  ) else (
    (h_fR 9 h14 a0 22).bind fun x17 =>
    (h_ldZ h14 x17 v13).bind fun x18 =>
    jn (fun (w19 : Int32) (h20 : Hp) =>
      jn (fun (h22 : Hp) =>
        self15 (v13 + (1 : Int32)) h22
      ) fun (j23 : Hp → Option (Hp)) =>
      if w19 = 0 then (
        j23 h20
      ) else (
        (h_fI 9 h20 a0 32).bind fun x24 =>
        jn (fun (h25 : Hp) =>
          (h_fI 9 h25 a0 32).bind fun x27 =>
          (h_pI 9 h25 a0 32 (x27 + (1 : Int32))).bind fun h28 =>
          j23 h28
        ) fun (j26 : Hp → Option (Hp)) =>
        if x24 = 0 then (
          (h_pI 9 h20 a0 33 v13).bind fun h29 =>
          (h_pI 9 h29 a0 34 w19).bind fun h30 =>
          j26 h30
        ) else (
          j26 h20
        )
      )
    ) fun (j21 : Int32 → Hp → Option (Hp)) =>
    if x18 = 0 then (
      j21 (0 : Int32) h14
    ) else (
      (MX9_whyAt fu a0 v13 h14).bind fun p31 =>
      j21 p31.1 p31.2
    )
  )
def MX9_checks_B90 (fu : Nat) (a0 : Nat) (j37 : Hp → Option (Hp)) (self40 : Int32 → Hp → Option (Hp)) (v38 : Int32) (h39 : Hp) : Option (Hp) :=
  (MX9_statements a0 h39).bind fun x41 =>
  if x41 ≤ v38 then (
    j37 h39
  ) else (
    (h_fR 9 h39 a0 22).bind fun x42 =>
    (h_ldZ h39 x42 v38).bind fun x43 =>
    jn (fun (h44 : Hp) =>
      self40 (v38 + (1 : Int32)) h44
    ) fun (j45 : Hp → Option (Hp)) =>
    if x43 = 0 then (
      j45 h39
    ) else (
      (MX9_passes fu a0 v38 h39).bind fun h46 =>
      j45 h46
    )
  )
def MX9_checks_B76 (fu : Nat) (a0 : Nat) (j9 : Hp → Option (Hp)) (self33 : Hp → Option (Hp)) (h32 : Hp) : Option (Hp) :=
  (h_fI 9 h32 a0 31).bind fun x34 =>
  if x34 = 0 then (
    j9 h32
  ) else (
    (h_pZ 9 h32 a0 31 (0 : Int32)).bind fun h35 =>
    jn (fun (h36 : Hp) =>
      self33 h36
    ) fun (j37 : Hp → Option (Hp)) =>
    wh2 (MX9_checks_B90 fu a0 j37) fu (0 : Int32) h35
  )
def MX9_checks_B23 (j4 : Hp → Option (Hp)) (a0 : Nat) (self49 : Int32 → Hp → Option (Hp)) (v47 : Int32) (h48 : Hp) : Option (Hp) :=
  if (6 : Int32) ≤ v47 then (
    j4 h48
  ) else (
    (h_fR 9 h48 a0 27).bind fun x50 =>
    (h_stI h48 x50 v47 (1 : Int32)).bind fun h51 =>
    (h_fR 9 h51 a0 28).bind fun x52 =>
    (h_stI h51 x52 v47 (0 : Int32)).bind fun h53 =>
    (h_fR 9 h53 a0 29).bind fun x54 =>
    (h_stI h53 x54 v47 (0 : Int32)).bind fun h55 =>
    (h_fR 9 h55 a0 30).bind fun x56 =>
    (h_stI h55 x56 v47 (0 : Int32)).bind fun h57 =>
    self49 (v47 + (1 : Int32)) h57
  )
def MX9_checks_B2 (j2 : Hp → Option (Hp)) (a0 : Nat) (self60 : Int32 → Hp → Option (Hp)) (v58 : Int32) (h59 : Hp) : Option (Hp) :=
  if (41 : Int32) ≤ v58 then (
    j2 h59
  ) else (
    (h_fR 9 h59 a0 22).bind fun x61 =>
    (h_stZ h59 x61 v58 (0 : Int32)).bind fun h62 =>
    self60 (v58 + (1 : Int32)) h62
  )
def MX9_checks (fu : Nat) (a0 : Nat) (h : Hp) : Option (Hp) :=
  h_g 9 h a0 <|
  jn (fun (h1 : Hp) =>
    jn (fun (h3 : Hp) =>
      (MX9_firstPlace fu a0 h3).bind fun x5 =>
      (MX9_merges fu a0 x5 h3).bind fun h6 =>
      (h_pZ 9 h6 a0 31 (1 : Int32)).bind fun h7 =>
      jn (fun (h8 : Hp) =>
        (h_pI 9 h8 a0 32 (0 : Int32)).bind fun h10 =>
        (h_pI 9 h10 a0 33 (-1 : Int32)).bind fun h11 =>
        (h_pI 9 h11 a0 34 (0 : Int32)).bind fun h12 =>
        wh2 (MX9_checks_B138 fu a0) fu (0 : Int32) h12
      ) fun (j9 : Hp → Option (Hp)) =>
      wh1 (MX9_checks_B76 fu a0 j9) fu h7
    ) fun (j4 : Hp → Option (Hp)) =>
    wh2 (MX9_checks_B23 j4 a0) fu (0 : Int32) h1
  ) fun (j2 : Hp → Option (Hp)) =>
  wh2 (MX9_checks_B2 j2 a0) fu (0 : Int32) h
def MX9_checksAll (fu : Nat) (a0 : Nat) (h : Hp) : Option (Hp) :=
  h_g 9 h a0 <|
  (MX9_allIn fu a0 h).bind fun h1 =>
  (MX9_checks fu a0 h1).bind fun h2 =>
  some h2
def MX9_check_B104 (a0 : Nat) (h2 : Hp) (j5 : Int32 → Option (Int32 × Hp)) (self9 : Int32 → Int32 → Option (Int32 × Hp)) (v7 : Int32) (v8 : Int32) : Option (Int32 × Hp) :=
  (MX9_statements a0 h2).bind fun x10 =>
  if x10 < v8 then (
    j5 v7
  ) else (
    (h_fR 9 h2 a0 22).bind fun x11 =>
    (h_ldZ h2 x11 v8).bind fun x12 =>
    jn (fun (w13 : Int32) =>
      self9 (v7 + w13) (v8 + (1 : Int32))
    ) fun (j14 : Int32 → Option (Int32 × Hp)) =>
    if x12 = 0 then (
      j14 (0 : Int32)
    ) else (
      j14 (1 : Int32)
    )
  )
def MX9_check (fu : Nat) (a0 : Nat) (a1 : Int32) (h : Hp) : Option (Int32 × Hp) :=
  h_g 9 h a0 <|
  (MX9_isFrom a1 (0 : Int32) (4 : Int32)).bind fun x1 =>
  if x1 = 0 then (
    (MX9_refuse a0 (1 : Int32) h).bind fun p27 =>
    some (p27.1, p27.2)
  ) else (
    (MX9_checksAll fu a0 h).bind fun h2 =>
    if a1 = 0 then (
      (h_fI 9 h2 a0 32).bind fun x23 =>
      jn (fun (w24 : Int32) =>
        (MX9_gives a0 w24 h2).bind fun p26 =>
        some (p26.1, p26.2)
      ) fun (j25 : Int32 → Option (Int32 × Hp)) =>
      if x23 = 0 then (
        j25 (1 : Int32)
      ) else (
        j25 (0 : Int32)
      )
    ) else (
      jn (
        if a1 = (1 : Int32) then (
          (h_fI 9 h2 a0 33).bind fun x19 =>
          (MX9_gives a0 x19 h2).bind fun p20 =>
          some (p20.1, p20.2)
        ) else (
          if a1 = (2 : Int32) then (
            (h_fI 9 h2 a0 34).bind fun x17 =>
            (MX9_gives a0 x17 h2).bind fun p18 =>
            some (p18.1, p18.2)
          ) else (
            if a1 = (3 : Int32) then (
              (h_fI 9 h2 a0 32).bind fun x15 =>
              (MX9_gives a0 x15 h2).bind fun p16 =>
              some (p16.1, p16.2)
            ) else (
              jn (fun (v4 : Int32) =>
                (MX9_gives a0 v4 h2).bind fun p6 =>
                some (p6.1, p6.2)
              ) fun (j5 : Int32 → Option (Int32 × Hp)) =>
              wh2 (MX9_check_B104 a0 h2 j5) fu (0 : Int32) (0 : Int32)
            )
          )
        )
      ) fun (j3 : Option (Int32 × Hp)) =>
      if (3 : Int32) ≤ a1 then (
        j3
      ) else (
        (h_fI 9 h2 a0 32).bind fun x21 =>
        if x21 = 0 then (
          (MX9_refuse a0 (5 : Int32) h2).bind fun p22 =>
          some (p22.1, p22.2)
        ) else (
          j3
        )
      )
    )
  )
def MX9_isPlace (a0 : Nat) (a1 : Int32) (h : Hp) : Option (Int32) :=
  h_g 9 h a0 <|
  (MX9_statements a0 h).bind fun x1 =>
  (MX9_isFrom a1 (0 : Int32) x1).bind fun x2 =>
  (h_z x2).bind fun z3 =>
  some z3
def MX9_at_ (fu : Nat) (a0 : Nat) (a1 : Int32) (a2 : Int32) (a3 : Int32) (h : Hp) : Option (Int32 × Hp) :=
  h_g 9 h a0 <|
  (MX9_isFrom a3 (0 : Int32) (4 : Int32)).bind fun x1 =>
  if x1 = 0 then (
    (MX9_refuse a0 (1 : Int32) h).bind fun p28 =>
    some (p28.1, p28.2)
  ) else (
    (MX9_isPlace a0 a1 h).bind fun x2 =>
    jn (
      (MX9_refuse a0 (2 : Int32) h).bind fun p4 =>
      some (p4.1, p4.2)
    ) fun (j3 : Option (Int32 × Hp)) =>
    if x2 = 0 then (
      j3
    ) else (
      (MX9_isVariable a0 a2 h).bind fun x5 =>
      if x5 = 0 then (
        j3
      ) else (
        (MX9_checksAll fu a0 h).bind fun h6 =>
        (h_fR 9 h6 a0 22).bind fun x7 =>
        (h_ldZ h6 x7 a1).bind fun x8 =>
        if x8 = 0 then (
          (MX9_refuse a0 (5 : Int32) h6).bind fun p27 =>
          some (p27.1, p27.2)
        ) else (
          if a3 = (0 : Int32) then (
            (h_fR 9 h6 a0 23).bind fun x9 =>
            (MX9_at a1 a2).bind fun x10 =>
            (h_ldI h6 x9 x10).bind fun x11 =>
            (MX9_gives a0 x11 h6).bind fun p12 =>
            some (p12.1, p12.2)
          ) else (
          if a3 = (1 : Int32) then (
            (h_fR 9 h6 a0 24).bind fun x13 =>
            (MX9_at a1 a2).bind fun x14 =>
            (h_ldI h6 x13 x14).bind fun x15 =>
            (MX9_gives a0 x15 h6).bind fun p16 =>
            some (p16.1, p16.2)
          ) else (
          if a3 = (2 : Int32) then (
            (h_fR 9 h6 a0 25).bind fun x17 =>
            (MX9_at a1 a2).bind fun x18 =>
            (h_ldI h6 x17 x18).bind fun x19 =>
            (MX9_gives a0 x19 h6).bind fun p20 =>
            some (p20.1, p20.2)
          ) else (
          if a3 = (3 : Int32) then (
            (h_fR 9 h6 a0 26).bind fun x21 =>
            (MX9_at a1 a2).bind fun x22 =>
            (h_ldI h6 x21 x22).bind fun x23 =>
            (MX9_gives a0 x23 h6).bind fun p24 =>
            some (p24.1, p24.2)
          ) else (
          (MX9_whyAt fu a0 a1 h6).bind fun p25 =>
          (MX9_gives a0 p25.1 p25.2).bind fun p26 =>
          some (p26.1, p26.2)
          ))))
        )
      )
    )
  )
def MX9_isMended_B15 (a0 : Nat) (j5 : Hp → Option (Int32 × Hp)) (self10 : Int32 → Hp → Option (Int32 × Hp)) (v8 : Int32) (h9 : Hp) : Option (Int32 × Hp) :=
  (MX9_statements a0 h9).bind fun x11 =>
  if x11 ≤ v8 then (
    j5 h9
  ) else (
    (h_fR 9 h9 a0 21).bind fun x12 =>
    (h_fR 9 h9 a0 1).bind fun x13 =>
    (h_ldI h9 x13 ((493 : Int32) + v8)).bind fun x14 =>
    jn (fun (w15 : Int32) =>
      (h_stZ h9 x12 v8 w15).bind fun h17 =>
      self10 (v8 + (1 : Int32)) h17
    ) fun (j16 : Int32 → Option (Int32 × Hp)) =>
    jn (
      j16 (0 : Int32)
    ) fun (j18 : Option (Int32 × Hp)) =>
    if x14 = (-1 : Int32) then (
      j18
    ) else (
      (h_ldZ h9 x12 x14).bind fun x19 =>
      if x19 = 0 then (
        j18
      ) else (
        j16 (1 : Int32)
      )
    )
  )
def MX9_isMended (fu : Nat) (a0 : Nat) (a1 : Int32) (h : Hp) : Option (Int32 × Hp) :=
  h_g 9 h a0 <|
  (MX9_allIn fu a0 h).bind fun h1 =>
  (h_fR 9 h1 a0 21).bind fun x2 =>
  (h_stZ h1 x2 a1 (1 : Int32)).bind fun h3 =>
  jn (fun (h4 : Hp) =>
    (MX9_checks fu a0 h4).bind fun h6 =>
    (h_fI 9 h6 a0 32).bind fun x7 =>
    if x7 = 0 then (
      some ((1 : Int32), h6)
    ) else (
      some ((0 : Int32), h6)
    )
  ) fun (j5 : Hp → Option (Int32 × Hp)) =>
  wh2 (MX9_isMended_B15 a0 j5) fu (a1 + (1 : Int32)) h3
def MX9_without (fu : Nat) (a0 : Nat) (a1 : Int32) (h : Hp) : Option (Int32 × Hp) :=
  h_g 9 h a0 <|
  (MX9_isStatementAt a0 a1 h).bind fun x1 =>
  if x1 = 0 then (
    (MX9_refuse a0 (2 : Int32) h).bind fun p2 =>
    some (p2.1, p2.2)
  ) else (
    (MX9_isMended fu a0 a1 h).bind fun p3 =>
    jn (fun (w4 : Int32) =>
      (MX9_gives a0 w4 p3.2).bind fun p6 =>
      some (p6.1, p6.2)
    ) fun (j5 : Int32 → Option (Int32 × Hp)) =>
    if p3.1 = 0 then (
      j5 (0 : Int32)
    ) else (
      j5 (1 : Int32)
    )
  )
def MX9_mend_B19 (fu : Nat) (a0 : Nat) (j4 : Hp → Option (Int32 × Hp)) (j8 : Int32 → Hp → Option (Int32 × Hp)) (self12 : Int32 → Hp → Option (Int32 × Hp)) (v10 : Int32) (h11 : Hp) : Option (Int32 × Hp) :=
  (MX9_statements a0 h11).bind fun x13 =>
  if x13 ≤ v10 then (
    j4 h11
  ) else (
    (MX9_isMended fu a0 v10 h11).bind fun p14 =>
    if p14.1 = 0 then (
      self12 (v10 + (1 : Int32)) p14.2
    ) else (
      j8 v10 p14.2
    )
  )
def MX9_mend (fu : Nat) (a0 : Nat) (h : Hp) : Option (Int32 × Hp) :=
  h_g 9 h a0 <|
  (MX9_checksAll fu a0 h).bind fun h1 =>
  (h_fI 9 h1 a0 32).bind fun x2 =>
  if x2 = 0 then (
    (MX9_refuse a0 (5 : Int32) h1).bind fun p15 =>
    some (p15.1, p15.2)
  ) else (
    jn (fun (h3 : Hp) =>
      (MX9_refuse a0 (5 : Int32) h3).bind fun p5 =>
      some (p5.1, p5.2)
    ) fun (j4 : Hp → Option (Int32 × Hp)) =>
    jn (fun (v6 : Int32) (h7 : Hp) =>
      (MX9_gives a0 v6 h7).bind fun p9 =>
      some (p9.1, p9.2)
    ) fun (j8 : Int32 → Hp → Option (Int32 × Hp)) =>
    wh2 (MX9_mend_B19 fu a0 j4 j8) fu (0 : Int32) h1
  )
def MX9_isAlone_B2 (a1 : Int32) (h : Hp) (a0 : Nat) (self2 : Int32 → Option (Int32)) (v1 : Int32) : Option (Int32) :=
  if (6 : Int32) ≤ v1 then (
    some (1 : Int32)
  ) else (
    jn (
      self2 (v1 + (1 : Int32))
    ) fun (j3 : Option (Int32)) =>
    if v1 = a1 then (
      j3
    ) else (
      (h_fR 9 h a0 35).bind fun x4 =>
      (h_ldI h x4 v1).bind fun x5 =>
      (h_ldI h x4 a1).bind fun x6 =>
      if x5 = x6 then (
        some (0 : Int32)
      ) else (
        j3
      )
    )
  )
def MX9_isAlone (fu : Nat) (a0 : Nat) (a1 : Int32) (h : Hp) : Option (Int32) :=
  h_g 9 h a0 <|
  wh1 (MX9_isAlone_B2 a1 h a0) fu (0 : Int32)
def MX9_lets (a0 : Nat) (a1 : Int32) (h : Hp) : Option (Hp) :=
  h_g 9 h a0 <|
  (h_fR 9 h a0 35).bind fun x1 =>
  (h_stI h x1 a1 (-1 : Int32)).bind fun h2 =>
  (h_fR 9 h2 a0 36).bind fun x3 =>
  (h_stI h2 x3 a1 (0 : Int32)).bind fun h4 =>
  (h_fR 9 h4 a0 37).bind fun x5 =>
  (h_stI h4 x5 a1 (0 : Int32)).bind fun h6 =>
  some h6
def MX9_gets (a0 : Nat) (a1 : Int32) (a2 : Int32) (a3 : Int32) (h : Hp) : Option (Int32 × Hp) :=
  h_g 9 h a0 <|
  (h_fR 9 h a0 35).bind fun x1 =>
  (h_ldI h x1 a2).bind fun x2 =>
  if x2 = (-1 : Int32) then (
    (h_ldI h x1 a3).bind fun x3 =>
    if x3 = (-1 : Int32) then (
      some ((1 : Int32), h)
    ) else (
      jn (
        (h_stI h x1 a2 x3).bind fun h5 =>
        (h_fR 9 h5 a0 37).bind fun x6 =>
        (h_ldI h5 x6 a3).bind fun x7 =>
        (h_stI h5 x6 a2 x7).bind fun h8 =>
        (h_fR 9 h8 a0 36).bind fun x9 =>
        (h_ldI h8 x9 a3).bind fun x10 =>
        (h_stI h8 x9 a2 x10).bind fun h11 =>
        if a1 = (1 : Int32) then (
          (MX9_lets a0 a3 h11).bind fun h23 =>
          some ((0 : Int32), h23)
        ) else (
          if a1 = (2 : Int32) then (
            (h_fR 9 h11 a0 36).bind fun x19 =>
            (h_stI h11 x19 a2 (4 : Int32)).bind fun h20 =>
            (h_fR 9 h20 a0 36).bind fun x21 =>
            (h_stI h20 x21 a3 (4 : Int32)).bind fun h22 =>
            some ((0 : Int32), h22)
          ) else (
            (h_fR 9 h11 a0 36).bind fun x12 =>
            (h_stI h11 x12 a2 (2 : Int32)).bind fun h13 =>
            (h_fR 9 h13 a0 36).bind fun x14 =>
            (h_ldI h13 x14 a3).bind fun x15 =>
            jn (fun (w16 : Int32) =>
              (h_stI h13 x14 a3 w16).bind fun h18 =>
              some ((0 : Int32), h18)
            ) fun (j17 : Int32 → Option (Int32 × Hp)) =>
            if x15 = (8 : Int32) then (
              j17 (2 : Int32)
            ) else (
              j17 x15
            )
          )
        )
      ) fun (j4 : Option (Int32 × Hp)) =>
      if a1 = (2 : Int32) then (
        (h_fR 9 h a0 36).bind fun x24 =>
        (h_ldI h x24 a3).bind fun x25 =>
        if x25 = (2 : Int32) then (
          some ((3 : Int32), h)
        ) else (
          j4
        )
      ) else (
        j4
      )
    )
  ) else (
    some ((1 : Int32), h)
  )
def MX9_drops (fu : Nat) (a0 : Nat) (a1 : Int32) (h : Hp) : Option (Int32 × Hp) :=
  h_g 9 h a0 <|
  (MX9_isAlone fu a0 a1 h).bind fun x1 =>
  (h_fR 9 h a0 1).bind fun x2 =>
  (h_ldI h x2 ((327 : Int32) + a1)).bind fun x3 =>
  (h_fR 9 h a0 37).bind fun x4 =>
  (h_ldI h x4 a1).bind fun x5 =>
  (MX9_isEnd a0 x3 x5 h).bind fun x6 =>
  jn (fun (h7 : Hp) =>
    jn (
      (MX9_lets a0 a1 h7).bind fun h10 =>
      some ((0 : Int32), h10)
    ) fun (j9 : Option (Int32 × Hp)) =>
    if x1 = 0 then (
      j9
    ) else (
      if x6 = 0 then (
        some ((5 : Int32), h7)
      ) else (
        j9
      )
    )
  ) fun (j8 : Hp → Option (Int32 × Hp)) =>
  if x1 = 0 then (
    j8 h
  ) else (
    (h_fR 9 h a0 38).bind fun x11 =>
    (h_ldI h x11 x3).bind fun x12 =>
    (h_stI h x11 x3 (x12 ||| ((1 : Int32) <<< (x5 &&& 31)))).bind fun h13 =>
    j8 h13
  )
def MX9_does_B313 (j18 : Hp → Option (Int32 × Hp)) (x2 : Int32) (a0 : Nat) (w15 : Int32) (self23 : Int32 → Hp → Option (Int32 × Hp)) (v21 : Int32) (h22 : Hp) : Option (Int32 × Hp) :=
  if (6 : Int32) ≤ v21 then (
    j18 h22
  ) else (
    jn (fun (h24 : Hp) =>
      self23 (v21 + (1 : Int32)) h24
    ) fun (j25 : Hp → Option (Int32 × Hp)) =>
    if v21 = x2 then (
      j25 h22
    ) else (
      (h_fR 9 h22 a0 35).bind fun x26 =>
      (h_ldI h22 x26 v21).bind fun x27 =>
      (h_ldI h22 x26 x2).bind fun x28 =>
      if x27 = x28 then (
        (h_fR 9 h22 a0 37).bind fun x29 =>
        (h_stI h22 x29 v21 w15).bind fun h30 =>
        j25 h30
      ) else (
        j25 h22
      )
    )
  )
def MX9_does (fu : Nat) (a0 : Nat) (a1 : Int32) (a2 : Int32) (a3 : Int32) (h : Hp) : Option (Int32 × Hp) :=
  h_g 9 h a0 <|
  (h_fR 9 h a0 1).bind fun x1 =>
  (h_ldI h x1 ((373 : Int32) + a1)).bind fun x2 =>
  (h_ldI h x1 ((413 : Int32) + a1)).bind fun x3 =>
  (MX9_sortAt a0 a1 h).bind fun x4 =>
  if x4 = 0 then (
    (h_fR 9 h a0 35).bind fun x44 =>
    (h_ldI h x44 x2).bind fun x45 =>
    if x45 = (-1 : Int32) then (
      (h_stI h x44 x2 a3).bind fun h46 =>
      (h_fR 9 h46 a0 36).bind fun x47 =>
      (h_stI h46 x47 x2 (8 : Int32)).bind fun h48 =>
      (h_fR 9 h48 a0 37).bind fun x49 =>
      (h_stI h48 x49 x2 (0 : Int32)).bind fun h50 =>
      some ((0 : Int32), h50)
    ) else (
      some ((1 : Int32), h)
    )
  ) else (
    if (4 : Int32) ≤ x4 then (
      if x4 = (4 : Int32) then (
        (h_fR 9 h a0 35).bind fun x36 =>
        (h_ldI h x36 x2).bind fun x37 =>
        if x37 = (-1 : Int32) then (
          some ((1 : Int32), h)
        ) else (
          (h_ldI h x36 x3).bind fun x38 =>
          if x38 = (-1 : Int32) then (
            some ((1 : Int32), h)
          ) else (
            if x37 = x38 then (
              (MX9_lets a0 x3 h).bind fun h39 =>
              (MX9_isAlone fu a0 x2 h39).bind fun x40 =>
              if x40 = 0 then (
                some ((0 : Int32), h39)
              ) else (
                (h_fR 9 h39 a0 36).bind fun x41 =>
                (h_stI h39 x41 x2 (8 : Int32)).bind fun h42 =>
                some ((0 : Int32), h42)
              )
            ) else (
              some ((2 : Int32), h)
            )
          )
        )
      ) else (
        (h_fR 9 h a0 35).bind fun x5 =>
        (h_ldI h x5 x2).bind fun x6 =>
        if x6 = (-1 : Int32) then (
          some ((1 : Int32), h)
        ) else (
          if x4 = (5 : Int32) then (
            (MX9_drops fu a0 x2 h).bind fun p35 =>
            some (p35.1, p35.2)
          ) else (
            (h_ldI h x1 ((327 : Int32) + x2)).bind fun x7 =>
            (h_ldI h x1 ((453 : Int32) + a1)).bind fun x8 =>
            (h_fR 9 h a0 36).bind fun x9 =>
            (h_ldI h x9 x2).bind fun x10 =>
            jn (
              (h_fR 9 h a0 37).bind fun x12 =>
              (h_ldI h x12 x2).bind fun x13 =>
              (MX9_canBe a0 x7 x8 x13 h).bind fun x14 =>
              if x14 = 0 then (
                some ((4 : Int32), h)
              ) else (
                jn (fun (w15 : Int32) =>
                  jn (fun (h17 : Hp) =>
                    (h_fR 9 h17 a0 37).bind fun x19 =>
                    (h_stI h17 x19 x2 w15).bind fun h20 =>
                    some ((0 : Int32), h20)
                  ) fun (j18 : Hp → Option (Int32 × Hp)) =>
                  wh2 (MX9_does_B313 j18 x2 a0 w15) fu (0 : Int32) h
                ) fun (j16 : Int32 → Option (Int32 × Hp)) =>
                if a2 = 0 then (
                  (MX9_no a0 x7 x8 x13 h).bind fun x31 =>
                  j16 x31
                ) else (
                  (MX9_yes a0 x7 x8 x13 h).bind fun x32 =>
                  j16 x32
                )
              )
            ) fun (j11 : Option (Int32 × Hp)) =>
            if x10 = (2 : Int32) then (
              (MX9_methodAt x7 x8).bind fun x33 =>
              (h_ldI h x1 ((15 : Int32) + x33)).bind fun x34 =>
              if x34 = (2 : Int32) then (
                j11
              ) else (
                some ((3 : Int32), h)
              )
            ) else (
              j11
            )
          )
        )
      )
    ) else (
      (MX9_gets a0 x4 x2 x3 h).bind fun p43 =>
      some (p43.1, p43.2)
    )
  )
def MX9_finishes_B4 (a0 : Nat) (self4 : Int32 → Int32 → Hp → Option (Int32 × Hp)) (v1 : Int32) (v2 : Int32) (h3 : Hp) : Option (Int32 × Hp) :=
  (h_fR 9 h3 a0 1).bind fun x5 =>
  (h_ldI h3 x5 (1 : Int32)).bind fun x6 =>
  if x6 ≤ v2 then (
    some (v1, h3)
  ) else (
    (h_fR 9 h3 a0 35).bind fun x7 =>
    (h_ldI h3 x7 v2).bind fun x8 =>
    jn (fun (v9 : Int32) (h10 : Hp) =>
      self4 v9 (v2 + (1 : Int32)) h10
    ) fun (j11 : Int32 → Hp → Option (Int32 × Hp)) =>
    if x8 = (-1 : Int32) then (
      j11 v1 h3
    ) else (
      (h_fR 9 h3 a0 38).bind fun x12 =>
      (h_ldI h3 x5 ((327 : Int32) + v2)).bind fun x13 =>
      (h_ldI h3 x12 x13).bind fun x14 =>
      (h_fR 9 h3 a0 37).bind fun x15 =>
      (h_ldI h3 x15 v2).bind fun x16 =>
      (h_stI h3 x12 x13 (x14 ||| ((1 : Int32) <<< (x16 &&& 31)))).bind fun h17 =>
      (h_fR 9 h17 a0 1).bind fun x18 =>
      (h_ldI h17 x18 ((327 : Int32) + v2)).bind fun x19 =>
      (h_fR 9 h17 a0 37).bind fun x20 =>
      (h_ldI h17 x20 v2).bind fun x21 =>
      (MX9_isEnd a0 x19 x21 h17).bind fun x22 =>
      if x22 = 0 then (
        j11 (5 : Int32) h17
      ) else (
        j11 v1 h17
      )
    )
  )
def MX9_finishes (fu : Nat) (a0 : Nat) (h : Hp) : Option (Int32 × Hp) :=
  h_g 9 h a0 <|
  wh3 (MX9_finishes_B4 a0) fu (0 : Int32) (0 : Int32) h
def MX9_things_B29 (v2 : Int32) (j9 : Int32 → Option (Int32)) (h : Hp) (x4 : Nat) (x5 : Int32) (self14 : Int32 → Int32 → Option (Int32)) (v12 : Int32) (v13 : Int32) : Option (Int32) :=
  if v2 ≤ v13 then (
    j9 v12
  ) else (
    jn (fun (w15 : Int32) =>
      self14 w15 (v13 + (1 : Int32))
    ) fun (j16 : Int32 → Option (Int32)) =>
    jn (
      j16 (0 : Int32)
    ) fun (j17 : Option (Int32)) =>
    if v12 = 0 then (
      j17
    ) else (
      (h_ldI h x4 v13).bind fun x18 =>
      if x18 = x5 then (
        j17
      ) else (
        j16 (1 : Int32)
      )
    )
  )
def MX9_things_B4 (fu : Nat) (h : Hp) (a0 : Nat) (self3 : Int32 → Int32 → Option (Int32)) (v1 : Int32) (v2 : Int32) : Option (Int32) :=
  if (6 : Int32) ≤ v2 then (
    some v1
  ) else (
    (h_fR 9 h a0 35).bind fun x4 =>
    (h_ldI h x4 v2).bind fun x5 =>
    jn (fun (w6 : Int32) =>
      jn (fun (v8 : Int32) =>
        jn (fun (w10 : Int32) =>
          self3 (v1 + w10) (v2 + (1 : Int32))
        ) fun (j11 : Int32 → Option (Int32)) =>
        if v8 = 0 then (
          j11 (0 : Int32)
        ) else (
          j11 (1 : Int32)
        )
      ) fun (j9 : Int32 → Option (Int32)) =>
      wh2 (MX9_things_B29 v2 j9 h x4 x5) fu w6 (0 : Int32)
    ) fun (j7 : Int32 → Option (Int32)) =>
    if x5 = (-1 : Int32) then (
      j7 (0 : Int32)
    ) else (
      j7 (1 : Int32)
    )
  )
def MX9_things (fu : Nat) (a0 : Nat) (h : Hp) : Option (Int32) :=
  h_g 9 h a0 <|
  wh2 (MX9_things_B4 fu h a0) fu (0 : Int32) (0 : Int32)
def MX9_empty_B2 (a0 : Nat) (self3 : Int32 → Hp → Option (Hp)) (v1 : Int32) (h2 : Hp) : Option (Hp) :=
  if (6 : Int32) ≤ v1 then (
    some h2
  ) else (
    (MX9_lets a0 v1 h2).bind fun h4 =>
    self3 (v1 + (1 : Int32)) h4
  )
def MX9_empty (fu : Nat) (a0 : Nat) (h : Hp) : Option (Hp) :=
  h_g 9 h a0 <|
  wh2 (MX9_empty_B2 a0) fu (0 : Int32) h
def MX9_codeOf_B16 (h : Hp) (a0 : Nat) (v2 : Int32) (j5 : Int32 → Option (Int64)) (self18 : Int32 → Option (Int64)) (v17 : Int32) : Option (Int64) :=
  (h_fR 9 h a0 35).bind fun x19 =>
  (h_ldI h x19 v2).bind fun x20 =>
  if x20 = (-1 : Int32) then (
    j5 v17
  ) else (
    (h_ldI h x19 v17).bind fun x21 =>
    if x21 = x20 then (
      j5 v17
    ) else (
      self18 (v17 + (1 : Int32))
    )
  )
def MX9_codeOf_B6 (fu : Nat) (h : Hp) (a0 : Nat) (self3 : Int64 → Int32 → Option (Int64)) (v1 : Int64) (v2 : Int32) : Option (Int64) :=
  if (6 : Int32) ≤ v2 then (
    some v1
  ) else (
    jn (fun (v4 : Int32) =>
      (h_fR 9 h a0 36).bind fun x6 =>
      (h_ldI h x6 v2).bind fun x7 =>
      jn (fun (w8 : Int32) =>
        (h_fR 9 h a0 35).bind fun x10 =>
        (h_ldI h x10 v2).bind fun x11 =>
        jn (fun (w12 : Int32) =>
          self3 ((v1 <<< ((8 : Int32).toInt64 &&& 63)) ||| w12.toInt64) (v2 + (1 : Int32))
        ) fun (j13 : Int32 → Option (Int64)) =>
        if x11 = (-1 : Int32) then (
          j13 (224 : Int32)
        ) else (
          (h_fR 9 h a0 37).bind fun x14 =>
          (h_ldI h x14 v2).bind fun x15 =>
          j13 (((v4 <<< ((5 : Int32) &&& 31)) ||| (w8 <<< ((3 : Int32) &&& 31))) ||| x15)
        )
      ) fun (j9 : Int32 → Option (Int64)) =>
      if x7 = (8 : Int32) then (
        j9 (3 : Int32)
      ) else (
        (h_div x7 (2 : Int32)).bind fun x16 =>
        j9 x16
      )
    ) fun (j5 : Int32 → Option (Int64)) =>
    wh1 (MX9_codeOf_B16 h a0 v2 j5) fu (0 : Int32)
  )
def MX9_codeOf (fu : Nat) (a0 : Nat) (a1 : Int32) (h : Hp) : Option (Int64) :=
  h_g 9 h a0 <|
  wh2 (MX9_codeOf_B6 fu h a0) fu a1.toInt64 (0 : Int32)
def MX9_lays_B2 (j2 : Hp → Option (Int32 × Hp)) (a0 : Nat) (a1 : Int64) (self5 : Int32 → Hp → Option (Int32 × Hp)) (v3 : Int32) (h4 : Hp) : Option (Int32 × Hp) :=
  if (6 : Int32) ≤ v3 then (
    j2 h4
  ) else (
    (h_fR 9 h4 a0 35).bind fun x6 =>
    jn (fun (w7 : Int32) =>
      (h_stI h4 x6 v3 w7).bind fun h9 =>
      (h_fR 9 h9 a0 36).bind fun x10 =>
      (h_fR 9 h9 a0 35).bind fun x11 =>
      (h_ldI h9 x11 v3).bind fun x12 =>
      jn (fun (w13 : Int32) =>
        (h_stI h9 x10 v3 w13).bind fun h15 =>
        (h_fR 9 h15 a0 37).bind fun x16 =>
        (h_fR 9 h15 a0 35).bind fun x17 =>
        (h_ldI h15 x17 v3).bind fun x18 =>
        jn (fun (w19 : Int32) =>
          (h_stI h15 x16 v3 w19).bind fun h21 =>
          self5 (v3 + (1 : Int32)) h21
        ) fun (j20 : Int32 → Option (Int32 × Hp)) =>
        if x18 = (-1 : Int32) then (
          j20 (0 : Int32)
        ) else (
          j20 ((((a1 >>> (((8 : Int32) * ((5 : Int32) - v3)).toInt64 &&& 63)).toInt32) &&& (255 : Int32)) &&& (7 : Int32))
        )
      ) fun (j14 : Int32 → Option (Int32 × Hp)) =>
      if x12 = (-1 : Int32) then (
        j14 (0 : Int32)
      ) else (
        if (((((a1 >>> (((8 : Int32) * ((5 : Int32) - v3)).toInt64 &&& 63)).toInt32) &&& (255 : Int32)) >>> ((3 : Int32) &&& 31)) &&& (3 : Int32)) = (3 : Int32) then (
          j14 (8 : Int32)
        ) else (
          j14 ((2 : Int32) * (((((a1 >>> (((8 : Int32) * ((5 : Int32) - v3)).toInt64 &&& 63)).toInt32) &&& (255 : Int32)) >>> ((3 : Int32) &&& 31)) &&& (3 : Int32)))
        )
      )
    ) fun (j8 : Int32 → Option (Int32 × Hp)) =>
    if ((((a1 >>> (((8 : Int32) * ((5 : Int32) - v3)).toInt64 &&& 63)).toInt32) &&& (255 : Int32)) >>> ((5 : Int32) &&& 31)) = (7 : Int32) then (
      j8 (-1 : Int32)
    ) else (
      j8 ((((a1 >>> (((8 : Int32) * ((5 : Int32) - v3)).toInt64 &&& 63)).toInt32) &&& (255 : Int32)) >>> ((5 : Int32) &&& 31))
    )
  )
def MX9_lays (fu : Nat) (a0 : Nat) (a1 : Int64) (h : Hp) : Option (Int32 × Hp) :=
  h_g 9 h a0 <|
  jn (fun (h1 : Hp) =>
    some ((a1 >>> ((48 : Int32).toInt64 &&& 63)).toInt32, h1)
  ) fun (j2 : Hp → Option (Int32 × Hp)) =>
  wh2 (MX9_lays_B2 j2 a0 a1) fu (0 : Int32) h
def MX9_adds_B9 (h : Hp) (a0 : Nat) (j2 : Option (Hp)) (x1 : Int64) (self13 : Int32 → Option (Hp)) (v12 : Int32) : Option (Hp) :=
  (h_fI 9 h a0 42).bind fun x14 =>
  if x14 ≤ v12 then (
    j2
  ) else (
    (h_fR 9 h a0 39).bind fun x15 =>
    (h_ldL h x15 v12).bind fun x16 =>
    if (lg_cmp x16 x1) = 0 then (
      some h
    ) else (
      self13 (v12 + (1 : Int32))
    )
  )
def MX9_adds (fu : Nat) (a0 : Nat) (a1 : Int32) (a2 : Int32) (h : Hp) : Option (Hp) :=
  h_g 9 h a0 <|
  (MX9_codeOf fu a0 a1 h).bind fun x1 =>
  jn (
    (h_fI 9 h a0 42).bind fun x3 =>
    if x3 = (1000 : Int32) then (
      (h_pZ 9 h a0 44 (1 : Int32)).bind fun h11 =>
      some h11
    ) else (
      (h_fR 9 h a0 39).bind fun x4 =>
      (h_stL h x4 x3 x1).bind fun h5 =>
      (h_fR 9 h5 a0 40).bind fun x6 =>
      (h_fI 9 h5 a0 42).bind fun x7 =>
      (h_stI h5 x6 x7 a2).bind fun h8 =>
      (h_fI 9 h8 a0 42).bind fun x9 =>
      (h_pI 9 h8 a0 42 (x9 + (1 : Int32))).bind fun h10 =>
      some h10
    )
  ) fun (j2 : Option (Hp)) =>
  wh1 (MX9_adds_B9 h a0 j2 x1) fu (0 : Int32)
def MX9_explores (fu : Nat) (a0 : Nat) (a1 : Int32) (h : Hp) : Option (Hp) :=
  h_g 9 h a0 <|
  (h_fR 9 h a0 39).bind fun x1 =>
  (h_ldL h x1 a1).bind fun x2 =>
  (MX9_lays fu a0 x2 h).bind fun p3 =>
  (h_fI 9 p3.2 a0 43).bind fun x4 =>
  (MX9_things fu a0 p3.2).bind fun x5 =>
  (h_pI 9 p3.2 a0 43 (jmax x4 x5)).bind fun h6 =>
  (h_fR 9 h6 a0 41).bind fun x7 =>
  (h_stI h6 x7 a1 (0 : Int32)).bind fun h8 =>
  (MX9_statements a0 h8).bind fun x9 =>
  if p3.1 = x9 then (
    (h_fR 9 h8 a0 41).bind fun x29 =>
    (MX9_finishes fu a0 h8).bind fun p30 =>
    (h_stI p30.2 x29 a1 p30.1).bind fun h31 =>
    some h31
  ) else (
    (MX9_sortAt a0 p3.1 h8).bind fun x10 =>
    if x10 < (9 : Int32) then (
      (h_fR 9 h8 a0 41).bind fun x11 =>
      (MX9_does fu a0 p3.1 (1 : Int32) (7 : Int32) h8).bind fun p12 =>
      (h_stI p12.2 x11 a1 p12.1).bind fun h13 =>
      (h_fR 9 h13 a0 41).bind fun x14 =>
      (h_ldI h13 x14 a1).bind fun x15 =>
      if x15 ≤ 0 then (
        (MX9_byYes fu a0 p3.1 h13).bind fun x16 =>
        (MX9_adds fu a0 x16 a1 h13).bind fun h17 =>
        (MX9_isAsked x10).bind fun x18 =>
        if x18 = 0 then (
          some h17
        ) else (
          (h_fR 9 h17 a0 39).bind fun x19 =>
          (h_ldL h17 x19 a1).bind fun x20 =>
          (MX9_lays fu a0 x20 h17).bind fun p21 =>
          (MX9_does fu a0 p21.1 (0 : Int32) (7 : Int32) p21.2).bind fun p22 =>
          (MX9_byNo fu a0 p21.1 p22.2).bind fun x23 =>
          (MX9_adds fu a0 x23 a1 p22.2).bind fun h24 =>
          some h24
        )
      ) else (
        some h13
      )
    ) else (
      (MX9_byYes fu a0 p3.1 h8).bind fun x25 =>
      (MX9_adds fu a0 x25 a1 h8).bind fun h26 =>
      (MX9_byNo fu a0 p3.1 h26).bind fun x27 =>
      (MX9_adds fu a0 x27 a1 h26).bind fun h28 =>
      some h28
    )
  )
def MX9_laysPaths_B54 (fu : Nat) (a0 : Nat) (self12 : Int32 → Hp → Option (Hp)) (v10 : Int32) (h11 : Hp) : Option (Hp) :=
  (h_fI 9 h11 a0 42).bind fun x13 =>
  if x13 ≤ v10 then (
    some h11
  ) else (
    (h_fI 9 h11 a0 44).bind fun x14 =>
    if x14 = 0 then (
      (MX9_explores fu a0 v10 h11).bind fun h15 =>
      self12 (v10 + (1 : Int32)) h15
    ) else (
      some h11
    )
  )
def MX9_laysPaths_B6 (j3 : Hp → Option (Hp)) (a0 : Nat) (self18 : Int32 → Hp → Option (Hp)) (v16 : Int32) (h17 : Hp) : Option (Hp) :=
  if (4 : Int32) ≤ v16 then (
    j3 h17
  ) else (
    (h_fR 9 h17 a0 38).bind fun x19 =>
    (h_stI h17 x19 v16 (0 : Int32)).bind fun h20 =>
    self18 (v16 + (1 : Int32)) h20
  )
def MX9_laysPaths (fu : Nat) (a0 : Nat) (h : Hp) : Option (Hp) :=
  h_g 9 h a0 <|
  (MX9_allIn fu a0 h).bind fun h1 =>
  jn (fun (h2 : Hp) =>
    (h_pI 9 h2 a0 42 (0 : Int32)).bind fun h4 =>
    (h_pI 9 h4 a0 43 (0 : Int32)).bind fun h5 =>
    (h_pZ 9 h5 a0 44 (0 : Int32)).bind fun h6 =>
    (MX9_empty fu a0 h6).bind fun h7 =>
    (MX9_firstPlace fu a0 h7).bind fun x8 =>
    (MX9_adds fu a0 x8 (-1 : Int32) h7).bind fun h9 =>
    wh2 (MX9_laysPaths_B54 fu a0) fu (0 : Int32) h9
  ) fun (j3 : Hp → Option (Hp)) =>
  wh2 (MX9_laysPaths_B6 j3 a0) fu (0 : Int32) h1
def MX9_firstWrong_B2 (h : Hp) (a0 : Nat) (self2 : Int32 → Option (Int32)) (v1 : Int32) : Option (Int32) :=
  (h_fI 9 h a0 42).bind fun x3 =>
  if x3 ≤ v1 then (
    some (-1 : Int32)
  ) else (
    (h_fR 9 h a0 41).bind fun x4 =>
    (h_ldI h x4 v1).bind fun x5 =>
    if x5 ≤ 0 then (
      self2 (v1 + (1 : Int32))
    ) else (
      some v1
    )
  )
def MX9_firstWrong (fu : Nat) (a0 : Nat) (h : Hp) : Option (Int32) :=
  h_g 9 h a0 <|
  wh1 (MX9_firstWrong_B2 h a0) fu (0 : Int32)
def MX9_stepsTo_B4 (h : Hp) (a0 : Nat) (self3 : Int32 → Int32 → Option (Int32)) (v1 : Int32) (v2 : Int32) : Option (Int32) :=
  if v2 = (-1 : Int32) then (
    some v1
  ) else (
    (h_fR 9 h a0 40).bind fun x4 =>
    (h_ldI h x4 v2).bind fun x5 =>
    self3 (v1 + (1 : Int32)) x5
  )
def MX9_stepsTo (fu : Nat) (a0 : Nat) (a1 : Int32) (h : Hp) : Option (Int32) :=
  h_g 9 h a0 <|
  wh2 (MX9_stepsTo_B4 h a0) fu (0 : Int32) a1
def MX9_placeOf (a0 : Nat) (a1 : Int32) (h : Hp) : Option (Int32) :=
  h_g 9 h a0 <|
  (h_fR 9 h a0 39).bind fun x1 =>
  (h_ldL h x1 a1).bind fun x2 =>
  some ((x2 >>> ((48 : Int32).toInt64 &&& 63)).toInt32)
def MX9_paths_B47 (h2 : Hp) (a0 : Nat) (j7 : Int32 → Int32 → Option (Int32 × Hp)) (self30 : Int32 → Int32 → Int32 → Option (Int32 × Hp)) (v27 : Int32) (v28 : Int32) (v29 : Int32) : Option (Int32 × Hp) :=
  (h_fI 9 h2 a0 42).bind fun x31 =>
  if x31 ≤ v29 then (
    j7 v27 v28
  ) else (
    (h_fR 9 h2 a0 41).bind fun x32 =>
    (h_ldI h2 x32 v29).bind fun x33 =>
    jn (fun (w34 : Int32) =>
      jn (fun (w36 : Int32) =>
        self30 (v27 + w34) (v28 + w36) (v29 + (1 : Int32))
      ) fun (j37 : Int32 → Option (Int32 × Hp)) =>
      jn (
        j37 (0 : Int32)
      ) fun (j38 : Option (Int32 × Hp)) =>
      if x33 = 0 then (
        (MX9_placeOf a0 v29 h2).bind fun x39 =>
        (MX9_statements a0 h2).bind fun x40 =>
        if x39 = x40 then (
          j37 (1 : Int32)
        ) else (
          j38
        )
      ) else (
        j38
      )
    ) fun (j35 : Int32 → Option (Int32 × Hp)) =>
    if x33 ≤ 0 then (
      j35 (0 : Int32)
    ) else (
      j35 (1 : Int32)
    )
  )
def MX9_paths (fu : Nat) (a0 : Nat) (a1 : Int32) (h : Hp) : Option (Int32 × Hp) :=
  h_g 9 h a0 <|
  (MX9_isFrom a1 (0 : Int32) (6 : Int32)).bind fun x1 =>
  if x1 = 0 then (
    (MX9_refuse a0 (1 : Int32) h).bind fun p42 =>
    some (p42.1, p42.2)
  ) else (
    (MX9_laysPaths fu a0 h).bind fun h2 =>
    (h_fI 9 h2 a0 44).bind fun x3 =>
    if x3 = 0 then (
      (MX9_firstWrong fu a0 h2).bind fun x4 =>
      jn (fun (v5 : Int32) (v6 : Int32) =>
        if a1 = (0 : Int32) then (
          (h_fI 9 h2 a0 42).bind fun x8 =>
          (MX9_gives a0 x8 h2).bind fun p9 =>
          some (p9.1, p9.2)
        ) else (
        if a1 = (1 : Int32) then (
          (MX9_gives a0 v5 h2).bind fun p10 =>
          some (p10.1, p10.2)
        ) else (
        if a1 = (2 : Int32) then (
          if x4 = (-1 : Int32) then (
            (MX9_refuse a0 (5 : Int32) h2).bind fun p13 =>
            some (p13.1, p13.2)
          ) else (
            (MX9_stepsTo fu a0 x4 h2).bind fun x11 =>
            (MX9_gives a0 x11 h2).bind fun p12 =>
            some (p12.1, p12.2)
          )
        ) else (
        if a1 = (3 : Int32) then (
          if x4 = (-1 : Int32) then (
            (MX9_refuse a0 (5 : Int32) h2).bind fun p17 =>
            some (p17.1, p17.2)
          ) else (
            (h_fR 9 h2 a0 41).bind fun x14 =>
            (h_ldI h2 x14 x4).bind fun x15 =>
            (MX9_gives a0 x15 h2).bind fun p16 =>
            some (p16.1, p16.2)
          )
        ) else (
        if a1 = (4 : Int32) then (
          (MX9_checksAll fu a0 h2).bind fun h18 =>
          (h_fI 9 h18 a0 32).bind fun x19 =>
          jn (fun (w20 : Int32) =>
            (MX9_gives a0 w20 h18).bind fun p22 =>
            some (p22.1, p22.2)
          ) fun (j21 : Int32 → Option (Int32 × Hp)) =>
          jn (
            j21 (0 : Int32)
          ) fun (j23 : Option (Int32 × Hp)) =>
          if x19 ≤ 0 then (
            j23
          ) else (
            if x4 = (-1 : Int32) then (
              j21 (1 : Int32)
            ) else (
              j23
            )
          )
        ) else (
        if a1 = (5 : Int32) then (
          (h_fI 9 h2 a0 43).bind fun x24 =>
          (MX9_gives a0 x24 h2).bind fun p25 =>
          some (p25.1, p25.2)
        ) else (
        (MX9_gives a0 v6 h2).bind fun p26 =>
        some (p26.1, p26.2)
        ))))))
      ) fun (j7 : Int32 → Int32 → Option (Int32 × Hp)) =>
      wh3 (MX9_paths_B47 h2 a0 j7) fu (0 : Int32) (0 : Int32) (0 : Int32)
    ) else (
      (MX9_refuse a0 (6 : Int32) h2).bind fun p41 =>
      some (p41.1, p41.2)
    )
  )
def MX9_path_B66 (a1 : Int32) (j6 : Int32 → Option (Int32 × Hp)) (h1 : Hp) (a0 : Nat) (self11 : Int32 → Int32 → Option (Int32 × Hp)) (v9 : Int32) (v10 : Int32) : Option (Int32 × Hp) :=
  if v10 ≤ a1 then (
    j6 v9
  ) else (
    (h_fR 9 h1 a0 40).bind fun x12 =>
    (h_ldI h1 x12 v9).bind fun x13 =>
    self11 x13 (v10 + (-1 : Int32))
  )
def MX9_path (fu : Nat) (a0 : Nat) (a1 : Int32) (h : Hp) : Option (Int32 × Hp) :=
  h_g 9 h a0 <|
  if 0 ≤ a1 then (
    (MX9_laysPaths fu a0 h).bind fun h1 =>
    (h_fI 9 h1 a0 44).bind fun x2 =>
    if x2 = 0 then (
      (MX9_firstWrong fu a0 h1).bind fun x3 =>
      if x3 = (-1 : Int32) then (
        (MX9_refuse a0 (5 : Int32) h1).bind fun p15 =>
        some (p15.1, p15.2)
      ) else (
        (MX9_stepsTo fu a0 x3 h1).bind fun x4 =>
        if a1 < x4 then (
          jn (fun (v5 : Int32) =>
            (MX9_placeOf a0 v5 h1).bind fun x7 =>
            (MX9_gives a0 x7 h1).bind fun p8 =>
            some (p8.1, p8.2)
          ) fun (j6 : Int32 → Option (Int32 × Hp)) =>
          wh2 (MX9_path_B66 a1 j6 h1 a0) fu x3 (x4 - (1 : Int32))
        ) else (
          (MX9_refuse a0 (5 : Int32) h1).bind fun p14 =>
          some (p14.1, p14.2)
        )
      )
    ) else (
      (MX9_refuse a0 (6 : Int32) h1).bind fun p16 =>
      some (p16.1, p16.2)
    )
  ) else (
    (MX9_refuse a0 (1 : Int32) h).bind fun p17 =>
    some (p17.1, p17.2)
  )
def MX9_onesWith_B4 (a1 : Int32) (h : Hp) (a0 : Nat) (self3 : Int32 → Int32 → Option (Int32)) (v1 : Int32) (v2 : Int32) : Option (Int32) :=
  if (6 : Int32) ≤ v2 then (
    some v1
  ) else (
    jn (fun (w4 : Int32) =>
      self3 (v1 ||| w4) (v2 + (1 : Int32))
    ) fun (j5 : Int32 → Option (Int32)) =>
    jn (
      j5 (0 : Int32)
    ) fun (j6 : Option (Int32)) =>
    if v2 = a1 then (
      j6
    ) else (
      (h_fR 9 h a0 35).bind fun x7 =>
      (h_ldI h x7 a1).bind fun x8 =>
      if x8 = (-1 : Int32) then (
        j6
      ) else (
        (h_ldI h x7 v2).bind fun x9 =>
        if x9 = x8 then (
          j5 ((1 : Int32) <<< (v2 &&& 31))
        ) else (
          j6
        )
      )
    )
  )
def MX9_onesWith (fu : Nat) (a0 : Nat) (a1 : Int32) (h : Hp) : Option (Int32) :=
  h_g 9 h a0 <|
  wh2 (MX9_onesWith_B4 a1 h a0) fu (0 : Int32) (0 : Int32)
def MX9_truly_B77 (fu : Nat) (a0 : Nat) (j15 : Int32 → Int32 → Int32 → Int32 → Int32 → Int32 → Hp → Option (Int32 × Hp)) (a1 : Int32) (a2 : Int32) (self28 : Int32 → Int32 → Int32 → Int32 → Int32 → Int32 → Int32 → Hp → Option (Int32 × Hp)) (v20 : Int32) (v21 : Int32) (v22 : Int32) (v23 : Int32) (v24 : Int32) (v25 : Int32) (v26 : Int32) (h27 : Hp) : Option (Int32 × Hp) :=
  (h_fI 9 h27 a0 42).bind fun x29 =>
  if x29 ≤ v26 then (
    j15 v20 v21 v22 v23 v24 v25 h27
  ) else (
    (MX9_placeOf a0 v26 h27).bind fun x30 =>
    jn (fun (v31 : Int32) (v32 : Int32) (v33 : Int32) (v34 : Int32) (v35 : Int32) (v36 : Int32) (h37 : Hp) =>
      self28 v31 v32 v33 v34 v35 v36 (v26 + (1 : Int32)) h37
    ) fun (j38 : Int32 → Int32 → Int32 → Int32 → Int32 → Int32 → Hp → Option (Int32 × Hp)) =>
    if x30 = a1 then (
      (h_fR 9 h27 a0 39).bind fun x39 =>
      (h_ldL h27 x39 v26).bind fun x40 =>
      (MX9_lays fu a0 x40 h27).bind fun p41 =>
      (h_fR 9 p41.2 a0 35).bind fun x42 =>
      (h_ldI p41.2 x42 a2).bind fun x43 =>
      jn (fun (w44 : Int32) =>
        if x43 = (-1 : Int32) then (
          j38 (1 : Int32) v21 (v22 ||| w44) v23 v24 v25 p41.2
        ) else (
          (h_fR 9 p41.2 a0 37).bind fun x46 =>
          (h_ldI p41.2 x46 a2).bind fun x47 =>
          (MX9_onesWith fu a0 a2 p41.2).bind fun x48 =>
          j38 (1 : Int32) (1 : Int32) (v22 ||| w44) (v23 ||| ((1 : Int32) <<< (x47 &&& 31))) (v24 ||| x48) (v25 &&& x48) p41.2
        )
      ) fun (j45 : Int32 → Option (Int32 × Hp)) =>
      if x43 = (-1 : Int32) then (
        j45 (1 : Int32)
      ) else (
        (h_fR 9 p41.2 a0 36).bind fun x49 =>
        (h_ldI p41.2 x49 a2).bind fun x50 =>
        j45 x50
      )
    ) else (
      j38 v20 v21 v22 v23 v24 v25 h27
    )
  )
def MX9_truly (fu : Nat) (a0 : Nat) (a1 : Int32) (a2 : Int32) (a3 : Int32) (h : Hp) : Option (Int32 × Hp) :=
  h_g 9 h a0 <|
  (MX9_isFrom a3 (0 : Int32) (3 : Int32)).bind fun x1 =>
  if x1 = 0 then (
    (MX9_refuse a0 (1 : Int32) h).bind fun p52 =>
    some (p52.1, p52.2)
  ) else (
    (MX9_isPlace a0 a1 h).bind fun x2 =>
    jn (
      (MX9_refuse a0 (2 : Int32) h).bind fun p4 =>
      some (p4.1, p4.2)
    ) fun (j3 : Option (Int32 × Hp)) =>
    if x2 = 0 then (
      j3
    ) else (
      (MX9_isVariable a0 a2 h).bind fun x5 =>
      if x5 = 0 then (
        j3
      ) else (
        (MX9_laysPaths fu a0 h).bind fun h6 =>
        (h_fI 9 h6 a0 44).bind fun x7 =>
        if x7 = 0 then (
          jn (fun (v8 : Int32) (v9 : Int32) (v10 : Int32) (v11 : Int32) (v12 : Int32) (v13 : Int32) (h14 : Hp) =>
            if v8 = 0 then (
              (MX9_refuse a0 (5 : Int32) h14).bind fun p19 =>
              some (p19.1, p19.2)
            ) else (
              jn (fun (w16 : Int32) =>
                (MX9_gives a0 w16 h14).bind fun p18 =>
                some (p18.1, p18.2)
              ) fun (j17 : Int32 → Option (Int32 × Hp)) =>
              if a3 = 0 then (
                j17 v10
              ) else (
                if a3 = (1 : Int32) then (
                  j17 v11
                ) else (
                  if a3 = (2 : Int32) then (
                    j17 v12
                  ) else (
                    if v9 = 0 then (
                      j17 (0 : Int32)
                    ) else (
                      j17 v13
                    )
                  )
                )
              )
            )
          ) fun (j15 : Int32 → Int32 → Int32 → Int32 → Int32 → Int32 → Hp → Option (Int32 × Hp)) =>
          wh8 (MX9_truly_B77 fu a0 j15 a1 a2) fu (0 : Int32) (0 : Int32) (0 : Int32) (0 : Int32) (0 : Int32) (63 : Int32) (0 : Int32) h6
        ) else (
          (MX9_refuse a0 (6 : Int32) h6).bind fun p51 =>
          some (p51.1, p51.2)
        )
      )
    )
  )
def MX9_left (fu : Nat) (a0 : Nat) (a1 : Int32) (h : Hp) : Option (Int32 × Hp) :=
  h_g 9 h a0 <|
  (MX9_isKind a0 a1 h).bind fun x1 =>
  if x1 = 0 then (
    (MX9_refuse a0 (2 : Int32) h).bind fun p8 =>
    some (p8.1, p8.2)
  ) else (
    (MX9_laysPaths fu a0 h).bind fun h2 =>
    (h_fI 9 h2 a0 44).bind fun x3 =>
    if x3 = 0 then (
      (h_fR 9 h2 a0 38).bind fun x4 =>
      (h_ldI h2 x4 a1).bind fun x5 =>
      (MX9_gives a0 x5 h2).bind fun p6 =>
      some (p6.1, p6.2)
    ) else (
      (MX9_refuse a0 (6 : Int32) h2).bind fun p7 =>
      some (p7.1, p7.2)
    )
  )
def MX9_never_B47 (h1 : Hp) (a0 : Nat) (j15 : Int32 → Option (Int32 × Hp)) (v11 : Int32) (self20 : Int32 → Int32 → Option (Int32 × Hp)) (v18 : Int32) (v19 : Int32) : Option (Int32 × Hp) :=
  (h_fI 9 h1 a0 42).bind fun x21 =>
  if x21 ≤ v19 then (
    j15 v18
  ) else (
    jn (fun (w22 : Int32) =>
      self20 w22 (v19 + (1 : Int32))
    ) fun (j23 : Int32 → Option (Int32 × Hp)) =>
    jn (
      j23 (1 : Int32)
    ) fun (j24 : Option (Int32 × Hp)) =>
    if v18 = 0 then (
      (MX9_placeOf a0 v19 h1).bind fun x25 =>
      if x25 = v11 then (
        j24
      ) else (
        j23 (0 : Int32)
      )
    ) else (
      j24
    )
  )
def MX9_never_B33 (fu : Nat) (a0 : Nat) (h1 : Hp) (j4 : Int32 → Option (Int32 × Hp)) (a1 : Int32) (j8 : Int32 → Option (Int32 × Hp)) (self12 : Int32 → Int32 → Option (Int32 × Hp)) (v10 : Int32) (v11 : Int32) : Option (Int32 × Hp) :=
  (MX9_statements a0 h1).bind fun x13 =>
  if x13 ≤ v11 then (
    j4 v10
  ) else (
    jn (fun (v14 : Int32) =>
      jn (fun (v16 : Int32) =>
        self12 v16 (v11 + (1 : Int32))
      ) fun (j17 : Int32 → Option (Int32 × Hp)) =>
      if v14 = 0 then (
        if v10 = a1 then (
          j8 v11
        ) else (
          j17 (v10 + (1 : Int32))
        )
      ) else (
        j17 v10
      )
    ) fun (j15 : Int32 → Option (Int32 × Hp)) =>
    wh2 (MX9_never_B47 h1 a0 j15 v11) fu (0 : Int32) (0 : Int32)
  )
def MX9_never (fu : Nat) (a0 : Nat) (a1 : Int32) (h : Hp) : Option (Int32 × Hp) :=
  h_g 9 h a0 <|
  if (-1 : Int32) ≤ a1 then (
    (MX9_laysPaths fu a0 h).bind fun h1 =>
    (h_fI 9 h1 a0 44).bind fun x2 =>
    if x2 = 0 then (
      jn (fun (v3 : Int32) =>
        if a1 = (-1 : Int32) then (
          (MX9_gives a0 v3 h1).bind fun p6 =>
          some (p6.1, p6.2)
        ) else (
          (MX9_refuse a0 (5 : Int32) h1).bind fun p5 =>
          some (p5.1, p5.2)
        )
      ) fun (j4 : Int32 → Option (Int32 × Hp)) =>
      jn (fun (v7 : Int32) =>
        (MX9_gives a0 v7 h1).bind fun p9 =>
        some (p9.1, p9.2)
      ) fun (j8 : Int32 → Option (Int32 × Hp)) =>
      wh2 (MX9_never_B33 fu a0 h1 j4 a1 j8) fu (0 : Int32) (0 : Int32)
    ) else (
      (MX9_refuse a0 (6 : Int32) h1).bind fun p26 =>
      some (p26.1, p26.2)
    )
  ) else (
    (MX9_refuse a0 (1 : Int32) h).bind fun p27 =>
    some (p27.1, p27.2)
  )
def MX9_drawsYes (a0 : Nat) (h : Hp) : Option (Int32 × Hp) :=
  h_g 9 h a0 <|
  (h_fI 9 h a0 45).bind fun x1 =>
  (h_rem (((75 : Int32) * x1) + (74 : Int32)) (65537 : Int32)).bind fun x2 =>
  (h_pI 9 h a0 45 x2).bind fun h3 =>
  (h_fI 9 h3 a0 45).bind fun x4 =>
  (h_rem x4 (2 : Int32)).bind fun x5 =>
  if x5 = 0 then (
    some ((1 : Int32), h3)
  ) else (
    some ((0 : Int32), h3)
  )
def MX9_asksWrong (a0 : Nat) (a1 : Int32) (h : Hp) : Option (Int32) :=
  h_g 9 h a0 <|
  (h_fR 9 h a0 1).bind fun x1 =>
  (h_ldI h x1 ((373 : Int32) + a1)).bind fun x2 =>
  (h_fR 9 h a0 35).bind fun x3 =>
  (h_ldI h x3 x2).bind fun x4 =>
  if x4 = (-1 : Int32) then (
    some (1 : Int32)
  ) else (
    (h_fR 9 h a0 36).bind fun x5 =>
    (h_ldI h x5 x2).bind fun x6 =>
    if x6 = (2 : Int32) then (
      some (3 : Int32)
    ) else (
      (h_ldI h x1 ((327 : Int32) + x2)).bind fun x7 =>
      (h_ldI h x1 ((453 : Int32) + a1)).bind fun x8 =>
      (h_fR 9 h a0 37).bind fun x9 =>
      (h_ldI h x9 x2).bind fun x10 =>
      (MX9_canBe a0 x7 x8 x10 h).bind fun x11 =>
      if x11 = 0 then (
        some (4 : Int32)
      ) else (
        some (0 : Int32)
      )
    )
  )
def MX9_stands (fu : Nat) (a0 : Nat) (h : Hp) : Option (Int32 × Hp) :=
  h_g 9 h a0 <|
  (h_fI 9 h a0 48).bind fun x1 =>
  (MX9_sortAt a0 x1 h).bind fun x2 =>
  (h_fI 9 h a0 46).bind fun x3 =>
  (h_pI 9 h a0 46 (x3 + (1 : Int32))).bind fun h4 =>
  if x2 < (9 : Int32) then (
    (MX9_isAsked x2).bind fun x5 =>
    if x5 = 0 then (
      (h_fI 9 h4 a0 49).bind fun x14 =>
      (MX9_does fu a0 x1 (1 : Int32) ((7 : Int32) + x14) h4).bind fun p15 =>
      (h_fI 9 p15.2 a0 49).bind fun x16 =>
      jn (fun (w17 : Int32) =>
        (h_pI 9 p15.2 a0 49 (x16 + w17)).bind fun h19 =>
        jn (fun (w20 : Int32) =>
          (h_pI 9 h19 a0 48 w20).bind fun h22 =>
          some (p15.1, h22)
        ) fun (j21 : Int32 → Option (Int32 × Hp)) =>
        if p15.1 = 0 then (
          (MX9_byYes fu a0 x1 h19).bind fun x23 =>
          j21 x23
        ) else (
          j21 x1
        )
      ) fun (j18 : Int32 → Option (Int32 × Hp)) =>
      jn (
        j18 (0 : Int32)
      ) fun (j24 : Option (Int32 × Hp)) =>
      if x2 = 0 then (
        if p15.1 = 0 then (
          j18 (1 : Int32)
        ) else (
          j24
        )
      ) else (
        j24
      )
    ) else (
      (MX9_asksWrong a0 x1 h4).bind fun x6 =>
      if x6 ≤ 0 then (
        (MX9_drawsYes a0 h4).bind fun p7 =>
        (MX9_does fu a0 x1 p7.1 (0 : Int32) p7.2).bind fun p8 =>
        jn (fun (w9 : Int32) =>
          (h_pI 9 p8.2 a0 48 w9).bind fun h11 =>
          some (p8.1, h11)
        ) fun (j10 : Int32 → Option (Int32 × Hp)) =>
        if p7.1 = 0 then (
          (MX9_byNo fu a0 x1 p8.2).bind fun x12 =>
          j10 x12
        ) else (
          (MX9_byYes fu a0 x1 p8.2).bind fun x13 =>
          j10 x13
        )
      ) else (
        some (x6, h4)
      )
    )
  ) else (
    (MX9_drawsYes a0 h4).bind fun p25 =>
    jn (fun (w26 : Int32) =>
      (h_pI 9 p25.2 a0 48 w26).bind fun h28 =>
      some ((0 : Int32), h28)
    ) fun (j27 : Int32 → Option (Int32 × Hp)) =>
    if p25.1 = 0 then (
      (MX9_byNo fu a0 x1 p25.2).bind fun x29 =>
      j27 x29
    ) else (
      (MX9_byYes fu a0 x1 p25.2).bind fun x30 =>
      j27 x30
    )
  )
def MX9_runsBy_B36 (fu : Nat) (a0 : Nat) (j10 : Hp → Option (Hp)) (self15 : Hp → Option (Hp)) (h14 : Hp) : Option (Hp) :=
  (h_fI 9 h14 a0 47).bind fun x16 =>
  if x16 = 0 then (
    (h_fI 9 h14 a0 48).bind fun x17 =>
    (MX9_statements a0 h14).bind fun x18 =>
    if x17 = x18 then (
      j10 h14
    ) else (
      (h_fI 9 h14 a0 46).bind fun x19 =>
      jn (fun (w20 : Int32) (h21 : Hp) =>
        (h_pI 9 h21 a0 47 w20).bind fun h23 =>
        self15 h23
      ) fun (j22 : Int32 → Hp → Option (Hp)) =>
      if x19 = (300 : Int32) then (
        j22 (6 : Int32) h14
      ) else (
        (MX9_stands fu a0 h14).bind fun p24 =>
        j22 p24.1 p24.2
      )
    )
  ) else (
    j10 h14
  )
def MX9_runsBy (fu : Nat) (a0 : Nat) (a1 : Int32) (h : Hp) : Option (Hp) :=
  h_g 9 h a0 <|
  (MX9_allIn fu a0 h).bind fun h1 =>
  (MX9_empty fu a0 h1).bind fun h2 =>
  (h_pI 9 h2 a0 45 a1).bind fun h3 =>
  (h_pI 9 h3 a0 46 (0 : Int32)).bind fun h4 =>
  (h_pI 9 h4 a0 47 (0 : Int32)).bind fun h5 =>
  (h_pI 9 h5 a0 49 (0 : Int32)).bind fun h6 =>
  (MX9_firstPlace fu a0 h6).bind fun x7 =>
  (h_pI 9 h6 a0 48 x7).bind fun h8 =>
  jn (fun (h9 : Hp) =>
    (h_fI 9 h9 a0 47).bind fun x11 =>
    if x11 = 0 then (
      (MX9_finishes fu a0 h9).bind fun p12 =>
      (h_pI 9 p12.2 a0 47 p12.1).bind fun h13 =>
      some h13
    ) else (
      some h9
    )
  ) fun (j10 : Hp → Option (Hp)) =>
  wh1 (MX9_runsBy_B36 fu a0 j10) fu h8
def MX9_run (fu : Nat) (a0 : Nat) (a1 : Int32) (a2 : Int32) (h : Hp) : Option (Int32 × Hp) :=
  h_g 9 h a0 <|
  (MX9_isFrom a1 (0 : Int32) (65536 : Int32)).bind fun x1 =>
  jn (
    (MX9_refuse a0 (1 : Int32) h).bind fun p3 =>
    some (p3.1, p3.2)
  ) fun (j2 : Option (Int32 × Hp)) =>
  if x1 = 0 then (
    j2
  ) else (
    (MX9_isFrom a2 (0 : Int32) (3 : Int32)).bind fun x4 =>
    if x4 = 0 then (
      j2
    ) else (
      (MX9_runsBy fu a0 a1 h).bind fun h5 =>
      jn (fun (w6 : Int32) =>
        (MX9_gives a0 w6 h5).bind fun p8 =>
        some (p8.1, p8.2)
      ) fun (j7 : Int32 → Option (Int32 × Hp)) =>
      if a2 = 0 then (
        (h_fI 9 h5 a0 46).bind fun x12 =>
        j7 x12
      ) else (
        if a2 = (1 : Int32) then (
          (h_fI 9 h5 a0 47).bind fun x11 =>
          j7 x11
        ) else (
          if a2 = (2 : Int32) then (
            (h_fI 9 h5 a0 48).bind fun x10 =>
            j7 x10
          ) else (
            (h_fI 9 h5 a0 49).bind fun x9 =>
            j7 x9
          )
        )
      )
    )
  )
def MX9_runs_B54 (fu : Nat) (a2 : Int32) (j8 : Int32 → Hp → Option (Int32 × Hp)) (a0 : Nat) (a1 : Int32) (a3 : Int32) (self13 : Int32 → Int32 → Hp → Option (Int32 × Hp)) (v10 : Int32) (v11 : Int32) (h12 : Hp) : Option (Int32 × Hp) :=
  if a2 ≤ v11 then (
    j8 v10 h12
  ) else (
    (MX9_runsBy fu a0 (a1 + v11) h12).bind fun h14 =>
    (h_fI 9 h14 a0 47).bind fun x15 =>
    jn (fun (w16 : Int32) =>
      self13 (v10 + w16) (v11 + (1 : Int32)) h14
    ) fun (j17 : Int32 → Option (Int32 × Hp)) =>
    if x15 = a3 then (
      j17 (1 : Int32)
    ) else (
      j17 (0 : Int32)
    )
  )
def MX9_runs (fu : Nat) (a0 : Nat) (a1 : Int32) (a2 : Int32) (a3 : Int32) (h : Hp) : Option (Int32 × Hp) :=
  h_g 9 h a0 <|
  (MX9_isFrom a1 (0 : Int32) (65536 : Int32)).bind fun x1 =>
  jn (
    (MX9_refuse a0 (1 : Int32) h).bind fun p3 =>
    some (p3.1, p3.2)
  ) fun (j2 : Option (Int32 × Hp)) =>
  if x1 = 0 then (
    j2
  ) else (
    (MX9_isFrom a2 (1 : Int32) (50 : Int32)).bind fun x4 =>
    if x4 = 0 then (
      j2
    ) else (
      (MX9_isFrom a3 (0 : Int32) (6 : Int32)).bind fun x5 =>
      if x5 = 0 then (
        j2
      ) else (
        if ((a1 + a2) - (1 : Int32)) < (65537 : Int32) then (
          jn (fun (v6 : Int32) (h7 : Hp) =>
            (MX9_gives a0 v6 h7).bind fun p9 =>
            some (p9.1, p9.2)
          ) fun (j8 : Int32 → Hp → Option (Int32 × Hp)) =>
          wh3 (MX9_runs_B54 fu a2 j8 a0 a1 a3) fu (0 : Int32) (0 : Int32) h
        ) else (
          j2
        )
      )
    )
  )
