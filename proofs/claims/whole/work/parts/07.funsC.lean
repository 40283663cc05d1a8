def MX0_firstReason (a0 : Nat) (h : Hp) : Option (Int32) :=
  h_g 0 h a0 <|
  (h_fI 0 h a0 4).bind fun x1 =>
  jn (
    some (0 : Int32)
  ) fun (j2 : Option (Int32)) =>
  if x1 < 0 then (
    j2
  ) else (
    if x1 < (41 : Int32) then (
      (h_fR 0 h a0 2).bind fun x3 =>
      (h_ldI h x3 x1).bind fun x4 =>
      some x4
    ) else (
      j2
    )
  )
def MX1_begin_B10 (a0 : Nat) (self5 : Int32 → Hp → Option (Hp)) (v3 : Int32) (h4 : Hp) : Option (Hp) :=
  if (6 : Int32) ≤ v3 then (
    some h4
  ) else (
    (h_fR 1 h4 a0 0).bind fun x6 =>
    (h_stI h4 x6 ((0 : Int32) + v3) (1 : Int32)).bind fun h7 =>
    self5 (v3 + (1 : Int32)) h7
  )
def MX1_begin (fu : Nat) (a0 : Nat) (h : Hp) : Option (Hp) :=
  h_g 1 h a0 <|
  (h_fR 1 h a0 0).bind fun x1 =>
  (MJ7_fill_53178 fu x1 (0 : Int32) h).bind fun h2 =>
  wh2 (MX1_begin_B10 a0) fu (0 : Int32) h2
def MX1_copyFrom (a0 : Nat) (a1 : Nat) (h : Hp) : Option (Hp) :=
  h_g 1 h a0 <|
  (h_fR 1 h a1 0).bind fun x1 =>
  (h_fR 1 h a0 0).bind fun x2 =>
  (h_cpI h x1 (0 : Int32) x2 (0 : Int32) (24 : Int32)).bind fun h3 =>
  some h3
def MX1_meet_B4 (a0 : Nat) (a1 : Nat) (self4 : Int32 → Int32 → Hp → Option (Int32 × Hp)) (v1 : Int32) (v2 : Int32) (h3 : Hp) : Option (Int32 × Hp) :=
  if (24 : Int32) ≤ v2 then (
    (h_z v1).bind fun z5 =>
    some (z5, h3)
  ) else (
    jn (fun (w6 : Int32) =>
      (h_fR 1 h3 a0 0).bind fun x8 =>
      (h_ldI h3 x8 v2).bind fun x9 =>
      jn (fun (v10 : Int32) (h11 : Hp) =>
        self4 v10 (v2 + (1 : Int32)) h11
      ) fun (j12 : Int32 → Hp → Option (Int32 × Hp)) =>
      if w6 = x9 then (
        j12 v1 h3
      ) else (
        (h_stI h3 x8 v2 w6).bind fun h13 =>
        j12 (1 : Int32) h13
      )
    ) fun (j7 : Int32 → Option (Int32 × Hp)) =>
    if (18 : Int32) ≤ v2 then (
      (h_fR 1 h3 a0 0).bind fun x14 =>
      (h_ldI h3 x14 v2).bind fun x15 =>
      (h_fR 1 h3 a1 0).bind fun x16 =>
      (h_ldI h3 x16 v2).bind fun x17 =>
      j7 (x15 &&& x17)
    ) else (
      (h_fR 1 h3 a0 0).bind fun x18 =>
      (h_ldI h3 x18 v2).bind fun x19 =>
      (h_fR 1 h3 a1 0).bind fun x20 =>
      (h_ldI h3 x20 v2).bind fun x21 =>
      j7 (x19 ||| x21)
    )
  )
def MX1_meet (fu : Nat) (a0 : Nat) (a1 : Nat) (h : Hp) : Option (Int32 × Hp) :=
  h_g 1 h a0 <|
  wh3 (MX1_meet_B4 a0 a1) fu (0 : Int32) (0 : Int32) h
def MX0_arrive (fu : Nat) (a0 : Nat) (a1 : Int32) (h : Hp) : Option (Hp) :=
  h_g 0 h a0 <|
  (h_fR 0 h a0 1).bind fun x1 =>
  (h_ldZ h x1 a1).bind fun x2 =>
  if x2 = 0 then (
    (h_stZ h x1 a1 (1 : Int32)).bind fun h9 =>
    (h_fR 0 h9 a0 6).bind fun x10 =>
    (h_stZ h9 x10 a1 (1 : Int32)).bind fun h11 =>
    (h_fR 0 h11 a0 0).bind fun x12 =>
    (h_ldR h11 x12 a1).bind fun x13 =>
    (h_fR 0 h11 a0 7).bind fun x14 =>
    (MX1_copyFrom x13 x14 h11).bind fun h15 =>
    some h15
  ) else (
    (h_fR 0 h a0 0).bind fun x3 =>
    (h_ldR h x3 a1).bind fun x4 =>
    (h_fR 0 h a0 7).bind fun x5 =>
    (MX1_meet fu x4 x5 h).bind fun p6 =>
    if p6.1 = 0 then (
      some p6.2
    ) else (
      (h_fR 0 p6.2 a0 6).bind fun x7 =>
      (h_stZ p6.2 x7 a1 (1 : Int32)).bind fun h8 =>
      some h8
    )
  )
def MX1_letGo_B2 (j2 : Hp → Option (Hp)) (a0 : Nat) (a1 : Int32) (self13 : Int32 → Hp → Option (Hp)) (v11 : Int32) (h12 : Hp) : Option (Hp) :=
  if (6 : Int32) ≤ v11 then (
    j2 h12
  ) else (
    (h_fR 1 h12 a0 0).bind fun x14 =>
    (h_ldI h12 x14 ((12 : Int32) + v11)).bind fun x15 =>
    (h_stI h12 x14 ((12 : Int32) + v11) (x15 &&& (((1 : Int32) <<< (a1 &&& 31)) ^^^ (-1 : Int32)))).bind fun h16 =>
    (h_fR 1 h16 a0 0).bind fun x17 =>
    (h_ldI h16 x17 ((18 : Int32) + v11)).bind fun x18 =>
    (h_stI h16 x17 ((18 : Int32) + v11) (x18 &&& (((1 : Int32) <<< (a1 &&& 31)) ^^^ (-1 : Int32)))).bind fun h19 =>
    self13 (v11 + (1 : Int32)) h19
  )
def MX1_letGo (fu : Nat) (a0 : Nat) (a1 : Int32) (h : Hp) : Option (Hp) :=
  h_g 1 h a0 <|
  jn (fun (h1 : Hp) =>
    (h_fR 1 h1 a0 0).bind fun x3 =>
    (h_stI h1 x3 ((0 : Int32) + a1) (1 : Int32)).bind fun h4 =>
    (h_fR 1 h4 a0 0).bind fun x5 =>
    (h_stI h4 x5 ((6 : Int32) + a1) (0 : Int32)).bind fun h6 =>
    (h_fR 1 h6 a0 0).bind fun x7 =>
    (h_stI h6 x7 ((12 : Int32) + a1) (0 : Int32)).bind fun h8 =>
    (h_fR 1 h8 a0 0).bind fun x9 =>
    (h_stI h8 x9 ((18 : Int32) + a1) (0 : Int32)).bind fun h10 =>
    some h10
  ) fun (j2 : Hp → Option (Hp)) =>
  wh2 (MX1_letGo_B2 j2 a0 a1) fu (0 : Int32) h
def MX1_becomeLike_B56 (a0 : Nat) (a1 : Int32) (self12 : Int32 → Hp → Option (Hp)) (v10 : Int32) (h11 : Hp) : Option (Hp) :=
  if (6 : Int32) ≤ v10 then (
    some h11
  ) else (
    (h_fR 1 h11 a0 0).bind fun x13 =>
    (h_ldI h11 x13 ((12 : Int32) + v10)).bind fun x14 =>
    (h_ldI h11 x13 ((12 : Int32) + a1)).bind fun x15 =>
    (h_stI h11 x13 ((12 : Int32) + v10) (x14 ||| (((x15 >>> (v10 &&& 31)) &&& (1 : Int32)) <<< (a1 &&& 31)))).bind fun h16 =>
    (h_fR 1 h16 a0 0).bind fun x17 =>
    (h_ldI h16 x17 ((18 : Int32) + v10)).bind fun x18 =>
    (h_ldI h16 x17 ((18 : Int32) + a1)).bind fun x19 =>
    (h_stI h16 x17 ((18 : Int32) + v10) (x18 ||| (((x19 >>> (v10 &&& 31)) &&& (1 : Int32)) <<< (a1 &&& 31)))).bind fun h20 =>
    self12 (v10 + (1 : Int32)) h20
  )
def MX1_becomeLike (fu : Nat) (a0 : Nat) (a1 : Int32) (a2 : Int32) (h : Hp) : Option (Hp) :=
  h_g 1 h a0 <|
  (h_fR 1 h a0 0).bind fun x1 =>
  (h_ldI h x1 ((6 : Int32) + a2)).bind fun x2 =>
  (h_stI h x1 ((6 : Int32) + a1) x2).bind fun h3 =>
  (h_fR 1 h3 a0 0).bind fun x4 =>
  (h_ldI h3 x4 ((12 : Int32) + a2)).bind fun x5 =>
  (h_stI h3 x4 ((12 : Int32) + a1) x5).bind fun h6 =>
  (h_fR 1 h6 a0 0).bind fun x7 =>
  (h_ldI h6 x7 ((18 : Int32) + a2)).bind fun x8 =>
  (h_stI h6 x7 ((18 : Int32) + a1) x8).bind fun h9 =>
  wh2 (MX1_becomeLike_B56 a0 a1) fu (0 : Int32) h9
def MX1_makeOne (a0 : Nat) (a1 : Int32) (a2 : Int32) (h : Hp) : Option (Hp) :=
  h_g 1 h a0 <|
  (h_fR 1 h a0 0).bind fun x1 =>
  (h_ldI h x1 ((12 : Int32) + a1)).bind fun x2 =>
  (h_stI h x1 ((12 : Int32) + a1) (x2 ||| ((1 : Int32) <<< (a2 &&& 31)))).bind fun h3 =>
  (h_fR 1 h3 a0 0).bind fun x4 =>
  (h_ldI h3 x4 ((18 : Int32) + a1)).bind fun x5 =>
  (h_stI h3 x4 ((18 : Int32) + a1) (x5 ||| ((1 : Int32) <<< (a2 &&& 31)))).bind fun h6 =>
  (h_fR 1 h6 a0 0).bind fun x7 =>
  (h_ldI h6 x7 ((12 : Int32) + a2)).bind fun x8 =>
  (h_stI h6 x7 ((12 : Int32) + a2) (x8 ||| ((1 : Int32) <<< (a1 &&& 31)))).bind fun h9 =>
  (h_fR 1 h9 a0 0).bind fun x10 =>
  (h_ldI h9 x10 ((18 : Int32) + a2)).bind fun x11 =>
  (h_stI h9 x10 ((18 : Int32) + a2) (x11 ||| ((1 : Int32) <<< (a1 &&& 31)))).bind fun h12 =>
  some h12
def MX1_lookForWhole (a0 : Int32) : Option (Int32) :=
  if (a0 &&& (8 : Int32)) = 0 then (
    some a0
  ) else (
    some ((a0 &&& (-9 : Int32)) ||| (2 : Int32))
  )
def MX1_isAlone (a0 : Nat) (a1 : Int32) (h : Hp) : Option (Int32) :=
  h_g 1 h a0 <|
  (h_fR 1 h a0 0).bind fun x1 =>
  (h_ldI h x1 ((18 : Int32) + a1)).bind fun x2 =>
  if x2 = 0 then (
    some (1 : Int32)
  ) else (
    some (0 : Int32)
  )
def MX1_passJoin (fu : Nat) (a0 : Nat) (a1 : Int32) (a2 : Int32) (h : Hp) : Option (Hp) :=
  h_g 1 h a0 <|
  (MX1_letGo fu a0 a2 h).bind fun h1 =>
  (h_fR 1 h1 a0 0).bind fun x2 =>
  (h_ldI h1 x2 ((12 : Int32) + a1)).bind fun x3 =>
  if x3 = 0 then (
    (h_stI h1 x2 ((0 : Int32) + a1) (8 : Int32)).bind fun h7 =>
    some h7
  ) else (
    (MX1_isAlone a0 a1 h1).bind fun x4 =>
    if x4 = 0 then (
      some h1
    ) else (
      (h_ldI h1 x2 ((0 : Int32) + a1)).bind fun x5 =>
      (h_stI h1 x2 ((0 : Int32) + a1) (x5 ||| (8 : Int32))).bind fun h6 =>
      some h6
    )
  )
def MX2_image_B25 (h : Hp) (a0 : Nat) (a1 : Int32) (a3 : Int32) (x2 : Int32) (a4 : Int32) (a2 : Int32) (self5 : Int32 → Int32 → Option (Int32)) (v3 : Int32) (v4 : Int32) : Option (Int32) :=
  (h_fR 2 h a0 1).bind fun x6 =>
  (h_ldI h x6 a1).bind fun x7 =>
  if x7 ≤ v4 then (
    some v3
  ) else (
    jn (fun (v8 : Int32) =>
      self5 v8 (v4 + (1 : Int32))
    ) fun (j9 : Int32 → Option (Int32)) =>
    if (((a3 &&& x2) >>> (v4 &&& 31)) &&& (1 : Int32)) = 0 then (
      j9 v3
    ) else (
      jn (fun (w10 : Int32) =>
        j9 (v3 ||| ((1 : Int32) <<< (w10 &&& 31)))
      ) fun (j11 : Int32 → Option (Int32)) =>
      if a4 = 0 then (
        (h_fR 2 h a0 7).bind fun x12 =>
        (h_ldI h x12 ((((a1 * (6 : Int32)) + a2) * (6 : Int32)) + v4)).bind fun x13 =>
        j11 x13
      ) else (
        (h_fR 2 h a0 6).bind fun x14 =>
        (h_ldI h x14 ((((a1 * (6 : Int32)) + a2) * (6 : Int32)) + v4)).bind fun x15 =>
        j11 x15
      )
    )
  )
def MX2_image (fu : Nat) (a0 : Nat) (a1 : Int32) (a2 : Int32) (a3 : Int32) (a4 : Int32) (h : Hp) : Option (Int32) :=
  h_g 2 h a0 <|
  (h_fR 2 h a0 5).bind fun x1 =>
  (h_ldI h x1 ((a1 * (6 : Int32)) + a2)).bind fun x2 =>
  wh2 (MX2_image_B25 h a0 a1 a3 x2 a4 a2) fu (0 : Int32) (0 : Int32)
def MX1_ask_B41 (fu : Nat) (j8 : Hp → Option (Int32 × Hp)) (a0 : Nat) (a2 : Int32) (a1 : Nat) (x2 : Int32) (a3 : Int32) (a4 : Int32) (self13 : Int32 → Hp → Option (Int32 × Hp)) (v11 : Int32) (h12 : Hp) : Option (Int32 × Hp) :=
  if (6 : Int32) ≤ v11 then (
    j8 h12
  ) else (
    (h_fR 1 h12 a0 0).bind fun x14 =>
    (h_ldI h12 x14 ((6 : Int32) + v11)).bind fun x15 =>
    (h_ldI h12 x14 ((18 : Int32) + a2)).bind fun x16 =>
    jn (fun (h17 : Hp) =>
      self13 (v11 + (1 : Int32)) h17
    ) fun (j18 : Hp → Option (Int32 × Hp)) =>
    if ((x16 >>> (v11 &&& 31)) &&& (1 : Int32)) = 0 then (
      (h_ldI h12 x14 ((12 : Int32) + a2)).bind fun x19 =>
      if ((x19 >>> (v11 &&& 31)) &&& (1 : Int32)) = 0 then (
        j18 h12
      ) else (
        (h_fR 4 h12 a1 0).bind fun x20 =>
        (MX2_image fu x20 x2 a3 x15 a4 h12).bind fun x21 =>
        (h_stI h12 x14 ((6 : Int32) + v11) (x15 ||| x21)).bind fun h22 =>
        j18 h22
      )
    ) else (
      (h_fR 4 h12 a1 0).bind fun x23 =>
      (MX2_image fu x23 x2 a3 x15 a4 h12).bind fun x24 =>
      (h_stI h12 x14 ((6 : Int32) + v11) x24).bind fun h25 =>
      j18 h25
    )
  )
def MX1_ask (fu : Nat) (a0 : Nat) (a1 : Nat) (a2 : Int32) (a3 : Int32) (a4 : Int32) (h : Hp) : Option (Int32 × Hp) :=
  h_g 1 h a0 <|
  (h_fR 4 h a1 2).bind fun x1 =>
  (h_ldI h x1 a2).bind fun x2 =>
  (h_fR 4 h a1 0).bind fun x3 =>
  (h_fR 1 h a0 0).bind fun x4 =>
  (h_ldI h x4 ((6 : Int32) + a2)).bind fun x5 =>
  (MX2_image fu x3 x2 a3 x5 a4 h).bind fun x6 =>
  if x6 = 0 then (
    some ((0 : Int32), h)
  ) else (
    jn (fun (h7 : Hp) =>
      (h_fR 1 h7 a0 0).bind fun x9 =>
      (h_stI h7 x9 ((6 : Int32) + a2) x6).bind fun h10 =>
      some ((1 : Int32), h10)
    ) fun (j8 : Hp → Option (Int32 × Hp)) =>
    wh2 (MX1_ask_B41 fu j8 a0 a2 a1 x2 a3 a4) fu (0 : Int32) h
  )
def MX1_pass (fu : Nat) (a0 : Nat) (a1 : Nat) (a2 : Int32) (a3 : Int32) (h : Hp) : Option (Int32 × Hp) :=
  h_g 1 h a0 <|
  (h_fR 4 h a1 5).bind fun x1 =>
  (h_ldI h x1 a2).bind fun x2 =>
  (h_fR 4 h a1 6).bind fun x3 =>
  (h_ldI h x3 a2).bind fun x4 =>
  (h_fR 4 h a1 4).bind fun x5 =>
  (h_ldI h x5 a2).bind fun x6 =>
  jn (
    (h_fR 4 h a1 7).bind fun x8 =>
    (h_ldI h x8 a2).bind fun x9 =>
    (MX1_ask fu a0 a1 x2 x9 a3 h).bind fun p10 =>
    (h_z p10.1).bind fun z11 =>
    some (z11, p10.2)
  ) fun (j7 : Option (Int32 × Hp)) =>
  if x6 = (0 : Int32) then (
    (MX1_letGo fu a0 x2 h).bind fun h12 =>
    (h_fR 1 h12 a0 0).bind fun x13 =>
    (h_stI h12 x13 ((0 : Int32) + x2) (8 : Int32)).bind fun h14 =>
    (h_fR 1 h14 a0 0).bind fun x15 =>
    (h_stI h14 x15 ((6 : Int32) + x2) (1 : Int32)).bind fun h16 =>
    some ((1 : Int32), h16)
  ) else (
  if x6 = (1 : Int32) then (
    (MX1_letGo fu a0 x2 h).bind fun h17 =>
    (MX1_becomeLike fu a0 x2 x4 h17).bind fun h18 =>
    (h_fR 1 h18 a0 0).bind fun x19 =>
    (h_ldI h18 x19 ((0 : Int32) + x4)).bind fun x20 =>
    (h_stI h18 x19 ((0 : Int32) + x2) x20).bind fun h21 =>
    (MX1_letGo fu a0 x4 h21).bind fun h22 =>
    some ((1 : Int32), h22)
  ) else (
  if x6 = (2 : Int32) then (
    (MX1_letGo fu a0 x2 h).bind fun h23 =>
    (MX1_becomeLike fu a0 x2 x4 h23).bind fun h24 =>
    (MX1_makeOne a0 x2 x4 h24).bind fun h25 =>
    (h_fR 1 h25 a0 0).bind fun x26 =>
    (h_ldI h25 x26 ((0 : Int32) + x4)).bind fun x27 =>
    (h_stI h25 x26 ((0 : Int32) + x4) ((4 : Int32) ||| (x27 &&& (1 : Int32)))).bind fun h28 =>
    (h_fR 1 h28 a0 0).bind fun x29 =>
    (h_ldI h28 x29 ((0 : Int32) + x4)).bind fun x30 =>
    (h_stI h28 x29 ((0 : Int32) + x2) x30).bind fun h31 =>
    some ((1 : Int32), h31)
  ) else (
  if x6 = (3 : Int32) then (
    (MX1_letGo fu a0 x2 h).bind fun h32 =>
    (MX1_becomeLike fu a0 x2 x4 h32).bind fun h33 =>
    (MX1_makeOne a0 x2 x4 h33).bind fun h34 =>
    (h_fR 1 h34 a0 0).bind fun x35 =>
    (h_ldI h34 x35 ((0 : Int32) + x4)).bind fun x36 =>
    (h_stI h34 x35 ((0 : Int32) + x2) ((2 : Int32) ||| (x36 &&& (1 : Int32)))).bind fun h37 =>
    (h_fR 1 h37 a0 0).bind fun x38 =>
    (h_ldI h37 x38 ((0 : Int32) + x4)).bind fun x39 =>
    (MX1_lookForWhole x39).bind fun x40 =>
    (h_stI h37 x38 ((0 : Int32) + x4) x40).bind fun h41 =>
    some ((1 : Int32), h41)
  ) else (
  if x6 = (4 : Int32) then (
    (MX1_passJoin fu a0 x2 x4 h).bind fun h42 =>
    some ((1 : Int32), h42)
  ) else (
  if x6 = (5 : Int32) then (
    (MX1_letGo fu a0 x2 h).bind fun h43 =>
    some ((1 : Int32), h43)
  ) else (
  if x6 = (6 : Int32) then (
    j7
  ) else (
  if x6 = (7 : Int32) then (
    j7
  ) else (
  if x6 = (8 : Int32) then (
    j7
  ) else (
  some ((1 : Int32), h)
  )))))))))
def MX0_goOn (fu : Nat) (a0 : Nat) (a1 : Nat) (a2 : Int32) (a3 : Int32) (h : Hp) : Option (Hp) :=
  h_g 0 h a0 <|
  (h_fR 0 h a0 7).bind fun x1 =>
  (h_fR 0 h a0 0).bind fun x2 =>
  (h_ldR h x2 a2).bind fun x3 =>
  (MX1_copyFrom x1 x3 h).bind fun h4 =>
  if a3 = 0 then (
    (h_fR 0 h4 a0 7).bind fun x5 =>
    (MX1_pass fu x5 a1 a2 (1 : Int32) h4).bind fun p6 =>
    jn (fun (h7 : Hp) =>
      (h_fR 4 h7 a1 14).bind fun x9 =>
      (h_ldI h7 x9 a2).bind fun x10 =>
      if x10 = (-1 : Int32) then (
        some h7
      ) else (
        (h_fR 0 h7 a0 7).bind fun x11 =>
        (h_fR 0 h7 a0 0).bind fun x12 =>
        (h_ldR h7 x12 a2).bind fun x13 =>
        (MX1_copyFrom x11 x13 h7).bind fun h14 =>
        (h_fR 0 h14 a0 7).bind fun x15 =>
        (MX1_pass fu x15 a1 a2 (0 : Int32) h14).bind fun p16 =>
        if p16.1 = 0 then (
          some p16.2
        ) else (
          (h_fR 4 p16.2 a1 14).bind fun x17 =>
          (h_ldI p16.2 x17 a2).bind fun x18 =>
          (MX0_arrive fu a0 x18 p16.2).bind fun h19 =>
          some h19
        )
      )
    ) fun (j8 : Hp → Option (Hp)) =>
    if p6.1 = 0 then (
      j8 p6.2
    ) else (
      (h_fR 4 p6.2 a1 13).bind fun x20 =>
      (h_ldI p6.2 x20 a2).bind fun x21 =>
      (MX0_arrive fu a0 x21 p6.2).bind fun h22 =>
      j8 h22
    )
  ) else (
    (h_fR 4 h4 a1 12).bind fun x23 =>
    (h_ldI h4 x23 a2).bind fun x24 =>
    (MX0_arrive fu a0 x24 h4).bind fun h25 =>
    some h25
  )
def MX1_inNoEnd (a0 : Nat) (a1 : Nat) (a2 : Int32) (h : Hp) : Option (Int32) :=
  h_g 1 h a0 <|
  (h_fR 1 h a0 0).bind fun x1 =>
  (h_ldI h x1 ((6 : Int32) + a2)).bind fun x2 =>
  (h_fR 4 h a1 0).bind fun x3 =>
  (h_fR 2 h x3 2).bind fun x4 =>
  (h_fR 4 h a1 2).bind fun x5 =>
  (h_ldI h x5 a2).bind fun x6 =>
  (h_ldI h x4 x6).bind fun x7 =>
  if (x2 &&& (x7 ^^^ (-1 : Int32))) = 0 then (
    some (0 : Int32)
  ) else (
    some (1 : Int32)
  )
def MX1_reasonAtEnd_B2 (h : Hp) (a1 : Nat) (a0 : Nat) (self2 : Int32 → Option (Int32)) (v1 : Int32) : Option (Int32) :=
  (h_fI 4 h a1 1).bind fun x3 =>
  if x3 ≤ v1 then (
    some (0 : Int32)
  ) else (
    (MX1_inNoEnd a0 a1 v1 h).bind fun x4 =>
    if x4 = 0 then (
      self2 (v1 + (1 : Int32))
    ) else (
      some (5 : Int32)
    )
  )
def MX1_reasonAtEnd (fu : Nat) (a0 : Nat) (a1 : Nat) (h : Hp) : Option (Int32) :=
  h_g 1 h a0 <|
  wh1 (MX1_reasonAtEnd_B2 h a1 a0) fu (0 : Int32)
def MX1_mayHold (a0 : Nat) (a1 : Int32) (h : Hp) : Option (Int32) :=
  h_g 1 h a0 <|
  (h_fR 1 h a0 0).bind fun x1 =>
  (h_ldI h x1 ((0 : Int32) + a1)).bind fun x2 =>
  if (x2 &&& (-2 : Int32)) = 0 then (
    some (0 : Int32)
  ) else (
    some (1 : Int32)
  )
def MX1_mayLack (a0 : Nat) (a1 : Int32) (h : Hp) : Option (Int32) :=
  h_g 1 h a0 <|
  (h_fR 1 h a0 0).bind fun x1 =>
  (h_ldI h x1 ((0 : Int32) + a1)).bind fun x2 =>
  if (x2 &&& (1 : Int32)) = 0 then (
    some (0 : Int32)
  ) else (
    some (1 : Int32)
  )
def MX1_reasonOfHow (a0 : Nat) (a1 : Int32) (h : Hp) : Option (Int32) :=
  h_g 1 h a0 <|
  (h_fR 1 h a0 0).bind fun x1 =>
  (h_ldI h x1 ((0 : Int32) + a1)).bind fun x2 =>
  if (x2 &&& (2 : Int32)) = 0 then (
    some (0 : Int32)
  ) else (
    some (3 : Int32)
  )
def MX1_reasonOfJoin (a0 : Nat) (a1 : Int32) (a2 : Int32) (h : Hp) : Option (Int32) :=
  h_g 1 h a0 <|
  (h_fR 1 h a0 0).bind fun x1 =>
  (h_ldI h x1 ((18 : Int32) + a1)).bind fun x2 =>
  if ((x2 >>> (a2 &&& 31)) &&& (1 : Int32)) = 0 then (
    some (2 : Int32)
  ) else (
    some (0 : Int32)
  )
def MX1_reasonOfDrop (a0 : Nat) (a1 : Nat) (a2 : Int32) (h : Hp) : Option (Int32) :=
  h_g 1 h a0 <|
  (MX1_isAlone a0 a2 h).bind fun x1 =>
  jn (
    some (0 : Int32)
  ) fun (j2 : Option (Int32)) =>
  if x1 = 0 then (
    j2
  ) else (
    (MX1_inNoEnd a0 a1 a2 h).bind fun x3 =>
    if x3 = 0 then (
      j2
    ) else (
      some (5 : Int32)
    )
  )
def MX2_sortOf (a0 : Nat) (a1 : Int32) (a2 : Int32) (h : Hp) : Option (Int32) :=
  h_g 2 h a0 <|
  (h_fR 2 h a0 4).bind fun x1 =>
  (h_ldI h x1 ((a1 * (6 : Int32)) + a2)).bind fun x2 =>
  some x2
def MX2_statesOf (a0 : Nat) (a1 : Int32) (a2 : Int32) (h : Hp) : Option (Int32) :=
  h_g 2 h a0 <|
  (h_fR 2 h a0 5).bind fun x1 =>
  (h_ldI h x1 ((a1 * (6 : Int32)) + a2)).bind fun x2 =>
  some x2
def MX1_reasonOfAsking (a0 : Nat) (a1 : Nat) (a2 : Int32) (a3 : Int32) (h : Hp) : Option (Int32) :=
  h_g 1 h a0 <|
  (h_fR 4 h a1 2).bind fun x1 =>
  (h_ldI h x1 a2).bind fun x2 =>
  (h_fR 4 h a1 0).bind fun x3 =>
  (MX2_sortOf x3 x2 a3 h).bind fun x4 =>
  jn (
    (h_fR 1 h a0 0).bind fun x6 =>
    (h_ldI h x6 ((6 : Int32) + a2)).bind fun x7 =>
    (MX2_statesOf x3 x2 a3 h).bind fun x8 =>
    if (x7 &&& (x8 ^^^ (-1 : Int32))) = 0 then (
      some (0 : Int32)
    ) else (
      some (4 : Int32)
    )
  ) fun (j5 : Option (Int32)) =>
  if x4 = (2 : Int32) then (
    j5
  ) else (
    (MX1_reasonOfHow a0 a2 h).bind fun x9 =>
    if x9 = 0 then (
      j5
    ) else (
      some (3 : Int32)
    )
  )
def MX1_reasonAt (fu : Nat) (a0 : Nat) (a1 : Nat) (a2 : Int32) (h : Hp) : Option (Int32) :=
  h_g 1 h a0 <|
  (h_fI 4 h a1 3).bind fun x1 =>
  if a2 < x1 then (
    (h_fR 4 h a1 5).bind fun x2 =>
    (h_ldI h x2 a2).bind fun x3 =>
    (h_fR 4 h a1 6).bind fun x4 =>
    (h_ldI h x4 a2).bind fun x5 =>
    (h_fR 4 h a1 4).bind fun x6 =>
    (h_ldI h x6 a2).bind fun x7 =>
    jn (
      (MX1_mayHold a0 x3 h).bind fun x9 =>
      jn (
        some (1 : Int32)
      ) fun (j10 : Option (Int32)) =>
      if x9 = 0 then (
        (MX1_mayLack a0 x5 h).bind fun x11 =>
        if x11 = 0 then (
          some (0 : Int32)
        ) else (
          j10
        )
      ) else (
        j10
      )
    ) fun (j8 : Option (Int32)) =>
    jn (
      (MX1_mayLack a0 x3 h).bind fun x13 =>
      if x13 = 0 then (
        (h_fR 4 h a1 7).bind fun x14 =>
        (h_ldI h x14 a2).bind fun x15 =>
        (MX1_reasonOfAsking a0 a1 x3 x15 h).bind fun x16 =>
        some x16
      ) else (
        some (1 : Int32)
      )
    ) fun (j12 : Option (Int32)) =>
    if x7 = (0 : Int32) then (
      (MX1_mayHold a0 x3 h).bind fun x17 =>
      if x17 = 0 then (
        some (0 : Int32)
      ) else (
        some (1 : Int32)
      )
    ) else (
    if x7 = (1 : Int32) then (
      j8
    ) else (
    if x7 = (2 : Int32) then (
      (MX1_mayHold a0 x3 h).bind fun x18 =>
      jn (
        some (1 : Int32)
      ) fun (j19 : Option (Int32)) =>
      if x18 = 0 then (
        (MX1_mayLack a0 x5 h).bind fun x20 =>
        if x20 = 0 then (
          (MX1_reasonOfHow a0 x5 h).bind fun x21 =>
          some x21
        ) else (
          j19
        )
      ) else (
        j19
      )
    ) else (
    if x7 = (3 : Int32) then (
      j8
    ) else (
    if x7 = (4 : Int32) then (
      (MX1_mayLack a0 x3 h).bind fun x22 =>
      jn (
        some (1 : Int32)
      ) fun (j23 : Option (Int32)) =>
      if x22 = 0 then (
        (MX1_mayLack a0 x5 h).bind fun x24 =>
        if x24 = 0 then (
          (MX1_reasonOfJoin a0 x3 x5 h).bind fun x25 =>
          some x25
        ) else (
          j23
        )
      ) else (
        j23
      )
    ) else (
    if x7 = (5 : Int32) then (
      (MX1_mayLack a0 x3 h).bind fun x26 =>
      if x26 = 0 then (
        (MX1_reasonOfDrop a0 a1 x3 h).bind fun x27 =>
        some x27
      ) else (
        some (1 : Int32)
      )
    ) else (
    if x7 = (6 : Int32) then (
      j12
    ) else (
    if x7 = (7 : Int32) then (
      j12
    ) else (
    if x7 = (8 : Int32) then (
      j12
    ) else (
    some (0 : Int32)
    )))))))))
  ) else (
    (MX1_reasonAtEnd fu a0 a1 h).bind fun x28 =>
    some x28
  )
def MX0_judge_B17 (fu : Nat) (a1 : Nat) (a0 : Nat) (a2 : Int32) (self6 : Int32 → Hp → Option (Hp)) (v4 : Int32) (h5 : Hp) : Option (Hp) :=
  (h_fI 4 h5 a1 3).bind fun x7 =>
  if x7 < v4 then (
    some h5
  ) else (
    (h_fR 0 h5 a0 1).bind fun x8 =>
    (h_ldZ h5 x8 v4).bind fun x9 =>
    jn (fun (h10 : Hp) =>
      self6 (v4 + (1 : Int32)) h10
    ) fun (j11 : Hp → Option (Hp)) =>
    if x9 = 0 then (
      j11 h5
    ) else (
      (h_fI 0 h5 a0 5).bind fun x12 =>
      (h_pI 0 h5 a0 5 (x12 + (1 : Int32))).bind fun h13 =>
      (h_fR 0 h13 a0 2).bind fun x14 =>
      jn (fun (w15 : Int32) =>
        (h_stI h13 x14 v4 w15).bind fun h17 =>
        (h_fR 0 h17 a0 2).bind fun x18 =>
        (h_ldI h17 x18 v4).bind fun x19 =>
        if x19 = 0 then (
          j11 h17
        ) else (
          (h_fI 0 h17 a0 3).bind fun x20 =>
          (h_pI 0 h17 a0 3 (x20 + (1 : Int32))).bind fun h21 =>
          (h_fI 0 h21 a0 4).bind fun x22 =>
          jn (fun (w23 : Int32) =>
            (h_pI 0 h21 a0 4 w23).bind fun h25 =>
            j11 h25
          ) fun (j24 : Int32 → Option (Hp)) =>
          if x22 = (-1 : Int32) then (
            j24 v4
          ) else (
            j24 x22
          )
        )
      ) fun (j16 : Int32 → Option (Hp)) =>
      if v4 = a2 then (
        j16 (0 : Int32)
      ) else (
        (h_fR 0 h13 a0 0).bind fun x26 =>
        (h_ldR h13 x26 v4).bind fun x27 =>
        (MX1_reasonAt fu x27 a1 v4 h13).bind fun x28 =>
        j16 x28
      )
    )
  )
def MX0_judge (fu : Nat) (a0 : Nat) (a1 : Nat) (a2 : Int32) (h : Hp) : Option (Hp) :=
  h_g 0 h a0 <|
  (h_pI 0 h a0 3 (0 : Int32)).bind fun h1 =>
  (h_pI 0 h1 a0 4 (-1 : Int32)).bind fun h2 =>
  (h_pI 0 h2 a0 5 (0 : Int32)).bind fun h3 =>
  wh2 (MX0_judge_B17 fu a1 a0 a2) fu (0 : Int32) h3
def MX0_solve_B70 (fu : Nat) (a1 : Nat) (j17 : Int32 → Hp → Option (Hp)) (a0 : Nat) (a2 : Int32) (self21 : Int32 → Int32 → Hp → Option (Hp)) (v18 : Int32) (v19 : Int32) (h20 : Hp) : Option (Hp) :=
  (h_fI 4 h20 a1 3).bind fun x22 =>
  if x22 ≤ v19 then (
    j17 v18 h20
  ) else (
    (h_fR 0 h20 a0 6).bind fun x23 =>
    (h_ldZ h20 x23 v19).bind fun x24 =>
    jn (fun (v25 : Int32) (h26 : Hp) =>
      self21 v25 (v19 + (1 : Int32)) h26
    ) fun (j27 : Int32 → Hp → Option (Hp)) =>
    if x24 = 0 then (
      j27 v18 h20
    ) else (
      (h_stZ h20 x23 v19 (0 : Int32)).bind fun h28 =>
      jn (fun (w29 : Int32) =>
        (MX0_goOn fu a0 a1 v19 w29 h28).bind fun h31 =>
        j27 (1 : Int32) h31
      ) fun (j30 : Int32 → Option (Hp)) =>
      if v19 = a2 then (
        j30 (1 : Int32)
      ) else (
        j30 (0 : Int32)
      )
    )
  )
def MX0_solve_B53 (fu : Nat) (j9 : Hp → Option (Hp)) (a1 : Nat) (a0 : Nat) (a2 : Int32) (self14 : Int32 → Int32 → Hp → Option (Hp)) (v11 : Int32) (v12 : Int32) (h13 : Hp) : Option (Hp) :=
  if v11 = 0 then (
    j9 h13
  ) else (
    if (10000 : Int32) ≤ v12 then (
      j9 h13
    ) else (
      jn (fun (v15 : Int32) (h16 : Hp) =>
        self14 v15 (v12 + (1 : Int32)) h16
      ) fun (j17 : Int32 → Hp → Option (Hp)) =>
      wh3 (MX0_solve_B70 fu a1 j17 a0 a2) fu (0 : Int32) (0 : Int32) h13
    )
  )
def MX0_solve_B10 (j4 : Hp → Option (Hp)) (a0 : Nat) (self34 : Int32 → Hp → Option (Hp)) (v32 : Int32) (h33 : Hp) : Option (Hp) :=
  if (41 : Int32) ≤ v32 then (
    j4 h33
  ) else (
    (h_fR 0 h33 a0 1).bind fun x35 =>
    (h_stZ h33 x35 v32 (0 : Int32)).bind fun h36 =>
    (h_fR 0 h36 a0 6).bind fun x37 =>
    (h_stZ h36 x37 v32 (0 : Int32)).bind fun h38 =>
    self34 (v32 + (1 : Int32)) h38
  )
def MX0_solve (fu : Nat) (a0 : Nat) (a1 : Nat) (a2 : Int32) (h : Hp) : Option (Hp) :=
  h_g 0 h a0 <|
  (h_fR 0 h a0 2).bind fun x1 =>
  (MJ7_fill_53178 fu x1 (0 : Int32) h).bind fun h2 =>
  jn (fun (h3 : Hp) =>
    (h_fR 0 h3 a0 7).bind fun x5 =>
    (MX1_begin fu x5 h3).bind fun h6 =>
    (MX0_arrive fu a0 (0 : Int32) h6).bind fun h7 =>
    jn (fun (h8 : Hp) =>
      (MX0_judge fu a0 a1 a2 h8).bind fun h10 =>
      some h10
    ) fun (j9 : Hp → Option (Hp)) =>
    wh3 (MX0_solve_B53 fu j9 a1 a0 a2) fu (1 : Int32) (0 : Int32) h7
  ) fun (j4 : Hp → Option (Hp)) =>
  wh2 (MX0_solve_B10 j4 a0) fu (0 : Int32) h2
def MX1_part (a0 : Nat) (a1 : Int32) (a2 : Int32) (h : Hp) : Option (Int32) :=
  h_g 1 h a0 <|
  (h_fR 1 h a0 0).bind fun x1 =>
  (h_ldI h x1 ((a1 * (6 : Int32)) + a2)).bind fun x2 =>
  some x2
def MX1_states (a0 : Nat) (a1 : Int32) (h : Hp) : Option (Int32) :=
  h_g 1 h a0 <|
  (h_fR 1 h a0 0).bind fun x1 =>
  (h_ldI h x1 ((6 : Int32) + a1)).bind fun x2 =>
  some x2
def MX1_things_B4 (a1 : Int32) (h : Hp) (a0 : Nat) (self3 : Int32 → Int32 → Option (Int32)) (v1 : Int32) (v2 : Int32) : Option (Int32) :=
  if a1 ≤ v2 then (
    some v1
  ) else (
    (h_fR 1 h a0 0).bind fun x4 =>
    (h_ldI h x4 ((18 : Int32) + v2)).bind fun x5 =>
    jn (fun (w6 : Int32) =>
      (h_ldI h x4 ((0 : Int32) + v2)).bind fun x8 =>
      jn (fun (v9 : Int32) =>
        self3 v9 (v2 + (1 : Int32))
      ) fun (j10 : Int32 → Option (Int32)) =>
      if x8 = (1 : Int32) then (
        j10 v1
      ) else (
        if w6 = 0 then (
          j10 v1
        ) else (
          j10 (v1 + (1 : Int32))
        )
      )
    ) fun (j7 : Int32 → Option (Int32)) =>
    if (x5 &&& (((1 : Int32) <<< (v2 &&& 31)) - (1 : Int32))) = 0 then (
      j7 (1 : Int32)
    ) else (
      j7 (0 : Int32)
    )
  )
def MX1_things (fu : Nat) (a0 : Nat) (a1 : Int32) (h : Hp) : Option (Int32) :=
  h_g 1 h a0 <|
  wh2 (MX1_things_B4 a1 h a0) fu (0 : Int32) (0 : Int32)
def MX1_lowestBit (a0 : Int32) : Option (Int32) :=
  if a0 = 0 then (
    some (0 : Int32)
  ) else (
    (MJ6_numberOfTrailingZeros_0f7a4 a0).bind fun x1 =>
    some x1
  )
def MX1_key_B6 (h : Hp) (a0 : Nat) (self3 : Int64 → Int32 → Option (Int64)) (v1 : Int64) (v2 : Int32) : Option (Int64) :=
  if (6 : Int32) ≤ v2 then (
    some v1
  ) else (
    (h_fR 1 h a0 0).bind fun x4 =>
    (h_ldI h x4 ((0 : Int32) + v2)).bind fun x5 =>
    (MX1_lowestBit x5).bind fun x6 =>
    (h_ldI h x4 ((6 : Int32) + v2)).bind fun x7 =>
    (MX1_lowestBit x7).bind fun x8 =>
    (h_ldI h x4 ((18 : Int32) + v2)).bind fun x9 =>
    (MX1_lowestBit (x9 ||| ((1 : Int32) <<< (v2 &&& 31)))).bind fun x10 =>
    self3 ((((v1 <<< ((8 : Int32).toInt64 &&& 63)) ||| ((x6 <<< ((6 : Int32) &&& 31)).toInt64)) ||| ((x8 <<< ((3 : Int32) &&& 31)).toInt64)) ||| x10.toInt64) (v2 + (1 : Int32))
  )
def MX1_key (fu : Nat) (a0 : Nat) (a1 : Int32) (h : Hp) : Option (Int64) :=
  h_g 1 h a0 <|
  wh2 (MX1_key_B6 h a0) fu a1.toInt64 (0 : Int32)
def MX1_placeOf (a0 : Int64) : Option (Int32) :=
  some ((a0 >>> ((48 : Int32).toInt64 &&& 63)).toInt32)
def MX1_keyPart (a0 : Int64) (a2 : Int32) : Option (Int32) :=
  some (((a0 >>> (((8 : Int32) * ((5 : Int32) - a2)).toInt64 &&& 63)).toInt32) &&& (255 : Int32))
def MX1_setFrom_B67 (v2 : Int32) (j13 : Hp → Option (Hp)) (a1 : Int64) (x5 : Int32) (a0 : Nat) (self16 : Int32 → Hp → Option (Hp)) (v14 : Int32) (h15 : Hp) : Option (Hp) :=
  if v2 ≤ v14 then (
    j13 h15
  ) else (
    (MX1_keyPart a1 v14).bind fun x17 =>
    jn (fun (h18 : Hp) =>
      self16 (v14 + (1 : Int32)) h18
    ) fun (j19 : Hp → Option (Hp)) =>
    if (x17 &&& (7 : Int32)) = (x5 &&& (7 : Int32)) then (
      (MX1_makeOne a0 v2 v14 h15).bind fun h20 =>
      j19 h20
    ) else (
      j19 h15
    )
  )
def MX1_setFrom_B6 (fu : Nat) (a1 : Int64) (a0 : Nat) (self4 : Int32 → Hp → Option (Hp)) (v2 : Int32) (h3 : Hp) : Option (Hp) :=
  if (6 : Int32) ≤ v2 then (
    some h3
  ) else (
    (MX1_keyPart a1 v2).bind fun x5 =>
    (h_fR 1 h3 a0 0).bind fun x6 =>
    (h_stI h3 x6 ((0 : Int32) + v2) ((1 : Int32) <<< ((x5 >>> ((6 : Int32) &&& 31)) &&& 31))).bind fun h7 =>
    (h_fR 1 h7 a0 0).bind fun x8 =>
    (h_ldI h7 x8 ((0 : Int32) + v2)).bind fun x9 =>
    jn (fun (h10 : Hp) =>
      jn (fun (h12 : Hp) =>
        self4 (v2 + (1 : Int32)) h12
      ) fun (j13 : Hp → Option (Hp)) =>
      wh2 (MX1_setFrom_B67 v2 j13 a1 x5 a0) fu (0 : Int32) h10
    ) fun (j11 : Hp → Option (Hp)) =>
    if x9 = (1 : Int32) then (
      j11 h7
    ) else (
      (h_stI h7 x8 ((6 : Int32) + v2) ((1 : Int32) <<< (((x5 >>> ((3 : Int32) &&& 31)) &&& (7 : Int32)) &&& 31))).bind fun h21 =>
      j11 h21
    )
  )
def MX1_setFrom (fu : Nat) (a0 : Nat) (a1 : Int64) (h : Hp) : Option (Hp) :=
  h_g 1 h a0 <|
  (MX1_begin fu a0 h).bind fun h1 =>
  wh2 (MX1_setFrom_B6 fu a1 a0) fu (0 : Int32) h1
def MX2_hasKind (a0 : Nat) (a1 : Int32) (h : Hp) : Option (Int32) :=
  h_g 2 h a0 <|
  jn (
    some (0 : Int32)
  ) fun (j1 : Option (Int32)) =>
  if a1 < 0 then (
    j1
  ) else (
    (h_fI 2 h a0 0).bind fun x2 =>
    if x2 ≤ a1 then (
      j1
    ) else (
      some (1 : Int32)
    )
  )
def MX2_hasState (a0 : Nat) (a1 : Int32) (a2 : Int32) (h : Hp) : Option (Int32) :=
  h_g 2 h a0 <|
  (MX2_hasKind a0 a1 h).bind fun x1 =>
  jn (
    some (0 : Int32)
  ) fun (j2 : Option (Int32)) =>
  if x1 = 0 then (
    j2
  ) else (
    if a2 < 0 then (
      j2
    ) else (
      (h_fR 2 h a0 1).bind fun x3 =>
      (h_ldI h x3 a1).bind fun x4 =>
      if x4 ≤ a2 then (
        j2
      ) else (
        some (1 : Int32)
      )
    )
  )
def MX2_hasMethod (a0 : Nat) (a1 : Int32) (a2 : Int32) (h : Hp) : Option (Int32) :=
  h_g 2 h a0 <|
  (MX2_hasKind a0 a1 h).bind fun x1 =>
  jn (
    some (0 : Int32)
  ) fun (j2 : Option (Int32)) =>
  if x1 = 0 then (
    j2
  ) else (
    if a2 < 0 then (
      j2
    ) else (
      (h_fR 2 h a0 3).bind fun x3 =>
      (h_ldI h x3 a1).bind fun x4 =>
      if x4 ≤ a2 then (
        j2
      ) else (
        some (1 : Int32)
      )
    )
  )
def MX2_addKind (a0 : Nat) (h : Hp) : Option (Int32 × Hp) :=
  h_g 2 h a0 <|
  (h_fI 2 h a0 0).bind fun x1 =>
  (h_fR 2 h a0 1).bind fun x2 =>
  (h_stI h x2 x1 (0 : Int32)).bind fun h3 =>
  (h_fR 2 h3 a0 2).bind fun x4 =>
  (h_stI h3 x4 x1 (0 : Int32)).bind fun h5 =>
  (h_fR 2 h5 a0 3).bind fun x6 =>
  (h_stI h5 x6 x1 (0 : Int32)).bind fun h7 =>
  (h_fI 2 h7 a0 0).bind fun x8 =>
  (h_pI 2 h7 a0 0 (x8 + (1 : Int32))).bind fun h9 =>
  some (x1, h9)
def MX2_addMethod (a0 : Nat) (a1 : Int32) (a2 : Int32) (h : Hp) : Option (Int32 × Hp) :=
  h_g 2 h a0 <|
  (h_fR 2 h a0 3).bind fun x1 =>
  (h_ldI h x1 a1).bind fun x2 =>
  (h_fR 2 h a0 4).bind fun x3 =>
  (h_stI h x3 ((a1 * (6 : Int32)) + x2) a2).bind fun h4 =>
  (h_fR 2 h4 a0 5).bind fun x5 =>
  (h_stI h4 x5 ((a1 * (6 : Int32)) + x2) (0 : Int32)).bind fun h6 =>
  (h_fR 2 h6 a0 3).bind fun x7 =>
  (h_ldI h6 x7 a1).bind fun x8 =>
  (h_stI h6 x7 a1 (x8 + (1 : Int32))).bind fun h9 =>
  some (x2, h9)
def MX2_canBe (a0 : Nat) (a1 : Int32) (a2 : Int32) (a3 : Int32) (h : Hp) : Option (Int32) :=
  h_g 2 h a0 <|
  (h_fR 2 h a0 5).bind fun x1 =>
  (h_ldI h x1 ((a1 * (6 : Int32)) + a2)).bind fun x2 =>
  if ((x2 >>> (a3 &&& 31)) &&& (1 : Int32)) = 0 then (
    some (0 : Int32)
  ) else (
    some (1 : Int32)
  )
def MX2_following (a0 : Nat) (a1 : Int32) (a2 : Int32) (a3 : Int32) (a4 : Int32) (h : Hp) : Option (Int32) :=
  h_g 2 h a0 <|
  (MX2_canBe a0 a1 a2 a3 h).bind fun x1 =>
  if x1 = 0 then (
    some (-1 : Int32)
  ) else (
    if a4 = 0 then (
      (h_fR 2 h a0 7).bind fun x2 =>
      (h_ldI h x2 ((((a1 * (6 : Int32)) + a2) * (6 : Int32)) + a3)).bind fun x3 =>
      some x3
    ) else (
      (h_fR 2 h a0 6).bind fun x4 =>
      (h_ldI h x4 ((((a1 * (6 : Int32)) + a2) * (6 : Int32)) + a3)).bind fun x5 =>
      some x5
    )
  )
def MX2_allow (a0 : Nat) (a1 : Int32) (a2 : Int32) (a3 : Int32) (a4 : Int32) (a5 : Int32) (h : Hp) : Option (Hp) :=
  h_g 2 h a0 <|
  (h_fR 2 h a0 5).bind fun x1 =>
  (h_ldI h x1 ((a1 * (6 : Int32)) + a2)).bind fun x2 =>
  (h_stI h x1 ((a1 * (6 : Int32)) + a2) (x2 ||| ((1 : Int32) <<< (a3 &&& 31)))).bind fun h3 =>
  (h_fR 2 h3 a0 6).bind fun x4 =>
  (h_stI h3 x4 ((((a1 * (6 : Int32)) + a2) * (6 : Int32)) + a3) a4).bind fun h5 =>
  (h_fR 2 h5 a0 7).bind fun x6 =>
  (h_stI h5 x6 ((((a1 * (6 : Int32)) + a2) * (6 : Int32)) + a3) a5).bind fun h7 =>
  some h7
def MX2_change (a0 : Nat) (a1 : Int32) (a2 : Int32) (a3 : Int32) (a4 : Int32) (a5 : Int32) (h : Hp) : Option (Hp) :=
  h_g 2 h a0 <|
  if a5 = (-1 : Int32) then (
    (h_fR 2 h a0 5).bind fun x15 =>
    (h_ldI h x15 ((a1 * (6 : Int32)) + a2)).bind fun x16 =>
    (h_stI h x15 ((a1 * (6 : Int32)) + a2) (x16 &&& (((1 : Int32) <<< (a3 &&& 31)) ^^^ (-1 : Int32)))).bind fun h17 =>
    some h17
  ) else (
    (MX2_sortOf a0 a1 a2 h).bind fun x1 =>
    jn (fun (w2 : Int32) =>
      jn (fun (w4 : Int32) =>
        jn (fun (w6 : Int32) =>
          (MX2_allow a0 a1 a2 a3 w4 w6 h).bind fun h8 =>
          some h8
        ) fun (j7 : Int32 → Option (Hp)) =>
        jn (
          j7 a5
        ) fun (j9 : Option (Hp)) =>
        if w2 = 0 then (
          if a4 = 0 then (
            j9
          ) else (
            (MX2_following a0 a1 a2 a3 (0 : Int32) h).bind fun x10 =>
            j7 x10
          )
        ) else (
          j9
        )
      ) fun (j5 : Int32 → Option (Hp)) =>
      jn (
        j5 a5
      ) fun (j11 : Option (Hp)) =>
      if w2 = 0 then (
        if a4 = 0 then (
          (MX2_following a0 a1 a2 a3 (1 : Int32) h).bind fun x12 =>
          j5 x12
        ) else (
          j11
        )
      ) else (
        j11
      )
    ) fun (j3 : Int32 → Option (Hp)) =>
    jn (
      j3 (1 : Int32)
    ) fun (j13 : Option (Hp)) =>
    if x1 = (1 : Int32) then (
      (MX2_canBe a0 a1 a2 a3 h).bind fun x14 =>
      if x14 = 0 then (
        j13
      ) else (
        j3 (0 : Int32)
      )
    ) else (
      j13
    )
  )
def MX2_reachable_B13 (fu : Nat) (h : Hp) (a0 : Nat) (a1 : Int32) (j5 : Int32 → Option (Int32)) (self8 : Int32 → Int32 → Option (Int32)) (v6 : Int32) (v7 : Int32) : Option (Int32) :=
  (h_fR 2 h a0 3).bind fun x9 =>
  (h_ldI h x9 a1).bind fun x10 =>
  if x10 ≤ v7 then (
    j5 v6
  ) else (
    (MX2_image fu a0 a1 v7 v6 (1 : Int32) h).bind fun x11 =>
    (MX2_image fu a0 a1 v7 v6 (0 : Int32) h).bind fun x12 =>
    self8 (v6 ||| (x11 ||| x12)) (v7 + (1 : Int32))
  )
def MX2_reachable_B4 (fu : Nat) (h : Hp) (a0 : Nat) (a1 : Int32) (self3 : Int32 → Int32 → Option (Int32)) (v1 : Int32) (v2 : Int32) : Option (Int32) :=
  if (6 : Int32) ≤ v2 then (
    some v1
  ) else (
    jn (fun (v4 : Int32) =>
      self3 v4 (v2 + (1 : Int32))
    ) fun (j5 : Int32 → Option (Int32)) =>
    wh2 (MX2_reachable_B13 fu h a0 a1 j5) fu v1 (0 : Int32)
  )
def MX2_reachable (fu : Nat) (a0 : Nat) (a1 : Int32) (h : Hp) : Option (Int32) :=
  h_g 2 h a0 <|
  wh2 (MX2_reachable_B4 fu h a0 a1) fu (1 : Int32) (0 : Int32)
def MX2_methodTo_B3 (h : Hp) (a0 : Nat) (a1 : Int32) (a2 : Int32) (a3 : Int32) (self2 : Int32 → Option (Int32)) (v1 : Int32) : Option (Int32) :=
  (h_fR 2 h a0 3).bind fun x3 =>
  (h_ldI h x3 a1).bind fun x4 =>
  if x4 ≤ v1 then (
    some (-1 : Int32)
  ) else (
    (MX2_canBe a0 a1 v1 a2 h).bind fun x5 =>
    jn (
      self2 (v1 + (1 : Int32))
    ) fun (j6 : Option (Int32)) =>
    if x5 = 0 then (
      j6
    ) else (
      (h_fR 2 h a0 8).bind fun x7 =>
      (MX2_following a0 a1 v1 a2 (1 : Int32) h).bind fun x8 =>
      (h_ldI h x7 x8).bind fun x9 =>
      if x9 = a3 then (
        some v1
      ) else (
        (MX2_following a0 a1 v1 a2 (0 : Int32) h).bind fun x10 =>
        (h_ldI h x7 x10).bind fun x11 =>
        if x11 = a3 then (
          some v1
        ) else (
          j6
        )
      )
    )
  )
def MX2_methodTo (fu : Nat) (a0 : Nat) (a1 : Int32) (a2 : Int32) (a3 : Int32) (h : Hp) : Option (Int32) :=
  h_g 2 h a0 <|
  wh1 (MX2_methodTo_B3 h a0 a1 a2 a3) fu (0 : Int32)
def MX2_measureSteps_B56 (fu : Nat) (a0 : Nat) (a1 : Int32) (j9 : Hp → Option (Hp)) (v3 : Int32) (self12 : Int32 → Hp → Option (Hp)) (v10 : Int32) (h11 : Hp) : Option (Hp) :=
  (h_fR 2 h11 a0 1).bind fun x13 =>
  (h_ldI h11 x13 a1).bind fun x14 =>
  if x14 ≤ v10 then (
    j9 h11
  ) else (
    (h_fR 2 h11 a0 8).bind fun x15 =>
    (h_ldI h11 x15 v10).bind fun x16 =>
    jn (fun (h17 : Hp) =>
      self12 (v10 + (1 : Int32)) h17
    ) fun (j18 : Hp → Option (Hp)) =>
    if x16 = (-1 : Int32) then (
      (MX2_methodTo fu a0 a1 v10 (v3 - (1 : Int32)) h11).bind fun x19 =>
      if x19 = (-1 : Int32) then (
        j18 h11
      ) else (
        (h_stI h11 x15 v10 v3).bind fun h20 =>
        j18 h20
      )
    ) else (
      j18 h11
    )
  )
def MX2_measureSteps_B44 (fu : Nat) (a0 : Nat) (a1 : Int32) (self5 : Int32 → Hp → Option (Hp)) (v3 : Int32) (h4 : Hp) : Option (Hp) :=
  (h_fR 2 h4 a0 1).bind fun x6 =>
  (h_ldI h4 x6 a1).bind fun x7 =>
  if x7 ≤ v3 then (
    some h4
  ) else (
    jn (fun (h8 : Hp) =>
      self5 (v3 + (1 : Int32)) h8
    ) fun (j9 : Hp → Option (Hp)) =>
    wh2 (MX2_measureSteps_B56 fu a0 a1 j9 v3) fu (0 : Int32) h4
  )
def MX2_measureSteps_B2 (a0 : Nat) (a1 : Int32) (j2 : Hp → Option (Hp)) (self23 : Int32 → Hp → Option (Hp)) (v21 : Int32) (h22 : Hp) : Option (Hp) :=
  (h_fR 2 h22 a0 1).bind fun x24 =>
  (h_ldI h22 x24 a1).bind fun x25 =>
  if x25 ≤ v21 then (
    j2 h22
  ) else (
    (h_fR 2 h22 a0 8).bind fun x26 =>
    (h_fR 2 h22 a0 2).bind fun x27 =>
    (h_ldI h22 x27 a1).bind fun x28 =>
    jn (fun (w29 : Int32) =>
      (h_stI h22 x26 v21 w29).bind fun h31 =>
      self23 (v21 + (1 : Int32)) h31
    ) fun (j30 : Int32 → Option (Hp)) =>
    if ((x28 >>> (v21 &&& 31)) &&& (1 : Int32)) = 0 then (
      j30 (-1 : Int32)
    ) else (
      j30 (0 : Int32)
    )
  )
def MX2_measureSteps (fu : Nat) (a0 : Nat) (a1 : Int32) (h : Hp) : Option (Hp) :=
  h_g 2 h a0 <|
  jn (fun (h1 : Hp) =>
    wh2 (MX2_measureSteps_B44 fu a0 a1) fu (1 : Int32) h1
  ) fun (j2 : Hp → Option (Hp)) =>
  wh2 (MX2_measureSteps_B2 a0 a1 j2) fu (0 : Int32) h
def MX2_hopeless_B9 (h1 : Hp) (a0 : Nat) (a1 : Int32) (self4 : Int32 → Int32 → Option (Int32 × Hp)) (v2 : Int32) (v3 : Int32) : Option (Int32 × Hp) :=
  (h_fR 2 h1 a0 1).bind fun x5 =>
  (h_ldI h1 x5 a1).bind fun x6 =>
  if x6 ≤ v3 then (
    some (v2, h1)
  ) else (
    (h_fR 2 h1 a0 8).bind fun x7 =>
    (h_ldI h1 x7 v3).bind fun x8 =>
    jn (fun (v9 : Int32) =>
      self4 v9 (v3 + (1 : Int32))
    ) fun (j10 : Int32 → Option (Int32 × Hp)) =>
    if x8 = (-1 : Int32) then (
      j10 (v2 ||| ((1 : Int32) <<< (v3 &&& 31)))
    ) else (
      j10 v2
    )
  )
def MX2_hopeless (fu : Nat) (a0 : Nat) (a1 : Int32) (h : Hp) : Option (Int32 × Hp) :=
  h_g 2 h a0 <|
  (MX2_measureSteps fu a0 a1 h).bind fun h1 =>
  wh2 (MX2_hopeless_B9 h1 a0 a1) fu (0 : Int32) (0 : Int32)
def MX2_stepsToEnd (fu : Nat) (a0 : Nat) (a1 : Int32) (a2 : Int32) (h : Hp) : Option (Int32 × Hp) :=
  h_g 2 h a0 <|
  (MX2_measureSteps fu a0 a1 h).bind fun h1 =>
  (h_fR 2 h1 a0 8).bind fun x2 =>
  (h_ldI h1 x2 a2).bind fun x3 =>
  some (x3, h1)
def MX2_comeUnlike (a0 : Nat) (a1 : Int32) (a2 : Int32) (a3 : Int32) (a4 : Int32) (a5 : Int32) (h : Hp) : Option (Int32) :=
  h_g 2 h a0 <|
  (h_fR 2 h a0 9).bind fun x1 =>
  (MX2_following a0 a1 a2 a3 a5 h).bind fun x2 =>
  (h_ldI h x1 x2).bind fun x3 =>
  (MX2_following a0 a1 a2 a4 a5 h).bind fun x4 =>
  if ((x3 >>> (x4 &&& 31)) &&& (1 : Int32)) = 0 then (
    some (1 : Int32)
  ) else (
    some (0 : Int32)
  )
def MX2_differ_B28 (h : Hp) (a0 : Nat) (a1 : Int32) (a2 : Int32) (a3 : Int32) (self4 : Int32 → Option (Int32)) (v3 : Int32) : Option (Int32) :=
  (h_fR 2 h a0 3).bind fun x5 =>
  (h_ldI h x5 a1).bind fun x6 =>
  if x6 ≤ v3 then (
    some (0 : Int32)
  ) else (
    (MX2_canBe a0 a1 v3 a2 h).bind fun x7 =>
    (MX2_canBe a0 a1 v3 a3 h).bind fun x8 =>
    if x7 = x8 then (
      jn (
        self4 (v3 + (1 : Int32))
      ) fun (j9 : Option (Int32)) =>
      if x7 = 0 then (
        j9
      ) else (
        (MX2_comeUnlike a0 a1 v3 a2 a3 (1 : Int32) h).bind fun x10 =>
        if x10 = 0 then (
          (MX2_comeUnlike a0 a1 v3 a2 a3 (0 : Int32) h).bind fun x11 =>
          if x11 = 0 then (
            j9
          ) else (
            some (1 : Int32)
          )
        ) else (
          some (1 : Int32)
        )
      )
    ) else (
      some (1 : Int32)
    )
  )
def MX2_differ (fu : Nat) (a0 : Nat) (a1 : Int32) (a2 : Int32) (a3 : Int32) (h : Hp) : Option (Int32) :=
  h_g 2 h a0 <|
  (h_fR 2 h a0 2).bind fun x1 =>
  (h_ldI h x1 a1).bind fun x2 =>
  if ((x2 >>> (a2 &&& 31)) &&& (1 : Int32)) = ((x2 >>> (a3 &&& 31)) &&& (1 : Int32)) then (
    wh1 (MX2_differ_B28 h a0 a1 a2 a3) fu (0 : Int32)
  ) else (
    some (1 : Int32)
  )
def MX2_partUnlike_B17 (fu : Nat) (a0 : Nat) (a1 : Int32) (j10 : Int32 → Hp → Option (Int32 × Hp)) (v2 : Int32) (self14 : Int32 → Int32 → Hp → Option (Int32 × Hp)) (v11 : Int32) (v12 : Int32) (h13 : Hp) : Option (Int32 × Hp) :=
  (h_fR 2 h13 a0 1).bind fun x15 =>
  (h_ldI h13 x15 a1).bind fun x16 =>
  if x16 ≤ v12 then (
    j10 v11 h13
  ) else (
    (h_fR 2 h13 a0 9).bind fun x17 =>
    (h_ldI h13 x17 v2).bind fun x18 =>
    jn (fun (v19 : Int32) (h20 : Hp) =>
      self14 v19 (v12 + (1 : Int32)) h20
    ) fun (j21 : Int32 → Hp → Option (Int32 × Hp)) =>
    if ((x18 >>> (v12 &&& 31)) &&& (1 : Int32)) = 0 then (
      j21 v11 h13
    ) else (
      (MX2_differ fu a0 a1 v2 v12 h13).bind fun x22 =>
      if x22 = 0 then (
        j21 v11 h13
      ) else (
        (h_stI h13 x17 v2 (x18 &&& (((1 : Int32) <<< (v12 &&& 31)) ^^^ (-1 : Int32)))).bind fun h23 =>
        j21 (1 : Int32) h23
      )
    )
  )
def MX2_partUnlike_B4 (fu : Nat) (a0 : Nat) (a1 : Int32) (self4 : Int32 → Int32 → Hp → Option (Int32 × Hp)) (v1 : Int32) (v2 : Int32) (h3 : Hp) : Option (Int32 × Hp) :=
  (h_fR 2 h3 a0 1).bind fun x5 =>
  (h_ldI h3 x5 a1).bind fun x6 =>
  if x6 ≤ v2 then (
    (h_z v1).bind fun z7 =>
    some (z7, h3)
  ) else (
    jn (fun (v8 : Int32) (h9 : Hp) =>
      self4 v8 (v2 + (1 : Int32)) h9
    ) fun (j10 : Int32 → Hp → Option (Int32 × Hp)) =>
    wh3 (MX2_partUnlike_B17 fu a0 a1 j10 v2) fu v1 (0 : Int32) h3
  )
def MX2_partUnlike (fu : Nat) (a0 : Nat) (a1 : Int32) (h : Hp) : Option (Int32 × Hp) :=
  h_g 2 h a0 <|
  wh3 (MX2_partUnlike_B4 fu a0 a1) fu (0 : Int32) (0 : Int32) h
def MX2_areAlike_B43 (fu : Nat) (j4 : Hp → Option (Int32 × Hp)) (a0 : Nat) (a1 : Int32) (self10 : Int32 → Int32 → Hp → Option (Int32 × Hp)) (v7 : Int32) (v8 : Int32) (h9 : Hp) : Option (Int32 × Hp) :=
  if v7 = 0 then (
    j4 h9
  ) else (
    if (36 : Int32) < v8 then (
      j4 h9
    ) else (
      (MX2_partUnlike fu a0 a1 h9).bind fun p11 =>
      self10 p11.1 (v8 + (1 : Int32)) p11.2
    )
  )
def MX2_areAlike_B3 (a0 : Nat) (a1 : Int32) (j2 : Hp → Option (Int32 × Hp)) (self14 : Int32 → Hp → Option (Int32 × Hp)) (v12 : Int32) (h13 : Hp) : Option (Int32 × Hp) :=
  (h_fR 2 h13 a0 1).bind fun x15 =>
  (h_ldI h13 x15 a1).bind fun x16 =>
  if x16 ≤ v12 then (
    j2 h13
  ) else (
    (h_fR 2 h13 a0 9).bind fun x17 =>
    (h_stI h13 x17 v12 (((1 : Int32) <<< (x16 &&& 31)) - (1 : Int32))).bind fun h18 =>
    self14 (v12 + (1 : Int32)) h18
  )
def MX2_areAlike (fu : Nat) (a0 : Nat) (a1 : Int32) (a2 : Int32) (a3 : Int32) (h : Hp) : Option (Int32 × Hp) :=
  h_g 2 h a0 <|
  jn (fun (h1 : Hp) =>
    jn (fun (h3 : Hp) =>
      (h_fR 2 h3 a0 9).bind fun x5 =>
      (h_ldI h3 x5 a2).bind fun x6 =>
      if ((x6 >>> (a3 &&& 31)) &&& (1 : Int32)) = 0 then (
        some ((0 : Int32), h3)
      ) else (
        some ((1 : Int32), h3)
      )
    ) fun (j4 : Hp → Option (Int32 × Hp)) =>
    wh3 (MX2_areAlike_B43 fu j4 a0 a1) fu (1 : Int32) (0 : Int32) h1
  ) fun (j2 : Hp → Option (Int32 × Hp)) =>
  wh2 (MX2_areAlike_B3 a0 a1 j2) fu (0 : Int32) h
def MX2_lengthenWays_B110 (a0 : Nat) (self7 : Int32 → Hp → Option (Hp)) (v5 : Int32) (h6 : Hp) : Option (Hp) :=
  if (6 : Int32) ≤ v5 then (
    some h6
  ) else (
    (h_fR 2 h6 a0 10).bind fun x8 =>
    (h_fR 2 h6 a0 11).bind fun x9 =>
    (h_ldL h6 x9 v5).bind fun x10 =>
    (h_reml x10 (1000000007 : Int64)).bind fun x11 =>
    (h_stL h6 x8 v5 x11).bind fun h12 =>
    self7 (v5 + (1 : Int32)) h12
  )
def MX2_lengthenWays_B22 (a0 : Nat) (a1 : Int32) (j19 : Hp → Option (Hp)) (v13 : Int32) (self22 : Int32 → Hp → Option (Hp)) (v20 : Int32) (h21 : Hp) : Option (Hp) :=
  (h_fR 2 h21 a0 1).bind fun x23 =>
  (h_ldI h21 x23 a1).bind fun x24 =>
  if x24 ≤ v20 then (
    j19 h21
  ) else (
    (MX2_canBe a0 a1 v13 v20 h21).bind fun x25 =>
    jn (fun (h26 : Hp) =>
      self22 (v20 + (1 : Int32)) h26
    ) fun (j27 : Hp → Option (Hp)) =>
    if x25 = 0 then (
      j27 h21
    ) else (
      (h_fR 2 h21 a0 11).bind fun x28 =>
      (MX2_following a0 a1 v13 v20 (1 : Int32) h21).bind fun x29 =>
      (h_ldL h21 x28 x29).bind fun x30 =>
      (h_fR 2 h21 a0 10).bind fun x31 =>
      (h_ldL h21 x31 v20).bind fun x32 =>
      (h_stL h21 x28 x29 (x30 + x32)).bind fun h33 =>
      (MX2_sortOf a0 a1 v13 h33).bind fun x34 =>
      if x34 = (1 : Int32) then (
        (h_fR 2 h33 a0 11).bind fun x35 =>
        (MX2_following a0 a1 v13 v20 (0 : Int32) h33).bind fun x36 =>
        (h_ldL h33 x35 x36).bind fun x37 =>
        (h_fR 2 h33 a0 10).bind fun x38 =>
        (h_ldL h33 x38 v20).bind fun x39 =>
        (h_stL h33 x35 x36 (x37 + x39)).bind fun h40 =>
        j27 h40
      ) else (
        j27 h33
      )
    )
  )
def MX2_lengthenWays_B10 (fu : Nat) (a0 : Nat) (a1 : Int32) (j4 : Hp → Option (Hp)) (self15 : Int32 → Hp → Option (Hp)) (v13 : Int32) (h14 : Hp) : Option (Hp) :=
  (h_fR 2 h14 a0 3).bind fun x16 =>
  (h_ldI h14 x16 a1).bind fun x17 =>
  if x17 ≤ v13 then (
    j4 h14
  ) else (
    jn (fun (h18 : Hp) =>
      self15 (v13 + (1 : Int32)) h18
    ) fun (j19 : Hp → Option (Hp)) =>
    wh2 (MX2_lengthenWays_B22 a0 a1 j19 v13) fu (0 : Int32) h14
  )
def MX2_lengthenWays (fu : Nat) (a0 : Nat) (a1 : Int32) (h : Hp) : Option (Hp) :=
  h_g 2 h a0 <|
  (h_fR 2 h a0 11).bind fun x1 =>
  (MJ7_fill_d0a16 fu x1 (0 : Int64) h).bind fun h2 =>
  jn (fun (h3 : Hp) =>
    wh2 (MX2_lengthenWays_B110 a0) fu (0 : Int32) h3
  ) fun (j4 : Hp → Option (Hp)) =>
  wh2 (MX2_lengthenWays_B10 fu a0 a1 j4) fu (0 : Int32) h2
def MX2_countRows_B41 (h5 : Hp) (a0 : Nat) (a1 : Int32) (j8 : Int64 → Option (Int32 × Hp)) (a3 : Int32) (self12 : Int64 → Int32 → Option (Int32 × Hp)) (v10 : Int64) (v11 : Int32) : Option (Int32 × Hp) :=
  (h_fR 2 h5 a0 1).bind fun x13 =>
  (h_ldI h5 x13 a1).bind fun x14 =>
  if x14 ≤ v11 then (
    j8 v10
  ) else (
    jn (fun (v15 : Int64) =>
      self12 v15 (v11 + (1 : Int32))
    ) fun (j16 : Int64 → Option (Int32 × Hp)) =>
    jn (
      (h_fR 2 h5 a0 10).bind fun x18 =>
      (h_ldL h5 x18 v11).bind fun x19 =>
      j16 (v10 + x19)
    ) fun (j17 : Option (Int32 × Hp)) =>
    if a3 = 0 then (
      j17
    ) else (
      (h_fR 2 h5 a0 2).bind fun x20 =>
      (h_ldI h5 x20 a1).bind fun x21 =>
      if ((x21 >>> (v11 &&& 31)) &&& (1 : Int32)) = 0 then (
        j16 v10
      ) else (
        j17
      )
    )
  )
def MX2_countRows_B18 (fu : Nat) (a2 : Int32) (j6 : Hp → Option (Int32 × Hp)) (a0 : Nat) (a1 : Int32) (self24 : Int32 → Hp → Option (Int32 × Hp)) (v22 : Int32) (h23 : Hp) : Option (Int32 × Hp) :=
  if a2 ≤ v22 then (
    j6 h23
  ) else (
    (MX2_lengthenWays fu a0 a1 h23).bind fun h25 =>
    self24 (v22 + (1 : Int32)) h25
  )
def MX2_countRows (fu : Nat) (a0 : Nat) (a1 : Int32) (a2 : Int32) (a3 : Int32) (h : Hp) : Option (Int32 × Hp) :=
  h_g 2 h a0 <|
  (h_fR 2 h a0 10).bind fun x1 =>
  (MJ7_fill_d0a16 fu x1 (0 : Int64) h).bind fun h2 =>
  (h_fR 2 h2 a0 10).bind fun x3 =>
  (h_stL h2 x3 (0 : Int32) (1 : Int64)).bind fun h4 =>
  jn (fun (h5 : Hp) =>
    jn (fun (v7 : Int64) =>
      (h_reml v7 (1000000007 : Int64)).bind fun x9 =>
      some (x9.toInt32, h5)
    ) fun (j8 : Int64 → Option (Int32 × Hp)) =>
    wh2 (MX2_countRows_B41 h5 a0 a1 j8 a3) fu (0 : Int64) (0 : Int32)
  ) fun (j6 : Hp → Option (Int32 × Hp)) =>
  wh2 (MX2_countRows_B18 fu a2 j6 a0 a1) fu (0 : Int32) h4
def MX3_handOver (a0 : Nat) (a1 : Nat) (h : Hp) : Option (Nat × Hp) :=
  h_g 3 h a0 <|
  (h_fR 3 h a0 3).bind fun x1 =>
  (h_pR 3 h a0 3 a1).bind fun h2 =>
  some (x1, h2)
def MX4_empty (a0 : Nat) (h : Hp) : Option (Hp) :=
  h_g 4 h a0 <|
  (h_fR 4 h a0 0).bind fun x1 =>
  (h_pI 2 h x1 0 (0 : Int32)).bind fun h2 =>
  (h_pI 4 h2 a0 1 (0 : Int32)).bind fun h3 =>
  (h_pI 4 h3 a0 3 (0 : Int32)).bind fun h4 =>
  some h4
def MX7_takeWord_B126 (a0 : Nat) (self11 : Int32 → Hp → Option (Hp)) (v9 : Int32) (h10 : Hp) : Option (Hp) :=
  if (18 : Int32) ≤ v9 then (
    some h10
  ) else (
    (h_fI 7 h10 a0 2).bind fun x12 =>
    if x12 = (18 : Int32) then (
      (h_fR 7 h10 a0 7).bind fun x13 =>
      (h_ldL h10 x13 v9).bind fun x14 =>
      (h_fL 7 h10 a0 3).bind fun x15 =>
      jn (fun (h16 : Hp) =>
        self11 (v9 + (1 : Int32)) h16
      ) fun (j17 : Hp → Option (Hp)) =>
      if (lg_cmp x14 x15) = 0 then (
        (h_pI 7 h10 a0 2 v9).bind fun h18 =>
        j17 h18
      ) else (
        j17 h10
      )
    ) else (
      some h10
    )
  )
def MX7_takeWord_B5 (a0 : Nat) (j3 : Hp → Option (Hp)) (self20 : Hp → Option (Hp)) (h19 : Hp) : Option (Hp) :=
  (h_fI 7 h19 a0 5).bind fun x21 =>
  (h_fI 7 h19 a0 4).bind fun x22 =>
  if x22 ≤ x21 then (
    j3 h19
  ) else (
    (h_fR 7 h19 a0 6).bind fun x23 =>
    (h_ldB h19 x23 x21).bind fun x24 =>
    if x24 < (97 : Int32) then (
      j3 h19
    ) else (
      if (122 : Int32) < x24 then (
        j3 h19
      ) else (
        (h_fI 7 h19 a0 1).bind fun x25 =>
        jn (fun (h26 : Hp) =>
          (h_fI 7 h26 a0 5).bind fun x28 =>
          (h_pI 7 h26 a0 5 (x28 + (1 : Int32))).bind fun h29 =>
          self20 h29
        ) fun (j27 : Hp → Option (Hp)) =>
        if (8 : Int32) ≤ (x21 - x25) then (
          j27 h19
        ) else (
          (h_fL 7 h19 a0 3).bind fun x30 =>
          (h_pL 7 h19 a0 3 ((x30 * (32 : Int64)) + (((x24 - (97 : Int32)) + (1 : Int32)).toInt64))).bind fun h31 =>
          j27 h31
        )
      )
    )
  )
def MX7_takeWord (fu : Nat) (a0 : Nat) (h : Hp) : Option (Hp) :=
  h_g 7 h a0 <|
  (h_pL 7 h a0 3 (0 : Int64)).bind fun h1 =>
  jn (fun (h2 : Hp) =>
    (h_fI 7 h2 a0 5).bind fun x4 =>
    (h_fI 7 h2 a0 1).bind fun x5 =>
    jn (fun (w6 : Int32) =>
      (h_pI 7 h2 a0 2 w6).bind fun h8 =>
      wh2 (MX7_takeWord_B126 a0) fu (0 : Int32) h8
    ) fun (j7 : Int32 → Option (Hp)) =>
    if (x4 - x5) ≤ (8 : Int32) then (
      j7 (18 : Int32)
    ) else (
      j7 (23 : Int32)
    )
  ) fun (j3 : Hp → Option (Hp)) =>
  wh1 (MX7_takeWord_B5 a0 j3) fu h1
def MX7_signSort (a0 : Int32) : Option (Int32) :=
  if a0 = (59 : Int32) then (
    some (19 : Int32)
  ) else (
  if a0 = (123 : Int32) then (
    some (20 : Int32)
  ) else (
  if a0 = (125 : Int32) then (
    some (21 : Int32)
  ) else (
  some (23 : Int32)
  )))
def MX7_advance_B0 (a0 : Nat) (j2 : Hp → Option (Hp)) (self18 : Hp → Option (Hp)) (h17 : Hp) : Option (Hp) :=
  (h_fI 7 h17 a0 5).bind fun x19 =>
  (h_fI 7 h17 a0 4).bind fun x20 =>
  if x20 ≤ x19 then (
    j2 h17
  ) else (
    (h_fR 7 h17 a0 6).bind fun x21 =>
    (h_ldB h17 x21 x19).bind fun x22 =>
    jn (
      (h_pI 7 h17 a0 5 (x19 + (1 : Int32))).bind fun h24 =>
      self18 h24
    ) fun (j23 : Option (Hp)) =>
    if x22 = (32 : Int32) then (
      j23
    ) else (
      if x22 = (10 : Int32) then (
        j23
      ) else (
        j2 h17
      )
    )
  )
def MX7_advance (fu : Nat) (a0 : Nat) (h : Hp) : Option (Hp) :=
  h_g 7 h a0 <|
  jn (fun (h1 : Hp) =>
    (h_fI 7 h1 a0 5).bind fun x3 =>
    (h_pI 7 h1 a0 1 x3).bind fun h4 =>
    (h_fI 7 h4 a0 5).bind fun x5 =>
    (h_fI 7 h4 a0 4).bind fun x6 =>
    if x5 < x6 then (
      (MX7_takeWord fu a0 h4).bind fun h7 =>
      (h_fI 7 h7 a0 5).bind fun x8 =>
      (h_fI 7 h7 a0 1).bind fun x9 =>
      if x8 = x9 then (
        (h_fR 7 h7 a0 6).bind fun x10 =>
        (h_ldB h7 x10 x8).bind fun x11 =>
        (MX7_signSort x11).bind fun x12 =>
        (h_pI 7 h7 a0 2 x12).bind fun h13 =>
        (h_fI 7 h13 a0 5).bind fun x14 =>
        (h_pI 7 h13 a0 5 (x14 + (1 : Int32))).bind fun h15 =>
        some h15
      ) else (
        some h7
      )
    ) else (
      (h_pI 7 h4 a0 2 (22 : Int32)).bind fun h16 =>
      some h16
    )
  ) fun (j2 : Hp → Option (Hp)) =>
  wh1 (MX7_advance_B0 a0 j2) fu h
def MX7_open (fu : Nat) (a0 : Nat) (a1 : Int32) (h : Hp) : Option (Hp) :=
  h_g 7 h a0 <|
  (h_pI 7 h a0 4 a1).bind fun h1 =>
  (h_pI 7 h1 a0 5 (0 : Int32)).bind fun h2 =>
  (h_pI 7 h2 a0 0 (0 : Int32)).bind fun h3 =>
  (MX7_advance fu a0 h3).bind fun h4 =>
  some h4
def MX3_atTheEnd (a0 : Nat) (h : Hp) : Option (Int32) :=
  h_g 3 h a0 <|
  (h_fR 3 h a0 0).bind fun x1 =>
  (h_fI 7 h x1 2).bind fun x2 =>
  jn (
    some (0 : Int32)
  ) fun (j3 : Option (Int32)) =>
  if x2 = (22 : Int32) then (
    (h_fI 3 h a0 10).bind fun x4 =>
    if x4 = 0 then (
      some (1 : Int32)
    ) else (
      j3
    )
  ) else (
    j3
  )
def MX3_fail (a0 : Nat) (a1 : Int32) (h : Hp) : Option (Int32 × Hp) :=
  h_g 3 h a0 <|
  (h_fR 3 h a0 0).bind fun x1 =>
  (h_fI 7 h x1 2).bind fun x2 =>
  jn (fun (w3 : Int32) =>
    (h_pI 3 h a0 1 w3).bind fun h5 =>
    (h_fR 3 h5 a0 0).bind fun x6 =>
    (h_fI 7 h5 x6 1).bind fun x7 =>
    (h_pI 3 h5 a0 2 x7).bind fun h8 =>
    some ((0 : Int32), h8)
  ) fun (j4 : Int32 → Option (Int32 × Hp)) =>
  if x2 = (23 : Int32) then (
    j4 (1 : Int32)
  ) else (
    j4 a1
  )
def MX4_addStatement (a0 : Nat) (a1 : Int32) (a2 : Int32) (a3 : Int32) (h : Hp) : Option (Int32 × Hp) :=
  h_g 4 h a0 <|
  (h_fI 4 h a0 3).bind fun x1 =>
  (h_fR 4 h a0 4).bind fun x2 =>
  (h_stI h x2 x1 a1).bind fun h3 =>
  (h_fR 4 h3 a0 5).bind fun x4 =>
  (h_stI h3 x4 x1 (-1 : Int32)).bind fun h5 =>
  (h_fR 4 h5 a0 6).bind fun x6 =>
  (h_stI h5 x6 x1 (-1 : Int32)).bind fun h7 =>
  (h_fR 4 h7 a0 7).bind fun x8 =>
  (h_stI h7 x8 x1 (-1 : Int32)).bind fun h9 =>
  (h_fR 4 h9 a0 8).bind fun x10 =>
  (h_stI h9 x10 x1 a3).bind fun h11 =>
  (h_fR 4 h11 a0 9).bind fun x12 =>
  (h_stI h11 x12 x1 a2).bind fun h13 =>
  (h_fR 4 h13 a0 10).bind fun x14 =>
  (h_stI h13 x14 x1 (x1 + (1 : Int32))).bind fun h15 =>
  (h_fR 4 h15 a0 11).bind fun x16 =>
  (h_stI h15 x16 x1 (x1 + (1 : Int32))).bind fun h17 =>
  (h_fI 4 h17 a0 3).bind fun x18 =>
  (h_pI 4 h17 a0 3 (x18 + (1 : Int32))).bind fun h19 =>
  some (x1, h19)
def MX3_find_B3 (a3 : Int32) (h : Hp) (a1 : Nat) (a2 : Int32) (a0 : Nat) (self2 : Int32 → Option (Int32)) (v1 : Int32) : Option (Int32) :=
  if a3 ≤ v1 then (
    some (-1 : Int32)
  ) else (
    (h_ldL h a1 (a2 + v1)).bind fun x3 =>
    (h_fR 3 h a0 0).bind fun x4 =>
    (h_fL 7 h x4 3).bind fun x5 =>
    if (lg_cmp x3 x5) = 0 then (
      some v1
    ) else (
      self2 (v1 + (1 : Int32))
    )
  )
def MX3_find (fu : Nat) (a0 : Nat) (a1 : Nat) (a2 : Int32) (a3 : Int32) (h : Hp) : Option (Int32) :=
  h_g 3 h a0 <|
  wh1 (MX3_find_B3 a3 h a1 a2 a0) fu (0 : Int32)
def MX3_known (fu : Nat) (a0 : Nat) (a1 : Nat) (a2 : Int32) (a3 : Int32) (h : Hp) : Option (Int32 × Hp) :=
  h_g 3 h a0 <|
  (h_fR 3 h a0 0).bind fun x1 =>
  (h_fI 7 h x1 2).bind fun x2 =>
  if x2 = (18 : Int32) then (
    (MX3_find fu a0 a1 a2 a3 h).bind fun x3 =>
    if x3 = (-1 : Int32) then (
      (MX3_fail a0 (3 : Int32) h).bind fun p4 =>
      some (x3, p4.2)
    ) else (
      some (x3, h)
    )
  ) else (
    (MX3_fail a0 (2 : Int32) h).bind fun p5 =>
    some ((-1 : Int32), p5.2)
  )
def MX3_readFirst (fu : Nat) (a0 : Nat) (a1 : Int32) (h : Hp) : Option (Int32 × Hp) :=
  h_g 3 h a0 <|
  (h_fR 3 h a0 7).bind fun x1 =>
  (h_fR 3 h a0 3).bind fun x2 =>
  (h_fI 4 h x2 1).bind fun x3 =>
  (MX3_known fu a0 x1 (0 : Int32) x3 h).bind fun p4 =>
  if p4.1 = (-1 : Int32) then (
    some ((0 : Int32), p4.2)
  ) else (
    (h_fR 3 p4.2 a0 3).bind fun x5 =>
    (h_fR 4 p4.2 x5 5).bind fun x6 =>
    (h_stI p4.2 x6 a1 p4.1).bind fun h7 =>
    (h_fR 3 h7 a0 0).bind fun x8 =>
    (MX7_advance fu x8 h7).bind fun h9 =>
    some ((1 : Int32), h9)
  )
def MX3_readSecond (fu : Nat) (a0 : Nat) (a1 : Int32) (h : Hp) : Option (Int32 × Hp) :=
  h_g 3 h a0 <|
  (h_fR 3 h a0 7).bind fun x1 =>
  (h_fR 3 h a0 3).bind fun x2 =>
  (h_fI 4 h x2 1).bind fun x3 =>
  (MX3_known fu a0 x1 (0 : Int32) x3 h).bind fun p4 =>
  if p4.1 = (-1 : Int32) then (
    some ((0 : Int32), p4.2)
  ) else (
    (h_fR 3 p4.2 a0 3).bind fun x5 =>
    (h_fR 4 p4.2 x5 5).bind fun x6 =>
    (h_ldI p4.2 x6 a1).bind fun x7 =>
    jn (
      (MX3_fail a0 (5 : Int32) p4.2).bind fun p9 =>
      (h_z p9.1).bind fun z10 =>
      some (z10, p9.2)
    ) fun (j8 : Option (Int32 × Hp)) =>
    if p4.1 = x7 then (
      j8
    ) else (
      (h_fR 4 p4.2 x5 2).bind fun x11 =>
      (h_ldI p4.2 x11 p4.1).bind fun x12 =>
      (h_ldI p4.2 x11 x7).bind fun x13 =>
      if x12 = x13 then (
        (h_fR 4 p4.2 x5 6).bind fun x14 =>
        (h_stI p4.2 x14 a1 p4.1).bind fun h15 =>
        (h_fR 3 h15 a0 0).bind fun x16 =>
        (MX7_advance fu x16 h15).bind fun h17 =>
        some ((1 : Int32), h17)
      ) else (
        j8
      )
    )
  )
def MX3_readAsked (fu : Nat) (a0 : Nat) (a1 : Int32) (a2 : Int32) (h : Hp) : Option (Int32 × Hp) :=
  h_g 3 h a0 <|
  (h_fR 3 h a0 3).bind fun x1 =>
  (h_fR 4 h x1 2).bind fun x2 =>
  (h_fR 4 h x1 5).bind fun x3 =>
  (h_ldI h x3 a1).bind fun x4 =>
  (h_ldI h x2 x4).bind fun x5 =>
  (h_fR 3 h a0 6).bind fun x6 =>
  (h_fR 4 h x1 0).bind fun x7 =>
  (h_fR 2 h x7 3).bind fun x8 =>
  (h_ldI h x8 x5).bind fun x9 =>
  (MX3_known fu a0 x6 (x5 * (6 : Int32)) x9 h).bind fun p10 =>
  if p10.1 = (-1 : Int32) then (
    some ((0 : Int32), p10.2)
  ) else (
    (h_fR 3 p10.2 a0 3).bind fun x11 =>
    (h_fR 4 p10.2 x11 0).bind fun x12 =>
    (MX2_sortOf x12 x5 p10.1 p10.2).bind fun x13 =>
    jn (fun (w14 : Int32) =>
      if w14 = a2 then (
        (h_fR 4 p10.2 x11 7).bind fun x16 =>
        (h_stI p10.2 x16 a1 p10.1).bind fun h17 =>
        (h_fR 3 h17 a0 0).bind fun x18 =>
        (MX7_advance fu x18 h17).bind fun h19 =>
        some ((1 : Int32), h19)
      ) else (
        (MX3_fail a0 (5 : Int32) p10.2).bind fun p20 =>
        (h_z p20.1).bind fun z21 =>
        some (z21, p20.2)
      )
    ) fun (j15 : Int32 → Option (Int32 × Hp)) =>
    if x13 = (1 : Int32) then (
      j15 (1 : Int32)
    ) else (
      j15 (0 : Int32)
    )
  )
def MX3_takeSign (fu : Nat) (a0 : Nat) (a1 : Int32) (h : Hp) : Option (Int32 × Hp) :=
  h_g 3 h a0 <|
  (h_fR 3 h a0 0).bind fun x1 =>
  (h_fI 7 h x1 2).bind fun x2 =>
  if x2 = a1 then (
    (MX7_advance fu x1 h).bind fun h3 =>
    some ((1 : Int32), h3)
  ) else (
    (MX3_fail a0 (2 : Int32) h).bind fun p4 =>
    (h_z p4.1).bind fun z5 =>
    some (z5, p4.2)
  )
def MX3_readStatement (fu : Nat) (a0 : Nat) (a1 : Int32) (h : Hp) : Option (Int32 × Hp) :=
  h_g 3 h a0 <|
  (h_fR 3 h a0 3).bind fun x1 =>
  (h_fI 4 h x1 3).bind fun x2 =>
  jn (
    (MX3_fail a0 (6 : Int32) h).bind fun p4 =>
    (h_z p4.1).bind fun z5 =>
    some (z5, p4.2)
  ) fun (j3 : Option (Int32 × Hp)) =>
  if (40 : Int32) ≤ x2 then (
    j3
  ) else (
    (h_fI 3 h a0 10).bind fun x6 =>
    if x6 < (5 : Int32) then (
      jn (fun (w7 : Int32) =>
        (MX4_addStatement x1 a1 w7 x6 h).bind fun p9 =>
        (h_fR 3 p9.2 a0 0).bind fun x10 =>
        (MX7_advance fu x10 p9.2).bind fun h11 =>
        jn (fun (h12 : Hp) =>
          jn (fun (h14 : Hp) =>
            jn (fun (h16 : Hp) =>
              if (7 : Int32) ≤ a1 then (
                (h_fR 3 h16 a0 8).bind fun x18 =>
                (h_fI 3 h16 a0 10).bind fun x19 =>
                (h_stI h16 x18 x19 p9.1).bind fun h20 =>
                (h_fR 3 h20 a0 9).bind fun x21 =>
                (h_fI 3 h20 a0 10).bind fun x22 =>
                (h_stZ h20 x21 x22 (0 : Int32)).bind fun h23 =>
                (h_fI 3 h23 a0 10).bind fun x24 =>
                (h_pI 3 h23 a0 10 (x24 + (1 : Int32))).bind fun h25 =>
                (MX3_takeSign fu a0 (20 : Int32) h25).bind fun p26 =>
                (h_z p26.1).bind fun z27 =>
                some (z27, p26.2)
              ) else (
                (MX3_takeSign fu a0 (19 : Int32) h16).bind fun p28 =>
                (h_z p28.1).bind fun z29 =>
                some (z29, p28.2)
              )
            ) fun (j17 : Hp → Option (Int32 × Hp)) =>
            if a1 < (6 : Int32) then (
              j17 h14
            ) else (
              if (8 : Int32) < a1 then (
                j17 h14
              ) else (
                jn (fun (w30 : Int32) =>
                  (MX3_readAsked fu a0 p9.1 w30 h14).bind fun p32 =>
                  if p32.1 = 0 then (
                    some ((0 : Int32), p32.2)
                  ) else (
                    j17 p32.2
                  )
                ) fun (j31 : Int32 → Option (Int32 × Hp)) =>
                if a1 = (6 : Int32) then (
                  j31 (0 : Int32)
                ) else (
                  j31 (1 : Int32)
                )
              )
            )
          ) fun (j15 : Hp → Option (Int32 × Hp)) =>
          if a1 < (1 : Int32) then (
            j15 h12
          ) else (
            if (4 : Int32) < a1 then (
              j15 h12
            ) else (
              (MX3_readSecond fu a0 p9.1 h12).bind fun p33 =>
              if p33.1 = 0 then (
                some ((0 : Int32), p33.2)
              ) else (
                j15 p33.2
              )
            )
          )
        ) fun (j13 : Hp → Option (Int32 × Hp)) =>
        if (9 : Int32) ≤ a1 then (
          j13 h11
        ) else (
          (MX3_readFirst fu a0 p9.1 h11).bind fun p34 =>
          if p34.1 = 0 then (
            some ((0 : Int32), p34.2)
          ) else (
            j13 p34.2
          )
        )
      ) fun (j8 : Int32 → Option (Int32 × Hp)) =>
      if x6 = 0 then (
        j8 (-1 : Int32)
      ) else (
        (h_fR 3 h a0 8).bind fun x35 =>
        (h_ldI h x35 (x6 - (1 : Int32))).bind fun x36 =>
        j8 x36
      )
    ) else (
      j3
    )
  )
def MX3_closeBlock (fu : Nat) (a0 : Nat) (h : Hp) : Option (Int32 × Hp) :=
  h_g 3 h a0 <|
  (h_fI 3 h a0 10).bind fun x1 =>
  (h_fR 3 h a0 8).bind fun x2 =>
  (h_ldI h x2 (x1 - (1 : Int32))).bind fun x3 =>
  (h_fR 3 h a0 0).bind fun x4 =>
  (MX7_advance fu x4 h).bind fun h5 =>
  (h_fR 3 h5 a0 9).bind fun x6 =>
  (h_ldZ h5 x6 (x1 - (1 : Int32))).bind fun x7 =>
  jn (fun (h8 : Hp) =>
    (h_fR 3 h8 a0 3).bind fun x10 =>
    (h_fR 4 h8 x10 4).bind fun x11 =>
    (h_ldI h8 x11 x3).bind fun x12 =>
    jn (fun (w13 : Int32) =>
      jn (
        (h_fR 4 h8 x10 11).bind fun x16 =>
        (h_fI 4 h8 x10 3).bind fun x17 =>
        (h_stI h8 x16 x3 x17).bind fun h18 =>
        (h_pI 3 h18 a0 10 (x1 - (1 : Int32))).bind fun h19 =>
        some ((1 : Int32), h19)
      ) fun (j15 : Option (Int32 × Hp)) =>
      if w13 = 0 then (
        j15
      ) else (
        (h_fR 3 h8 a0 9).bind fun x20 =>
        (h_ldZ h8 x20 (x1 - (1 : Int32))).bind fun x21 =>
        if x21 = 0 then (
          (h_fR 3 h8 a0 0).bind fun x22 =>
          (h_fI 7 h8 x22 2).bind fun x23 =>
          if x23 = (6 : Int32) then (
            (h_stZ h8 x20 (x1 - (1 : Int32)) (1 : Int32)).bind fun h24 =>
            (h_fR 3 h24 a0 0).bind fun x25 =>
            (MX7_advance fu x25 h24).bind fun h26 =>
            (MX3_takeSign fu a0 (20 : Int32) h26).bind fun p27 =>
            (h_z p27.1).bind fun z28 =>
            some (z28, p27.2)
          ) else (
            j15
          )
        ) else (
          j15
        )
      )
    ) fun (j14 : Int32 → Option (Int32 × Hp)) =>
    jn (
      j14 (1 : Int32)
    ) fun (j29 : Option (Int32 × Hp)) =>
    if x12 = (7 : Int32) then (
      j29
    ) else (
      if x12 = (9 : Int32) then (
        j29
      ) else (
        j14 (0 : Int32)
      )
    )
  ) fun (j9 : Hp → Option (Int32 × Hp)) =>
  if x7 = 0 then (
    (h_fR 3 h5 a0 3).bind fun x30 =>
    (h_fR 4 h5 x30 10).bind fun x31 =>
    (h_fI 4 h5 x30 3).bind fun x32 =>
    (h_stI h5 x31 x3 x32).bind fun h33 =>
    j9 h33
  ) else (
    j9 h5
  )
def MX3_isNewName (fu : Nat) (a0 : Nat) (a1 : Nat) (a2 : Int32) (a3 : Int32) (h : Hp) : Option (Int32 × Hp) :=
  h_g 3 h a0 <|
  (h_fR 3 h a0 0).bind fun x1 =>
  (h_fI 7 h x1 2).bind fun x2 =>
  if x2 = (18 : Int32) then (
    (MX3_find fu a0 a1 a2 a3 h).bind fun x3 =>
    jn (fun (h4 : Hp) =>
      some ((1 : Int32), h4)
    ) fun (j5 : Hp → Option (Int32 × Hp)) =>
    if x3 = (-1 : Int32) then (
      j5 h
    ) else (
      (MX3_fail a0 (4 : Int32) h).bind fun p6 =>
      if p6.1 = 0 then (
        some ((0 : Int32), p6.2)
      ) else (
        j5 p6.2
      )
    )
  ) else (
    (MX3_fail a0 (2 : Int32) h).bind fun p7 =>
    (h_z p7.1).bind fun z8 =>
    some (z8, p7.2)
  )
def MX3_readKind_B75 (fu : Nat) (j17 : Hp → Option (Int32 × Hp)) (a0 : Nat) (p9 : Int32 × Hp) (x2 : Nat) (j21 : Hp → Option (Int32 × Hp)) (self26 : Int32 → Hp → Option (Int32 × Hp)) (v24 : Int32) (h25 : Hp) : Option (Int32 × Hp) :=
  if (6 : Int32) < v24 then (
    j17 h25
  ) else (
    jn (
      (h_fR 3 h25 a0 5).bind fun x28 =>
      (MX3_isNewName fu a0 x28 (p9.1 * (6 : Int32)) v24 h25).bind fun p29 =>
      if p29.1 = 0 then (
        some ((0 : Int32), p29.2)
      ) else (
        if v24 < (6 : Int32) then (
          (h_fR 3 p29.2 a0 5).bind fun x30 =>
          (h_fR 3 p29.2 a0 0).bind fun x31 =>
          (h_fL 7 p29.2 x31 3).bind fun x32 =>
          (h_stL p29.2 x30 ((p9.1 * (6 : Int32)) + v24) x32).bind fun h33 =>
          (h_fR 2 h33 x2 1).bind fun x34 =>
          (h_stI h33 x34 p9.1 (v24 + (1 : Int32))).bind fun h35 =>
          (h_fR 3 h35 a0 0).bind fun x36 =>
          (MX7_advance fu x36 h35).bind fun h37 =>
          self26 (v24 + (1 : Int32)) h37
        ) else (
          j21 p29.2
        )
      )
    ) fun (j27 : Option (Int32 × Hp)) =>
    if v24 = 0 then (
      j27
    ) else (
      (h_fR 3 h25 a0 0).bind fun x38 =>
      (h_fI 7 h25 x38 2).bind fun x39 =>
      if x39 = (19 : Int32) then (
        j17 h25
      ) else (
        j27
      )
    )
  )
def MX3_readKind (fu : Nat) (a0 : Nat) (h : Hp) : Option (Int32 × Hp) :=
  h_g 3 h a0 <|
  (h_fR 3 h a0 3).bind fun x1 =>
  (h_fR 4 h x1 0).bind fun x2 =>
  (h_fI 2 h x2 0).bind fun x3 =>
  if x3 < (4 : Int32) then (
    (h_fR 3 h a0 0).bind fun x4 =>
    (MX7_advance fu x4 h).bind fun h5 =>
    (h_fR 3 h5 a0 4).bind fun x6 =>
    (h_fI 2 h5 x2 0).bind fun x7 =>
    (MX3_isNewName fu a0 x6 (0 : Int32) x7 h5).bind fun p8 =>
    if p8.1 = 0 then (
      some ((0 : Int32), p8.2)
    ) else (
      (MX2_addKind x2 p8.2).bind fun p9 =>
      (h_fR 3 p9.2 a0 4).bind fun x10 =>
      (h_fR 3 p9.2 a0 0).bind fun x11 =>
      (h_fL 7 p9.2 x11 3).bind fun x12 =>
      (h_stL p9.2 x10 p9.1 x12).bind fun h13 =>
      (h_fR 3 h13 a0 0).bind fun x14 =>
      (MX7_advance fu x14 h13).bind fun h15 =>
      jn (fun (h16 : Hp) =>
        (MX3_takeSign fu a0 (19 : Int32) h16).bind fun p18 =>
        (h_z p18.1).bind fun z19 =>
        some (z19, p18.2)
      ) fun (j17 : Hp → Option (Int32 × Hp)) =>
      jn (fun (h20 : Hp) =>
        (MX3_fail a0 (6 : Int32) h20).bind fun p22 =>
        (h_z p22.1).bind fun z23 =>
        some (z23, p22.2)
      ) fun (j21 : Hp → Option (Int32 × Hp)) =>
      wh2 (MX3_readKind_B75 fu j17 a0 p9 x2 j21) fu (0 : Int32) h15
    )
  ) else (
    (MX3_fail a0 (6 : Int32) h).bind fun p40 =>
    (h_z p40.1).bind fun z41 =>
    some (z41, p40.2)
  )
def MX3_readEnd_B43 (fu : Nat) (j11 : Hp → Option (Int32 × Hp)) (a0 : Nat) (p7 : Int32 × Hp) (self16 : Int32 → Hp → Option (Int32 × Hp)) (v14 : Int32) (h15 : Hp) : Option (Int32 × Hp) :=
  if (900 : Int32) < v14 then (
    j11 h15
  ) else (
    jn (
      (h_fR 3 h15 a0 5).bind fun x18 =>
      (h_fR 3 h15 a0 3).bind fun x19 =>
      (h_fR 4 h15 x19 0).bind fun x20 =>
      (h_fR 2 h15 x20 1).bind fun x21 =>
      (h_ldI h15 x21 p7.1).bind fun x22 =>
      (MX3_known fu a0 x18 (p7.1 * (6 : Int32)) x22 h15).bind fun p23 =>
      if p23.1 = (-1 : Int32) then (
        some ((0 : Int32), p23.2)
      ) else (
        (h_fR 3 p23.2 a0 3).bind fun x24 =>
        (h_fR 4 p23.2 x24 0).bind fun x25 =>
        (h_fR 2 p23.2 x25 2).bind fun x26 =>
        (h_ldI p23.2 x26 p7.1).bind fun x27 =>
        (h_stI p23.2 x26 p7.1 (x27 ||| ((1 : Int32) <<< (p23.1 &&& 31)))).bind fun h28 =>
        (h_fR 3 h28 a0 0).bind fun x29 =>
        (MX7_advance fu x29 h28).bind fun h30 =>
        self16 (v14 + (1 : Int32)) h30
      )
    ) fun (j17 : Option (Int32 × Hp)) =>
    if v14 = 0 then (
      j17
    ) else (
      (h_fR 3 h15 a0 0).bind fun x31 =>
      (h_fI 7 h15 x31 2).bind fun x32 =>
      if x32 = (19 : Int32) then (
        j11 h15
      ) else (
        j17
      )
    )
  )
def MX3_readEnd (fu : Nat) (a0 : Nat) (h : Hp) : Option (Int32 × Hp) :=
  h_g 3 h a0 <|
  (h_fR 3 h a0 0).bind fun x1 =>
  (MX7_advance fu x1 h).bind fun h2 =>
  (h_fR 3 h2 a0 4).bind fun x3 =>
  (h_fR 3 h2 a0 3).bind fun x4 =>
  (h_fR 4 h2 x4 0).bind fun x5 =>
  (h_fI 2 h2 x5 0).bind fun x6 =>
  (MX3_known fu a0 x3 (0 : Int32) x6 h2).bind fun p7 =>
  if p7.1 = (-1 : Int32) then (
    some ((0 : Int32), p7.2)
  ) else (
    (h_fR 3 p7.2 a0 0).bind fun x8 =>
    (MX7_advance fu x8 p7.2).bind fun h9 =>
    jn (fun (h10 : Hp) =>
      (MX3_takeSign fu a0 (19 : Int32) h10).bind fun p12 =>
      (h_z p12.1).bind fun z13 =>
      some (z13, p12.2)
    ) fun (j11 : Hp → Option (Int32 × Hp)) =>
    wh2 (MX3_readEnd_B43 fu j11 a0 p7) fu (0 : Int32) h9
  )
def MX3_methodToTell (fu : Nat) (a0 : Nat) (a1 : Int32) (a2 : Int32) (h : Hp) : Option (Int32 × Hp) :=
  h_g 3 h a0 <|
  (h_fR 3 h a0 0).bind fun x1 =>
  (h_fI 7 h x1 2).bind fun x2 =>
  if x2 = (18 : Int32) then (
    (h_fR 3 h a0 6).bind fun x3 =>
    (h_fR 3 h a0 3).bind fun x4 =>
    (h_fR 4 h x4 0).bind fun x5 =>
    (h_fR 2 h x5 3).bind fun x6 =>
    (h_ldI h x6 a1).bind fun x7 =>
    (MX3_find fu a0 x3 (a1 * (6 : Int32)) x7 h).bind fun x8 =>
    jn (
      jn (fun (v10 : Int32) (h11 : Hp) =>
        (h_fR 3 h11 a0 3).bind fun x13 =>
        (h_fR 4 h11 x13 0).bind fun x14 =>
        (MX2_sortOf x14 a1 v10 h11).bind fun x15 =>
        if x15 = a2 then (
          some (v10, h11)
        ) else (
          (MX3_fail a0 (5 : Int32) h11).bind fun p16 =>
          some ((-1 : Int32), p16.2)
        )
      ) fun (j12 : Int32 → Hp → Option (Int32 × Hp)) =>
      if x8 = (-1 : Int32) then (
        (MX2_addMethod x5 a1 a2 h).bind fun p17 =>
        (h_fR 3 p17.2 a0 6).bind fun x18 =>
        (h_fR 3 p17.2 a0 0).bind fun x19 =>
        (h_fL 7 p17.2 x19 3).bind fun x20 =>
        (h_stL p17.2 x18 ((a1 * (6 : Int32)) + p17.1) x20).bind fun h21 =>
        j12 p17.1 h21
      ) else (
        j12 x8 h
      )
    ) fun (j9 : Option (Int32 × Hp)) =>
    if x8 = (-1 : Int32) then (
      if x7 < (6 : Int32) then (
        j9
      ) else (
        (MX3_fail a0 (6 : Int32) h).bind fun p22 =>
        some ((-1 : Int32), p22.2)
      )
    ) else (
      j9
    )
  ) else (
    (MX3_fail a0 (2 : Int32) h).bind fun p23 =>
    some ((-1 : Int32), p23.2)
  )
def MX3_readWhatComes_B32 (fu : Nat) (v1 : Int32) (j7 : Int32 → Int32 → Int32 → Hp → Option (Int32 × Hp)) (a0 : Nat) (a1 : Int32) (a2 : Int32) (j12 : Hp → Option (Int32 × Hp)) (self20 : Int32 → Int32 → Int32 → Int32 → Hp → Option (Int32 × Hp)) (v15 : Int32) (v16 : Int32) (v17 : Int32) (v18 : Int32) (h19 : Hp) : Option (Int32 × Hp) :=
  if v1 ≤ v18 then (
    j7 v15 v16 v17 h19
  ) else (
    (h_fR 3 h19 a0 5).bind fun x21 =>
    (h_fR 3 h19 a0 3).bind fun x22 =>
    (h_fR 4 h19 x22 0).bind fun x23 =>
    (h_fR 2 h19 x23 1).bind fun x24 =>
    (h_ldI h19 x24 a1).bind fun x25 =>
    (MX3_known fu a0 x21 (a1 * (6 : Int32)) x25 h19).bind fun p26 =>
    if p26.1 = (-1 : Int32) then (
      some ((0 : Int32), p26.2)
    ) else (
      jn (
        jn (fun (w28 : Int32) =>
          jn (fun (w30 : Int32) =>
            (h_fR 3 p26.2 a0 0).bind fun x32 =>
            (MX7_advance fu x32 p26.2).bind fun h33 =>
            self20 w28 w30 p26.1 (v18 + (1 : Int32)) h33
          ) fun (j31 : Int32 → Option (Int32 × Hp)) =>
          if (1 : Int32) < v18 then (
            j31 v16
          ) else (
            j31 p26.1
          )
        ) fun (j29 : Int32 → Option (Int32 × Hp)) =>
        if v18 = 0 then (
          j29 p26.1
        ) else (
          j29 v15
        )
      ) fun (j27 : Option (Int32 × Hp)) =>
      if v18 = 0 then (
        (h_fR 3 p26.2 a0 3).bind fun x34 =>
        (h_fR 4 p26.2 x34 0).bind fun x35 =>
        (MX2_canBe x35 a1 a2 p26.1 p26.2).bind fun x36 =>
        if x36 = 0 then (
          j27
        ) else (
          j12 p26.2
        )
      ) else (
        j27
      )
    )
  )
def MX3_readWhatComes (fu : Nat) (a0 : Nat) (a1 : Int32) (a2 : Int32) (a3 : Int32) (h : Hp) : Option (Int32 × Hp) :=
  h_g 3 h a0 <|
  jn (fun (v1 : Int32) =>
    jn (fun (v3 : Int32) (v4 : Int32) (v5 : Int32) (h6 : Hp) =>
      (h_fR 3 h6 a0 3).bind fun x8 =>
      (h_fR 4 h6 x8 0).bind fun x9 =>
      (MX2_allow x9 a1 a2 v3 v4 v5 h6).bind fun h10 =>
      some ((1 : Int32), h10)
    ) fun (j7 : Int32 → Int32 → Int32 → Hp → Option (Int32 × Hp)) =>
    jn (fun (h11 : Hp) =>
      (MX3_fail a0 (4 : Int32) h11).bind fun p13 =>
      (h_z p13.1).bind fun z14 =>
      some (z14, p13.2)
    ) fun (j12 : Hp → Option (Int32 × Hp)) =>
    wh5 (MX3_readWhatComes_B32 fu v1 j7 a0 a1 a2 j12) fu (-1 : Int32) (-1 : Int32) (-1 : Int32) (0 : Int32) h
  ) fun (j2 : Int32 → Option (Int32 × Hp)) =>
  if a3 = (2 : Int32) then (
    j2 (1 : Int32)
  ) else (
    jn (fun (w37 : Int32) =>
      j2 w37
    ) fun (j38 : Int32 → Option (Int32 × Hp)) =>
    if a3 = (1 : Int32) then (
      j38 (3 : Int32)
    ) else (
      j38 (2 : Int32)
    )
  )
def MX3_readMethod (fu : Nat) (a0 : Nat) (a1 : Int32) (h : Hp) : Option (Int32 × Hp) :=
  h_g 3 h a0 <|
  (h_fR 3 h a0 0).bind fun x1 =>
  (MX7_advance fu x1 h).bind fun h2 =>
  (h_fR 3 h2 a0 4).bind fun x3 =>
  (h_fR 3 h2 a0 3).bind fun x4 =>
  (h_fR 4 h2 x4 0).bind fun x5 =>
  (h_fI 2 h2 x5 0).bind fun x6 =>
  (MX3_known fu a0 x3 (0 : Int32) x6 h2).bind fun p7 =>
  if p7.1 = (-1 : Int32) then (
    some ((0 : Int32), p7.2)
  ) else (
    (h_fR 3 p7.2 a0 0).bind fun x8 =>
    (MX7_advance fu x8 p7.2).bind fun h9 =>
    (MX3_methodToTell fu a0 p7.1 a1 h9).bind fun p10 =>
    if p10.1 = (-1 : Int32) then (
      some ((0 : Int32), p10.2)
    ) else (
      (h_fR 3 p10.2 a0 0).bind fun x11 =>
      (MX7_advance fu x11 p10.2).bind fun h12 =>
      (MX3_readWhatComes fu a0 p7.1 p10.1 a1 h12).bind fun p13 =>
      jn (fun (h14 : Hp) =>
        some ((0 : Int32), h14)
      ) fun (j15 : Hp → Option (Int32 × Hp)) =>
      if p13.1 = 0 then (
        j15 p13.2
      ) else (
        (MX3_takeSign fu a0 (19 : Int32) p13.2).bind fun p16 =>
        if p16.1 = 0 then (
          j15 p16.2
        ) else (
          some ((1 : Int32), p16.2)
        )
      )
    )
  )
def MX3_readVariable (fu : Nat) (a0 : Nat) (h : Hp) : Option (Int32 × Hp) :=
  h_g 3 h a0 <|
  (h_fR 3 h a0 3).bind fun x1 =>
  (h_fI 4 h x1 1).bind fun x2 =>
  if x2 < (6 : Int32) then (
    (h_fR 3 h a0 0).bind fun x3 =>
    (MX7_advance fu x3 h).bind fun h4 =>
    (h_fR 3 h4 a0 7).bind fun x5 =>
    (h_fR 3 h4 a0 3).bind fun x6 =>
    (h_fI 4 h4 x6 1).bind fun x7 =>
    (MX3_isNewName fu a0 x5 (0 : Int32) x7 h4).bind fun p8 =>
    if p8.1 = 0 then (
      some ((0 : Int32), p8.2)
    ) else (
      (h_fR 3 p8.2 a0 3).bind fun x9 =>
      (h_fI 4 p8.2 x9 1).bind fun x10 =>
      (h_fR 3 p8.2 a0 7).bind fun x11 =>
      (h_fR 3 p8.2 a0 0).bind fun x12 =>
      (h_fL 7 p8.2 x12 3).bind fun x13 =>
      (h_stL p8.2 x11 x10 x13).bind fun h14 =>
      (h_fR 3 h14 a0 0).bind fun x15 =>
      (MX7_advance fu x15 h14).bind fun h16 =>
      (h_fR 3 h16 a0 4).bind fun x17 =>
      (h_fR 3 h16 a0 3).bind fun x18 =>
      (h_fR 4 h16 x18 0).bind fun x19 =>
      (h_fI 2 h16 x19 0).bind fun x20 =>
      (MX3_known fu a0 x17 (0 : Int32) x20 h16).bind fun p21 =>
      if p21.1 = (-1 : Int32) then (
        some ((0 : Int32), p21.2)
      ) else (
        (h_fR 3 p21.2 a0 3).bind fun x22 =>
        (h_fR 4 p21.2 x22 2).bind fun x23 =>
        (h_stI p21.2 x23 x10 p21.1).bind fun h24 =>
        (h_fR 3 h24 a0 3).bind fun x25 =>
        (h_fI 4 h24 x25 1).bind fun x26 =>
        (h_pI 4 h24 x25 1 (x26 + (1 : Int32))).bind fun h27 =>
        (h_fR 3 h27 a0 0).bind fun x28 =>
        (MX7_advance fu x28 h27).bind fun h29 =>
        (MX3_takeSign fu a0 (19 : Int32) h29).bind fun p30 =>
        (h_z p30.1).bind fun z31 =>
        some (z31, p30.2)
      )
    )
  ) else (
    (MX3_fail a0 (6 : Int32) h).bind fun p32 =>
    (h_z p32.1).bind fun z33 =>
    some (z33, p32.2)
  )
def MX3_readPiece (fu : Nat) (a0 : Nat) (h : Hp) : Option (Int32 × Hp) :=
  h_g 3 h a0 <|
  (h_fR 3 h a0 0).bind fun x1 =>
  (h_fI 7 h x1 2).bind fun x2 =>
  jn (
    jn (
      (h_fR 3 h a0 3).bind fun x5 =>
      (h_fI 4 h x5 3).bind fun x6 =>
      if x6 ≤ 0 then (
        if x2 = (0 : Int32) then (
          (MX3_readKind fu a0 h).bind fun p7 =>
          (h_z p7.1).bind fun z8 =>
          some (z8, p7.2)
        ) else (
        if x2 = (1 : Int32) then (
          (MX3_readEnd fu a0 h).bind fun p9 =>
          (h_z p9.1).bind fun z10 =>
          some (z10, p9.2)
        ) else (
        if x2 = (2 : Int32) then (
          (MX3_readMethod fu a0 (0 : Int32) h).bind fun p11 =>
          (h_z p11.1).bind fun z12 =>
          some (z12, p11.2)
        ) else (
        if x2 = (3 : Int32) then (
          (MX3_readMethod fu a0 (1 : Int32) h).bind fun p13 =>
          (h_z p13.1).bind fun z14 =>
          some (z14, p13.2)
        ) else (
        if x2 = (4 : Int32) then (
          (MX3_readMethod fu a0 (2 : Int32) h).bind fun p15 =>
          (h_z p15.1).bind fun z16 =>
          some (z16, p15.2)
        ) else (
        if x2 = (5 : Int32) then (
          (MX3_readVariable fu a0 h).bind fun p17 =>
          (h_z p17.1).bind fun z18 =>
          some (z18, p17.2)
        ) else (
        (MX3_fail a0 (2 : Int32) h).bind fun p19 =>
        (h_z p19.1).bind fun z20 =>
        some (z20, p19.2)
        ))))))
      ) else (
        (MX3_fail a0 (2 : Int32) h).bind fun p21 =>
        (h_z p21.1).bind fun z22 =>
        some (z22, p21.2)
      )
    ) fun (j4 : Option (Int32 × Hp)) =>
    if x2 = (21 : Int32) then (
      (h_fI 3 h a0 10).bind fun x23 =>
      if x23 ≤ 0 then (
        j4
      ) else (
        (MX3_closeBlock fu a0 h).bind fun p24 =>
        (h_z p24.1).bind fun z25 =>
        some (z25, p24.2)
      )
    ) else (
      j4
    )
  ) fun (j3 : Option (Int32 × Hp)) =>
  if x2 < (7 : Int32) then (
    j3
  ) else (
    if (17 : Int32) < x2 then (
      j3
    ) else (
      (MX3_readStatement fu a0 (x2 - (7 : Int32)) h).bind fun p26 =>
      (h_z p26.1).bind fun z27 =>
      some (z27, p26.2)
    )
  )
def MX4_goesRound (a0 : Nat) (a1 : Int32) (h : Hp) : Option (Int32) :=
  h_g 4 h a0 <|
  (h_fR 4 h a0 4).bind fun x1 =>
  (h_ldI h x1 a1).bind fun x2 =>
  jn (
    some (1 : Int32)
  ) fun (j3 : Option (Int32)) =>
  if x2 = (8 : Int32) then (
    j3
  ) else (
    if x2 = (10 : Int32) then (
      j3
    ) else (
      some (0 : Int32)
    )
  )
def MX4_placeAfter (a0 : Nat) (a1 : Int32) (h : Hp) : Option (Int32) :=
  h_g 4 h a0 <|
  (h_fR 4 h a0 9).bind fun x1 =>
  (h_ldI h x1 a1).bind fun x2 =>
  if x2 = (-1 : Int32) then (
    (h_fR 4 h a0 11).bind fun x14 =>
    (h_ldI h x14 a1).bind fun x15 =>
    some x15
  ) else (
    (h_fR 4 h a0 10).bind fun x3 =>
    (h_ldI h x3 x2).bind fun x4 =>
    jn (fun (w5 : Int32) =>
      (h_fR 4 h a0 11).bind fun x7 =>
      (h_ldI h x7 a1).bind fun x8 =>
      if w5 ≤ x8 then (
        (MX4_goesRound a0 x2 h).bind fun x9 =>
        if x9 = 0 then (
          (h_fR 4 h a0 12).bind fun x10 =>
          (h_ldI h x10 x2).bind fun x11 =>
          some x11
        ) else (
          some x2
        )
      ) else (
        some x8
      )
    ) fun (j6 : Int32 → Option (Int32)) =>
    if x4 ≤ a1 then (
      (h_fR 4 h a0 11).bind fun x12 =>
      (h_ldI h x12 x2).bind fun x13 =>
      j6 x13
    ) else (
      j6 x4
    )
  )
def MX4_linkBlocks (a0 : Nat) (a1 : Int32) (h : Hp) : Option (Hp) :=
  h_g 4 h a0 <|
  (MX4_goesRound a0 a1 h).bind fun x1 =>
  jn (fun (w2 : Int32) =>
    (h_fR 4 h a0 13).bind fun x4 =>
    (h_fR 4 h a0 10).bind fun x5 =>
    (h_ldI h x5 a1).bind fun x6 =>
    jn (fun (w7 : Int32) =>
      (h_stI h x4 a1 w7).bind fun h9 =>
      (h_fR 4 h9 a0 14).bind fun x10 =>
      (h_fR 4 h9 a0 11).bind fun x11 =>
      (h_ldI h9 x11 a1).bind fun x12 =>
      (h_fR 4 h9 a0 10).bind fun x13 =>
      (h_ldI h9 x13 a1).bind fun x14 =>
      jn (fun (w15 : Int32) =>
        (h_stI h9 x10 a1 w15).bind fun h17 =>
        some h17
      ) fun (j16 : Int32 → Option (Hp)) =>
      if x12 ≤ x14 then (
        (h_fR 4 h9 a0 12).bind fun x18 =>
        (h_ldI h9 x18 a1).bind fun x19 =>
        j16 x19
      ) else (
        j16 x14
      )
    ) fun (j8 : Int32 → Option (Hp)) =>
    if x6 ≤ (a1 + (1 : Int32)) then (
      j8 w2
    ) else (
      j8 (a1 + (1 : Int32))
    )
  ) fun (j3 : Int32 → Option (Hp)) =>
  if x1 = 0 then (
    (h_fR 4 h a0 12).bind fun x20 =>
    (h_ldI h x20 a1).bind fun x21 =>
    j3 x21
  ) else (
    j3 a1
  )
def MX4_link_B2 (a0 : Nat) (self3 : Int32 → Hp → Option (Hp)) (v1 : Int32) (h2 : Hp) : Option (Hp) :=
  (h_fI 4 h2 a0 3).bind fun x4 =>
  if x4 ≤ v1 then (
    some h2
  ) else (
    (h_fR 4 h2 a0 12).bind fun x5 =>
    (MX4_placeAfter a0 v1 h2).bind fun x6 =>
    (h_stI h2 x5 v1 x6).bind fun h7 =>
    (h_fR 4 h7 a0 13).bind fun x8 =>
    (h_fR 4 h7 a0 12).bind fun x9 =>
    (h_ldI h7 x9 v1).bind fun x10 =>
    (h_stI h7 x8 v1 x10).bind fun h11 =>
    (h_fR 4 h11 a0 14).bind fun x12 =>
    (h_stI h11 x12 v1 (-1 : Int32)).bind fun h13 =>
    (h_fR 4 h13 a0 4).bind fun x14 =>
    (h_ldI h13 x14 v1).bind fun x15 =>
    jn (fun (h16 : Hp) =>
      self3 (v1 + (1 : Int32)) h16
    ) fun (j17 : Hp → Option (Hp)) =>
    if x15 < (7 : Int32) then (
      j17 h13
    ) else (
      (MX4_linkBlocks a0 v1 h13).bind fun h18 =>
      j17 h18
    )
  )
def MX4_link (fu : Nat) (a0 : Nat) (h : Hp) : Option (Hp) :=
  h_g 4 h a0 <|
  wh2 (MX4_link_B2 a0) fu (0 : Int32) h
def MX3_parse_B34 (fu : Nat) (j10 : Int32 → Hp → Option (Int32 × Hp)) (a0 : Nat) (self18 : Int32 → Int32 → Hp → Option (Int32 × Hp)) (v15 : Int32) (v16 : Int32) (h17 : Hp) : Option (Int32 × Hp) :=
  if (900 : Int32) < v16 then (
    j10 v15 h17
  ) else (
    if v15 = 0 then (
      j10 v15 h17
    ) else (
      (MX3_atTheEnd a0 h17).bind fun x19 =>
      if x19 = 0 then (
        (MX3_readPiece fu a0 h17).bind fun p20 =>
        self18 p20.1 (v16 + (1 : Int32)) p20.2
      ) else (
        j10 v15 h17
      )
    )
  )
def MX3_parse (fu : Nat) (a0 : Nat) (a1 : Int32) (h : Hp) : Option (Int32 × Hp) :=
  h_g 3 h a0 <|
  (h_pI 3 h a0 1 (0 : Int32)).bind fun h1 =>
  (h_pI 3 h1 a0 2 (-1 : Int32)).bind fun h2 =>
  (h_pI 3 h2 a0 10 (0 : Int32)).bind fun h3 =>
  (h_fR 3 h3 a0 3).bind fun x4 =>
  (MX4_empty x4 h3).bind fun h5 =>
  (h_fR 3 h5 a0 0).bind fun x6 =>
  (MX7_open fu x6 a1 h5).bind fun h7 =>
  jn (fun (v8 : Int32) (h9 : Hp) =>
    if v8 = 0 then (
      (h_z v8).bind fun z11 =>
      some (z11, h9)
    ) else (
      (h_fR 3 h9 a0 3).bind fun x12 =>
      (MX4_link fu x12 h9).bind fun h13 =>
      (h_z v8).bind fun z14 =>
      some (z14, h13)
    )
  ) fun (j10 : Int32 → Hp → Option (Int32 × Hp)) =>
  wh3 (MX3_parse_B34 fu j10 a0) fu (1 : Int32) (0 : Int32) h7
def MX4_hasVariable (a0 : Nat) (a1 : Int32) (h : Hp) : Option (Int32) :=
  h_g 4 h a0 <|
  jn (
    some (0 : Int32)
  ) fun (j1 : Option (Int32)) =>
  if a1 < 0 then (
    j1
  ) else (
    (h_fI 4 h a0 1).bind fun x2 =>
    if x2 ≤ a1 then (
      j1
    ) else (
      some (1 : Int32)
    )
  )
def MX4_hasStatement (a0 : Nat) (a1 : Int32) (h : Hp) : Option (Int32) :=
  h_g 4 h a0 <|
  jn (
    some (0 : Int32)
  ) fun (j1 : Option (Int32)) =>
  if a1 < 0 then (
    j1
  ) else (
    (h_fI 4 h a0 3).bind fun x2 =>
    if x2 ≤ a1 then (
      j1
    ) else (
      some (1 : Int32)
    )
  )
def MX4_hasPlace (a0 : Nat) (a1 : Int32) (h : Hp) : Option (Int32) :=
  h_g 4 h a0 <|
  jn (
    some (0 : Int32)
  ) fun (j1 : Option (Int32)) =>
  if a1 < 0 then (
    j1
  ) else (
    (h_fI 4 h a0 3).bind fun x2 =>
    if x2 < a1 then (
      j1
    ) else (
      some (1 : Int32)
    )
  )
def MX4_variablesOf_B4 (h : Hp) (a0 : Nat) (a1 : Int32) (self3 : Int32 → Int32 → Option (Int32)) (v1 : Int32) (v2 : Int32) : Option (Int32) :=
  (h_fI 4 h a0 1).bind fun x4 =>
  if x4 ≤ v2 then (
    some v1
  ) else (
    (h_fR 4 h a0 2).bind fun x5 =>
    (h_ldI h x5 v2).bind fun x6 =>
    jn (fun (v7 : Int32) =>
      self3 v7 (v2 + (1 : Int32))
    ) fun (j8 : Int32 → Option (Int32)) =>
    if x6 = a1 then (
      j8 (v1 + (1 : Int32))
    ) else (
      j8 v1
    )
  )
def MX4_variablesOf (fu : Nat) (a0 : Nat) (a1 : Int32) (h : Hp) : Option (Int32) :=
  h_g 4 h a0 <|
  wh2 (MX4_variablesOf_B4 h a0 a1) fu (0 : Int32) (0 : Int32)
def MX5_drawYes (a0 : Nat) (h : Hp) : Option (Int32 × Hp) :=
  h_g 5 h a0 <|
  (h_fI 5 h a0 4).bind fun x1 =>
  (h_rem (((75 : Int32) * x1) + (74 : Int32)) (65537 : Int32)).bind fun x2 =>
  (h_pI 5 h a0 4 x2).bind fun h3 =>
  (h_fI 5 h3 a0 4).bind fun x4 =>
  (h_rem x4 (2 : Int32)).bind fun x5 =>
  if x5 = 0 then (
    some ((1 : Int32), h3)
  ) else (
    some ((0 : Int32), h3)
  )
def MX5_step (fu : Nat) (a0 : Nat) (a1 : Nat) (h : Hp) : Option (Int32 × Hp) :=
  h_g 5 h a0 <|
  (h_fI 5 h a0 2).bind fun x1 =>
  (h_fI 4 h a1 3).bind fun x2 =>
  jn (
    (h_fR 5 h a0 5).bind fun x4 =>
    (MX1_reasonAt fu x4 a1 x1 h).bind fun x5 =>
    (h_pI 5 h a0 1 x5).bind fun h6 =>
    (h_fI 5 h6 a0 2).bind fun x7 =>
    (h_fI 4 h6 a1 3).bind fun x8 =>
    if x7 < x8 then (
      (h_fI 5 h6 a0 0).bind fun x9 =>
      (h_pI 5 h6 a0 0 (x9 + (1 : Int32))).bind fun h10 =>
      (h_fI 5 h10 a0 1).bind fun x11 =>
      if x11 = 0 then (
        (h_fR 4 h10 a1 14).bind fun x12 =>
        (h_fI 5 h10 a0 2).bind fun x13 =>
        (h_ldI h10 x12 x13).bind fun x14 =>
        jn (fun (w15 : Int32) (h16 : Hp) =>
          (h_fR 4 h16 a1 4).bind fun x18 =>
          (h_fI 5 h16 a0 2).bind fun x19 =>
          (h_ldI h16 x18 x19).bind fun x20 =>
          jn (fun (h21 : Hp) =>
            (h_fR 5 h21 a0 5).bind fun x23 =>
            (h_fI 5 h21 a0 2).bind fun x24 =>
            (MX1_pass fu x23 a1 x24 w15 h21).bind fun p25 =>
            jn (fun (w26 : Int32) =>
              (h_pI 5 p25.2 a0 2 w26).bind fun h28 =>
              some ((1 : Int32), h28)
            ) fun (j27 : Int32 → Option (Int32 × Hp)) =>
            if w15 = 0 then (
              (h_fR 4 p25.2 a1 14).bind fun x29 =>
              (h_fI 5 p25.2 a0 2).bind fun x30 =>
              (h_ldI p25.2 x29 x30).bind fun x31 =>
              j27 x31
            ) else (
              (h_fR 4 p25.2 a1 13).bind fun x32 =>
              (h_fI 5 p25.2 a0 2).bind fun x33 =>
              (h_ldI p25.2 x32 x33).bind fun x34 =>
              j27 x34
            )
          ) fun (j22 : Hp → Option (Int32 × Hp)) =>
          if x20 = 0 then (
            (h_fI 5 h16 a0 3).bind fun x35 =>
            (h_pI 5 h16 a0 3 (x35 + (1 : Int32))).bind fun h36 =>
            j22 h36
          ) else (
            j22 h16
          )
        ) fun (j17 : Int32 → Hp → Option (Int32 × Hp)) =>
        jn (fun (h37 : Hp) =>
          j17 (1 : Int32) h37
        ) fun (j38 : Hp → Option (Int32 × Hp)) =>
        if x14 = (-1 : Int32) then (
          j38 h10
        ) else (
          (MX5_drawYes a0 h10).bind fun p39 =>
          if p39.1 = 0 then (
            j17 (0 : Int32) p39.2
          ) else (
            j38 p39.2
          )
        )
      ) else (
        some ((0 : Int32), h10)
      )
    ) else (
      some ((0 : Int32), h6)
    )
  ) fun (j3 : Option (Int32 × Hp)) =>
  if x2 ≤ x1 then (
    j3
  ) else (
    (h_fI 5 h a0 0).bind fun x40 =>
    if x40 < (300 : Int32) then (
      j3
    ) else (
      (h_pI 5 h a0 1 (6 : Int32)).bind fun h41 =>
      some ((0 : Int32), h41)
    )
  )
def MX5_go_B37 (fu : Nat) (a0 : Nat) (a1 : Nat) (self11 : Int32 → Int32 → Hp → Option (Hp)) (v8 : Int32) (v9 : Int32) (h10 : Hp) : Option (Hp) :=
  if v8 = 0 then (
    some h10
  ) else (
    if (300 : Int32) < v9 then (
      some h10
    ) else (
      (MX5_step fu a0 a1 h10).bind fun p12 =>
      self11 p12.1 (v9 + (1 : Int32)) p12.2
    )
  )
def MX5_go (fu : Nat) (a0 : Nat) (a1 : Nat) (a2 : Int32) (h : Hp) : Option (Hp) :=
  h_g 5 h a0 <|
  (h_pI 5 h a0 0 (0 : Int32)).bind fun h1 =>
  (h_pI 5 h1 a0 1 (0 : Int32)).bind fun h2 =>
  (h_pI 5 h2 a0 2 (0 : Int32)).bind fun h3 =>
  (h_pI 5 h3 a0 3 (0 : Int32)).bind fun h4 =>
  (h_pI 5 h4 a0 4 a2).bind fun h5 =>
  (h_fR 5 h5 a0 5).bind fun x6 =>
  (MX1_begin fu x6 h5).bind fun h7 =>
  wh3 (MX5_go_B37 fu a0 a1) fu (1 : Int32) (0 : Int32) h7
def MX6_forget_B53 (a0 : Nat) (self14 : Int32 → Hp → Option (Hp)) (v12 : Int32) (h13 : Hp) : Option (Hp) :=
  if (41 : Int32) ≤ v12 then (
    some h13
  ) else (
    (h_fR 6 h13 a0 7).bind fun x15 =>
    (h_stZ h13 x15 v12 (0 : Int32)).bind fun h16 =>
    self14 (v12 + (1 : Int32)) h16
  )
def MX6_forget (fu : Nat) (a0 : Nat) (h : Hp) : Option (Hp) :=
  h_g 6 h a0 <|
  (h_pI 6 h a0 0 (0 : Int32)).bind fun h1 =>
  (h_pZ 6 h1 a0 1 (0 : Int32)).bind fun h2 =>
  (h_pI 6 h2 a0 2 (0 : Int32)).bind fun h3 =>
  (h_pI 6 h3 a0 9 (-1 : Int32)).bind fun h4 =>
  (h_pI 6 h4 a0 4 (0 : Int32)).bind fun h5 =>
  (h_pI 6 h5 a0 5 (0 : Int32)).bind fun h6 =>
  (h_pI 6 h6 a0 6 (0 : Int32)).bind fun h7 =>
  (h_fR 6 h7 a0 12).bind fun x8 =>
  (MJ7_fill_53178 fu x8 (0 : Int32) h7).bind fun h9 =>
  (h_fR 6 h9 a0 8).bind fun x10 =>
  (MJ7_fill_53178 fu x10 (0 : Int32) h9).bind fun h11 =>
  wh2 (MX6_forget_B53 a0) fu (0 : Int32) h11
def MX6_addAt (a0 : Nat) (a1 : Int32) (a2 : Int64) (a4 : Int32) (h : Hp) : Option (Hp) :=
  h_g 6 h a0 <|
  (h_fI 6 h a0 0).bind fun x1 =>
  if x1 < (1000 : Int32) then (
    (h_fR 6 h a0 10).bind fun x2 =>
    (h_stL h x2 x1 a2).bind fun h3 =>
    (h_fR 6 h3 a0 11).bind fun x4 =>
    (h_fI 6 h3 a0 0).bind fun x5 =>
    (h_stI h3 x4 x5 a4).bind fun h6 =>
    (h_fI 6 h6 a0 0).bind fun x7 =>
    (h_pI 6 h6 a0 0 (x7 + (1 : Int32))).bind fun h8 =>
    (h_fR 6 h8 a0 12).bind fun x9 =>
    (h_fI 6 h8 a0 0).bind fun x10 =>
    (h_stI h8 x9 a1 x10).bind fun h11 =>
    some h11
  ) else (
    (h_pZ 6 h a0 1 (1 : Int32)).bind fun h12 =>
    some h12
  )
def MX6_add_B14 (h : Hp) (a0 : Nat) (j2 : Int32 → Option (Hp)) (a1 : Int64) (self6 : Int32 → Int32 → Option (Hp)) (v4 : Int32) (v5 : Int32) : Option (Hp) :=
  if (2048 : Int32) ≤ v5 then (
    some h
  ) else (
    (h_fR 6 h a0 12).bind fun x7 =>
    (h_ldI h x7 v4).bind fun x8 =>
    if x8 = 0 then (
      j2 v4
    ) else (
      (h_fR 6 h a0 10).bind fun x9 =>
      (h_ldL h x9 (x8 - (1 : Int32))).bind fun x10 =>
      if (lg_cmp x10 a1) = 0 then (
        some h
      ) else (
        (h_rem (v4 + (1 : Int32)) (2048 : Int32)).bind fun x11 =>
        self6 x11 (v5 + (1 : Int32))
      )
    )
  )
def MX6_add (fu : Nat) (a0 : Nat) (a1 : Int64) (a3 : Int32) (h : Hp) : Option (Hp) :=
  h_g 6 h a0 <|
  jn (fun (v1 : Int32) =>
    (MX6_addAt a0 v1 a1 a3 h).bind fun h3 =>
    some h3
  ) fun (j2 : Int32 → Option (Hp)) =>
  wh2 (MX6_add_B14 h a0 j2 a1) fu ((((a1 * (-7046029254386353131 : Int64)).toUInt64 >>> ((53 : Int32).toInt64.toUInt64 &&& Int64.toUInt64 63)).toInt64).toInt32) (0 : Int32)
def MX6_noteLeft_B10 (a1 : Nat) (j15 : Hp → Option (Hp)) (a0 : Nat) (self18 : Int32 → Hp → Option (Hp)) (v16 : Int32) (h17 : Hp) : Option (Hp) :=
  (h_fI 4 h17 a1 1).bind fun x19 =>
  if x19 ≤ v16 then (
    j15 h17
  ) else (
    (h_fR 6 h17 a0 8).bind fun x20 =>
    (h_fR 4 h17 a1 2).bind fun x21 =>
    (h_ldI h17 x21 v16).bind fun x22 =>
    (h_ldI h17 x20 x22).bind fun x23 =>
    (h_fR 6 h17 a0 13).bind fun x24 =>
    (MX1_states x24 v16 h17).bind fun x25 =>
    (h_stI h17 x20 x22 (x23 ||| x25)).bind fun h26 =>
    self18 (v16 + (1 : Int32)) h26
  )
def MX6_noteLeft (fu : Nat) (a0 : Nat) (a1 : Nat) (a2 : Int32) (h : Hp) : Option (Hp) :=
  h_g 6 h a0 <|
  (h_fI 4 h a1 3).bind fun x1 =>
  if a2 < x1 then (
    (h_fR 4 h a1 4).bind fun x2 =>
    (h_ldI h x2 a2).bind fun x3 =>
    if x3 = (5 : Int32) then (
      (h_fR 6 h a0 13).bind fun x4 =>
      (h_fR 4 h a1 5).bind fun x5 =>
      (h_ldI h x5 a2).bind fun x6 =>
      (MX1_isAlone x4 x6 h).bind fun x7 =>
      if x7 = 0 then (
        some h
      ) else (
        (h_fR 6 h a0 8).bind fun x8 =>
        (h_fR 4 h a1 2).bind fun x9 =>
        (h_ldI h x9 x6).bind fun x10 =>
        (h_ldI h x8 x10).bind fun x11 =>
        (MX1_states x4 x6 h).bind fun x12 =>
        (h_stI h x8 x10 (x11 ||| x12)).bind fun h13 =>
        some h13
      )
    ) else (
      some h
    )
  ) else (
    jn (fun (h14 : Hp) =>
      some h14
    ) fun (j15 : Hp → Option (Hp)) =>
    wh2 (MX6_noteLeft_B10 a1 j15 a0) fu (0 : Int32) h
  )
def MX6_goesOnFrom (fu : Nat) (a0 : Nat) (a1 : Nat) (a2 : Int32) (a3 : Int32) (h : Hp) : Option (Int32 × Hp) :=
  h_g 6 h a0 <|
  (h_fR 6 h a0 7).bind fun x1 =>
  (h_stZ h x1 a3 (1 : Int32)).bind fun h2 =>
  (h_fI 6 h2 a0 5).bind fun x3 =>
  (h_fR 6 h2 a0 13).bind fun x4 =>
  (h_fI 4 h2 a1 1).bind fun x5 =>
  (MX1_things fu x4 x5 h2).bind fun x6 =>
  (h_pI 6 h2 a0 5 (jmax x3 x6)).bind fun h7 =>
  (MX6_noteLeft fu a0 a1 a3 h7).bind fun h8 =>
  (h_fR 6 h8 a0 13).bind fun x9 =>
  (MX1_reasonAt fu x9 a1 a3 h8).bind fun x10 =>
  if x10 = 0 then (
    (h_fI 4 h8 a1 3).bind fun x11 =>
    if a3 < x11 then (
      some ((1 : Int32), h8)
    ) else (
      (h_fI 6 h8 a0 6).bind fun x12 =>
      (h_pI 6 h8 a0 6 (x12 + (1 : Int32))).bind fun h13 =>
      some ((0 : Int32), h13)
    )
  ) else (
    (h_fI 6 h8 a0 2).bind fun x14 =>
    (h_pI 6 h8 a0 2 (x14 + (1 : Int32))).bind fun h15 =>
    (h_fI 6 h15 a0 9).bind fun x16 =>
    jn (fun (w17 : Int32) =>
      (h_pI 6 h15 a0 9 w17).bind fun h19 =>
      (h_fI 6 h19 a0 4).bind fun x20 =>
      jn (fun (w21 : Int32) =>
        (h_pI 6 h19 a0 4 w21).bind fun h23 =>
        some ((0 : Int32), h23)
      ) fun (j22 : Int32 → Option (Int32 × Hp)) =>
      if x20 = 0 then (
        j22 x10
      ) else (
        j22 x20
      )
    ) fun (j18 : Int32 → Option (Int32 × Hp)) =>
    if x16 = (-1 : Int32) then (
      j18 a2
    ) else (
      j18 x16
    )
  )
def MX6_follow (fu : Nat) (a0 : Nat) (a1 : Nat) (a2 : Int32) (a3 : Int32) (a4 : Int32) (h : Hp) : Option (Hp) :=
  h_g 6 h a0 <|
  jn (fun (w1 : Int32) =>
    (h_fR 6 h a0 14).bind fun x3 =>
    (h_fR 6 h a0 13).bind fun x4 =>
    (MX1_copyFrom x3 x4 h).bind fun h5 =>
    if w1 = (-1 : Int32) then (
      some h5
    ) else (
      (h_fR 6 h5 a0 14).bind fun x6 =>
      (MX1_pass fu x6 a1 a3 a4 h5).bind fun p7 =>
      if p7.1 = 0 then (
        some p7.2
      ) else (
        (h_fR 6 p7.2 a0 14).bind fun x8 =>
        (MX1_key fu x8 w1 p7.2).bind fun x9 =>
        (MX6_add fu a0 x9 a2 p7.2).bind fun h10 =>
        some h10
      )
    )
  ) fun (j2 : Int32 → Option (Hp)) =>
  if a4 = 0 then (
    (h_fR 4 h a1 14).bind fun x11 =>
    (h_ldI h x11 a3).bind fun x12 =>
    j2 x12
  ) else (
    (h_fR 4 h a1 13).bind fun x13 =>
    (h_ldI h x13 a3).bind fun x14 =>
    j2 x14
  )
def MX6_lengthTo_B4 (h : Hp) (a0 : Nat) (self3 : Int32 → Int32 → Option (Int32)) (v1 : Int32) (v2 : Int32) : Option (Int32) :=
  if v2 = (-1 : Int32) then (
    some v1
  ) else (
    if (1000 : Int32) ≤ v1 then (
      some v1
    ) else (
      (h_fR 6 h a0 11).bind fun x4 =>
      (h_ldI h x4 v2).bind fun x5 =>
      self3 (v1 + (1 : Int32)) x5
    )
  )
def MX6_lengthTo (fu : Nat) (a0 : Nat) (a1 : Int32) (h : Hp) : Option (Int32) :=
  h_g 6 h a0 <|
  wh2 (MX6_lengthTo_B4 h a0) fu (0 : Int32) a1
def MX6_explore_B26 (fu : Nat) (j8 : Hp → Option (Hp)) (a0 : Nat) (a1 : Nat) (self14 : Int32 → Hp → Option (Hp)) (v12 : Int32) (h13 : Hp) : Option (Hp) :=
  if (1000 : Int32) ≤ v12 then (
    j8 h13
  ) else (
    (h_fI 6 h13 a0 0).bind fun x15 =>
    if x15 ≤ v12 then (
      j8 h13
    ) else (
      (h_fI 6 h13 a0 1).bind fun x16 =>
      if x16 = 0 then (
        (h_fR 6 h13 a0 10).bind fun x17 =>
        (h_ldL h13 x17 v12).bind fun x18 =>
        (MX1_placeOf x18).bind fun x19 =>
        (h_fR 6 h13 a0 13).bind fun x20 =>
        (MX1_setFrom fu x20 x18 h13).bind fun h21 =>
        (MX6_goesOnFrom fu a0 a1 v12 x19 h21).bind fun p22 =>
        jn (fun (h23 : Hp) =>
          self14 (v12 + (1 : Int32)) h23
        ) fun (j24 : Hp → Option (Hp)) =>
        if p22.1 = 0 then (
          j24 p22.2
        ) else (
          (MX6_follow fu a0 a1 v12 x19 (1 : Int32) p22.2).bind fun h25 =>
          (MX6_follow fu a0 a1 v12 x19 (0 : Int32) h25).bind fun h26 =>
          j24 h26
        )
      ) else (
        j8 h13
      )
    )
  )
def MX6_explore (fu : Nat) (a0 : Nat) (a1 : Nat) (h : Hp) : Option (Hp) :=
  h_g 6 h a0 <|
  (MX6_forget fu a0 h).bind fun h1 =>
  (h_fR 6 h1 a0 13).bind fun x2 =>
  (MX1_begin fu x2 h1).bind fun h3 =>
  (h_fR 6 h3 a0 13).bind fun x4 =>
  (MX1_key fu x4 (0 : Int32) h3).bind fun x5 =>
  (MX6_add fu a0 x5 (-1 : Int32) h3).bind fun h6 =>
  jn (fun (h7 : Hp) =>
    (h_fI 6 h7 a0 9).bind fun x9 =>
    (MX6_lengthTo fu a0 x9 h7).bind fun x10 =>
    (h_pI 6 h7 a0 3 x10).bind fun h11 =>
    some h11
  ) fun (j8 : Hp → Option (Hp)) =>
  wh2 (MX6_explore_B26 fu j8 a0 a1) fu (0 : Int32) h6
def MX6_placeOnWrongPath_B12 (a1 : Int32) (j4 : Int32 → Option (Int32)) (h : Hp) (a0 : Nat) (self10 : Int32 → Int32 → Option (Int32)) (v8 : Int32) (v9 : Int32) : Option (Int32) :=
  if v9 ≤ a1 then (
    j4 v8
  ) else (
    if v8 = (-1 : Int32) then (
      j4 v8
    ) else (
      (h_fR 6 h a0 11).bind fun x11 =>
      (h_ldI h x11 v8).bind fun x12 =>
      self10 x12 (v9 + (-1 : Int32))
    )
  )
def MX6_placeOnWrongPath (fu : Nat) (a0 : Nat) (a1 : Int32) (h : Hp) : Option (Int32) :=
  h_g 6 h a0 <|
  (h_fI 6 h a0 9).bind fun x1 =>
  (h_fI 6 h a0 3).bind fun x2 =>
  jn (fun (v3 : Int32) =>
    if v3 = (-1 : Int32) then (
      some (-1 : Int32)
    ) else (
      (h_fR 6 h a0 10).bind fun x5 =>
      (h_ldL h x5 v3).bind fun x6 =>
      (MX1_placeOf x6).bind fun x7 =>
      some x7
    )
  ) fun (j4 : Int32 → Option (Int32)) =>
  wh2 (MX6_placeOnWrongPath_B12 a1 j4 h a0) fu x1 (x2 - (1 : Int32))
def MX6_gather_B13 (fu : Nat) (a0 : Nat) (j5 : Int32 → Int32 → Int32 → Hp → Option (Int32 × Hp)) (a1 : Int32) (a3 : Int32) (a2 : Int32) (self11 : Int32 → Int32 → Int32 → Int32 → Hp → Option (Int32 × Hp)) (v6 : Int32) (v7 : Int32) (v8 : Int32) (v9 : Int32) (h10 : Hp) : Option (Int32 × Hp) :=
  (h_fI 6 h10 a0 0).bind fun x12 =>
  if x12 ≤ v9 then (
    j5 v6 v7 v8 h10
  ) else (
    (h_fR 6 h10 a0 10).bind fun x13 =>
    (h_ldL h10 x13 v9).bind fun x14 =>
    (MX1_placeOf x14).bind fun x15 =>
    jn (fun (v16 : Int32) (v17 : Int32) (v18 : Int32) (h19 : Hp) =>
      self11 v16 v17 v18 (v9 + (1 : Int32)) h19
    ) fun (j20 : Int32 → Int32 → Int32 → Hp → Option (Int32 × Hp)) =>
    if x15 = a1 then (
      (h_fR 6 h10 a0 13).bind fun x21 =>
      (MX1_setFrom fu x21 x14 h10).bind fun h22 =>
      (h_fR 6 h22 a0 13).bind fun x23 =>
      (MX1_part x23 a3 a2 h22).bind fun x24 =>
      (MX1_states x23 a2 h22).bind fun x25 =>
      if x25 = 0 then (
        j20 (v6 ||| x24) v7 v8 h22
      ) else (
        j20 (v6 ||| x24) (v7 &&& x24) (1 : Int32) h22
      )
    ) else (
      j20 v6 v7 v8 h10
    )
  )
def MX6_gather (fu : Nat) (a0 : Nat) (a1 : Int32) (a2 : Int32) (a3 : Int32) (h : Hp) : Option (Int32 × Hp) :=
  h_g 6 h a0 <|
  jn (fun (v1 : Int32) (v2 : Int32) (v3 : Int32) (h4 : Hp) =>
    if a3 = (3 : Int32) then (
      if v3 = 0 then (
        some ((0 : Int32), h4)
      ) else (
        some (v2, h4)
      )
    ) else (
      some (v1, h4)
    )
  ) fun (j5 : Int32 → Int32 → Int32 → Hp → Option (Int32 × Hp)) =>
  wh5 (MX6_gather_B13 fu a0 j5 a1 a3 a2) fu (0 : Int32) (63 : Int32) (0 : Int32) (0 : Int32) h
def MX7_putByte (a0 : Nat) (a1 : Int32) (h : Hp) : Option (Hp) :=
  h_g 7 h a0 <|
  (h_fI 7 h a0 0).bind fun x1 =>
  if (900 : Int32) ≤ x1 then (
    some h
  ) else (
    (h_fR 7 h a0 6).bind fun x2 =>
    (h_stB h x2 x1 a1.toInt8.toInt32).bind fun h3 =>
    (h_fI 7 h3 a0 0).bind fun x4 =>
    (h_pI 7 h3 a0 0 (x4 + (1 : Int32))).bind fun h5 =>
    some h5
  )
def MX7_putInt (a0 : Nat) (a1 : Int32) (h : Hp) : Option (Hp) :=
  h_g 7 h a0 <|
  (MX7_putByte a0 (a1 >>> ((24 : Int32) &&& 31)) h).bind fun h1 =>
  (MX7_putByte a0 (a1 >>> ((16 : Int32) &&& 31)) h1).bind fun h2 =>
  (MX7_putByte a0 (a1 >>> ((8 : Int32) &&& 31)) h2).bind fun h3 =>
  (MX7_putByte a0 a1 h3).bind fun h4 =>
  some h4
def MX8_status (a0 : Nat) (h : Hp) : Option (Int32) :=
  h_g 8 h a0 <|
  (h_fI 8 h a0 9).bind fun x1 =>
  some x1
def MX8_feed (a0 : Nat) (a1 : Int32) (a2 : Int32) (a3 : Int32) (a4 : Int32) (a5 : Int32) (h : Hp) : Option (Int32 × Hp) :=
  h_g 8 h a0 <|
  (h_fR 8 h a0 0).bind fun x1 =>
  (h_fR 3 h x1 0).bind fun x2 =>
  (h_fI 7 h x2 0).bind fun x3 =>
  if x3 ≤ (880 : Int32) then (
    (MX7_putInt x2 a1 h).bind fun h4 =>
    (MX7_putInt x2 a2 h4).bind fun h5 =>
    (MX7_putInt x2 a3 h5).bind fun h6 =>
    (MX7_putInt x2 a4 h6).bind fun h7 =>
    (MX7_putInt x2 a5 h7).bind fun h8 =>
    (h_fI 7 h8 x2 0).bind fun x9 =>
    some (x9, h8)
  ) else (
    some ((-1 : Int32), h)
  )
def MX8_refuse (a0 : Nat) (a1 : Int32) (h : Hp) : Option (Int32 × Hp) :=
  h_g 8 h a0 <|
  (h_pI 8 h a0 9 a1).bind fun h1 =>
  some ((-1 : Int32), h1)
def MX8_forgetAnswers (fu : Nat) (a0 : Nat) (h : Hp) : Option (Hp) :=
  h_g 8 h a0 <|
  (h_pZ 8 h a0 7 (0 : Int32)).bind fun h1 =>
  (h_pZ 8 h1 a0 8 (0 : Int32)).bind fun h2 =>
  (h_fR 8 h2 a0 5).bind fun x3 =>
  (MJ7_fill_53178 fu x3 (-1 : Int32) h2).bind fun h4 =>
  some h4
def MX8_answer (a0 : Nat) (a1 : Int32) (h : Hp) : Option (Int32 × Hp) :=
  h_g 8 h a0 <|
  (h_pI 8 h a0 9 (0 : Int32)).bind fun h1 =>
  some (a1, h1)
def MX8_load (fu : Nat) (a0 : Nat) (a1 : Int32) (h : Hp) : Option (Int32 × Hp) :=
  h_g 8 h a0 <|
  jn (
    (MX8_refuse a0 (1 : Int32) h).bind fun p2 =>
    some (p2.1, p2.2)
  ) fun (j1 : Option (Int32 × Hp)) =>
  if a1 < 0 then (
    j1
  ) else (
    (h_fR 8 h a0 0).bind fun x3 =>
    (h_fR 3 h x3 0).bind fun x4 =>
    (h_fI 7 h x4 0).bind fun x5 =>
    if a1 ≤ x5 then (
      (MX3_parse fu x3 a1 h).bind fun p6 =>
      (h_fR 8 p6.2 a0 0).bind fun x7 =>
      (h_fI 3 p6.2 x7 1).bind fun x8 =>
      (h_pI 8 p6.2 a0 10 x8).bind fun h9 =>
      (h_fR 8 h9 a0 0).bind fun x10 =>
      (h_fI 3 h9 x10 2).bind fun x11 =>
      (h_pI 8 h9 a0 11 x11).bind fun h12 =>
      if p6.1 = 0 then (
        (MX8_refuse a0 (9 : Int32) h12).bind fun p21 =>
        some (p21.1, p21.2)
      ) else (
        (h_fR 8 h12 a0 0).bind fun x13 =>
        (h_fR 8 h12 a0 6).bind fun x14 =>
        (MX3_handOver x13 x14 h12).bind fun p15 =>
        (h_pR 8 p15.2 a0 6 p15.1).bind fun h16 =>
        (MX8_forgetAnswers fu a0 h16).bind fun h17 =>
        (h_fR 8 h17 a0 6).bind fun x18 =>
        (h_fI 4 h17 x18 3).bind fun x19 =>
        (MX8_answer a0 x19 h17).bind fun p20 =>
        some (p20.1, p20.2)
      )
    ) else (
      j1
    )
  )
def MX8_fault (a0 : Nat) (a1 : Int32) (h : Hp) : Option (Int32) :=
  h_g 8 h a0 <|
  if a1 = 0 then (
    (h_fI 8 h a0 10).bind fun x2 =>
    some x2
  ) else (
    if a1 = (1 : Int32) then (
      (h_fI 8 h a0 11).bind fun x1 =>
      some x1
    ) else (
      some (-1 : Int32)
    )
  )
def MX8_many (a0 : Nat) (a1 : Int32) (h : Hp) : Option (Int32 × Hp) :=
  h_g 8 h a0 <|
  if a1 = (0 : Int32) then (
    (h_fR 8 h a0 6).bind fun x1 =>
    (h_fR 4 h x1 0).bind fun x2 =>
    (h_fI 2 h x2 0).bind fun x3 =>
    (MX8_answer a0 x3 h).bind fun p4 =>
    some (p4.1, p4.2)
  ) else (
  if a1 = (1 : Int32) then (
    (h_fR 8 h a0 6).bind fun x5 =>
    (h_fI 4 h x5 1).bind fun x6 =>
    (MX8_answer a0 x6 h).bind fun p7 =>
    some (p7.1, p7.2)
  ) else (
  if a1 = (2 : Int32) then (
    (h_fR 8 h a0 6).bind fun x8 =>
    (h_fI 4 h x8 3).bind fun x9 =>
    (MX8_answer a0 x9 h).bind fun p10 =>
    some (p10.1, p10.2)
  ) else (
  (MX8_refuse a0 (1 : Int32) h).bind fun p11 =>
  some (p11.1, p11.2)
  )))
def MX8_kind (fu : Nat) (a0 : Nat) (a1 : Int32) (a2 : Int32) (h : Hp) : Option (Int32 × Hp) :=
  h_g 8 h a0 <|
  jn (
    (MX8_refuse a0 (1 : Int32) h).bind fun p2 =>
    some (p2.1, p2.2)
  ) fun (j1 : Option (Int32 × Hp)) =>
  if a2 < 0 then (
    j1
  ) else (
    if a2 ≤ (5 : Int32) then (
      (h_fR 8 h a0 6).bind fun x3 =>
      (h_fR 4 h x3 0).bind fun x4 =>
      (MX2_hasKind x4 a1 h).bind fun x5 =>
      if x5 = 0 then (
        (MX8_refuse a0 (2 : Int32) h).bind fun p22 =>
        some (p22.1, p22.2)
      ) else (
        if a2 = (0 : Int32) then (
          (h_fR 2 h x4 1).bind fun x6 =>
          (h_ldI h x6 a1).bind fun x7 =>
          (MX8_answer a0 x7 h).bind fun p8 =>
          some (p8.1, p8.2)
        ) else (
        if a2 = (1 : Int32) then (
          (h_fR 2 h x4 3).bind fun x9 =>
          (h_ldI h x9 a1).bind fun x10 =>
          (MX8_answer a0 x10 h).bind fun p11 =>
          some (p11.1, p11.2)
        ) else (
        if a2 = (2 : Int32) then (
          (h_fR 2 h x4 2).bind fun x12 =>
          (h_ldI h x12 a1).bind fun x13 =>
          (MX8_answer a0 x13 h).bind fun p14 =>
          some (p14.1, p14.2)
        ) else (
        if a2 = (3 : Int32) then (
          (MX4_variablesOf fu x3 a1 h).bind fun x15 =>
          (MX8_answer a0 x15 h).bind fun p16 =>
          some (p16.1, p16.2)
        ) else (
        if a2 = (4 : Int32) then (
          (MX2_reachable fu x4 a1 h).bind fun x17 =>
          (MX8_answer a0 x17 h).bind fun p18 =>
          some (p18.1, p18.2)
        ) else (
        (MX2_reachable fu x4 a1 h).bind fun x19 =>
        (MX2_hopeless fu x4 a1 h).bind fun p20 =>
        (MX8_answer a0 (x19 &&& p20.1) p20.2).bind fun p21 =>
        some (p21.1, p21.2)
        )))))
      )
    ) else (
      j1
    )
  )
def MX8_method (a0 : Nat) (a1 : Int32) (a2 : Int32) (a3 : Int32) (h : Hp) : Option (Int32 × Hp) :=
  h_g 8 h a0 <|
  jn (
    (MX8_refuse a0 (1 : Int32) h).bind fun p2 =>
    some (p2.1, p2.2)
  ) fun (j1 : Option (Int32 × Hp)) =>
  if a3 < 0 then (
    j1
  ) else (
    if a3 ≤ (1 : Int32) then (
      (h_fR 8 h a0 6).bind fun x3 =>
      (h_fR 4 h x3 0).bind fun x4 =>
      (MX2_hasMethod x4 a1 a2 h).bind fun x5 =>
      if x5 = 0 then (
        (MX8_refuse a0 (2 : Int32) h).bind fun p11 =>
        some (p11.1, p11.2)
      ) else (
        jn (fun (w6 : Int32) =>
          (MX8_answer a0 w6 h).bind fun p8 =>
          some (p8.1, p8.2)
        ) fun (j7 : Int32 → Option (Int32 × Hp)) =>
        if a3 = 0 then (
          (MX2_sortOf x4 a1 a2 h).bind fun x10 =>
          j7 x10
        ) else (
          (MX2_statesOf x4 a1 a2 h).bind fun x9 =>
          j7 x9
        )
      )
    ) else (
      j1
    )
  )
def MX8_comes (a0 : Nat) (a1 : Int32) (a2 : Int32) (a3 : Int32) (a4 : Int32) (h : Hp) : Option (Int32 × Hp) :=
  h_g 8 h a0 <|
  (h_fR 8 h a0 6).bind fun x1 =>
  (h_fR 4 h x1 0).bind fun x2 =>
  (MX2_hasMethod x2 a1 a2 h).bind fun x3 =>
  jn (
    (MX8_refuse a0 (2 : Int32) h).bind fun p5 =>
    some (p5.1, p5.2)
  ) fun (j4 : Option (Int32 × Hp)) =>
  if x3 = 0 then (
    j4
  ) else (
    (MX2_hasState x2 a1 a3 h).bind fun x6 =>
    if x6 = 0 then (
      j4
    ) else (
      (MX2_following x2 a1 a2 a3 a4 h).bind fun x7 =>
      if x7 = (-1 : Int32) then (
        (MX8_refuse a0 (5 : Int32) h).bind fun p9 =>
        some (p9.1, p9.2)
      ) else (
        (MX8_answer a0 x7 h).bind fun p8 =>
        some (p8.1, p8.2)
      )
    )
  )
def MX8_tell (fu : Nat) (a0 : Nat) (a1 : Int32) (a2 : Int32) (a3 : Int32) (a4 : Int32) (a5 : Int32) (h : Hp) : Option (Int32 × Hp) :=
  h_g 8 h a0 <|
  if (-1 : Int32) ≤ a5 then (
    (h_fR 8 h a0 6).bind fun x1 =>
    (h_fR 4 h x1 0).bind fun x2 =>
    (MX2_hasMethod x2 a1 a2 h).bind fun x3 =>
    jn (
      (MX8_refuse a0 (2 : Int32) h).bind fun p5 =>
      some (p5.1, p5.2)
    ) fun (j4 : Option (Int32 × Hp)) =>
    if x3 = 0 then (
      j4
    ) else (
      (MX2_hasState x2 a1 a3 h).bind fun x6 =>
      if x6 = 0 then (
        j4
      ) else (
        jn (
          (MX2_following x2 a1 a2 a3 a4 h).bind fun x8 =>
          if x8 = a5 then (
            (MX8_refuse a0 (4 : Int32) h).bind fun p15 =>
            some (p15.1, p15.2)
          ) else (
            (MX2_sortOf x2 a1 a2 h).bind fun x9 =>
            jn (
              (MX2_change x2 a1 a2 a3 a4 a5 h).bind fun h11 =>
              (MX8_forgetAnswers fu a0 h11).bind fun h12 =>
              (MX8_answer a0 x8 h12).bind fun p13 =>
              some (p13.1, p13.2)
            ) fun (j10 : Option (Int32 × Hp)) =>
            if x9 = (2 : Int32) then (
              if a5 = (-1 : Int32) then (
                j10
              ) else (
                if a5 = a3 then (
                  j10
                ) else (
                  (MX8_refuse a0 (5 : Int32) h).bind fun p14 =>
                  some (p14.1, p14.2)
                )
              )
            ) else (
              j10
            )
          )
        ) fun (j7 : Option (Int32 × Hp)) =>
        if a5 = (-1 : Int32) then (
          j7
        ) else (
          (MX2_hasState x2 a1 a5 h).bind fun x16 =>
          if x16 = 0 then (
            (MX8_refuse a0 (2 : Int32) h).bind fun p17 =>
            some (p17.1, p17.2)
          ) else (
            j7
          )
        )
      )
    )
  ) else (
    (MX8_refuse a0 (1 : Int32) h).bind fun p18 =>
    some (p18.1, p18.2)
  )
def MX8_toEnd (fu : Nat) (a0 : Nat) (a1 : Int32) (a2 : Int32) (h : Hp) : Option (Int32 × Hp) :=
  h_g 8 h a0 <|
  (h_fR 8 h a0 6).bind fun x1 =>
  (h_fR 4 h x1 0).bind fun x2 =>
  (MX2_hasState x2 a1 a2 h).bind fun x3 =>
  if x3 = 0 then (
    (MX8_refuse a0 (2 : Int32) h).bind fun p7 =>
    some (p7.1, p7.2)
  ) else (
    (MX2_stepsToEnd fu x2 a1 a2 h).bind fun p4 =>
    if p4.1 = (-1 : Int32) then (
      (MX8_refuse a0 (5 : Int32) p4.2).bind fun p6 =>
      some (p6.1, p6.2)
    ) else (
      (MX8_answer a0 p4.1 p4.2).bind fun p5 =>
      some (p5.1, p5.2)
    )
  )
def MX8_towards (fu : Nat) (a0 : Nat) (a1 : Int32) (a2 : Int32) (h : Hp) : Option (Int32 × Hp) :=
  h_g 8 h a0 <|
  (h_fR 8 h a0 6).bind fun x1 =>
  (h_fR 4 h x1 0).bind fun x2 =>
  (MX2_hasState x2 a1 a2 h).bind fun x3 =>
  if x3 = 0 then (
    (MX8_refuse a0 (2 : Int32) h).bind fun p9 =>
    some (p9.1, p9.2)
  ) else (
    (MX2_stepsToEnd fu x2 a1 a2 h).bind fun p4 =>
    jn (
      (MX8_refuse a0 (5 : Int32) p4.2).bind fun p6 =>
      some (p6.1, p6.2)
    ) fun (j5 : Option (Int32 × Hp)) =>
    if p4.1 = (-1 : Int32) then (
      j5
    ) else (
      if p4.1 = 0 then (
        j5
      ) else (
        (MX2_methodTo fu x2 a1 a2 (p4.1 - (1 : Int32)) p4.2).bind fun x7 =>
        (MX8_answer a0 x7 p4.2).bind fun p8 =>
        some (p8.1, p8.2)
      )
    )
  )
def MX8_alike (fu : Nat) (a0 : Nat) (a1 : Int32) (a2 : Int32) (a3 : Int32) (h : Hp) : Option (Int32 × Hp) :=
  h_g 8 h a0 <|
  (h_fR 8 h a0 6).bind fun x1 =>
  (h_fR 4 h x1 0).bind fun x2 =>
  (MX2_hasState x2 a1 a2 h).bind fun x3 =>
  jn (
    (MX8_refuse a0 (2 : Int32) h).bind fun p5 =>
    some (p5.1, p5.2)
  ) fun (j4 : Option (Int32 × Hp)) =>
  if x3 = 0 then (
    j4
  ) else (
    (MX2_hasState x2 a1 a3 h).bind fun x6 =>
    if x6 = 0 then (
      j4
    ) else (
      (MX2_areAlike fu x2 a1 a2 a3 h).bind fun p7 =>
      jn (fun (w8 : Int32) =>
        (MX8_answer a0 w8 p7.2).bind fun p10 =>
        some (p10.1, p10.2)
      ) fun (j9 : Int32 → Option (Int32 × Hp)) =>
      if p7.1 = 0 then (
        j9 (0 : Int32)
      ) else (
        j9 (1 : Int32)
      )
    )
  )
def MX8_rows (fu : Nat) (a0 : Nat) (a1 : Int32) (a2 : Int32) (a3 : Int32) (h : Hp) : Option (Int32 × Hp) :=
  h_g 8 h a0 <|
  jn (
    (MX8_refuse a0 (1 : Int32) h).bind fun p2 =>
    some (p2.1, p2.2)
  ) fun (j1 : Option (Int32 × Hp)) =>
  if a2 < 0 then (
    j1
  ) else (
    if a2 ≤ (12 : Int32) then (
      (h_fR 8 h a0 6).bind fun x3 =>
      (h_fR 4 h x3 0).bind fun x4 =>
      (MX2_hasKind x4 a1 h).bind fun x5 =>
      if x5 = 0 then (
        (MX8_refuse a0 (2 : Int32) h).bind fun p8 =>
        some (p8.1, p8.2)
      ) else (
        (MX2_countRows fu x4 a1 a2 a3 h).bind fun p6 =>
        (MX8_answer a0 p6.1 p6.2).bind fun p7 =>
        some (p7.1, p7.2)
      )
    ) else (
      j1
    )
  )
def MX8_statement (a0 : Nat) (a1 : Int32) (a2 : Int32) (h : Hp) : Option (Int32 × Hp) :=
  h_g 8 h a0 <|
  jn (
    (MX8_refuse a0 (1 : Int32) h).bind fun p2 =>
    some (p2.1, p2.2)
  ) fun (j1 : Option (Int32 × Hp)) =>
  if a2 < 0 then (
    j1
  ) else (
    if a2 ≤ (6 : Int32) then (
      (h_fR 8 h a0 6).bind fun x3 =>
      (MX4_hasStatement x3 a1 h).bind fun x4 =>
      if x4 = 0 then (
        (MX8_refuse a0 (2 : Int32) h).bind fun p26 =>
        some (p26.1, p26.2)
      ) else (
        if a2 = (0 : Int32) then (
          (h_fR 4 h x3 4).bind fun x5 =>
          (h_ldI h x5 a1).bind fun x6 =>
          (MX8_answer a0 x6 h).bind fun p7 =>
          some (p7.1, p7.2)
        ) else (
        if a2 = (1 : Int32) then (
          (h_fR 4 h x3 5).bind fun x8 =>
          (h_ldI h x8 a1).bind fun x9 =>
          (MX8_answer a0 x9 h).bind fun p10 =>
          some (p10.1, p10.2)
        ) else (
        if a2 = (2 : Int32) then (
          (h_fR 4 h x3 6).bind fun x11 =>
          (h_ldI h x11 a1).bind fun x12 =>
          (MX8_answer a0 x12 h).bind fun p13 =>
          some (p13.1, p13.2)
        ) else (
        if a2 = (3 : Int32) then (
          (h_fR 4 h x3 7).bind fun x14 =>
          (h_ldI h x14 a1).bind fun x15 =>
          (MX8_answer a0 x15 h).bind fun p16 =>
          some (p16.1, p16.2)
        ) else (
        if a2 = (4 : Int32) then (
          (h_fR 4 h x3 13).bind fun x17 =>
          (h_ldI h x17 a1).bind fun x18 =>
          (MX8_answer a0 x18 h).bind fun p19 =>
          some (p19.1, p19.2)
        ) else (
        if a2 = (5 : Int32) then (
          (h_fR 4 h x3 14).bind fun x20 =>
          (h_ldI h x20 a1).bind fun x21 =>
          (MX8_answer a0 x21 h).bind fun p22 =>
          some (p22.1, p22.2)
        ) else (
        (h_fR 4 h x3 8).bind fun x23 =>
        (h_ldI h x23 a1).bind fun x24 =>
        (MX8_answer a0 x24 h).bind fun p25 =>
        some (p25.1, p25.2)
        ))))))
      )
    ) else (
      j1
    )
  )
def MX8_variable (a0 : Nat) (a1 : Int32) (h : Hp) : Option (Int32 × Hp) :=
  h_g 8 h a0 <|
  (h_fR 8 h a0 6).bind fun x1 =>
  (MX4_hasVariable x1 a1 h).bind fun x2 =>
  if x2 = 0 then (
    (MX8_refuse a0 (2 : Int32) h).bind fun p3 =>
    some (p3.1, p3.2)
  ) else (
    (h_fR 4 h x1 2).bind fun x4 =>
    (h_ldI h x4 a1).bind fun x5 =>
    (MX8_answer a0 x5 h).bind fun p6 =>
    some (p6.1, p6.2)
  )
def MX8_solvedFlow (fu : Nat) (a0 : Nat) (h : Hp) : Option (Nat × Hp) :=
  h_g 8 h a0 <|
  (h_fI 8 h a0 7).bind fun x1 =>
  jn (fun (h2 : Hp) =>
    (h_fR 8 h2 a0 1).bind fun x4 =>
    some (x4, h2)
  ) fun (j3 : Hp → Option (Nat × Hp)) =>
  if x1 = 0 then (
    (h_fR 8 h a0 1).bind fun x5 =>
    (h_fR 8 h a0 6).bind fun x6 =>
    (MX0_solve fu x5 x6 (-1 : Int32) h).bind fun h7 =>
    (h_pZ 8 h7 a0 7 (1 : Int32)).bind fun h8 =>
    j3 h8
  ) else (
    j3 h
  )
def MX8_check (fu : Nat) (a0 : Nat) (a1 : Int32) (h : Hp) : Option (Int32 × Hp) :=
  h_g 8 h a0 <|
  jn (
    (MX8_refuse a0 (1 : Int32) h).bind fun p2 =>
    some (p2.1, p2.2)
  ) fun (j1 : Option (Int32 × Hp)) =>
  if a1 < 0 then (
    j1
  ) else (
    if a1 ≤ (4 : Int32) then (
      (MX8_solvedFlow fu a0 h).bind fun p3 =>
      (h_fI 0 p3.2 p3.1 3).bind fun x4 =>
      jn (fun (w5 : Int32) =>
        if a1 = (0 : Int32) then (
          jn (fun (w7 : Int32) =>
            (MX8_answer a0 w7 p3.2).bind fun p9 =>
            some (p9.1, p9.2)
          ) fun (j8 : Int32 → Option (Int32 × Hp)) =>
          if w5 = 0 then (
            j8 (0 : Int32)
          ) else (
            j8 (1 : Int32)
          )
        ) else (
        if a1 = (1 : Int32) then (
          if w5 = 0 then (
            (h_fI 0 p3.2 p3.1 4).bind fun x10 =>
            (MX8_answer a0 x10 p3.2).bind fun p11 =>
            some (p11.1, p11.2)
          ) else (
            (MX8_refuse a0 (5 : Int32) p3.2).bind fun p12 =>
            some (p12.1, p12.2)
          )
        ) else (
        if a1 = (2 : Int32) then (
          if w5 = 0 then (
            (MX0_firstReason p3.1 p3.2).bind fun x13 =>
            (MX8_answer a0 x13 p3.2).bind fun p14 =>
            some (p14.1, p14.2)
          ) else (
            (MX8_refuse a0 (5 : Int32) p3.2).bind fun p15 =>
            some (p15.1, p15.2)
          )
        ) else (
        if a1 = (3 : Int32) then (
          (MX8_answer a0 x4 p3.2).bind fun p16 =>
          some (p16.1, p16.2)
        ) else (
        (h_fI 0 p3.2 p3.1 5).bind fun x17 =>
        (MX8_answer a0 x17 p3.2).bind fun p18 =>
        some (p18.1, p18.2)
        ))))
      ) fun (j6 : Int32 → Option (Int32 × Hp)) =>
      if x4 = 0 then (
        j6 (1 : Int32)
      ) else (
        j6 (0 : Int32)
      )
    ) else (
      j1
    )
  )
def MX8_at (fu : Nat) (a0 : Nat) (a1 : Int32) (a2 : Int32) (a3 : Int32) (h : Hp) : Option (Int32 × Hp) :=
  h_g 8 h a0 <|
  jn (
    (MX8_refuse a0 (1 : Int32) h).bind fun p2 =>
    some (p2.1, p2.2)
  ) fun (j1 : Option (Int32 × Hp)) =>
  if a3 < 0 then (
    j1
  ) else (
    if a3 ≤ (4 : Int32) then (
      (h_fR 8 h a0 6).bind fun x3 =>
      (MX4_hasPlace x3 a1 h).bind fun x4 =>
      jn (
        (MX8_refuse a0 (2 : Int32) h).bind fun p6 =>
        some (p6.1, p6.2)
      ) fun (j5 : Option (Int32 × Hp)) =>
      if x4 = 0 then (
        j5
      ) else (
        (MX4_hasVariable x3 a2 h).bind fun x7 =>
        if x7 = 0 then (
          j5
        ) else (
          (MX8_solvedFlow fu a0 h).bind fun p8 =>
          (h_fR 0 p8.2 p8.1 1).bind fun x9 =>
          (h_ldZ p8.2 x9 a1).bind fun x10 =>
          if x10 = 0 then (
            (MX8_refuse a0 (5 : Int32) p8.2).bind fun p18 =>
            some (p18.1, p18.2)
          ) else (
            if a3 = (4 : Int32) then (
              (h_fR 0 p8.2 p8.1 2).bind fun x15 =>
              (h_ldI p8.2 x15 a1).bind fun x16 =>
              (MX8_answer a0 x16 p8.2).bind fun p17 =>
              some (p17.1, p17.2)
            ) else (
              (h_fR 0 p8.2 p8.1 0).bind fun x11 =>
              (h_ldR p8.2 x11 a1).bind fun x12 =>
              (MX1_part x12 a3 a2 p8.2).bind fun x13 =>
              (MX8_answer a0 x13 p8.2).bind fun p14 =>
              some (p14.1, p14.2)
            )
          )
        )
      )
    ) else (
      j1
    )
  )
def MX8_triedWithout (fu : Nat) (a0 : Nat) (a1 : Int32) (h : Hp) : Option (Int32 × Hp) :=
  h_g 8 h a0 <|
  (h_fR 8 h a0 5).bind fun x1 =>
  (h_ldI h x1 a1).bind fun x2 =>
  jn (fun (h3 : Hp) =>
    (h_fR 8 h3 a0 5).bind fun x5 =>
    (h_ldI h3 x5 a1).bind fun x6 =>
    some (x6, h3)
  ) fun (j4 : Hp → Option (Int32 × Hp)) =>
  if x2 = (-1 : Int32) then (
    (h_fR 8 h a0 2).bind fun x7 =>
    (h_fR 8 h a0 6).bind fun x8 =>
    (MX0_solve fu x7 x8 a1 h).bind fun h9 =>
    (h_fR 8 h9 a0 5).bind fun x10 =>
    (h_fR 8 h9 a0 2).bind fun x11 =>
    (h_fI 0 h9 x11 3).bind fun x12 =>
    jn (fun (w13 : Int32) =>
      (h_stI h9 x10 a1 w13).bind fun h15 =>
      j4 h15
    ) fun (j14 : Int32 → Option (Int32 × Hp)) =>
    if x12 = 0 then (
      j14 (1 : Int32)
    ) else (
      j14 (0 : Int32)
    )
  ) else (
    j4 h
  )
def MX8_without (fu : Nat) (a0 : Nat) (a1 : Int32) (h : Hp) : Option (Int32 × Hp) :=
  h_g 8 h a0 <|
  (h_fR 8 h a0 6).bind fun x1 =>
  (MX4_hasStatement x1 a1 h).bind fun x2 =>
  if x2 = 0 then (
    (MX8_refuse a0 (2 : Int32) h).bind fun p3 =>
    some (p3.1, p3.2)
  ) else (
    (MX8_triedWithout fu a0 a1 h).bind fun p4 =>
    (MX8_answer a0 p4.1 p4.2).bind fun p5 =>
    some (p5.1, p5.2)
  )
def MX8_mend_B18 (fu : Nat) (a0 : Nat) (j4 : Hp → Option (Int32 × Hp)) (j8 : Int32 → Hp → Option (Int32 × Hp)) (self12 : Int32 → Hp → Option (Int32 × Hp)) (v10 : Int32) (h11 : Hp) : Option (Int32 × Hp) :=
  (h_fR 8 h11 a0 6).bind fun x13 =>
  (h_fI 4 h11 x13 3).bind fun x14 =>
  if x14 ≤ v10 then (
    j4 h11
  ) else (
    (MX8_triedWithout fu a0 v10 h11).bind fun p15 =>
    if p15.1 = (1 : Int32) then (
      j8 v10 p15.2
    ) else (
      self12 (v10 + (1 : Int32)) p15.2
    )
  )
def MX8_mend (fu : Nat) (a0 : Nat) (h : Hp) : Option (Int32 × Hp) :=
  h_g 8 h a0 <|
  (MX8_solvedFlow fu a0 h).bind fun p1 =>
  (h_fI 0 p1.2 p1.1 3).bind fun x2 =>
  if x2 = 0 then (
    (MX8_refuse a0 (5 : Int32) p1.2).bind fun p16 =>
    some (p16.1, p16.2)
  ) else (
    jn (fun (h3 : Hp) =>
      (MX8_refuse a0 (5 : Int32) h3).bind fun p5 =>
      some (p5.1, p5.2)
    ) fun (j4 : Hp → Option (Int32 × Hp)) =>
    jn (fun (v6 : Int32) (h7 : Hp) =>
      (MX8_answer a0 v6 h7).bind fun p9 =>
      some (p9.1, p9.2)
    ) fun (j8 : Int32 → Hp → Option (Int32 × Hp)) =>
    wh2 (MX8_mend_B18 fu a0 j4 j8) fu (0 : Int32) p1.2
  )
def MX8_finishedSearch (fu : Nat) (a0 : Nat) (h : Hp) : Option (Nat × Hp) :=
  h_g 8 h a0 <|
  (h_fI 8 h a0 8).bind fun x1 =>
  jn (fun (h2 : Hp) =>
    (h_fR 8 h2 a0 3).bind fun x4 =>
    some (x4, h2)
  ) fun (j3 : Hp → Option (Nat × Hp)) =>
  if x1 = 0 then (
    (h_fR 8 h a0 3).bind fun x5 =>
    (h_fR 8 h a0 6).bind fun x6 =>
    (MX6_explore fu x5 x6 h).bind fun h7 =>
    (h_pZ 8 h7 a0 8 (1 : Int32)).bind fun h8 =>
    j3 h8
  ) else (
    j3 h
  )
def MX8_paths (fu : Nat) (a0 : Nat) (a1 : Int32) (h : Hp) : Option (Int32 × Hp) :=
  h_g 8 h a0 <|
  jn (
    (MX8_refuse a0 (1 : Int32) h).bind fun p2 =>
    some (p2.1, p2.2)
  ) fun (j1 : Option (Int32 × Hp)) =>
  if a1 < 0 then (
    j1
  ) else (
    if a1 ≤ (6 : Int32) then (
      (MX8_finishedSearch fu a0 h).bind fun p3 =>
      (h_fI 6 p3.2 p3.1 1).bind fun x4 =>
      if x4 = 0 then (
        (h_fI 6 p3.2 p3.1 2).bind fun x5 =>
        jn (fun (w6 : Int32) =>
          if a1 = (0 : Int32) then (
            (h_fI 6 p3.2 p3.1 0).bind fun x8 =>
            (MX8_answer a0 x8 p3.2).bind fun p9 =>
            some (p9.1, p9.2)
          ) else (
          if a1 = (1 : Int32) then (
            (MX8_answer a0 x5 p3.2).bind fun p10 =>
            some (p10.1, p10.2)
          ) else (
          if a1 = (2 : Int32) then (
            if w6 = 0 then (
              (MX8_refuse a0 (5 : Int32) p3.2).bind fun p11 =>
              some (p11.1, p11.2)
            ) else (
              (h_fI 6 p3.2 p3.1 3).bind fun x12 =>
              (MX8_answer a0 x12 p3.2).bind fun p13 =>
              some (p13.1, p13.2)
            )
          ) else (
          if a1 = (3 : Int32) then (
            if w6 = 0 then (
              (MX8_refuse a0 (5 : Int32) p3.2).bind fun p14 =>
              some (p14.1, p14.2)
            ) else (
              (h_fI 6 p3.2 p3.1 4).bind fun x15 =>
              (MX8_answer a0 x15 p3.2).bind fun p16 =>
              some (p16.1, p16.2)
            )
          ) else (
          if a1 = (4 : Int32) then (
            jn (fun (w17 : Int32) (h18 : Hp) =>
              (MX8_answer a0 w17 h18).bind fun p20 =>
              some (p20.1, p20.2)
            ) fun (j19 : Int32 → Hp → Option (Int32 × Hp)) =>
            jn (fun (h21 : Hp) =>
              j19 (0 : Int32) h21
            ) fun (j22 : Hp → Option (Int32 × Hp)) =>
            if w6 = 0 then (
              (MX8_solvedFlow fu a0 p3.2).bind fun p23 =>
              (h_fI 0 p23.2 p23.1 3).bind fun x24 =>
              if x24 ≤ 0 then (
                j22 p23.2
              ) else (
                j19 (1 : Int32) p23.2
              )
            ) else (
              j22 p3.2
            )
          ) else (
          if a1 = (5 : Int32) then (
            (h_fI 6 p3.2 p3.1 5).bind fun x25 =>
            (MX8_answer a0 x25 p3.2).bind fun p26 =>
            some (p26.1, p26.2)
          ) else (
          (h_fI 6 p3.2 p3.1 6).bind fun x27 =>
          (MX8_answer a0 x27 p3.2).bind fun p28 =>
          some (p28.1, p28.2)
          ))))))
        ) fun (j7 : Int32 → Option (Int32 × Hp)) =>
        if x5 ≤ 0 then (
          j7 (0 : Int32)
        ) else (
          j7 (1 : Int32)
        )
      ) else (
        (MX8_refuse a0 (6 : Int32) p3.2).bind fun p29 =>
        some (p29.1, p29.2)
      )
    ) else (
      j1
    )
  )
def MX8_path (fu : Nat) (a0 : Nat) (a1 : Int32) (h : Hp) : Option (Int32 × Hp) :=
  h_g 8 h a0 <|
  if 0 ≤ a1 then (
    (MX8_finishedSearch fu a0 h).bind fun p1 =>
    (h_fI 6 p1.2 p1.1 1).bind fun x2 =>
    if x2 = 0 then (
      (h_fI 6 p1.2 p1.1 2).bind fun x3 =>
      jn (
        (MX8_refuse a0 (5 : Int32) p1.2).bind fun p5 =>
        some (p5.1, p5.2)
      ) fun (j4 : Option (Int32 × Hp)) =>
      if x3 = 0 then (
        j4
      ) else (
        (h_fI 6 p1.2 p1.1 3).bind fun x6 =>
        if a1 < x6 then (
          (MX6_placeOnWrongPath fu p1.1 a1 p1.2).bind fun x7 =>
          (MX8_answer a0 x7 p1.2).bind fun p8 =>
          some (p8.1, p8.2)
        ) else (
          j4
        )
      )
    ) else (
      (MX8_refuse a0 (6 : Int32) p1.2).bind fun p9 =>
      some (p9.1, p9.2)
    )
  ) else (
    (MX8_refuse a0 (1 : Int32) h).bind fun p10 =>
    some (p10.1, p10.2)
  )
def MX8_truly (fu : Nat) (a0 : Nat) (a1 : Int32) (a2 : Int32) (a3 : Int32) (h : Hp) : Option (Int32 × Hp) :=
  h_g 8 h a0 <|
  jn (
    (MX8_refuse a0 (1 : Int32) h).bind fun p2 =>
    some (p2.1, p2.2)
  ) fun (j1 : Option (Int32 × Hp)) =>
  if a3 < 0 then (
    j1
  ) else (
    if a3 ≤ (3 : Int32) then (
      (h_fR 8 h a0 6).bind fun x3 =>
      (MX4_hasPlace x3 a1 h).bind fun x4 =>
      jn (
        (MX8_refuse a0 (2 : Int32) h).bind fun p6 =>
        some (p6.1, p6.2)
      ) fun (j5 : Option (Int32 × Hp)) =>
      if x4 = 0 then (
        j5
      ) else (
        (MX4_hasVariable x3 a2 h).bind fun x7 =>
        if x7 = 0 then (
          j5
        ) else (
          (MX8_finishedSearch fu a0 h).bind fun p8 =>
          (h_fI 6 p8.2 p8.1 1).bind fun x9 =>
          if x9 = 0 then (
            (h_fR 6 p8.2 p8.1 7).bind fun x10 =>
            (h_ldZ p8.2 x10 a1).bind fun x11 =>
            if x11 = 0 then (
              (MX8_refuse a0 (5 : Int32) p8.2).bind fun p14 =>
              some (p14.1, p14.2)
            ) else (
              (MX6_gather fu p8.1 a1 a2 a3 p8.2).bind fun p12 =>
              (MX8_answer a0 p12.1 p12.2).bind fun p13 =>
              some (p13.1, p13.2)
            )
          ) else (
            (MX8_refuse a0 (6 : Int32) p8.2).bind fun p15 =>
            some (p15.1, p15.2)
          )
        )
      )
    ) else (
      j1
    )
  )
def MX8_left (fu : Nat) (a0 : Nat) (a1 : Int32) (h : Hp) : Option (Int32 × Hp) :=
  h_g 8 h a0 <|
  (h_fR 8 h a0 6).bind fun x1 =>
  (h_fR 4 h x1 0).bind fun x2 =>
  (MX2_hasKind x2 a1 h).bind fun x3 =>
  if x3 = 0 then (
    (MX8_refuse a0 (2 : Int32) h).bind fun p10 =>
    some (p10.1, p10.2)
  ) else (
    (MX8_finishedSearch fu a0 h).bind fun p4 =>
    (h_fI 6 p4.2 p4.1 1).bind fun x5 =>
    if x5 = 0 then (
      (h_fR 6 p4.2 p4.1 8).bind fun x6 =>
      (h_ldI p4.2 x6 a1).bind fun x7 =>
      (MX8_answer a0 x7 p4.2).bind fun p8 =>
      some (p8.1, p8.2)
    ) else (
      (MX8_refuse a0 (6 : Int32) p4.2).bind fun p9 =>
      some (p9.1, p9.2)
    )
  )
def MX8_never_B35 (p1 : Nat × Hp) (a0 : Nat) (j4 : Int32 → Option (Int32 × Hp)) (a1 : Int32) (j8 : Int32 → Option (Int32 × Hp)) (self12 : Int32 → Int32 → Option (Int32 × Hp)) (v10 : Int32) (v11 : Int32) : Option (Int32 × Hp) :=
  (h_fR 8 p1.2 a0 6).bind fun x13 =>
  (h_fI 4 p1.2 x13 3).bind fun x14 =>
  if x14 ≤ v11 then (
    j4 v10
  ) else (
    (h_fR 6 p1.2 p1.1 7).bind fun x15 =>
    (h_ldZ p1.2 x15 v11).bind fun x16 =>
    jn (fun (v17 : Int32) =>
      self12 v17 (v11 + (1 : Int32))
    ) fun (j18 : Int32 → Option (Int32 × Hp)) =>
    if x16 = 0 then (
      if v10 = a1 then (
        j8 v11
      ) else (
        j18 (v10 + (1 : Int32))
      )
    ) else (
      j18 v10
    )
  )
def MX8_never (fu : Nat) (a0 : Nat) (a1 : Int32) (h : Hp) : Option (Int32 × Hp) :=
  h_g 8 h a0 <|
  if (-1 : Int32) ≤ a1 then (
    (MX8_finishedSearch fu a0 h).bind fun p1 =>
    (h_fI 6 p1.2 p1.1 1).bind fun x2 =>
    if x2 = 0 then (
      jn (fun (v3 : Int32) =>
        if a1 = (-1 : Int32) then (
          (MX8_answer a0 v3 p1.2).bind fun p6 =>
          some (p6.1, p6.2)
        ) else (
          (MX8_refuse a0 (5 : Int32) p1.2).bind fun p5 =>
          some (p5.1, p5.2)
        )
      ) fun (j4 : Int32 → Option (Int32 × Hp)) =>
      jn (fun (v7 : Int32) =>
        (MX8_answer a0 v7 p1.2).bind fun p9 =>
        some (p9.1, p9.2)
      ) fun (j8 : Int32 → Option (Int32 × Hp)) =>
      wh2 (MX8_never_B35 p1 a0 j4 a1 j8) fu (0 : Int32) (0 : Int32)
    ) else (
      (MX8_refuse a0 (6 : Int32) p1.2).bind fun p19 =>
      some (p19.1, p19.2)
    )
  ) else (
    (MX8_refuse a0 (1 : Int32) h).bind fun p20 =>
    some (p20.1, p20.2)
  )
def MX8_run (fu : Nat) (a0 : Nat) (a1 : Int32) (a2 : Int32) (h : Hp) : Option (Int32 × Hp) :=
  h_g 8 h a0 <|
  jn (
    (MX8_refuse a0 (1 : Int32) h).bind fun p2 =>
    some (p2.1, p2.2)
  ) fun (j1 : Option (Int32 × Hp)) =>
  if a1 < 0 then (
    j1
  ) else (
    if (65536 : Int32) < a1 then (
      j1
    ) else (
      if a2 < 0 then (
        j1
      ) else (
        if a2 ≤ (3 : Int32) then (
          (h_fR 8 h a0 4).bind fun x3 =>
          (h_fR 8 h a0 6).bind fun x4 =>
          (MX5_go fu x3 x4 a1 h).bind fun h5 =>
          if a2 = (0 : Int32) then (
            (h_fR 8 h5 a0 4).bind fun x6 =>
            (h_fI 5 h5 x6 0).bind fun x7 =>
            (MX8_answer a0 x7 h5).bind fun p8 =>
            some (p8.1, p8.2)
          ) else (
          if a2 = (1 : Int32) then (
            (h_fR 8 h5 a0 4).bind fun x9 =>
            (h_fI 5 h5 x9 1).bind fun x10 =>
            (MX8_answer a0 x10 h5).bind fun p11 =>
            some (p11.1, p11.2)
          ) else (
          if a2 = (2 : Int32) then (
            (h_fR 8 h5 a0 4).bind fun x12 =>
            (h_fI 5 h5 x12 2).bind fun x13 =>
            (MX8_answer a0 x13 h5).bind fun p14 =>
            some (p14.1, p14.2)
          ) else (
          (h_fR 8 h5 a0 4).bind fun x15 =>
          (h_fI 5 h5 x15 3).bind fun x16 =>
          (MX8_answer a0 x16 h5).bind fun p17 =>
          some (p17.1, p17.2)
          )))
        ) else (
          j1
        )
      )
    )
  )
def MX8_runs_B46 (fu : Nat) (a2 : Int32) (j5 : Int32 → Hp → Option (Int32 × Hp)) (a0 : Nat) (a1 : Int32) (a3 : Int32) (self10 : Int32 → Int32 → Hp → Option (Int32 × Hp)) (v7 : Int32) (v8 : Int32) (h9 : Hp) : Option (Int32 × Hp) :=
  if a2 ≤ v8 then (
    j5 v7 h9
  ) else (
    (h_fR 8 h9 a0 4).bind fun x11 =>
    (h_fR 8 h9 a0 6).bind fun x12 =>
    (MX5_go fu x11 x12 (a1 + v8) h9).bind fun h13 =>
    (h_fR 8 h13 a0 4).bind fun x14 =>
    (h_fI 5 h13 x14 1).bind fun x15 =>
    jn (fun (v16 : Int32) =>
      self10 v16 (v8 + (1 : Int32)) h13
    ) fun (j17 : Int32 → Option (Int32 × Hp)) =>
    if x15 = a3 then (
      j17 (v7 + (1 : Int32))
    ) else (
      j17 v7
    )
  )
def MX8_runs (fu : Nat) (a0 : Nat) (a1 : Int32) (a2 : Int32) (a3 : Int32) (h : Hp) : Option (Int32 × Hp) :=
  h_g 8 h a0 <|
  jn (
    (MX8_refuse a0 (1 : Int32) h).bind fun p2 =>
    some (p2.1, p2.2)
  ) fun (j1 : Option (Int32 × Hp)) =>
  if a1 < 0 then (
    j1
  ) else (
    if a2 < (1 : Int32) then (
      j1
    ) else (
      if (50 : Int32) < a2 then (
        j1
      ) else (
        if ((65537 : Int32) - a2) < a1 then (
          j1
        ) else (
          if a3 < 0 then (
            j1
          ) else (
            if a3 ≤ (6 : Int32) then (
              jn (fun (v3 : Int32) (h4 : Hp) =>
                (MX8_answer a0 v3 h4).bind fun p6 =>
                some (p6.1, p6.2)
              ) fun (j5 : Int32 → Hp → Option (Int32 × Hp)) =>
              wh3 (MX8_runs_B46 fu a2 j5 a0 a1 a3) fu (0 : Int32) (0 : Int32) h
            ) else (
              j1
            )
          )
        )
      )
    )
  )
