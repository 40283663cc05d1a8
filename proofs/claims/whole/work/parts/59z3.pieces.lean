/-! LOAD: statements. Both ways of reading one, cut into pieces -/
def cS17 (fu : Nat) (so N : Int32) (h16 : Hp) : Option (Int32 × Hp) :=
  if (7 : Int32) ≤ so then
    (h_fR 3 h16 1 8).bind fun x18 => (h_fI 3 h16 1 10).bind fun x19 => (h_stI h16 x18 x19 N).bind fun h20 => (h_fR 3 h20 1 9).bind fun x21 => (h_fI 3 h20 1 10).bind fun x22 => (h_stZ h20 x21 x22 (0 : Int32)).bind fun h23 => (h_fI 3 h23 1 10).bind fun x24 => (h_pI 3 h23 1 10 (x24 + (1 : Int32))).bind fun h25 => (MX3_takeSign fu 1 (20 : Int32) h25).bind fun p26 => (h_z p26.1).bind fun z27 => some (z27, p26.2)
  else (MX3_takeSign fu 1 (19 : Int32) h16).bind fun p28 => (h_z p28.1).bind fun z29 => some (z29, p28.2)
def cS15 (fu : Nat) (so N : Int32) (h14 : Hp) : Option (Int32 × Hp) :=
  if so < (6 : Int32) then cS17 fu so N h14
  else if (8 : Int32) < so then cS17 fu so N h14
  else if so = (6 : Int32) then (MX3_readAsked fu 1 N (0 : Int32) h14).bind fun p32 => if p32.1 = 0 then some ((0 : Int32), p32.2) else cS17 fu so N p32.2
  else (MX3_readAsked fu 1 N (1 : Int32) h14).bind fun p32 => if p32.1 = 0 then some ((0 : Int32), p32.2) else cS17 fu so N p32.2
def cS13 (fu : Nat) (so N : Int32) (h12 : Hp) : Option (Int32 × Hp) :=
  if so < (1 : Int32) then cS15 fu so N h12
  else if (4 : Int32) < so then cS15 fu so N h12
  else (MX3_readSecond fu 1 N h12).bind fun p33 => if p33.1 = 0 then some ((0 : Int32), p33.2) else cS15 fu so N p33.2
def cS11 (fu : Nat) (so N : Int32) (h11 : Hp) : Option (Int32 × Hp) :=
  if (9 : Int32) ≤ so then cS13 fu so N h11
  else (MX3_readFirst fu 1 N h11).bind fun p34 => if p34.1 = 0 then some ((0 : Int32), p34.2) else cS13 fu so N p34.2
def cS8 (fu : Nat) (so : Int32) (x1 : Nat) (x6 : Int32) (h : Hp) (w7 : Int32) : Option (Int32 × Hp) :=
  (MX4_addStatement x1 so w7 x6 h).bind fun p9 => (h_fR 3 p9.2 1 0).bind fun x10 => (MX7_advance fu x10 p9.2).bind fun h11 => cS11 fu so p9.1 h11
theorem cS_eq {fu : Nat} {so : Int32} {h : Hp} : MX3_readStatement fu 1 so h = h_g 3 h 1 ((h_fR 3 h 1 3).bind fun x1 => (h_fI 4 h x1 3).bind fun x2 => if (40 : Int32) ≤ x2 then (MX3_fail 1 (6 : Int32) h).bind fun p4 => (h_z p4.1).bind fun z5 => some (z5, p4.2) else (h_fI 3 h 1 10).bind fun x6 => if x6 < (5 : Int32) then (if x6 = 0 then cS8 fu so x1 x6 h (-1) else (h_fR 3 h 1 8).bind fun x35 => (h_ldI h x35 (x6 - (1 : Int32))).bind fun x36 => cS8 fu so x1 x6 h x36) else (MX3_fail 1 (6 : Int32) h).bind fun p4 => (h_z p4.1).bind fun z5 => some (z5, p4.2)) := rfl
-- the reference
/-- the rest of a block, behind its opening sign -/
def rBlk (fu : Nat) (rs : Nat → Int32 → Int32 → Int32 → Hp → Option (Int32 × Hp)) (i e dp : Int32) (h : Hp) : Option (Int32 × Hp) := wh1 (MX9_readBlock_B11 0 rs i e dp (fun h2 => (MX9_go fu 0 h2).bind fun h4 => some ((1 : Int32), h4))) fu h
def rElse (fu : Nat) (rs : Nat → Int32 → Int32 → Int32 → Hp → Option (Int32 × Hp)) (x3 a3 : Int32) (h : Hp) : Option (Int32 × Hp) :=
  (MX9_wordHere fu 0 h).bind fun x32 => if x32 = (21 : Int32) then (MX9_go fu 0 h).bind fun h33 => (MX9_readBlock_R fu rs 0 x3 (1 : Int32) a3 h33).bind fun p34 => (h_z p34.1).bind fun z35 => some (z35, p34.2) else some ((1 : Int32), h)
def rAft (fu : Nat) (rs : Nat → Int32 → Int32 → Int32 → Hp → Option (Int32 × Hp)) (so x3 a3 : Int32) (p30 : Int32 × Hp) : Option (Int32 × Hp) :=
  if p30.1 = 0 then some ((0 : Int32), p30.2) else if so = (7 : Int32) then rElse fu rs x3 a3 p30.2 else if so = (9 : Int32) then rElse fu rs x3 a3 p30.2 else some ((1 : Int32), p30.2)
def mS28 (fu : Nat) (rs : Nat → Int32 → Int32 → Int32 → Hp → Option (Int32 × Hp)) (so x3 a3 : Int32) (h27 : Hp) : Option (Int32 × Hp) :=
  (MX9_hasBlock so).bind fun x29 => if x29 = 0 then (MX9_eats fu 0 (59 : Int32) h27).bind fun p36 => (h_z p36.1).bind fun z37 => some (z37, p36.2)
  else (MX9_readBlock_R fu rs 0 x3 (0 : Int32) a3 h27).bind fun p30 => rAft fu rs so x3 a3 p30
def mS26 (fu : Nat) (rs : Nat → Int32 → Int32 → Int32 → Hp → Option (Int32 × Hp)) (so x3 a3 : Int32) (h25 : Hp) : Option (Int32 × Hp) :=
  if so < (6 : Int32) then mS28 fu rs so x3 a3 h25 else if (8 : Int32) < so then mS28 fu rs so x3 a3 h25
  else (MX9_isAsked so).bind fun x38 => (MX9_readMethod fu 0 x3 x38 h25).bind fun p39 => if p39.1 = 0 then some ((0 : Int32), p39.2) else mS28 fu rs so x3 a3 p39.2
def mS23 (fu : Nat) (rs : Nat → Int32 → Int32 → Int32 → Hp → Option (Int32 × Hp)) (so x3 a3 : Int32) (h22 : Hp) : Option (Int32 × Hp) :=
  (MX9_isTwo so).bind fun x24 => if x24 = 0 then mS26 fu rs so x3 a3 h22 else (MX9_readOther fu 0 x3 h22).bind fun p40 => if p40.1 = 0 then some ((0 : Int32), p40.2) else mS26 fu rs so x3 a3 p40.2
def mS21 (fu : Nat) (rs : Nat → Int32 → Int32 → Int32 → Hp → Option (Int32 × Hp)) (so x3 a3 : Int32) (h21 : Hp) : Option (Int32 × Hp) :=
  if (9 : Int32) ≤ so then mS23 fu rs so x3 a3 h21 else (MX9_readVariable fu 0 h21).bind fun p41 => if p41.1 = 0 then some ((0 : Int32), p41.2) else (h_fR 9 p41.2 0 2).bind fun x42 => (h_fI 9 p41.2 0 16).bind fun x43 => (h_stI p41.2 x42 ((373 : Int32) + x3) x43).bind fun h44 => mS23 fu rs so x3 a3 h44
theorem mS_eq {fu : Nat} {rs : Nat → Int32 → Int32 → Int32 → Hp → Option (Int32 × Hp)} {a1 a2 a3 : Int32} {h : Hp} : MX9_readStatement_R fu rs 0 a1 a2 a3 h = h_g 9 h 0 ((MX9_isStatement fu 0 h).bind fun x1 => if x1 = 0 then (MX9_bad 0 (2 : Int32) h).bind fun p45 => (h_z p45.1).bind fun z46 => some (z46, p45.2) else
    (h_fR 9 h 0 2).bind fun x2 => (h_ldI h x2 (2 : Int32)).bind fun x3 => if x3 = (40 : Int32) then (MX9_bad 0 (6 : Int32) h).bind fun p5 => (h_z p5.1).bind fun z6 => some (z6, p5.2) else if a3 = (5 : Int32) then (MX9_bad 0 (6 : Int32) h).bind fun p5 => (h_z p5.1).bind fun z6 => some (z6, p5.2)
    else (MX9_wordHere fu 0 h).bind fun x7 => (h_stI h x2 (2 : Int32) (x3 + (1 : Int32))).bind fun h8 => (h_fR 9 h8 0 2).bind fun x9 => (h_stI h8 x9 ((333 : Int32) + x3) (x7 - (10 : Int32))).bind fun h10 => (h_fR 9 h10 0 2).bind fun x11 => (h_stI h10 x11 ((373 : Int32) + x3) (-1 : Int32)).bind fun h12 => (h_fR 9 h12 0 2).bind fun x13 => (h_stI h12 x13 ((413 : Int32) + x3) (-1 : Int32)).bind fun h14 => (h_fR 9 h14 0 2).bind fun x15 => (h_stI h14 x15 ((453 : Int32) + x3) (-1 : Int32)).bind fun h16 => (h_fR 9 h16 0 2).bind fun x17 => (h_stI h16 x17 ((493 : Int32) + x3) a1).bind fun h18 => (h_fR 9 h18 0 2).bind fun x19 => (h_stI h18 x19 ((533 : Int32) + x3) a2).bind fun h20 => (MX9_go fu 0 h20).bind fun h21 => mS21 fu rs (x7 - (10 : Int32)) x3 a3 h21) := rfl
theorem rB_eq {fu : Nat} {rs : Nat → Int32 → Int32 → Int32 → Hp → Option (Int32 × Hp)} {i e dp : Int32} {h : Hp} : MX9_readBlock_R fu rs 0 i e dp h = h_g 9 h 0 ((MX9_eats fu 0 (123 : Int32) h).bind fun p1 => if p1.1 = 0 then some ((0 : Int32), p1.2) else rBlk fu rs i e dp p1.2) := rfl
