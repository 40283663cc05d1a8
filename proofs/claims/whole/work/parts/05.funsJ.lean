def MJ7_fill_53178_B5 (x1 : Int32) (a0 : Nat) (a1 : Int32) (self4 : Int32 → Hp → Option (Hp)) (v2 : Int32) (h3 : Hp) : Option (Hp) :=
  if x1 ≤ v2 then (
    some h3
  ) else (
    (h_stI h3 a0 v2 a1).bind fun h5 =>
    self4 (v2 + (1 : Int32)) h5
  )
def MJ7_fill_53178 (fu : Nat) (a0 : Nat) (a1 : Int32) (h : Hp) : Option (Hp) :=
  (h_len 10 h a0).bind fun x1 =>
  wh2 (MJ7_fill_53178_B5 x1 a0 a1) fu (0 : Int32) h
def MJ6_numberOfTrailingZeros_0f7a4 (a0 : Int32) : Option (Int32) :=
  if 0 < ((a0 ^^^ (-1 : Int32)) &&& (a0 - (1 : Int32))) then (
    jn (fun (v1 : Int32) (v2 : Int32) =>
      jn (fun (v4 : Int32) (v5 : Int32) =>
        jn (fun (v7 : Int32) (v8 : Int32) =>
          jn (fun (v10 : Int32) (v11 : Int32) =>
            some (v11 + ((v10.toUInt32 >>> ((1 : Int32).toUInt32 &&& Int32.toUInt32 31)).toInt32))
          ) fun (j12 : Int32 → Int32 → Option (Int32)) =>
          if v7 ≤ (4 : Int32) then (
            j12 v7 v8
          ) else (
            j12 ((v7.toUInt32 >>> ((2 : Int32).toUInt32 &&& Int32.toUInt32 31)).toInt32) (v8 + (2 : Int32))
          )
        ) fun (j9 : Int32 → Int32 → Option (Int32)) =>
        if v4 ≤ (16 : Int32) then (
          j9 v4 v5
        ) else (
          j9 ((v4.toUInt32 >>> ((4 : Int32).toUInt32 &&& Int32.toUInt32 31)).toInt32) (v5 + (4 : Int32))
        )
      ) fun (j6 : Int32 → Int32 → Option (Int32)) =>
      if v1 ≤ (256 : Int32) then (
        j6 v1 v2
      ) else (
        j6 ((v1.toUInt32 >>> ((8 : Int32).toUInt32 &&& Int32.toUInt32 31)).toInt32) (v2 + (8 : Int32))
      )
    ) fun (j3 : Int32 → Int32 → Option (Int32)) =>
    if ((a0 ^^^ (-1 : Int32)) &&& (a0 - (1 : Int32))) ≤ (65536 : Int32) then (
      j3 ((a0 ^^^ (-1 : Int32)) &&& (a0 - (1 : Int32))) (1 : Int32)
    ) else (
      j3 ((((a0 ^^^ (-1 : Int32)) &&& (a0 - (1 : Int32))).toUInt32 >>> ((16 : Int32).toUInt32 &&& Int32.toUInt32 31)).toInt32) ((1 : Int32) + (16 : Int32))
    )
  ) else (
    some (((a0 ^^^ (-1 : Int32)) &&& (a0 - (1 : Int32))) &&& (32 : Int32))
  )
def MJ7_fill_d0a16_B6 (x1 : Int32) (a0 : Nat) (a1 : Int64) (self4 : Int32 → Hp → Option (Hp)) (v2 : Int32) (h3 : Hp) : Option (Hp) :=
  if x1 ≤ v2 then (
    some h3
  ) else (
    (h_stL h3 a0 v2 a1).bind fun h5 =>
    self4 (v2 + (1 : Int32)) h5
  )
def MJ7_fill_d0a16 (fu : Nat) (a0 : Nat) (a1 : Int64) (h : Hp) : Option (Hp) :=
  (h_len 13 h a0).bind fun x1 =>
  wh2 (MJ7_fill_d0a16_B6 x1 a0 a1) fu (0 : Int32) h
