/-! LOAD: the class's loop, piece by piece -/
def cC15 (x1 x3 : Int32) (x10 : Nat) (h8 : Hp) : Option (Int32 × Hp) := (h_fR 4 h8 x10 11).bind fun x16 => (h_fI 4 h8 x10 3).bind fun x17 => (h_stI h8 x16 x3 x17).bind fun h18 => (h_pI 3 h18 1 10 (x1 - (1 : Int32))).bind fun h19 => some ((1 : Int32), h19)
def cC24 (fu : Nat) (x1 : Int32) (h8 : Hp) (x20 : Nat) : Option (Int32 × Hp) := (h_stZ h8 x20 (x1 - (1 : Int32)) (1 : Int32)).bind fun h24 => (h_fR 3 h24 1 0).bind fun x25 => (MX7_advance fu x25 h24).bind fun h26 => (MX3_takeSign fu 1 (20 : Int32) h26).bind fun p27 => (h_z p27.1).bind fun z28 => some (z28, p27.2)
def cC14 (fu : Nat) (x1 x3 : Int32) (x10 : Nat) (h8 : Hp) (w13 : Int32) : Option (Int32 × Hp) :=
  if w13 = 0 then cC15 x1 x3 x10 h8 else (h_fR 3 h8 1 9).bind fun x20 => (h_ldZ h8 x20 (x1 - (1 : Int32))).bind fun x21 => if x21 = 0 then (h_fR 3 h8 1 0).bind fun x22 => (h_fI 7 h8 x22 2).bind fun x23 => if x23 = (6 : Int32) then cC24 fu x1 h8 x20 else cC15 x1 x3 x10 h8 else cC15 x1 x3 x10 h8
def cC9 (fu : Nat) (x1 x3 : Int32) (h8 : Hp) : Option (Int32 × Hp) := (h_fR 3 h8 1 3).bind fun x10 => (h_fR 4 h8 x10 4).bind fun x11 => (h_ldI h8 x11 x3).bind fun x12 => if x12 = (7 : Int32) then cC14 fu x1 x3 x10 h8 1 else if x12 = (9 : Int32) then cC14 fu x1 x3 x10 h8 1 else cC14 fu x1 x3 x10 h8 0
theorem cC_eq {fu : Nat} {h : Hp} : MX3_closeBlock fu 1 h = h_g 3 h 1 ((h_fI 3 h 1 10).bind fun x1 => (h_fR 3 h 1 8).bind fun x2 => (h_ldI h x2 (x1 - (1 : Int32))).bind fun x3 => (h_fR 3 h 1 0).bind fun x4 => (MX7_advance fu x4 h).bind fun h5 => (h_fR 3 h5 1 9).bind fun x6 => (h_ldZ h5 x6 (x1 - (1 : Int32))).bind fun x7 => if x7 = 0 then (h_fR 3 h5 1 3).bind fun x30 => (h_fR 4 h5 x30 10).bind fun x31 => (h_fI 4 h5 x30 3).bind fun x32 => (h_stI h5 x31 x3 x32).bind fun h33 => cC9 fu x1 x3 h33 else cC9 fu x1 x3 h5) := rfl
section Piece
variable {b : Nat → Nat} {n : Nat} {sw : Bool} {I0 : Nat → Nat → Int32} {L0 : Nat → Nat → Int64} {fu p d N so deep i : Nat} {I : Nat → Nat → Int32} {L : Nat → Nat → Int64} {e : Int32}
theorem c15 (hd : dr' sw = d) (hi : i < 40) (i3 : I d 3 = nI N) : cC15 (nI (deep + 1)) (nI i) d (mkC sw I L) = some (1, mkC sw (ur (ur I (d + 21) (up (I (d + 21)) i (nI N))) 1 (up (I 1) 10 (nI deep))) L) := by
  have d5 := dr_lt (sw := sw)
  have P4 : isP d := by rw [← hd]; exact dr_P
  unfold cC15
  rw [c4_r11 P4, Option.bind_some, c4_fI P4, Option.bind_some, i3, c4_st11 P4 hi, Option.bind_some, c3_pI, Option.bind_some, ur_ne (show 1 ≠ d + 21 by omega), nI_pred]
theorem c9 (hd : dr' sw = d) (hi : i < 40) (h5 : deep < 5) (hso : so ≤ 10) (h : BC b n sw I0 L0 p I L) (k35 : I 35 deep = e) (k14 : I (d + 14) i = nI so) : cC9 fu (nI (deep + 1)) (nI i) (mkC sw I L) = if e = 0 ∧ (so = 7 ∨ so = 9) ∧ tk b n p = 6 then cC24 fu (nI (deep + 1)) (mkC sw I L) 35 else cC15 (nI (deep + 1)) (nI i) d (mkC sw I L) := by
  have d5 := dr_lt (sw := sw)
  have P4 : isP d := by rw [← hd]; exact dr_P
  have tl := tk_le (b := b) (n := n) (p := p)
  have y14 : cC14 fu (nI (deep + 1)) (nI i) d (mkC sw I L) 1 = if e = 0 ∧ tk b n p = 6 then cC24 fu (nI (deep + 1)) (mkC sw I L) 35 else cC15 (nI (deep + 1)) (nI i) d (mkC sw I L) := by
    unfold cC14
    rw [if_neg (by decide), c3_r9, Option.bind_some, nI_pred, c3_ld9 h5, Option.bind_some, k35, c3_r0, Option.bind_some, c7_fI, Option.bind_some, h.2.1.2.2.1]
    by_cases ce : e = 0
    · rw [if_pos ce]
      by_cases ct : tk b n p = 6
      · rw [if_pos (show nI (tk b n p) = 6 by rw [ct]; rfl), if_pos ⟨ce, ct⟩]
      · rw [if_neg (show ¬ nI (tk b n p) = 6 from fun z => ct (nI_inj (b := 6) (by omega) (by decide) z)), if_neg (fun z => ct z.2)]
    · rw [if_neg ce, if_neg (fun z => ce z.1)]
  unfold cC9
  rw [c3_dr, Option.bind_some, hd, c4_r4 P4, Option.bind_some, c4_ld4 P4 hi, Option.bind_some, k14, y14]
  by_cases c7 : so = 7 ∨ so = 9
  · have : (if nI so = (7 : Int32) then (if e = 0 ∧ tk b n p = 6 then cC24 fu (nI (deep + 1)) (mkC sw I L) 35 else cC15 (nI (deep + 1)) (nI i) d (mkC sw I L)) else if nI so = (9 : Int32) then (if e = 0 ∧ tk b n p = 6 then cC24 fu (nI (deep + 1)) (mkC sw I L) 35 else cC15 (nI (deep + 1)) (nI i) d (mkC sw I L)) else cC14 fu (nI (deep + 1)) (nI i) d (mkC sw I L) 0) = (if e = 0 ∧ tk b n p = 6 then cC24 fu (nI (deep + 1)) (mkC sw I L) 35 else cC15 (nI (deep + 1)) (nI i) d (mkC sw I L)) := by
      rcases c7 with c | c
      · rw [if_pos (show nI so = 7 by rw [c]; rfl)]
      · rw [if_neg (show ¬ nI so = 7 by rw [c]; decide), if_pos (show nI so = 9 by rw [c]; rfl)]
    rw [this]
    by_cases cc : e = 0 ∧ tk b n p = 6
    · rw [if_pos cc, if_pos ⟨cc.1, c7, cc.2⟩]
    · rw [if_neg cc, if_neg (fun z => cc ⟨z.1, z.2.2⟩)]
  · rw [if_neg (show ¬ nI so = 7 from fun z => c7 (Or.inl (nI_inj (b := 7) (by omega) (by decide) z))), if_neg (show ¬ nI so = 9 from fun z => c7 (Or.inr (nI_inj (b := 9) (by omega) (by decide) z))), if_neg (fun z => c7 z.2.1)]
    unfold cC14
    rw [if_pos rfl]
/-- a block is closed: behind it stands what comes behind the statement, or its else -/
theorem c_close (hd : dr' sw = d) (tx : TX b n) (h : BC b n sw I0 L0 p I L) (h5 : deep < 5) (hi : i < 40) (i10 : I 1 10 = nI (deep + 1)) (i34 : I 34 deep = nI i) (i35 : I 35 deep = e) (i3 : I d 3 = nI N) (so1 : I (d + 14) i = nI so) (hso : so ≤ 10) (hfu : 1000 < fu) :
    ∃ I' L', BC b n sw I0 L0 (nx b n p) I' L' ∧ MX3_closeBlock fu 1 (mkC sw I L) = (if e = 0 ∧ (so = 7 ∨ so = 9) ∧ tk b n (nx b n p) = 6 then cC24 fu (nI (deep + 1)) (mkC sw I' L') 35 else some (1, mkC sw (ur (ur I' (d + 21) (up (I' (d + 21)) i (nI N))) 1 (up (I' 1) 10 (nI deep))) L')) ∧ I' (d + 20) = (if e = 0 then up (I (d + 20)) i (nI N) else I (d + 20)) ∧ (∀ x, x ≠ 2 → x ≠ d + 20 → I' x = I x) ∧ ∀ x, x ≠ 2 → L' x = L x := by
  have d5 := dr_lt (sw := sw)
  have P4 : isP d := by rw [← hd]; exact dr_P
  rw [cC_eq, c3_g, c3_fI, Option.bind_some, c3_r8, Option.bind_some, i10, nI_pred, c3_ld8 h5, Option.bind_some, i34, c3_r0, Option.bind_some]
  obtain ⟨I1, L1, e1, h1, f1⟩ := BC_adv tx h hfu
  have iO : ∀ x, x ≠ 2 → I1 x = I x := f1.1
  rw [e1, Option.bind_some, c3_r9, Option.bind_some, c3_ld9 h5, Option.bind_some, iO 35 (by decide), i35]
  by_cases ce : e = 0
  · rw [if_pos ce, c3_dr, Option.bind_some, hd, c4_r10 P4, Option.bind_some, c4_fI P4, Option.bind_some, iO d (by omega), i3, c4_st10 P4 hi, Option.bind_some]
    have h2 := BC_wI (r := d + 20) (g := up (I1 (d + 20)) i (nI N)) h1 (by rw [hd]; omega)
    refine ⟨_, L1, h2, ?_, by rw [ur_at, if_pos ce, iO (d + 20) (by omega)], fun x x2 x3 => by rw [ur_ne x3, iO x x2], f1.2.1⟩
    rw [c9 (e := e) hd hi h5 hso h2 (by rw [ur_ne (by omega), iO 35 (by decide)]; exact i35) (by rw [ur_ne (by omega), iO (d + 14) (by omega)]; exact so1), c15 hd hi (by rw [ur_ne (by omega), iO d (by omega)]; exact i3)]
  · rw [if_neg ce]
    refine ⟨I1, L1, h1, ?_, by rw [if_neg ce, iO (d + 20) (by omega)], fun x x2 x3 => iO x x2, f1.2.1⟩
    rw [c9 (e := e) hd hi h5 hso h1 (by rw [iO 35 (by decide)]; exact i35) (by rw [iO (d + 14) (by omega)]; exact so1), c15 hd hi (by rw [iO d (by omega)]; exact i3)]
-- pieces
theorem rp_stmt (h : BC b n sw I0 L0 p I L) (ht : tk b n p = 7 + so) (hso : so ≤ 10) : MX3_readPiece fu 1 (mkC sw I L) = (MX3_readStatement fu 1 (nI so) (mkC sw I L)).bind fun p26 => (h_z p26.1).bind fun z27 => some (z27, p26.2) := by
  simp only [MX3_readPiece, c3_g, c3_r0, c7_fI, Option.bind_some, jn]
  rw [h.2.1.2.2.1, ht, if_neg (show ¬ nI (7 + so) < 7 from nI_nlt (b := 7) (by omega) (by omega)), if_neg (show ¬ (17 : Int32) < nI (7 + so) from nI_nlt (a := 17) (by omega) (by decide)), show (7 : Int32) = nI 7 from rfl, nI_sub (by omega), Nat.add_sub_cancel_left]
theorem rp_close (h : BC b n sw I0 L0 p I L) (ht : tk b n p = 21) (i10 : I 1 10 = nI (deep + 1)) (h5 : deep < 5) : MX3_readPiece fu 1 (mkC sw I L) = (MX3_closeBlock fu 1 (mkC sw I L)).bind fun p24 => (h_z p24.1).bind fun z25 => some (z25, p24.2) := by
  simp only [MX3_readPiece, c3_g, c3_r0, c3_fI, c7_fI, Option.bind_some, jn]
  rw [h.2.1.2.2.1, ht, if_neg (show ¬ nI 21 < 7 by decide), if_pos (show (17 : Int32) < nI 21 by decide), if_pos (show nI 21 = 21 from rfl), i10, if_neg (fun z => by have := (nle0 (by omega)).mp z; omega)]
theorem rp_fail (hd : dr' sw = d) (h : BC b n sw I0 L0 p I L) (ht : tk b n p < 7 ∨ 17 < tk b n p) (hc : tk b n p = 21 → I 1 10 = nI 0) (i3 : I d 3 = nI N) (hN : N ≤ 40) (hl : 5 < tk b n p ∨ 0 < N) : MX3_readPiece fu 1 (mkC sw I L) = some (0, mkC sw (ur I 1 (up (up (I 1) 1 (fk b n p 2)) 2 (nI p))) L) := by
  have P4 : isP d := by rw [← hd]; exact dr_P
  have tl := tk_le (b := b) (n := n) (p := p)
  simp only [MX3_readPiece, c3_g, c3_r0, c3_fI, c3_dr, hd, c4_fI P4, c7_fI, Option.bind_some, jn]
  rw [h.2.1.2.2.1, i3, c_fail h.2.1]
  simp only [Option.bind_some, h_z_0]
  have last : (if nI N ≤ 0 then if nI (tk b n p) = 0 then (MX3_readKind fu 1 (mkC sw I L)).bind fun p7 => (h_z p7.1).bind fun z8 => some (z8, p7.2) else if nI (tk b n p) = 1 then (MX3_readEnd fu 1 (mkC sw I L)).bind fun p9 => (h_z p9.1).bind fun z10 => some (z10, p9.2) else if nI (tk b n p) = 2 then (MX3_readMethod fu 1 0 (mkC sw I L)).bind fun p11 => (h_z p11.1).bind fun z12 => some (z12, p11.2) else if nI (tk b n p) = 3 then (MX3_readMethod fu 1 1 (mkC sw I L)).bind fun p13 => (h_z p13.1).bind fun z14 => some (z14, p13.2) else if nI (tk b n p) = 4 then (MX3_readMethod fu 1 2 (mkC sw I L)).bind fun p15 => (h_z p15.1).bind fun z16 => some (z16, p15.2) else if nI (tk b n p) = 5 then (MX3_readVariable fu 1 (mkC sw I L)).bind fun p17 => (h_z p17.1).bind fun z18 => some (z18, p17.2) else some ((0 : Int32), mkC sw (ur I 1 (up (up (I 1) 1 (fk b n p 2)) 2 (nI p))) L) else some ((0 : Int32), mkC sw (ur I 1 (up (up (I 1) 1 (fk b n p 2)) 2 (nI p))) L)) = some (0, mkC sw (ur I 1 (up (up (I 1) 1 (fk b n p 2)) 2 (nI p))) L) := by
    by_cases c0 : N = 0
    · have g5 : 5 < tk b n p := by omega
      have ne : ∀ c, c ≤ 5 → ¬ nI (tk b n p) = nI c := fun c hc z => by have := nI_inj (by omega) (by omega) z; omega
      rw [if_pos ((nle0 (by omega)).mpr c0), if_neg (show ¬ nI (tk b n p) = 0 from ne 0 (by omega)), if_neg (show ¬ nI (tk b n p) = 1 from ne 1 (by omega)), if_neg (show ¬ nI (tk b n p) = 2 from ne 2 (by omega)), if_neg (show ¬ nI (tk b n p) = 3 from ne 3 (by omega)), if_neg (show ¬ nI (tk b n p) = 4 from ne 4 (by omega)), if_neg (show ¬ nI (tk b n p) = 5 from ne 5 (by omega))]
    · rw [if_neg (fun z => c0 ((nle0 (by omega)).mp z))]
  rw [last]
  by_cases c21 : tk b n p = 21
  · rw [if_neg (show ¬ nI (tk b n p) < 7 by rw [c21]; decide), if_pos (show (17 : Int32) < nI (tk b n p) by rw [c21]; decide), if_pos (show nI (tk b n p) = 21 by rw [c21]; rfl), hc c21, if_pos (show nI 0 ≤ 0 by decide)]
  · have n21 : ¬ nI (tk b n p) = 21 := fun z => c21 (nI_inj (b := 21) (by omega) (by decide) z)
    rcases ht with z | z
    · rw [if_pos (show nI (tk b n p) < 7 from nI_lt (b := 7) z (by decide)), if_neg n21]
    · rw [if_neg (show ¬ nI (tk b n p) < 7 from nI_nlt (b := 7) (by omega) (by omega)), if_pos (show (17 : Int32) < nI (tk b n p) from nI_lt (a := 17) z (by omega)), if_neg n21]
theorem at_end (h : BC b n sw I0 L0 p I L) (i10 : I 1 10 = nI deep) (h5 : deep ≤ 5) : MX3_atTheEnd 1 (mkC sw I L) = some (if tk b n p = 22 ∧ deep = 0 then 1 else 0) := by
  have tl := tk_le (b := b) (n := n) (p := p)
  simp only [MX3_atTheEnd, c3_g, c3_r0, c3_fI, c7_fI, Option.bind_some, jn]
  rw [h.2.1.2.2.1, i10]
  by_cases c : tk b n p = 22
  · rw [if_pos (show nI (tk b n p) = 22 by rw [c]; rfl)]
    by_cases c0 : deep = 0
    · rw [if_pos (show nI deep = 0 by rw [c0]; rfl), if_pos ⟨c, c0⟩]
    · rw [if_neg (show ¬ nI deep = 0 from fun z => c0 (nI_inj (b := 0) (by omega) (by decide) z)), if_neg (fun z => c0 z.2)]
  · rw [if_neg (show ¬ nI (tk b n p) = 22 from fun z => c (nI_inj (b := 22) (by omega) (by decide) z)), if_neg (fun z => c z.1)]
end Piece
/-- m rounds of the class's loop lead from h to h' -/
def StepsTo (fu m : Nat) (h h' : Hp) : Prop := ∀ (j10 : Int32 → Hp → Option (Int32 × Hp)) f k, k + m ≤ 901 → wh3 (MX3_parse_B34 fu j10 1) (f + m) (1 : Int32) (nI k) h = wh3 (MX3_parse_B34 fu j10 1) f (1 : Int32) (nI (k + m)) h'
/-- within m rounds it ends with a fault -/
def FailTo (fu m : Nat) (h h' : Hp) : Prop := ∀ (j10 : Int32 → Hp → Option (Int32 × Hp)) f k, k + m ≤ 901 → wh3 (MX3_parse_B34 fu j10 1) (f + m + 1) (1 : Int32) (nI k) h = j10 0 h'
theorem st_refl {fu : Nat} {h : Hp} : StepsTo fu 0 h h := fun _ _ _ _ => rfl
theorem st_trans {fu m m' : Nat} {h h' h'' : Hp} (a : StepsTo fu m h h') (c : StepsTo fu m' h' h'') : StepsTo fu (m + m') h h'' := by
  intro j10 f k hk
  rw [show f + (m + m') = (f + m') + m by omega, a j10 (f + m') k (by omega), c j10 f (k + m) (by omega), show k + m + m' = k + (m + m') by omega]
theorem st_fail {fu m m' : Nat} {h h' h'' : Hp} (a : StepsTo fu m h h') (c : FailTo fu m' h' h'') : FailTo fu (m + m') h h'' := by
  intro j10 f k hk
  rw [show f + (m + m') + 1 = (f + m' + 1) + m by omega, a j10 (f + m' + 1) k (by omega), c j10 f (k + m) (by omega)]
theorem st_1 {fu : Nat} {h h' : Hp} (a : MX3_atTheEnd 1 h = some 0) (c : MX3_readPiece fu 1 h = some (1, h')) : StepsTo fu 1 h h' := by
  intro j10 f k hk
  show MX3_parse_B34 fu j10 1 (wh3 (MX3_parse_B34 fu j10 1) f) 1 (nI k) h = _
  unfold MX3_parse_B34
  rw [if_neg (show ¬ (900 : Int32) < nI k from nI_nlt (a := 900) (by omega) (by decide)), if_neg (by decide), a, Option.bind_some, if_pos rfl, c, Option.bind_some, nI_1]
theorem fl_1 {fu : Nat} {h h' : Hp} (a : MX3_atTheEnd 1 h = some 0) (c : MX3_readPiece fu 1 h = some (0, h')) : FailTo fu 1 h h' := by
  intro j10 f k hk
  show MX3_parse_B34 fu j10 1 (wh3 (MX3_parse_B34 fu j10 1) (f + 1)) 1 (nI k) h = _
  unfold MX3_parse_B34
  rw [if_neg (show ¬ (900 : Int32) < nI k from nI_nlt (a := 900) (by omega) (by decide)), if_neg (by decide), a, Option.bind_some, if_pos rfl, c, Option.bind_some, nI_1]
  show MX3_parse_B34 fu j10 1 (wh3 (MX3_parse_B34 fu j10 1) f) 0 (nI (k + 1)) h' = _
  unfold MX3_parse_B34
  split
  · rfl
  · rw [if_pos rfl]
