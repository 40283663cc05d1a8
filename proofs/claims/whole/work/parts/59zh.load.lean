/-! LOAD: the call -/
def cLd (fu : Nat) (p6 : Int32 × Hp) : Option (Int32 × Hp) := (h_fR 8 p6.2 0 0).bind fun x7 => (h_fI 3 p6.2 x7 1).bind fun x8 => (h_pI 8 p6.2 0 10 x8).bind fun h9 => (h_fR 8 h9 0 0).bind fun x10 => (h_fI 3 h9 x10 2).bind fun x11 => (h_pI 8 h9 0 11 x11).bind fun h12 => if p6.1 = 0 then (MX8_refuse 0 (9 : Int32) h12).bind fun p21 => some (p21.1, p21.2) else (h_fR 8 h12 0 0).bind fun x13 => (h_fR 8 h12 0 6).bind fun x14 => (MX3_handOver x13 x14 h12).bind fun p15 => (h_pR 8 p15.2 0 6 p15.1).bind fun h16 => (MX8_forgetAnswers fu 0 h16).bind fun h17 => (h_fR 8 h17 0 6).bind fun x18 => (h_fI 4 h17 x18 3).bind fun x19 => (MX8_answer 0 x19 h17).bind fun p20 => some (p20.1, p20.2)
def mLd (fu : Nat) (p15 : Int32 × Hp) : Option (Int32 × Hp) := (h_fI 9 p15.2 0 13).bind fun x16 => (h_pI 9 p15.2 0 6 x16).bind fun h17 => (h_fI 9 h17 0 14).bind fun x18 => (h_pI 9 h17 0 7 x18).bind fun h19 => if p15.1 = 0 then (MX9_refuse 0 (9 : Int32) h19).bind fun p32 => some (p32.1, p32.2) else wh2 (MX9_load_B102 (fun h20 => (h_fR 9 h20 0 1).bind fun x22 => (h_ldI h20 x22 (2 : Int32)).bind fun x23 => (MX9_gives 0 x23 h20).bind fun p24 => some (p24.1, p24.2)) 0) fu (0 : Int32) h19
theorem cLd_eq {fu : Nat} {a : Int32} {h : Hp} : MX8_load fu 0 a h = h_g 8 h 0 (if a < 0 then (MX8_refuse 0 (1 : Int32) h).bind fun p2 => some (p2.1, p2.2) else (h_fR 8 h 0 0).bind fun x3 => (h_fR 3 h x3 0).bind fun x4 => (h_fI 7 h x4 0).bind fun x5 => if a ≤ x5 then (MX3_parse fu x3 a h).bind (cLd fu) else (MX8_refuse 0 (1 : Int32) h).bind fun p2 => some (p2.1, p2.2)) := rfl
theorem mLd_eq {fu : Nat} {a : Int32} {h : Hp} : MX9_load fu 0 a h = h_g 9 h 0 ((h_fI 9 h 0 4).bind fun x1 => (MX9_isFrom a (0 : Int32) x1).bind fun x2 => if x2 = 0 then (MX9_refuse 0 (1 : Int32) h).bind fun p33 => some (p33.1, p33.2) else (h_pI 9 h 0 8 a).bind fun h3 => (h_pI 9 h3 0 4 (0 : Int32)).bind fun h4 => (h_pI 9 h4 0 10 (0 : Int32)).bind fun h5 => (h_pI 9 h5 0 13 (0 : Int32)).bind fun h6 => (h_pI 9 h6 0 14 (-1 : Int32)).bind fun h7 => (h_fR 9 h7 0 2).bind fun x8 => (h_stI h7 x8 (0 : Int32) (0 : Int32)).bind fun h9 => (h_fR 9 h9 0 2).bind fun x10 => (h_stI h9 x10 (1 : Int32) (0 : Int32)).bind fun h11 => (h_fR 9 h11 0 2).bind fun x12 => (h_stI h11 x12 (2 : Int32) (0 : Int32)).bind fun h13 => (MX9_go fu 0 h13).bind fun h14 => (MX9_readText fu 0 h14).bind (mLd fu)) := rfl
section Load
variable {sw : Bool} {I : Nat → Nat → Int32} {L : Nat → Nat → Int64} {J : Nat → Nat → Int32} {K : Nat → Nat → Int64} {fu d : Nat}
/-- the class opens a text of n bytes -/
theorem c_open {b : Nat → Nat} {n : Nat} {a : Int32} (hd : dr' sw = d) (tx : TX b n) (ha : a = nI n) (hb : ∀ j, j < n → I 3 j = (nI (b j)).toInt8.toInt32) (hR : ∀ i, i < 18 → L 4 i = lN (rsv i)) (hfu : 1000 < fu) :
    ∃ I2 L2, MX3_parse fu 1 a (mkC sw I L) = (wh3 (MX3_parse_B34 fu (fun v8 h9 => if v8 = 0 then (h_z v8).bind fun z11 => some (z11, h9) else (h_fR 3 h9 1 3).bind fun x12 => (MX4_link fu x12 h9).bind fun h13 => (h_z v8).bind fun z14 => some (z14, h13)) 1) fu (1 : Int32) (0 : Int32) (mkC sw I2 L2)) ∧
      LC b n (lexP b n 0) I2 L2 ∧ (I2 1 1 = 0 ∧ I2 1 2 = -1 ∧ I2 1 10 = 0) ∧ (I2 (d + 1) 0 = 0 ∧ I2 d 1 = 0 ∧ I2 d 3 = 0) ∧ I2 2 0 = 0 ∧ (∀ x, x ≠ 1 → x ≠ 2 → x ≠ d → x ≠ d + 1 → I2 x = I x) ∧ ∀ x, x ≠ 2 → L2 x = L x := by
  have P4 : isP (dr' sw) := dr_P
  have d5 := dr_lt (sw := sw)
  rw [hd] at P4 d5
  have K4 : isK (d + 1) := by rcases P4 with z | z <;> rw [z]; exact Or.inl rfl; exact Or.inr rfl
  simp only [MX3_parse, c3_g, c3_pI, Option.bind_some, c3_dr, hd, MX4_empty, c4_g P4, c4_r0 P4, c2_pI K4, c4_pI P4, c3_r0, MX7_open, c7_g, c7_pI, jn]
  generalize hI1 : ur (ur (ur _ _ _) _ _) _ _ = I1
  have r2 : I1 2 = up (up (up (I 2) 4 a) 5 0) 0 0 := by
    rw [← hI1]; simp only [ur_at]
    rw [ur_ne (by omega), ur_ne (by omega), ur_ne (by omega), ur_ne (by decide), ur_ne (by decide), ur_ne (by decide)]
  have r1 : I1 1 = up (up (up (I 1) 1 0) 2 (-1)) 10 0 := by
    rw [← hI1]; simp only [ur_ne (show (1 : Nat) ≠ 2 by decide), ur_ne (show (1 : Nat) ≠ d by omega), ur_ne (show (1 : Nat) ≠ d + 1 by omega), ur_at]
  have rd : I1 d = up (up (I d) 1 0) 3 0 := by
    rw [← hI1]; simp only [ur_ne (show d ≠ 2 by omega), ur_ne (show d ≠ 1 by omega), ur_ne (show d ≠ d + 1 by omega), ur_at]
  have rd1 : I1 (d + 1) = up (I (d + 1)) 0 0 := by
    rw [← hI1]; simp only [ur_ne (show d + 1 ≠ 2 by omega), ur_ne (show d + 1 ≠ 1 by omega), ur_ne (show d + 1 ≠ d by omega), ur_at]
  have rO : ∀ x, x ≠ 1 → x ≠ 2 → x ≠ d → x ≠ d + 1 → I1 x = I x := by
    intro x x1 x2 x3 x4
    rw [← hI1]; simp only [ur_ne x1, ur_ne x2, ur_ne x3, ur_ne x4]
  obtain ⟨I2, L2, e, lc, f1, f2, f3⟩ := c_lex (b := b) (n := n) (q := 0) (sw := sw) (I := I1) (L := L) (fu := fu) tx.1 tx.2 ⟨by rw [r2]; rw [up_ne (by decide), up_ne (by decide), up_at]; exact ha, fun j hj => by rw [rO 3 (by decide) (by decide) (by omega) (by omega)]; exact hb j hj, hR⟩ (by omega) (by rw [r2, up_ne (by decide), up_at]; rfl) hfu
  rw [e]
  refine ⟨I2, L2, rfl, lc, ?_, ?_, ?_, fun x x1 x2 x3 x4 => by rw [f1 x x2, rO x x1 x2 x3 x4], f2⟩
  · rw [f1 1 (by decide), r1]; exact ⟨rfl, rfl, rfl⟩
  · rw [f1 d (by omega), f1 (d + 1) (by omega), rd, rd1]; exact ⟨rfl, rfl, rfl⟩
  · rw [f3 0 (by decide) (by decide) (by decide), r2]; rfl
theorem m_open {b : Nat → Nat} {n : Nat} {a : Int32} (tx : TX b n) (ha : a = nI n) (hb : ∀ j, j < n → J 1 j = nI (b j)) (hfu : 1000 < fu) :
    ∃ J2 K2, ((h_pI 9 (mkM J K) 0 8 a).bind fun h3 => (h_pI 9 h3 0 4 (0 : Int32)).bind fun h4 => (h_pI 9 h4 0 10 (0 : Int32)).bind fun h5 => (h_pI 9 h5 0 13 (0 : Int32)).bind fun h6 => (h_pI 9 h6 0 14 (-1 : Int32)).bind fun h7 => (h_fR 9 h7 0 2).bind fun x8 => (h_stI h7 x8 (0 : Int32) (0 : Int32)).bind fun h9 => (h_fR 9 h9 0 2).bind fun x10 => (h_stI h9 x10 (1 : Int32) (0 : Int32)).bind fun h11 => (h_fR 9 h11 0 2).bind fun x12 => (h_stI h11 x12 (2 : Int32) (0 : Int32)).bind fun h13 => (MX9_go fu 0 h13).bind fun h14 => (MX9_readText fu 0 h14).bind (mLd fu)) = (MX9_readText fu 0 (mkM J2 K2)).bind (mLd fu) ∧
      LM b n (lexP b n 0) J2 K2 ∧ (J2 0 13 = 0 ∧ J2 0 14 = -1) ∧ J2 0 4 = 0 ∧ J2 0 31 = J 0 31 ∧ (J2 3 0 = 0 ∧ J2 3 1 = 0 ∧ J2 3 2 = 0) ∧ J2 2 = J 2 := by
  simp only [m_pI, Option.bind_some, m_r2, ur_ur, ur_at]
  rw [m_slit (x := 0) (k := 0) rfl (by decide), Option.bind_some, m_r2, Option.bind_some, m_slit (x := 1) (k := 1) rfl (by decide), Option.bind_some, m_r2, Option.bind_some, m_slit (x := 2) (k := 2) rfl (by decide), Option.bind_some]
  generalize hJ1 : ur (ur (ur _ _ _) _ _) _ _ = J1
  have r0 : J1 0 = up (up (up (up (up (J 0) 8 a) 4 0) 10 0) 13 0) 14 (-1) := by
    rw [← hJ1]; simp only [ur_ne (show (0 : Nat) ≠ 3 by decide), ur_at]
  have r3 : J1 3 = up (up (up (J 3) 0 0) 1 0) 2 0 := by
    rw [← hJ1]; simp only [ur_ne (show (3 : Nat) ≠ 0 by decide), ur_at]
  have rO : ∀ x, x ≠ 0 → x ≠ 3 → J1 x = J x := by
    intro x x1 x2
    rw [← hJ1]; simp only [ur_ne x1, ur_ne x2]
  obtain ⟨J2, K2, e, lm, f1, f2, f3⟩ := m_lex (b := b) (n := n) (q := 0) (J := J1) (K := K) (fu := fu) tx.1 tx.2 ⟨by rw [r0]; rw [up_ne (by decide), up_ne (by decide), up_ne (by decide), up_ne (by decide), up_at]; exact ha, fun j hj => by rw [rO 1 (by decide) (by decide)]; exact hb j hj⟩ (by omega) (by rw [r0]; rfl) hfu
  rw [e, Option.bind_some]
  refine ⟨J2, K2, rfl, lm, ?_, ?_, ?_, ?_, ?_⟩
  · rw [f3 13 (by omega), f3 14 (by omega), r0]; exact ⟨rfl, rfl⟩
  · rw [f3 4 (by omega), r0]; rfl
  · rw [f3 31 (by omega), r0]; rfl
  · rw [f1 3 (by decide), r3]; exact ⟨rfl, rfl, rfl⟩
  · rw [f1 2 (by decide), rO 2 (by decide) (by decide)]
theorem c_done0 {I' : Nat → Nat → Int32} {L' : Nat → Nat → Int64} : cLd fu (0, mkC sw I' L') = some (-1, mkC sw (ur I' 0 (up (up (up (I' 0) 10 (I' 1 1)) 11 (I' 1 2)) 9 9)) L') := by
  unfold cLd
  simp only [c8_r0, c3_fI, c8_pI, Option.bind_some, c_refuse, if_pos, ur_ur, ur_at, ur_ne (show (1 : Nat) ≠ 0 by decide)]
theorem m_done0 {J' : Nat → Nat → Int32} {K' : Nat → Nat → Int64} : mLd fu (0, mkM J' K') = some (-1, mkM (ur J' 0 (up (up (up (J' 0) 6 (J' 0 13)) 7 (J' 0 14)) 5 9)) K') := by
  unfold mLd
  simp only [m_fI, m_pI, Option.bind_some, m_refuse, if_pos, ur_ur, ur_at]
  rw [up_ne (show (14 : Nat) ≠ 6 by decide)]
theorem c_done1 {I' : Nat → Nat → Int32} {L' : Nat → Nat → Int64} (hd : dr' sw = d) (hfu : 1000 < fu) : ∃ I3, cLd fu (1, mkC sw I' L') = some (I' d 3, mkC (!sw) I3 L') ∧ (∀ x, x ≠ 0 → x ≠ 227 → I3 x = I' x) ∧ I3 0 7 = 0 ∧ I3 0 8 = 0 ∧ I3 0 9 = 0 ∧ I3 0 10 = I' 1 1 ∧ I3 0 11 = I' 1 2 ∧ ∀ i, i < 40 → I3 227 i = -1 := by
  have P4 : isP (dr' sw) := dr_P
  have d5 := dr_lt (sw := sw)
  have pd : pid (!sw) = d := by rw [← hd]; cases sw <;> rfl
  unfold cLd
  simp only [c8_r0, c3_fI, c8_pI, Option.bind_some, ur_ur, ur_at, ur_ne (show (1 : Nat) ≠ 0 by decide)]
  rw [if_neg (show ¬ (1 : Int32) = 0 by decide), c8_r6, Option.bind_some]
  generalize hI1 : ur I' 0 (up (up (I' 0) 10 (I' 1 1)) 11 (I' 1 2)) = I1
  have ho : MX3_handOver 1 (if sw then 5 else 228) (mkC sw I1 L') = some (dr' sw, (shC, I1, L', u2 (refC sw) 1 3 (some (if sw then 5 else 228)))) := by
    simp only [MX3_handOver, c3_g, c3_dr, Option.bind_some, c3_p3 rfl]
  rw [ho, Option.bind_some]
  have hp : h_pR 8 (shC, I1, L', u2 (refC sw) 1 3 (some (if sw then 5 else 228))) 0 6 (dr' sw) = some (mkC (!sw) I1 L') := by
    show some (shC, I1, L', u2 (u2 (refC sw) 1 3 (some (if sw then 5 else 228))) 0 6 (some (dr' sw))) = _
    unfold mkC
    rw [← swap_C (sw := sw)]
    rfl
  rw [hp, Option.bind_some, c_forget (by omega), Option.bind_some, c8_pg, Option.bind_some, pd, c4_fI (by rw [← hd]; exact P4), Option.bind_some, c_answer, Option.bind_some]
  rw [hd] at d5
  generalize hI2 : ur (ur I1 0 (up (up (I1 0) 7 0) 8 0)) 227 (fun j => if j < 40 then -1 else I1 227 j) = I2
  have q0 : I2 0 = up (up (I1 0) 7 0) 8 0 := by rw [← hI2, ur_ne (by decide), ur_at]
  have q227 : ∀ i, i < 40 → I2 227 i = -1 := fun i hi => by rw [← hI2, ur_at, if_pos hi]
  have qO : ∀ x, x ≠ 0 → x ≠ 227 → I2 x = I' x := fun x x0 x1 => by rw [← hI2, ur_ne x1, ur_ne x0, ← hI1, ur_ne x0]
  have p0 : I1 0 = up (up (I' 0) 10 (I' 1 1)) 11 (I' 1 2) := by rw [← hI1, ur_at]
  refine ⟨ur I2 0 (up (I2 0) 9 0), ?_, fun x x0 x1 => by rw [ur_ne x0, qO x x0 x1], by rw [ur_at, q0]; rfl, by rw [ur_at, q0]; rfl, by rw [ur_at]; rfl, by rw [ur_at, q0, p0]; rfl, by rw [ur_at, q0, p0]; rfl, fun i hi => by rw [ur_ne (by decide)]; exact q227 i hi⟩
  rw [qO d (by omega) (by omega)]
theorem m_done1 {J' : Nat → Nat → Int32} {K' : Nat → Nat → Int64} (hfu : 1000 < fu) : ∃ J3, mLd fu (1, mkM J' K') = some (J3 2 2, mkM J3 K') ∧ (J3 2 = fun j => if j < 573 then J' 3 j else J' 2 j) ∧ J3 0 = up (up (up (J' 0) 6 (J' 0 13)) 7 (J' 0 14)) 5 0 := by
  unfold mLd
  simp only [m_fI, m_pI, Option.bind_some, ur_ur, ur_at]
  rw [up_ne (show (14 : Nat) ≠ 6 by decide), if_neg (show ¬ (1 : Int32) = 0 by decide)]
  generalize hJ1 : ur J' 0 (up (up (J' 0) 6 (J' 0 13)) 7 (J' 0 14)) = J1
  have self : ur J1 2 (J1 2) = J1 := by
    funext x
    by_cases z : x = 2
    · rw [z, ur_at]
    · rw [ur_ne z]
  have cp := m_copy (j21 := fun h20 => (h_fR 9 h20 0 1).bind fun x22 => (h_ldI h20 x22 (2 : Int32)).bind fun x23 => (MX9_gives 0 x23 h20).bind fun p24 => some (p24.1, p24.2)) (J := J1) (K := K') 573 fu 0 (J1 2) (by omega) (by omega) (fun j hj => by omega) (fun j hj => rfl)
  rw [self] at cp
  have j3 : J1 3 = J' 3 := by rw [← hJ1, ur_ne (by decide)]
  have j2 : J1 2 = J' 2 := by rw [← hJ1, ur_ne (by decide)]
  have j0 : J1 0 = up (up (J' 0) 6 (J' 0 13)) 7 (J' 0 14) := by rw [← hJ1, ur_at]
  refine ⟨ur (ur J1 2 (fun j => if j < 573 then J1 3 j else J1 2 j)) 0 (up (J1 0) 5 0), ?_, by rw [ur_ne (by decide), ur_at, j3, j2], by rw [ur_at, j0]⟩
  refine Eq.trans cp ?_
  rw [m_r1, Option.bind_some, show (2 : Int32) = nI 2 from rfl, m_ld2 (by decide), Option.bind_some, m_gives, Option.bind_some, ur_ne (show (0 : Nat) ≠ 2 by decide), ur_ne (show (2 : Nat) ≠ 0 by decide)]
theorem op_load {a : Int32} (h : REL kSo sw I L J) (hfu : 1000 < fu) : OPR kSo (MX8_load fu 0 a (mkC sw I L)) (MX9_load fu 0 a (mkM J K)) := by
  have hREL := h
  obtain ⟨⟨n0, t1, t2, t3, t4⟩, -, -, s31, rr, -, -, -⟩ := h
  rw [cLd_eq, mLd_eq, c8_g, m_g, c8_r0, Option.bind_some, c3_r0, Option.bind_some, c7_fI, Option.bind_some, m_fI, Option.bind_some, c_refuse, Option.bind_some, m_refuse, Option.bind_some, t2, isFrom_c t3 (by omega), Option.bind_some]
  by_cases hin : ¬ inR a (n0 + 1) = true
  · rw [if_neg hin, if_pos rfl]
    have : ∀ x y : Option (Int32 × Hp), (if a < 0 then y else if a ≤ nI n0 then x else y) = y := by
      intro x y
      by_cases c1 : a < 0
      · rw [if_pos c1]
      · rw [if_neg c1, if_neg]
        intro c2
        apply hin
        rw [i_lt, z_i] at c1
        rw [i_le, n_i (by omega)] at c2
        unfold inR
        exact decide_eq_true ⟨by omega, by omega⟩
    rw [this]
    exact OPR_fin okS_o hREL
  · have hin := Classical.not_not.mp hin
    obtain ⟨n, nn, ha⟩ := inR_of (by omega) hin
    rw [if_pos hin, if_neg (show ¬ (1 : Int32) = 0 by decide)]
    rw [if_neg (show ¬ a < 0 by rw [ha]; exact nI_nlt (b := 0) (by omega) (by omega)), if_pos (show a ≤ nI n0 by rw [ha]; exact nI_le (by omega) (by omega))]
    have hb : ∀ j, j < n → nN (J 1 j) < 256 ∧ J 1 j = nI (nN (J 1 j)) ∧ I 3 j = (nI (nN (J 1 j))).toInt8.toInt32 := by
      intro j hj
      obtain ⟨q1, c, q2, q3⟩ := t4 j (by omega)
      have : nN (J 1 j) = c := by rw [q3, nN_nI (by omega)]
      rw [this, ← q3]
      exact ⟨q2, rfl, q1⟩
    obtain ⟨b, hb1⟩ : ∃ b : Nat → Nat, ∀ j, b j = nN (J 1 j) := ⟨fun j => nN (J 1 j), fun _ => rfl⟩
    have tx : TX b n := ⟨by omega, fun j hj => by rw [hb1]; exact (hb j hj).1⟩
    obtain ⟨d, hd⟩ : ∃ d, dr' sw = d := ⟨_, rfl⟩
    have d5 := dr_lt (sw := sw)
    have P4 : isP (dr' sw) := dr_P
    rw [hd] at d5 P4
    obtain ⟨I2, L2, e1, lc, ⟨o1, o2, o10⟩, ⟨u1, u2, u3⟩, o3, o4, o5⟩ := c_open (a := a) (I := I) (L := L) (fu := fu) hd tx ha (fun j hj => by rw [hb1]; exact (hb j hj).2.2) rr hfu
    obtain ⟨J2, K2, e2, lm, ⟨v13, v14⟩, v4, v31, ⟨w0, w1, w2⟩, v2⟩ := m_open (a := a) (J := J) (K := K) (fu := fu) tx ha (fun j hj => by rw [hb1]; exact (hb j hj).2.1) hfu
    rw [e1, e2]
    have lp : lexP b n 0 ≤ n := (lexP_le (b := b) (n := n) n 0 (by omega) (by omega)).2
    have hBC : BC b n sw I2 L2 (lexP b n 0) I2 L2 := ⟨lp, lc, ⟨fun _ _ _ _ _ _ => rfl, fun _ _ _ => rfl, rfl⟩, o1, o2⟩
    have hBM : BM b n J2 (J 2) (lexP b n 0) (fun k => if k < 573 then J2 3 k else J 2 k) J2 K2 := ⟨lm, ⟨fun k hk => (if_pos hk).symm, fun k hk => if_neg (Nat.not_lt.mpr hk)⟩, ⟨fun _ _ _ => rfl, fun _ _ => rfl⟩, v13, v14⟩
    obtain ⟨P0, hP0⟩ : ∃ P0 : Nat → Int32, P0 = fun k => if k < 573 then J2 3 k else J 2 k := ⟨_, rfl⟩
    rw [← hP0] at hBM
    have z0 : P0 0 = nI 0 := by rw [hP0]; exact w0
    have z1 : P0 1 = nI 0 := by rw [hP0]; exact w1
    have z2 : P0 2 = nI 0 := by rw [hP0]; exact w2
    have k0 : nK P0 = 0 := by show nN (P0 0) = 0; rw [z0]; rfl
    have k1 : nV P0 = 0 := by show nN (P0 1) = 0; rw [z1]; rfl
    have cx : CTX d P0 I2 L2 K2 := ⟨⟨⟨by rw [k0]; exact z0, by omega⟩, by rw [k1]; exact z1, by omega⟩, ⟨by rw [z0]; exact u1, by rw [z1]; exact u2⟩, fun k hk => by omega, fun v hv => by omega⟩
    rcases both_text (fu := fu) tx hd hfu hBC hBM cx z2 u3 o10 with ⟨I3, L3, J3, K3, x1, x2, ⟨fc1, fc2, fc3⟩, ⟨fm1, fm2⟩, fl1, fl2⟩ | ⟨p3, P3, I3, L3, J3, K3, D, sp, cl, N, f, x1, x2, h3, g3, cx3, ⟨n1, n2, n3⟩, hs, wb⟩
    · rw [x1, x2, if_pos rfl, h_z_0, Option.bind_some, Option.bind_some, Option.bind_some, c_done0, m_done0]
      refine ⟨-1, _, _, rfl, rfl, sw, _, L3, _, K3, rfl, rfl, REL_text hd hREL (fun x y0 y1 y2 y3 y4 y5 => ?_) (fun k hk => ?_) ?_ ?_ ?_ ?_ ?_ ?_⟩
      · rw [ur_ne y0, fc1 x y1 y2 y3 y4 (by rw [hd]; exact y5), o4 x y1 y2 (by omega) (by omega)]
      · rw [ur_at, up_ne (by omega), up_ne (by omega), up_ne (by omega), fc1 0 (by decide) (by decide) (by decide) (by decide) (by omega), o4 0 (by decide) (by decide) (by omega) (by omega)]
      · rw [ur_at, ur_at, fl1, fl2]; exact ⟨rfl, rfl, rfl⟩
      · rw [ur_ne (by decide), fc3]; exact o3
      · rw [ur_at, up_ne (by decide), up_ne (by decide), up_ne (by decide), fm2 4 (by omega)]; exact v4
      · rw [fc2 4 (by decide) (by decide), fc2 217 (by decide) (by decide), o5 4 (by decide), o5 217 (by decide)]; exact ⟨rfl, rfl⟩
      · rw [ur_ne (by decide), fm1 2 (by decide) (by decide), v2]
      · rw [ur_at, up_ne (by decide), up_ne (by decide), up_ne (by decide), fm2 31 (by omega)]; exact v31
    · have tN : nT P3 = N := by show nN (P3 2) = N; rw [n2, nN_nI (by omega)]
      have hWn : WFn P3 := ⟨cx3.1.1, cx3.1.2, by rw [tN]; exact ⟨n2, n1⟩⟩
      have hS : WFs P3 D := fun i hi => (hs i (by omega)).2
      obtain ⟨I4, y1, y2, y3⟩ := c_link (sw := sw) (d := d) (fu := fu) (P := P3) (I := I3) (L := L3) (D := D) (sp := sp) (cl := cl) (f := f) P4 hWn hS (by rw [tN]; exact wb) ⟨by rw [tN]; exact n3, fun i hi => by
        obtain ⟨s1, s2, s3, s4, s5, s6, s7, s8⟩ := (hs i (by omega)).1
        exact ⟨s1, s6, s7, s8⟩⟩ hfu
      obtain ⟨I5, c1, c2, c3, c4, c5, c6, c7, c8⟩ := c_done1 (fu := fu) (I' := I4) (L' := L3) hd hfu
      obtain ⟨J5, m1, m2, m3⟩ := m_done1 (fu := fu) (J' := J3) (K' := K3) hfu
      rw [x1, x2, if_neg (show ¬ (1 : Int32) = 0 by decide), c3_dr, hd, Option.bind_some, y1, Option.bind_some, h_z_1, Option.bind_some, Option.bind_some, Option.bind_some, c1, m1]
      obtain ⟨-, ⟨q1, q2⟩, ⟨fm1, fm2⟩, q13, q14⟩ := g3
      obtain ⟨-, -, ⟨fc1, fc2, fc3⟩, e11, e12⟩ := h3
      have eP : J5 2 = P3 := by
        rw [m2]
        funext j
        by_cases c : j < 573
        · rw [if_pos c]; exact q1 j c
        · rw [if_neg c, fm1 2 (by decide) (by decide), v2]; exact (q2 j (by omega)).symm
      have pd : pid (!sw) = d := by rw [← hd]; cases sw <;> rfl
      have r4 : ∀ x, x ≠ d + 22 → x ≠ d + 23 → x ≠ d + 24 → x ≠ 0 → x ≠ 227 → I5 x = I3 x := fun x a1 a2 a3 a4 a5 => by rw [c2 x a4 a5, y2 x a1 a2 a3]
      have i4 : I4 d 3 = nI N := by rw [y2 d (by omega) (by omega) (by omega)]; exact n3
      have j5 : J5 2 2 = nI N := by rw [eP]; exact n2
      rw [i4, j5]
      refine ⟨nI N, _, _, rfl, rfl, !sw, I5, L3, J5, K3, rfl, rfl, ⟨0, by omega, ?_, ?_, fun j hj => by omega⟩, ?_, ⟨D, ?_, ?_⟩, ?_, fun i hi => ?_, Or.inl c3, fun i hi => ?_, Or.inl c4⟩
      · rw [r4 2 (by omega) (by omega) (by omega) (by omega) (by omega), fc3]; exact o3
      · rw [m3, up_ne (by decide), up_ne (by decide), up_ne (by decide), fm2 4 (by omega)]; exact v4
      · rw [c5, c6, c7, m3, y2 1 (by omega) (by omega) (by omega), e11, e12, q13, q14]; exact ⟨rfl, rfl, rfl⟩
      · rw [eP]
        exact ⟨⟨hWn, fun k hk => (cx3.2.2.1 k hk).1⟩, fun v hv => (cx3.2.2.2 v hv).1, hS⟩
      · rw [eP, pd]
        have cr : ∀ e, e ≤ 21 → I5 (d + e) = I3 (d + e) := fun e he => r4 (d + e) (by omega) (by omega) (by omega) (by omega) (by omega)
        refine ⟨?_, ?_, ?_⟩
        · have k9 : CRk d I3 P3 := ⟨cx3.2.1.1, fun k hk => (cx3.2.2.1 k hk).2.1⟩
          unfold CRk CRm at *
          rw [cr 1 (by omega), cr 2 (by omega), cr 3 (by omega), cr 4 (by omega), cr 5 (by omega), cr 6 (by omega), cr 7 (by omega), cr 8 (by omega)]
          exact k9
        · unfold CRv
          rw [show I5 d = I3 d from cr 0 (by omega), cr 13 (by omega)]
          exact ⟨cx3.2.1.2, fun v hv => (cx3.2.2.2 v hv).2.1⟩
        · unfold CRs
          rw [show I5 d = I3 d from cr 0 (by omega), cr 14 (by omega), cr 15 (by omega), cr 16 (by omega), cr 17 (by omega), cr 18 (by omega), c2 (d + 22) (by omega) (by omega), c2 (d + 23) (by omega) (by omega), c2 (d + 24) (by omega) (by omega)]
          refine ⟨by rw [n3, n2], fun i hi => ?_⟩
          obtain ⟨s1, s2, s3, s4, s5, s6, s7, s8⟩ := (hs i (by omega)).1
          exact ⟨s1, s2, s3, s4, s5, y3 i hi⟩
      · rw [m3, up_ne (by decide), up_ne (by decide), up_ne (by decide), fm2 31 (by omega), v31]; exact s31
      · rw [fc2 4 (by decide) (by decide), o5 4 (by decide)]; exact rr i hi
      · rw [eP, tN] at hi
        exact Or.inl (c8 i (by omega))
end Load
