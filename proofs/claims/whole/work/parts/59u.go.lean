section Go
variable {kS : KS} {sw : Bool} {I I' : Nat → Nat → Int32} {L L' : Nat → Nat → Int64} {J J' : Nat → Nat → Int32} {K : Nat → Nat → Int64} {fu i n md p r : Nat} {D : Nat → Nat} {X P : Nat → Int32} {d : Int32}
def RCo (P : Nat → Int32) (I I' : Nat → Nat → Int32) (a : Int32) : Prop := (∀ b, b ≠ 224 → b ≠ 226 → I' b = I b) ∧ I' 224 0 = nI (RN P 300 0 0 0 a X0).1 ∧ I' 224 1 = (RN P 300 0 0 0 a X0).2.1 ∧ I' 224 2 = nI (RN P 300 0 0 0 a X0).2.2.1 ∧ I' 224 3 = nI (RN P 300 0 0 0 a X0).2.2.2
/-- the end of a step -/
def goU (fu p : Nat) (w : Int32) (h : Hp) : Option (Int32 × Hp) := (h_fR 5 h 224 5).bind fun x23 => (h_fI 5 h 224 2).bind fun x24 => (MX1_pass fu x23 p x24 w h).bind fun p25 => if w = 0 then (h_fR 4 p25.2 p 14).bind fun x29 => (h_fI 5 p25.2 224 2).bind fun x30 => (h_ldI p25.2 x29 x30).bind fun x31 => (h_pI 5 p25.2 224 2 x31).bind fun h28 => some ((1 : Int32), h28) else (h_fR 4 p25.2 p 13).bind fun x32 => (h_fI 5 p25.2 224 2).bind fun x33 => (h_ldI p25.2 x32 x33).bind fun x34 => (h_pI 5 p25.2 224 2 x34).bind fun h28 => some ((1 : Int32), h28)
def goT (fu p : Nat) (w : Int32) (h : Hp) : Option (Int32 × Hp) := (h_fR 4 h p 4).bind fun x18 => (h_fI 5 h 224 2).bind fun x19 => (h_ldI h x18 x19).bind fun x20 => if x20 = 0 then (h_fI 5 h 224 3).bind fun x35 => (h_pI 5 h 224 3 (x35 + (1 : Int32))).bind fun h36 => goU fu p w h36 else goU fu p w h
def goV (fu p : Nat) (h : Hp) : Option (Int32 × Hp) := (h_fR 4 h p 14).bind fun x12 => (h_fI 5 h 224 2).bind fun x13 => (h_ldI h x12 x13).bind fun x14 => if x14 = (-1 : Int32) then goT fu p 1 h else (MX5_drawYes 224 h).bind fun p39 => if p39.1 = 0 then goT fu p 0 p39.2 else goT fu p 1 p39.2
def goW (fu p : Nat) (x1 : Int32) (h : Hp) : Option (Int32 × Hp) := (h_fR 5 h 224 5).bind fun x4 => (MX1_reasonAt fu x4 p x1 h).bind fun x5 => (h_pI 5 h 224 1 x5).bind fun h6 => (h_fI 5 h6 224 2).bind fun x7 => (h_fI 4 h6 p 3).bind fun x8 => if x7 < x8 then (h_fI 5 h6 224 0).bind fun x9 => (h_pI 5 h6 224 0 (x9 + (1 : Int32))).bind fun h10 => (h_fI 5 h10 224 1).bind fun x11 => if x11 = 0 then goV fu p h10 else some ((0 : Int32), h10) else some ((0 : Int32), h6)
theorem goW_eq {h : Hp} : MX5_step fu 224 p h = h_g 5 h 224 ((h_fI 5 h 224 2).bind fun x1 => (h_fI 4 h p 3).bind fun x2 => if x2 ≤ x1 then goW fu p x1 h else (h_fI 5 h 224 0).bind fun x40 => if x40 < (300 : Int32) then goW fu p x1 h else (h_pI 5 h 224 1 (6 : Int32)).bind fun h41 => some ((0 : Int32), h41)) := rfl
theorem isH225 : isH 225 := Or.inr (Or.inr (Or.inr (Or.inr (Or.inl rfl))))
theorem c_goU {w : Int32} {Y : Nat → Int32} (hp : isP p) (hC : CR p I P D) (hA : WFA P D) (hi : i < nT P) (h2 : I 224 2 = nI i) (ee : e24 (I 226) X) (gx : GX (I 226)) (e : tr P i w X = some Y) (hfu : 6 < fu) :
    ∃ I', goU fu p w (mkC sw I L) = some (1, mkC sw I' L) ∧ (∀ b, b ≠ 224 → b ≠ 226 → I' b = I b) ∧ (∀ k, k ≠ 2 → I' 224 k = I 224 k) ∧ I' 224 2 = (if w = 0 then lkN P no i else lkY P no i) ∧ e24 (I' 226) Y := by
  have h40 := hA.1.1.2.2.2
  unfold goU
  obtain ⟨⟨r1, _⟩, ep, g, rfl, q⟩ := c_pass (x := 225) (sw := sw) (L := L) (fu := fu) (z := w) isH225 hp hC.1 hC.2.1 hC.2.2 hA.1 hA.2.1 hA.2.2 hi gx hfu
  rw [c5_r5, Option.bind_some, c5_fI, Option.bind_some, h2, ep, Option.bind_some]
  have q3 : tq P i w (I 226) g := by
    rcases q with ⟨-, q⟩ | ⟨-, q⟩
    · rcases tr_e24 (z := w) hA.1 hA.2.1 hA.2.2 hi ee with ⟨-, z⟩ | ⟨X', Y', z, -, -⟩
      · rw [e] at z; cases z
      · rw [show I (225 + 1) = I 226 from rfl, z] at q; cases q
    · exact q
  have gY : e24 g Y := by
    obtain ⟨Y0, y1, y2⟩ := tq_e24 hA.1 hA.2.1 hA.2.2 hi ee q3
    rw [e] at y1
    rw [Option.some.inj y1]
    exact y2
  have hC2 : ∀ g, CR p (ur I 226 g) P D := fun g => CR_fr2 hC (fun d hd => ur_ne (by rcases hp with e | e <;> rw [e] <;> omega))
  have fin : ∀ x : Int32, x = (if w = 0 then lkN P no i else lkY P no i) → ∃ I', ((h_pI 5 (mkC sw (ur I 226 g) L) 224 2 x).bind fun h28 => some ((1 : Int32), h28)) = some (1, mkC sw I' L) ∧ (∀ b, b ≠ 224 → b ≠ 226 → I' b = I b) ∧ (∀ k, k ≠ 2 → I' 224 k = I 224 k) ∧ I' 224 2 = (if w = 0 then lkN P no i else lkY P no i) ∧ e24 (I' 226) Y := by
    intro x hx
    rw [c5_pI, Option.bind_some]
    refine ⟨_, rfl, fun b b1 b2 => by rw [ur_ne b1, ur_ne b2], fun k hk => by rw [ur_at, up_ne hk, ur_ne (by decide)], by rw [ur_at, up_at, hx], by rw [ur_ne (by decide), ur_at]; exact gY⟩
  obtain ⟨-, -, -, -, -, -, d7, d8⟩ := (hC2 g).2.2.2 i hi
  by_cases c : w = 0
  · rw [if_pos c]
    rw [show (mkC sw (ur I (225 + 1) g) L) = mkC sw (ur I 226 g) L from rfl, c4_r14 hp, Option.bind_some, c5_fI, Option.bind_some, ur_ne (show (224 : Nat) ≠ 226 by decide), h2, c4_ld14 hp (by omega), Option.bind_some]
    exact fin _ (by rw [if_pos c]; exact d8)
  · rw [if_neg c]
    rw [show (mkC sw (ur I (225 + 1) g) L) = mkC sw (ur I 226 g) L from rfl, c4_r13 hp, Option.bind_some, c5_fI, Option.bind_some, ur_ne (show (224 : Nat) ≠ 226 by decide), h2, c4_ld13 hp (by omega), Option.bind_some]
    exact fin _ (by rw [if_neg c]; exact d7)
theorem c_goT {w : Int32} {Y : Nat → Int32} (hp : isP p) (hC : CR p I P D) (hA : WFA P D) (hi : i < nT P) (h2 : I 224 2 = nI i) (h3 : I 224 3 = nI md) (ee : e24 (I 226) X) (gx : GX (I 226)) (e : tr P i w X = some Y) (hfu : 6 < fu) :
    ∃ I', goT fu p w (mkC sw I L) = some (1, mkC sw I' L) ∧ (∀ b, b ≠ 224 → b ≠ 226 → I' b = I b) ∧ (∀ k, k ≠ 2 → k ≠ 3 → I' 224 k = I 224 k) ∧ I' 224 2 = (if w = 0 then lkN P no i else lkY P no i) ∧ I' 224 3 = nI (if nN (P (333 + i)) = 0 then md + 1 else md) ∧ e24 (I' 226) Y := by
  have h40 := hA.1.1.2.2.2
  obtain ⟨so, h10, eso, es, -, -, -⟩ := op_of hA.1 hA.2.1 hA.2.2 hi
  unfold goT
  rw [c4_r4 hp, Option.bind_some, c5_fI, Option.bind_some, h2, c4_ld4 hp (by omega), Option.bind_some, (hC.2.2.2 i hi).1, es, eso]
  by_cases c : so = 0
  · rw [if_pos (show nI so = 0 by rw [c]; rfl), c5_fI, Option.bind_some, c5_pI, Option.bind_some, h3, nI_1, if_pos c]
    obtain ⟨I', u1, u2, u3, u4, u5⟩ := c_goU (sw := sw) (I := ur I 224 (up (I 224) 3 (nI (md + 1)))) (L := L) (fu := fu) (w := w) hp (CR_fr2 hC (fun d hd => ur_ne (by rcases hp with e | e <;> rw [e] <;> omega))) hA hi (by rw [ur_at, up_ne (by decide), h2]) (by rw [ur_ne (by decide)]; exact ee) (by rw [ur_ne (by decide)]; exact gx) e hfu
    exact ⟨I', u1, fun b b1 b2 => by rw [u2 b b1 b2, ur_ne b1], fun k k2 k3 => by rw [u3 k k2, ur_at, up_ne k3], u4, by rw [u3 3 (by decide), ur_at, up_at], u5⟩
  · rw [if_neg (show ¬ nI so = 0 from fun z => c (nI_inj (b := 0) (by omega) (by omega) z)), if_neg c]
    obtain ⟨I', u1, u2, u3, u4, u5⟩ := c_goU (sw := sw) (I := I) (L := L) (fu := fu) (w := w) hp hC hA hi h2 ee gx e hfu
    exact ⟨I', u1, u2, fun k k2 k3 => u3 k k2, u4, by rw [u3 3 (by decide), h3], u5⟩
theorem c_go {a : Int32} (hp : isP p) (hC : CR p I P D) (hA : WFA P D) (rg0 : RG P 300 0 a X0) (hfu : 400 < fu) : WP (MX5_go fu 224 p a (mkC sw I L)) (fun h => ∃ I', h = mkC sw I' L ∧ RCo P I I' a) := by
  have h40 := hA.1.1.2.2.2
  simp only [MX5_go, c5_g, c5_pI, c5_r5, Option.bind_some, ur_ur, ur_at]
  obtain ⟨_, eb, g, rfl, hg⟩ := c_begin (x := 225) (sw := sw) (I := ur I 224 (up (up (up (up (up (I 224) 0 0) 1 0) 2 0) 3 0) 4 a)) (L := L) (fu := fu) isH225 (by omega)
  rw [eb, Option.bind_some]
  refine wh3_wp (fun m v8 v9 h => ∃ I3, h = mkC sw I3 L ∧ (∀ b, b ≠ 224 → b ≠ 226 → I3 b = I b) ∧ ((m = 0 ∧ v8 = 0 ∧ RCo P I I3 a) ∨ ∃ r n i md X, m = r + 1 ∧ v8 = 1 ∧ v9 = nI n ∧ n + r = 300 ∧ i ≤ nT P ∧ I3 224 0 = nI n ∧ I3 224 2 = nI i ∧ I3 224 3 = nI md ∧ e24 (I3 226) X ∧ RG P r i (I3 224 4) X ∧ RN P r n i md (I3 224 4) X = RN P 300 0 0 0 a X0)) ?_ fu 301 _ _ _ (by omega) ?_
  · rintro m v8 v9 h self ⟨I3, rfl, o3, inv⟩ ih
    simp only [MX5_go_B37]
    rcases inv with ⟨rfl, rfl, i2⟩ | ⟨r, n, i, md, X, rfl, rfl, rfl, hn, hi, i0, i2, i3, ee, rg, rn⟩
    · rw [if_pos rfl]
      exact WP_some ⟨I3, rfl, i2⟩
    · rw [if_neg (by decide), if_neg (show ¬ (300 : Int32) < nI n by rw [show (300 : Int32) = nI 300 from rfl, i_lt, n_i (by omega), n_i (by omega)]; omega)]
      have hC3 : CR p I3 P D := CR_fr2 hC (fun d hd => by rcases hp with e | e <;> rw [e] <;> exact o3 _ (by omega) (by omega))
      have gx := e24_GX ee (RG_GX rg)
      have er : ∀ pl, pl ≤ nT P → MX1_reasonAt fu 225 p (nI pl) (mkC sw I3 L) = some (rsn P pl X) := by
        intro pl hpl
        rw [c_reasonAt isH225 hp hC3 hA hpl gx.1 (by omega), rsn_e24 hA hpl ee]
      simp only [goW_eq, goW, c5_g, c5_fI, c4_fI hp, c5_r5, Option.bind_some]
      rw [hC3.2.2.1, hA.1.1.2.2.1, i2, i0, er i hi]
      simp only [Option.bind_some, c5_pI, c5_fI, c4_fI hp]
      by_cases ci : i = nT P
      · subst ci
        rw [if_pos (nI_le (by omega) (by omega)), ur_at, up_ne (by decide), i2, ur_ne (by rcases hp with e | e <;> omega), hC3.2.2.1, hA.1.1.2.2.1, if_neg (nI_nlt (by omega) (by omega)), Option.bind_some]
        rw [RN_end] at rn
        refine ih 0 _ _ _ (by omega) ⟨_, rfl, fun b b1 b2 => by rw [ur_ne b1, o3 b b1 b2], Or.inl ⟨rfl, rfl, fun b b1 b2 => by rw [ur_ne b1, o3 b b1 b2], ?_⟩⟩
        rw [← rn]
        exact ⟨by rw [ur_at, up_ne (by decide), i0], by rw [ur_at, up_at], by rw [ur_at, up_ne (by decide), i2], by rw [ur_at, up_ne (by decide), i3]⟩
      · have li : i < nT P := by omega
        rw [if_neg (nI_ge (by omega) (by omega))]
        by_cases c3 : n = 300
        · have r0 : r = 0 := by omega
          subst r0
          rw [if_neg (show ¬ nI n < 300 by rw [c3]; decide), Option.bind_some]
          rw [RN_300 ci] at rn
          refine ih 0 _ _ _ (by omega) ⟨_, rfl, fun b b1 b2 => by rw [ur_ne b1, o3 b b1 b2], Or.inl ⟨rfl, rfl, fun b b1 b2 => by rw [ur_ne b1, o3 b b1 b2], ?_⟩⟩
          rw [← rn]
          exact ⟨by rw [ur_at, up_ne (by decide), i0], by rw [ur_at, up_at], by rw [ur_at, up_ne (by decide), i2], by rw [ur_at, up_ne (by decide), i3]⟩
        · obtain ⟨r, rfl⟩ : ∃ r', r = r' + 1 := ⟨r - 1, by omega⟩
          rw [if_pos (show nI n < 300 by rw [show (300 : Int32) = nI 300 from rfl, i_lt, n_i (by omega), n_i (by omega)]; omega)]
          rw [ur_at, up_ne (show (2 : Nat) ≠ 1 by decide), i2, ur_ne (by rcases hp with e | e <;> omega), hC3.2.2.1, hA.1.1.2.2.1, if_pos (nI_lt (by omega) (by omega)), up_ne (show (0 : Nat) ≠ 1 by decide), i0, nI_1]
          simp only [ur_ur, ur_at]
          rw [up_ne (show (1 : Nat) ≠ 0 by decide), up_at]
          by_cases cw : rsn P i X = 0
          · rw [if_pos cw]
            obtain ⟨Y, y1, y2⟩ := rg.2 li cw
            rw [RN_on ci cw y1] at rn
            obtain ⟨t, t1, t2⟩ := dp_pl (d := I3 224 4) hA li
            have et : nN (dp P i (I3 224 4)) = t := by rw [t2, nN_nI (by omega)]
            rw [et] at rn y2
            generalize hI4 : ur I3 224 (up (up (I3 224) 1 (rsn P i X)) 0 (nI (n + 1))) = I4
            have o4 : ∀ b, b ≠ 224 → I4 b = I3 b := fun b hb => by rw [← hI4, ur_ne hb]
            have z4 : I4 224 = up (up (I3 224) 1 (rsn P i X)) 0 (nI (n + 1)) := by rw [← hI4, ur_at]
            have hC4 : ∀ I5 : Nat → Nat → Int32, (∀ b, b ≠ 224 → I5 b = I3 b) → CR p I5 P D := fun I5 o => CR_fr2 hC3 (fun d hd => o _ (by rcases hp with e | e <;> rw [e] <;> omega))
            have a2 : up (up (I3 224) 1 (rsn P i X)) 0 (nI (n + 1)) 2 = nI i := by rw [up_ne (by decide), up_ne (by decide), i2]
            have fin : ∀ (w : Int32) (I5 : Nat → Nat → Int32), w = dz P i (I3 224 4) → (∀ b, b ≠ 224 → I5 b = I3 b) → (∀ k, k ≠ 4 → I5 224 k = I4 224 k) → I5 224 4 = dd P i (I3 224 4) → WP ((goT fu p w (mkC sw I5 L)).bind fun p12 => self p12.1 (nI (n + 1)) p12.2) (fun h => ∃ I', h = mkC sw I' L ∧ RCo P I I' a) := by
              intro w I5 hw o5 k5 d5
              obtain ⟨I6, u1, u2, u3, u4, u5, u6⟩ := c_goT (sw := sw) (I := I5) (L := L) (fu := fu) (w := w) (md := md) (X := X) hp (hC4 I5 o5) hA li (by rw [k5 2 (by decide), z4, a2]) (by rw [k5 3 (by decide), z4, up_ne (by decide), up_ne (by decide), i3]) (by rw [o5 226 (by decide)]; exact ee) (by rw [o5 226 (by decide)]; exact gx) (by rw [hw]; exact y1) (by omega)
              rw [u1, Option.bind_some]
              have e4 : I6 224 4 = dd P i (I3 224 4) := by rw [u3 4 (by decide) (by decide), d5]
              refine ih (r + 1) _ _ _ (by omega) ⟨I6, rfl, fun b b1 b2 => by rw [u2 b b1 b2, o5 b b1, o3 b b1 b2], Or.inr ⟨r, n + 1, t, _, Y, rfl, rfl, rfl, by omega, t1, by rw [u3 0 (by decide) (by decide), k5 0 (by decide), z4, up_at], ?_, u5, u6, by rw [e4]; exact y2, by rw [e4]; exact rn⟩⟩
              rw [u4, hw, ← t2]
              rfl
            have lk := ((hC4 I4 o4).2.2.2 i li).2.2.2.2.2.2.2
            unfold goV
            rw [c4_r14 hp, Option.bind_some, c5_fI, Option.bind_some, z4, a2, c4_ld14 hp (by omega), Option.bind_some, lk]
            have k4 : I4 224 4 = I3 224 4 := by rw [z4, up_ne (by decide), up_ne (by decide)]
            by_cases c7 : nN (P (333 + i)) < 7
            · rw [if_pos ((s7 hA li).2.mpr c7)]
              exact fin 1 I4 (by unfold dz; rw [if_pos c7]) o4 (fun _ _ => rfl) (by rw [k4]; unfold dd; rw [if_pos c7])
            · rw [if_neg (fun z => c7 ((s7 hA li).2.mp z)), c_draw, Option.bind_some, k4]
              have hz : dz P i (I3 224 4) = yz (I3 224 4) := by unfold dz; rw [if_neg c7]
              have hd : dd P i (I3 224 4) = dr (I3 224 4) := by unfold dd; rw [if_neg c7]
              show WP ((if yz (I3 224 4) = 0 then goT fu p 0 (mkC sw (ur I4 224 (up (I4 224) 4 (dr (I3 224 4)))) L) else goT fu p 1 (mkC sw (ur I4 224 (up (I4 224) 4 (dr (I3 224 4)))) L)).bind fun p12 => self p12.1 (nI (n + 1)) p12.2) _
              have fin2 := fun w (hw : w = yz (I3 224 4)) => fin w (ur I4 224 (up (I4 224) 4 (dr (I3 224 4)))) (by rw [hw, hz]) (fun b hb => by rw [ur_ne hb, o4 b hb]) (fun k hk => by rw [ur_at, up_ne hk]) (by rw [ur_at, up_at, hd])
              rcases yz01 (I3 224 4) with q | q
              · rw [if_pos q]; exact fin2 0 q.symm
              · rw [if_neg (by rw [q]; decide)]; exact fin2 1 q.symm
          · rw [if_neg cw, Option.bind_some]
            rw [RN_bad ci cw] at rn
            refine ih 0 _ _ _ (by omega) ⟨_, rfl, fun b b1 b2 => by rw [ur_ne b1, o3 b b1 b2], Or.inl ⟨rfl, rfl, fun b b1 b2 => by rw [ur_ne b1, o3 b b1 b2], ?_⟩⟩
            rw [← rn]
            exact ⟨by rw [ur_at, up_at], by rw [ur_at, up_ne (by decide), up_at], by rw [ur_at, up_ne (by decide), up_ne (by decide), i2], by rw [ur_at, up_ne (by decide), up_ne (by decide), i3]⟩
  · refine ⟨_, rfl, fun b b1 b2 => by rw [ur_ne b2, ur_ne b1], Or.inr ⟨300, 0, 0, 0, X0, rfl, rfl, rfl, rfl, by omega, ?_, ?_, ?_, ?_, ?_, ?_⟩⟩
    · rw [ur_ne (by decide), ur_at]; rfl
    · rw [ur_ne (by decide), ur_at]; rfl
    · rw [ur_ne (by decide), ur_at]; rfl
    · rw [ur_at]; exact hg
    · rw [ur_ne (by decide), ur_at, up_at]; exact rg0
    · rw [ur_ne (by decide), ur_at, up_at]
end Go
