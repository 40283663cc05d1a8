/-- the class's rows say what s says -/
def SCc (s : Sch) (I : Nat → Nat → Int32) (L : Nat → Nat → Int64) : Prop := I 214 0 = nI s.n ∧ I 214 1 = (if s.mo then 1 else 0) ∧ (∀ j, j < s.n → L 217 j = kC (s.pl j) (s.xs j) ∧ I 218 j = s.fr j) ∧ HT (I 219) s.n (L 217)
section SchC
variable {sw : Bool} {I I' : Nat → Nat → Int32} {L L' : Nat → Nat → Int64} {fu v w p t i c : Nat} {D : Nat → Nat} {X Y P : Nat → Int32} {s : Sch} {y z : Int32}
theorem GS_has (hA : WFA P D) (h : SCc s I L) (g : GS P s) (ht : t ≤ nT P) (gy : GC P Y) : (∃ j, j < s.n ∧ L 217 j = kC t Y) ↔ hasS s t Y := by
  have h40 := hA.1.1.2.2.2
  constructor
  · rintro ⟨j, hj, e⟩
    obtain ⟨g1, g2, -⟩ := g.2.2 j hj
    rw [(h.2.2.1 j hj).1] at e
    obtain ⟨e1, e2⟩ := (kC_inj hA (by omega) (by omega) g2 gy).mp e
    exact ⟨j, hj, e1, e2⟩
  · rintro ⟨j, hj, e1, e2⟩
    obtain ⟨g1, g2, -⟩ := g.2.2 j hj
    refine ⟨j, hj, ?_⟩
    rw [(h.2.2.1 j hj).1]
    exact (kC_inj hA (by omega) (by omega) g2 gy).mpr ⟨e1, e2⟩
/-- what a call of the search changes: count, more, keys, cameFrom, slots, next -/
def frS (I I' : Nat → Nat → Int32) (L L' : Nat → Nat → Int64) : Prop := (∀ b, b ≠ 214 → b ≠ 218 → b ≠ 219 → b ≠ 223 → I' b = I b) ∧ (∀ b, b ≠ 217 → L' b = L b) ∧ ∀ m, m ≠ 0 → m ≠ 1 → I' 214 m = I 214 m
theorem frS_refl : frS I I L L := ⟨fun _ _ _ _ _ => rfl, fun _ _ => rfl, fun _ _ _ => rfl⟩
theorem frS_trans {I2 : Nat → Nat → Int32} {L2 : Nat → Nat → Int64} (a : frS I I' L L') (b : frS I' I2 L' L2) : frS I I2 L L2 :=
  ⟨fun q q1 q2 q3 q4 => by rw [b.1 q q1 q2 q3 q4, a.1 q q1 q2 q3 q4], fun q hq => by rw [b.2.1 q hq, a.2.1 q hq], fun m m0 m1 => by rw [b.2.2 m m0 m1, a.2.2 m m0 m1]⟩
theorem c_addS (hA : WFA P D) (h : SCc s I L) (g : GS P s) (ht : t ≤ nT P) (gy : GC P Y) (hfu : 2048 < fu) : ∃ I' L', MX6_add fu 214 (kC t Y) y (mkC sw I L) = some (mkC sw I' L') ∧ SCc (addS s t Y y) I' L' ∧ frS I I' L L' := by
  obtain ⟨I', L', e, f1, f2, f3, q⟩ := c_add (sw := sw) (fu := fu) (k := kC t Y) (y := y) h.1 g.1 h.2.2.2 hfu
  refine ⟨I', L', e, ?_, fun b b1 b2 b3 _ => f1 b b1 b2 b3, f2, f3⟩
  rw [GS_has hA h g ht gy] at q
  rcases q with ⟨q1, rfl, rfl⟩ | ⟨q1, q2, q3, q4, q5, rfl, q6⟩ | ⟨q1, q2, q3, q4, q5, q6, q7⟩
  · rw [add_has q1]; exact h
  · rw [add_new q1, if_pos q2]
    refine ⟨q3, by rw [q4]; rfl, fun j hj => ?_, ?_⟩
    · rw [q5]; exact h.2.2.1 j hj
    · rw [q6]; exact h.2.2.2
  · rw [add_new q1, if_neg q2]
    refine ⟨q3, by rw [q4]; exact h.2.1, fun j hj => ?_, q7⟩
    rw [q5, q6]
    show up (L 217) s.n (kC t Y) j = kC (up s.pl s.n t j) (up s.xs s.n Y j) ∧ up (I 218) s.n y j = up s.fr s.n y j
    by_cases e : j = s.n
    · rw [e, up_at, up_at, up_at, up_at, up_at]; exact ⟨rfl, rfl⟩
    · rw [up_ne e, up_ne e, up_ne e, up_ne e, up_ne e]; exact h.2.2.1 j (by have : j < s.n + 1 := hj; omega)
theorem isH220 : isH 220 := Or.inr (Or.inr (Or.inl rfl))
theorem isH222 : isH 222 := Or.inr (Or.inr (Or.inr (Or.inl rfl)))
theorem SCc_next {g : Nat → Int32} (h : SCc s I L) : SCc s (ur I 223 g) L := by
  unfold SCc
  rw [ur_ne (by decide), ur_ne (by decide), ur_ne (by decide)]
  exact h
theorem frS_next {g : Nat → Int32} : frS I (ur I 223 g) L L := ⟨fun b _ _ _ b4 => ur_ne b4, fun _ _ => rfl, fun m _ _ => by rw [ur_ne (by decide)]⟩
theorem c_follow (hp : isP p) (hC : CR p I P D) (hA : WFA P D) (h : SCc s I L) (g : GS P s) (hi : i < nT P) (gx : GC P X) (ee : e24 (I 221) X) (r : rsn P i X = 0) (hz : z = 0 ∨ z = 1) (hfu : 2048 < fu) :
    ∃ I' L', MX6_follow fu 214 p (nI c) (nI i) z (mkC sw I L) = some (mkC sw I' L') ∧ SCc (folS P s i X c z) I' L' ∧ frS I I' L L' := by
  have h40 := hA.1.1.2.2.2
  obtain ⟨-, -, -, -, -, -, d7, d8⟩ := hC.2.2.2 i hi
  have main : ∀ w : Int32, w = lkZ P i z → ∃ I' L', ((h_fR 6 (mkC sw I L) 214 14).bind fun x3 => (h_fR 6 (mkC sw I L) 214 13).bind fun x4 => (MX1_copyFrom x3 x4 (mkC sw I L)).bind fun h5 => if w = (-1 : Int32) then some h5 else (h_fR 6 h5 214 14).bind fun x6 => (MX1_pass fu x6 p (nI i) z h5).bind fun p7 => if p7.1 = 0 then some p7.2 else (h_fR 6 p7.2 214 14).bind fun x8 => (MX1_key fu x8 w p7.2).bind fun x9 => (MX6_add fu 214 x9 (nI c) p7.2).bind fun h10 => some h10) = some (mkC sw I' L') ∧ SCc (folS P s i X c z) I' L' ∧ frS I I' L L' := by
    rintro w rfl
    obtain ⟨f, ef, e1⟩ := c_copyFrom (sw := sw) (I := I) (L := L) isH222 isH220
    rw [c6_r14, Option.bind_some, c6_r13, Option.bind_some, ef, Option.bind_some]
    unfold folS
    by_cases cw : lkZ P i z = -1
    · rw [if_pos cw, if_pos cw]
      exact ⟨_, L, rfl, SCc_next h, frS_next⟩
    · rw [if_neg cw, if_neg cw, c6_r14, Option.bind_some]
      have ef2 : e24 f X := e24_trans e1 ee
      have cr2 : CR p (ur I (222 + 1) f) P D := CR_fr2 hC (fun d hd => ur_ne (by rcases hp with e | e <;> rw [e] <;> omega))
      have gf : GC P f := GC_e24 gx ef2
      obtain ⟨⟨r1, _⟩, ep, f2, rfl, q⟩ := c_pass (x := 222) (sw := sw) (I := ur I (222 + 1) f) (L := L) (fu := fu) (z := z) isH222 hp cr2.1 cr2.2.1 cr2.2.2 hA.1 hA.2.1 hA.2.2 hi (by rw [ur_at]; exact CF_GX hA gf) (by omega)
      rw [ur_at] at q
      obtain ⟨Y, y1, y2⟩ := tr_GC hA gx hi r z
      have q3 : r1 = 1 ∧ e24 f2 Y := by
        rcases q with ⟨-, q⟩ | ⟨q0, q⟩
        · rcases tr_e24 (z := z) hA.1 hA.2.1 hA.2.2 hi ef2 with ⟨-, z2⟩ | ⟨X', Y', z2, -, -⟩
          · rw [y1] at z2; cases z2
          · rw [z2] at q; cases q
        · obtain ⟨Y0, w1, w2⟩ := tq_e24 hA.1 hA.2.1 hA.2.2 hi ef2 q
          rw [y1] at w1
          rw [Option.some.inj w1]
          exact ⟨q0, w2⟩
      obtain ⟨rfl, e2⟩ := q3
      have gf2 : GC P f2 := GC_e24 y2 e2
      obtain ⟨t, t1, t2⟩ := lk_pl hA hi cw
      rw [ep, Option.bind_some]
      simp only []
      rw [if_neg (show ¬ (1 : Int32) = 0 by decide), y1]
      simp only [ur_ur]
      rw [c6_r14, Option.bind_some, t2, c_key hA isH222 (by rw [ur_at]; exact gf2) (by omega) (by omega), Option.bind_some, ur_at, (kC_inj hA (by omega) (by omega) gf2 y2).mpr ⟨rfl, e2⟩, nN_nI (by omega)]
      obtain ⟨I', L', a1, a2, a3⟩ := c_addS (sw := sw) (fu := fu) (y := nI c) hA (SCc_next (g := f2) h) g t1 y2 hfu
      rw [show ur I (222 + 1) f2 = ur I 223 f2 from rfl, a1, Option.bind_some]
      exact ⟨I', L', rfl, a2, frS_trans frS_next a3⟩
  simp only [MX6_follow, c6_g, jn]
  rcases hz with rfl | rfl
  · rw [if_pos rfl, c4_r14 hp, Option.bind_some, c4_ld14 hp (by omega), Option.bind_some]
    exact main _ (by rw [d8]; rfl)
  · rw [if_neg (by decide), c4_r13 hp, Option.bind_some, c4_ld13 hp (by omega), Option.bind_some]
    exact main _ (by rw [d7]; rfl)
end SchC
