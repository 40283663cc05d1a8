/-! LOAD: one statement up to its end, or up to its block -/
/-- what adding the statement N changes -/
def AD (d N so deep : Nat) (par blk : Int32) (P : Nat → Int32) (I : Nat → Nat → Int32) (P' : Nat → Int32) (I' : Nat → Nat → Int32) : Prop :=
  (P' 2 = nI (N + 1) ∧ P' (333 + N) = nI so ∧ P' (493 + N) = par ∧ P' (533 + N) = blk ∧ ∀ j, j ≠ 2 → j ≠ 333 + N → j ≠ 373 + N → j ≠ 413 + N → j ≠ 453 + N → j ≠ 493 + N → j ≠ 533 + N → P' j = P j) ∧
  (I' d 3 = nI (N + 1) ∧ I' (d + 14) N = nI so ∧ I' (d + 15) N = P' (373 + N) ∧ I' (d + 16) N = P' (413 + N) ∧ I' (d + 17) N = P' (453 + N) ∧ I' (d + 18) N = nI deep ∧ I' (d + 19) N = par ∧ I' (d + 20) N = nI (N + 1) ∧ I' (d + 21) N = nI (N + 1)) ∧
  (∀ r i, 14 ≤ r → r ≤ 21 → i ≠ N → I' (d + r) i = I (d + r) i) ∧ I' d 1 = I d 1 ∧ ∀ x, d + 1 ≤ x → x ≤ d + 13 → I' x = I x
/-- both fail, or the statement is read up to its end or into its block -/
def RS (b : Nat → Nat) (n : Nat) (sw : Bool) (I0 : Nat → Nat → Int32) (L0 : Nat → Nat → Int64) (J0 : Nat → Nat → Int32) (Z : Nat → Int32) (fu : Nat) (rs : Nat → Int32 → Int32 → Int32 → Hp → Option (Int32 × Hp)) (d N so deep : Nat) (par blk : Int32) (p : Nat) (P : Nat → Int32) (I : Nat → Nat → Int32) (x y : Option (Int32 × Hp)) : Prop :=
  (∃ I' L' J' K', x = some (0, mkC sw I' L') ∧ y = some (0, mkM J' K') ∧ FLT sw I0 L0 J0 I' L' J') ∨
  ∃ p' P' I' L' J' K', x = some (1, mkC sw I' L') ∧ BC b n sw I0 L0 p' I' L' ∧ BM b n J0 Z p' P' J' K' ∧ p < p' ∧ (N < 40 ∧ deep < 5) ∧ AD d N so deep par blk P I P' I' ∧ WFo P' N ∧ CTX d P' I' L' K' ∧
    ((so < 7 ∧ y = some (1, mkM J' K') ∧ I' 1 10 = nI deep ∧ I' 34 = I 34 ∧ I' 35 = I 35) ∨ (7 ≤ so ∧ y = ((rBlk fu rs (nI N) 0 (nI deep) (mkM J' K')).bind fun p30 => rAft fu rs (nI so) (nI N) (nI deep) p30) ∧ I' 1 10 = nI (deep + 1) ∧ I' 34 = up (I 34) deep (nI N) ∧ I' 35 = up (I 35) deep 0))
theorem CTX_P {d : Nat} {P P' : Nat → Int32} {I : Nat → Nat → Int32} {L K : Nat → Nat → Int64} (h : CTX d P I L K) (e : ∀ j, j < 333 → j ≠ 2 → P' j = P j) : CTX d P' I L K := by
  obtain ⟨⟨⟨h1, h2⟩, h3, h4⟩, ⟨h5, h6⟩, h7, h8⟩ := h
  have q0 : nK P' = nK P := congrArg nN (e 0 (by decide) (by decide))
  have q1 : nV P' = nV P := congrArg nN (e 1 (by decide) (by decide))
  refine ⟨⟨⟨by rw [q0, e 0 (by decide) (by decide)]; exact h1, by rw [q0]; exact h2⟩, by rw [q1, e 1 (by decide) (by decide)]; exact h3, by rw [q1]; exact h4⟩, ⟨by rw [e 0 (by decide) (by decide)]; exact h5, by rw [e 1 (by decide) (by decide)]; exact h6⟩, fun k hk => ?_, fun v hv => ?_⟩
  · rw [q0] at hk
    exact KP_same (h7 k hk) ⟨fun j hj => e j (by omega) (by omega), ⟨rfl, rfl, rfl⟩, fun m hm => ⟨rfl, rfl, fun s hs => ⟨rfl, rfl⟩⟩, rfl, rfl, fun s hs => ⟨rfl, rfl, rfl, rfl⟩⟩
  · rw [q1] at hv
    have : vK P' v = vK P v := congrArg nN (e (327 + v) (by omega) (by omega))
    rw [this, q0, e (327 + v) (by omega) (by omega)]
    exact h8 v hv
section Stmt
variable {b : Nat → Nat} {n : Nat} {sw : Bool} {I0 : Nat → Nat → Int32} {L0 : Nat → Nat → Int64} {J0 : Nat → Nat → Int32} {Z : Nat → Int32} {fu p q d N so deep : Nat} {par blk : Int32} {P P' : Nat → Int32} {I I' : Nat → Nat → Int32} {L' : Nat → Nat → Int64} {J' : Nat → Nat → Int32} {K' : Nat → Nat → Int64} {rs : Nat → Int32 → Int32 → Int32 → Hp → Option (Int32 × Hp)}
/-- the class's rows of statements stay -/
theorem AD_fr {I'' : Nat → Nat → Int32} (h : AD d N so deep par blk P I P' I') (e : ∀ x, d ≤ x → x ≤ d + 21 → I'' x = I' x) : AD d N so deep par blk P I P' I'' := by
  obtain ⟨h1, h2, h3, h4, h5⟩ := h
  refine ⟨h1, ?_, fun r i r1 r2 hi => by rw [e (d + r) (by omega) (by omega)]; exact h3 r i r1 r2 hi, by rw [e d (by omega) (by omega)]; exact h4, fun x x1 x2 => by rw [e x (by omega) (by omega)]; exact h5 x x1 x2⟩
  rw [e d (by omega) (by omega), e (d + 14) (by omega) (by omega), e (d + 15) (by omega) (by omega), e (d + 16) (by omega) (by omega), e (d + 17) (by omega) (by omega), e (d + 18) (by omega) (by omega), e (d + 19) (by omega) (by omega), e (d + 20) (by omega) (by omega), e (d + 21) (by omega) (by omega)]
  exact h2
/-- a word of the statement is written by both -/
theorem AD_w {I'' : Nat → Nat → Int32} {r c : Nat} {x : Int32} (hr : (r = 15 ∧ c = 373) ∨ (r = 16 ∧ c = 413) ∨ (r = 17 ∧ c = 453)) (hN : N < 40) (h : AD d N so deep par blk P I P' I') (e1 : I'' (d + r) = up (I' (d + r)) N x) (e2 : ∀ y, d ≤ y → y ≤ d + 21 → y ≠ d + r → I'' y = I' y) : AD d N so deep par blk P I (up P' (c + N) x) I'' := by
  obtain ⟨⟨a1, a2, a3, a4, a5⟩, ⟨b1, b2, b3, b4, b5, b6, b7, b8, b9⟩, h3, h4, h5⟩ := h
  have eP : ∀ j, j ≠ c + N → up P' (c + N) x j = P' j := fun j hj => up_ne hj
  have row : ∀ s, 14 ≤ s → s ≤ 21 → ∀ i, i ≠ N → I'' (d + s) i = I (d + s) i := by
    intro s s1 s2 i hi
    by_cases z : s = r
    · rw [z, e1, up_ne hi, ← z]; exact h3 s i s1 s2 hi
    · rw [e2 (d + s) (by omega) (by omega) (by omega)]; exact h3 s i s1 s2 hi
  have key : ∀ s, (s = 15 ∨ s = 16 ∨ s = 17) → I'' (d + s) N = if s = r then x else I' (d + s) N := by
    intro s hs
    by_cases z : s = r
    · rw [if_pos z, z, e1, up_at]
    · rw [if_neg z, e2 (d + s) (by omega) (by omega) (by omega)]
  refine ⟨⟨by rw [eP 2 (by omega)]; exact a1, by rw [eP _ (by omega)]; exact a2, by rw [eP _ (by omega)]; exact a3, by rw [eP _ (by omega)]; exact a4, fun j j1 j2 j3 j4 j5 j6 j7 => by rw [eP j (by omega)]; exact a5 j j1 j2 j3 j4 j5 j6 j7⟩, ⟨by rw [e2 d (by omega) (by omega) (by omega)]; exact b1, by rw [e2 (d + 14) (by omega) (by omega) (by omega)]; exact b2, ?_, ?_, ?_, by rw [e2 (d + 18) (by omega) (by omega) (by omega)]; exact b6, by rw [e2 (d + 19) (by omega) (by omega) (by omega)]; exact b7, by rw [e2 (d + 20) (by omega) (by omega) (by omega)]; exact b8, by rw [e2 (d + 21) (by omega) (by omega) (by omega)]; exact b9⟩, fun s i s1 s2 hi => row s s1 s2 i hi, by rw [e2 d (by omega) (by omega) (by omega)]; exact h4, fun y y1 y2 => by rw [e2 y (by omega) (by omega) (by omega)]; exact h5 y y1 y2⟩
  · rw [key 15 (by omega)]
    by_cases z : 15 = r
    · rw [if_pos z, show 373 + N = c + N by omega, up_at]
    · rw [if_neg z, eP _ (by omega)]; exact b3
  · rw [key 16 (by omega)]
    by_cases z : 16 = r
    · rw [if_pos z, show 413 + N = c + N by omega, up_at]
    · rw [if_neg z, eP _ (by omega)]; exact b4
  · rw [key 17 (by omega)]
    by_cases z : 17 = r
    · rw [if_pos z, show 453 + N = c + N by omega, up_at]
    · rw [if_neg z, eP _ (by omega)]; exact b5
theorem st_last (hd : dr' sw = d) (tx : TX b n) (h : BC b n sw I0 L0 q I' L') (g : BM b n J0 Z q P' J' K') (hp : p ≤ q) (ad : AD d N so deep par blk P I P' I') (cx : CTX d P' I' L' K') (i10 : I' 1 10 = nI deep) (i34 : I' 34 = I 34) (i35 : I' 35 = I 35) (hN : N < 40) (h5 : deep < 5) (wo : WFo P' N) (hso : so ≤ 10) (hfu : 1000 < fu) :
    RS b n sw I0 L0 J0 Z fu rs d N so deep par blk p P I (cS17 fu (nI so) (nI N) (mkC sw I' L')) (mS28 fu rs (nI so) (nI N) (nI deep) (mkM J' K')) := by
  have d5 := dr_lt (sw := sw)
  unfold cS17 mS28
  rw [m_hasBlock, Option.bind_some]
  by_cases c7 : so < 7
  · rw [if_neg (show ¬ (7 : Int32) ≤ nI so from nI_ge (b := 7) c7 (by decide)), if_pos (show nI so < 7 from nI_lt (b := 7) c7 (by decide)), if_pos rfl]
    rcases both_semi (fu := fu) tx h g hfu with ⟨I5, L5, J5, K5, e8, e9, fl⟩ | ⟨p', P'', I5, L5, J5, K5, e8, e9, h5', g5, pn2, rfl, rfl, f6, f7⟩
    · simp only [e8, e9, Option.bind_some, h_z_0]
      exact Or.inl ⟨_, _, _, _, rfl, rfl, fl⟩
    · simp only [e8, e9, Option.bind_some, h_z_1]
      have a1 := (nx_le (b := b) h.1).2.2 pn2
      refine Or.inr ⟨_, _, _, _, _, _, rfl, h5', g5, by omega, ⟨hN, h5⟩, AD_fr ad (fun x x1 x2 => f6.1 x (by omega)), wo, CTX_fr cx (fun x x1 x2 => f6.1 x (by omega)) (by rw [f6.1 d (by omega)]) (fun x x1 x2 => f6.2.1 x (by omega)) (f7.2.1 4 (by decide)), Or.inl ⟨c7, rfl, by rw [f6.1 1 (by decide)]; exact i10, by rw [f6.1 34 (by decide)]; exact i34, by rw [f6.1 35 (by decide)]; exact i35⟩⟩
  · rw [if_pos (show (7 : Int32) ≤ nI so from nI_le (a := 7) (by omega) (by omega)), if_neg (show ¬ nI so < 7 from nI_nlt (b := 7) (by omega) (by omega)), if_neg (by decide), rB_eq, m_g]
    simp only [c3_r8, c3_fI, Option.bind_some]
    rw [i10, c3_st8 h5, Option.bind_some, c3_r9, Option.bind_some, c3_fI, Option.bind_some, ur_ne (show (1 : Nat) ≠ 34 by decide), i10, c3_st9 h5 (Or.inl rfl), Option.bind_some, c3_fI, Option.bind_some, c3_pI, Option.bind_some]
    rw [ur_ne (show (35 : Nat) ≠ 34 by decide), ur_ne (show (1 : Nat) ≠ 35 by decide), ur_ne (show (1 : Nat) ≠ 34 by decide), i10, nI_1]
    have h1 : BC b n sw I0 L0 q (ur (ur (ur I' 34 (up (I' 34) deep (nI N))) 35 (up (I' 35) deep 0)) 1 (up (I' 1) 10 (nI (deep + 1)))) L' := BC_w1 (BC_wI (BC_wI h (Or.inl rfl)) (Or.inr (Or.inl rfl))) (by rw [up_ne (by decide), ur_ne (by decide), ur_ne (by decide)]) (by rw [up_ne (by decide), ur_ne (by decide), ur_ne (by decide)])
    generalize hI1 : ur (ur (ur I' 34 (up (I' 34) deep (nI N))) 35 (up (I' 35) deep 0)) 1 (up (I' 1) 10 (nI (deep + 1))) = I1 at *
    have iO : ∀ x, x ≠ 1 → x ≠ 34 → x ≠ 35 → I1 x = I' x := fun x x1 x2 x3 => by rw [← hI1, ur_ne x1, ur_ne x3, ur_ne x2]
    have sg := both_sign (c := 123) (t := 20) (fu := fu) tx h1 g (Or.inr (Or.inl ⟨rfl, rfl⟩)) hfu
    rcases sg with ⟨I5, L5, J5, K5, e8, e9, fl⟩ | ⟨p', P'', I5, L5, J5, K5, e8, e9, h5', g5, pn2, rfl, rfl, f6, f7⟩
    · rw [show (20 : Int32) = nI 20 from rfl, show (123 : Int32) = nI 123 from rfl, e8, e9]
      simp only [Option.bind_some, h_z_0, if_true, rAft]
      exact Or.inl ⟨_, _, _, _, rfl, rfl, fl⟩
    · rw [show (20 : Int32) = nI 20 from rfl, show (123 : Int32) = nI 123 from rfl, e8, e9]
      simp only [Option.bind_some, h_z_1, n10, if_false]
      have a1 := (nx_le (b := b) h1.1).2.2 pn2
      refine Or.inr ⟨_, _, _, _, _, _, rfl, h5', g5, by omega, ⟨hN, h5⟩, AD_fr ad (fun x x1 x2 => by rw [f6.1 x (by omega), iO x (by omega) (by omega) (by omega)]), wo, CTX_fr cx (fun x x1 x2 => by rw [f6.1 x (by omega), iO x (by omega) (by omega) (by omega)]) (by rw [f6.1 d (by omega), iO d (by omega) (by omega) (by omega)]) (fun x x1 x2 => f6.2.1 x (by omega)) (f7.2.1 4 (by decide)), Or.inr ⟨by omega, rfl, ?_, ?_, ?_⟩⟩
      · rw [f6.1 1 (by decide), ← hI1, ur_at, up_at]
      · rw [f6.1 34 (by decide), ← hI1, ur_ne (by decide), ur_ne (by decide), ur_at, i34]
      · rw [f6.1 35 (by decide), ← hI1, ur_ne (by decide), ur_at, i35]
end Stmt
