/-! LOAD: kind -/
/-- a kind N is being told, with s states so far -/
def KLp (d N s : Nat) (P : Nat → Int32) (I : Nat → Nat → Int32) (L K : Nat → Nat → Int64) : Prop := ((P 0 = nI N ∧ N < 4) ∧ (P 1 = nI (nV P) ∧ nV P ≤ 6)) ∧ (I (d + 1) 0 = nI (N + 1) ∧ I d 1 = P 1) ∧ (∀ k, k < N → KP d k P I L K) ∧
  (∀ v, v < nV P → (P (327 + v) = nI (vK P v) ∧ vK P v < N) ∧ I (d + 13) v = P (327 + v) ∧ WR (L 33 v) (K 4 (52 + v))) ∧
  (P (3 + N) = nI s ∧ P (7 + N) = 0 ∧ P (11 + N) = 0 ∧ I (d + 2) N = nI s ∧ I (d + 3) N = 0 ∧ I (d + 4) N = 0) ∧ WR (L 30 N) (K 4 N) ∧ ∀ i, i < s → WR (L 31 (6 * N + i)) (K 4 (4 + 6 * N + i))
section LineK
variable {b : Nat → Nat} {n : Nat} {sw : Bool} {I0 : Nat → Nat → Int32} {L0 : Nat → Nat → Int64} {J0 : Nat → Nat → Int32} {Z : Nat → Int32} {fu : Nat}
theorem c_new_no {p r : Nat} {I : Nat → Nat → Int32} {L : Nat → Nat → Int64} {x y : Int32} (h : BC b n sw I0 L0 p I L) (t : tk b n p ≠ 18) : MX3_isNewName fu 1 r x y (mkC sw I L) = some (0, mkC sw (ur I 1 (up (up (I 1) 1 (fk b n p 2)) 2 (nI p))) L) := by
  have l := tk_le (b := b) (n := n) (p := p)
  simp only [MX3_isNewName, c3_g, c3_r0, c7_fI, Option.bind_some, jn]
  rw [h.2.1.2.2.1, if_neg (show ¬ nI (tk b n p) = 18 from fun z => t (nI_inj (b := 18) (by omega) (by decide) z)), c_fail h.2.1, Option.bind_some]
  rfl
/-- the kind has been told -/
theorem KL_done {d N s : Nat} {P : Nat → Int32} {I : Nat → Nat → Int32} {L K : Nat → Nat → Int64} (h : KLp d N s P I L K) (h1 : 1 ≤ s) (h6 : s ≤ 6) : CTX d (up P 0 (nI (N + 1))) I L K := by
  obtain ⟨⟨⟨x0, x4⟩, x1, x6⟩, ⟨y0, y1⟩, kp, vp, ⟨c1, c2, c3, c4, c5, c6⟩, w1, w2⟩ := h
  have q0 : nK (up P 0 (nI (N + 1))) = N + 1 := by show nN (up P 0 (nI (N + 1)) 0) = _; rw [up_at, nN_nI (by omega)]
  have q1 : nV (up P 0 (nI (N + 1))) = nV P := by show nN (up P 0 (nI (N + 1)) 1) = _; rw [up_ne (by decide)]
  have e : ∀ j, j ≠ 0 → up P 0 (nI (N + 1)) j = P j := fun j hj => up_ne hj
  refine ⟨⟨⟨by rw [q0, up_at], by rw [q0]; omega⟩, by rw [q1, e 1 (by decide)]; exact x1, by rw [q1]; exact x6⟩, ⟨by rw [up_at]; exact y0, by rw [e 1 (by decide)]; exact y1⟩, fun k hk => ?_, fun v hv => ?_⟩
  · rw [q0] at hk
    by_cases c : k = N
    · subst c
      have s3 : nS (up P 0 (nI (k + 1))) k = s := by show nN (up P 0 (nI (k + 1)) (3 + k)) = _; rw [e _ (by omega), c1, nN_nI (by omega)]
      have s11 : nM (up P 0 (nI (k + 1))) k = 0 := by show nN (up P 0 (nI (k + 1)) (11 + k)) = _; rw [e _ (by omega), c3]; rfl
      have e7 : pE (up P 0 (nI (k + 1))) k = 0 := by show up P 0 (nI (k + 1)) (7 + k) = 0; rw [e _ (by omega), c2]
      unfold KP WFk
      rw [s3, s11, e7, e (3 + k) (by omega), e (11 + k) (by omega)]
      exact ⟨⟨⟨c1, h1, h6⟩, fun s _ => b_0 s, ⟨c3, by decide⟩, fun m hm => absurd hm (Nat.not_lt_zero _)⟩, ⟨by rw [c1]; exact c4, c5, by rw [c3]; exact c6, fun m hm => absurd hm (Nat.not_lt_zero _)⟩, w1, w2, fun m hm => absurd hm (Nat.not_lt_zero _)⟩
    · exact KP_same (kp k (by omega)) ⟨fun j hj => e j (by omega), ⟨rfl, rfl, rfl⟩, fun m hm => ⟨rfl, rfl, fun s hs => ⟨rfl, rfl⟩⟩, rfl, rfl, fun s hs => ⟨rfl, rfl, rfl, rfl⟩⟩
  · rw [q1] at hv
    have : vK (up P 0 (nI (N + 1))) v = vK P v := by show nN (up P 0 (nI (N + 1)) (327 + v)) = _; rw [e _ (by omega)]
    rw [this, q0, e _ (by omega)]
    obtain ⟨⟨a1, a2⟩, a3, a4⟩ := vp v hv
    exact ⟨⟨a1, by omega⟩, a3, a4⟩
/-- one more state -/
theorem KL_more {d N s : Nat} {P P' : Nat → Int32} {I I' : Nat → Nat → Int32} {L L' K K' : Nat → Nat → Int64} {w w' : Int64} (h : KLp d N s P I L K) (hs : s < 6) (hw : WR w w') (eP : P' = up P (3 + N) (nI (s + 1))) (eI : I' (d + 2) = up (I (d + 2)) N (nI (s + 1))) (eI2 : ∀ x, d ≤ x → x ≤ d + 13 → x ≠ d + 2 → I' x = I x) (eL : L' 31 = up (L 31) (6 * N + s) w) (eL2 : L' 30 = L 30 ∧ L' 32 = L 32 ∧ L' 33 = L 33) (eK : K' 4 = up (K 4) (4 + 6 * N + s) w') : KLp d N (s + 1) P' I' L' K' := by
  obtain ⟨⟨⟨x0, x4⟩, x1, x6⟩, ⟨y0, y1⟩, kp, vp, ⟨c1, c2, c3, c4, c5, c6⟩, w1, w2⟩ := h
  subst eP
  have q1 : nV (up P (3 + N) (nI (s + 1))) = nV P := by show nN (up P (3 + N) (nI (s + 1)) 1) = _; rw [up_ne (by omega)]
  have e : ∀ j, j ≠ 3 + N → up P (3 + N) (nI (s + 1)) j = P j := fun j hj => up_ne hj
  refine ⟨⟨⟨by rw [e 0 (by omega)]; exact x0, x4⟩, by rw [q1, e 1 (by omega)]; exact x1, by rw [q1]; exact x6⟩, ⟨by rw [eI2 (d + 1) (by omega) (by omega) (by omega)]; exact y0, by rw [eI2 d (by omega) (by omega) (by omega), e 1 (by omega)]; exact y1⟩, fun k hk => ?_, fun v hv => ?_, ⟨by rw [up_at], by rw [e _ (by omega)]; exact c2, by rw [e _ (by omega)]; exact c3, by rw [eI, up_at], by rw [eI2 (d + 3) (by omega) (by omega) (by omega)]; exact c5, by rw [eI2 (d + 4) (by omega) (by omega) (by omega)]; exact c6⟩, ?_, fun i hi => ?_⟩
  · refine KP_same (kp k hk) ⟨fun j hj => e j (by omega), ⟨by rw [eI, up_ne (by omega)], by rw [eI2 (d + 3) (by omega) (by omega) (by omega)], by rw [eI2 (d + 4) (by omega) (by omega) (by omega)]⟩, fun m hm => ⟨by rw [eI2 (d + 5) (by omega) (by omega) (by omega)], by rw [eI2 (d + 6) (by omega) (by omega) (by omega)], fun s hs => ⟨by rw [eI2 (d + 7) (by omega) (by omega) (by omega)], by rw [eI2 (d + 8) (by omega) (by omega) (by omega)]⟩⟩, by rw [eL2.1], by rw [eK, up_ne (by omega)], fun i hi => ⟨by rw [eL, up_ne (by omega)], by rw [eL2.2.1], by rw [eK, up_ne (by omega)], by rw [eK, up_ne (by omega)]⟩⟩
  · rw [q1] at hv
    have : vK (up P (3 + N) (nI (s + 1))) v = vK P v := by show nN (up P (3 + N) (nI (s + 1)) (327 + v)) = _; rw [e _ (by omega)]
    rw [this, e _ (by omega), eI2 (d + 13) (by omega) (by omega) (by omega), eL2.2.2, eK, up_ne (by omega)]
    exact vp v hv
  · rw [eL2.1, eK, up_ne (by omega)]; exact w1
  · rw [eL, eK]
    by_cases c : i = s
    · rw [c, up_at, up_at]; exact hw
    · rw [up_ne (by omega), up_ne (by omega)]; exact w2 i (by omega)
theorem kind_loop {N : Nat} {hh : Hp} (tx : TX b n) (hfu : 1000 < fu) : ∀ r s q P I L J K f1 f2, s + r = 6 → BC b n sw I0 L0 q I L → BM b n J0 Z q P J K → KLp (dr' sw) N s P I L K → (s = 0 ∨ tk b n q = 18) → r + 2 < f1 → r + 1 < f2 →
    BOT b n sw I0 L0 J0 Z (wh2 (MX3_readKind_B75 fu (fun h16 => (MX3_takeSign fu 1 19 h16).bind fun p18 => (h_z p18.1).bind fun z19 => some (z19, p18.2)) 1 (nI N, hh) (dr' sw + 1) (fun h20 => (MX3_fail 1 6 h20).bind fun p22 => (h_z p22.1).bind fun z23 => some (z23, p22.2))) f1 (nI s) (mkC sw I L))
      (wh1 (MX9_readKindLine_B97 fu 0 (fun h31 => (MX9_bad 0 2 h31).bind fun p33 => (h_z p33.1).bind fun z34 => some (z34, p33.2)) (nI N) (fun h23 => (MX9_bad 0 6 h23).bind fun p25 => (h_z p25.1).bind fun z26 => some (z26, p25.2)) (fun h16 => (h_fR 9 h16 0 2).bind fun x18 => (h_ldI h16 x18 0).bind fun x19 => (h_stI h16 x18 0 (x19 + 1)).bind fun h20 => (MX9_eats fu 0 59 h20).bind fun p21 => (h_z p21.1).bind fun z22 => some (z22, p21.2)) (fun h27 => (MX9_bad 0 4 h27).bind fun p29 => (h_z p29.1).bind fun z30 => some (z30, p29.2))) f2 (mkM J K)) (QL (dr' sw) q P I) := by
  have d5 := dr_lt (sw := sw)
  generalize hd : dr' sw = d at *
  have P4 : isP d := by rw [← hd]; exact dr_P
  intro r
  induction r with
  | zero =>
    intro s q P I L J K f1 f2 hr h g kl ht h1 h2
    obtain ⟨f1, rfl⟩ : ∃ f, f1 = f + 1 := ⟨f1 - 1, by omega⟩
    obtain ⟨f2, rfl⟩ : ∃ f, f2 = f + 1 := ⟨f2 - 1, by omega⟩
    have s6 : s = 6 := by omega
    subst s6
    have N4 := kl.1.1.2
    have t : tk b n q = 18 := by rcases ht with z | z; omega; exact z
    rw [wh2, wh1]
    simp only [MX3_readKind_B75, MX9_readKindLine_B97, c3_r5, c3_r0, c7_fI, m_r2, jn, Option.bind_some]
    rw [if_neg (show ¬ (6 : Int32) < nI 6 by decide), if_neg (show ¬ nI 6 = 0 by decide), h.2.1.2.2.1, if_neg (show ¬ nI (tk b n q) = 19 by rw [t]; decide), m_isName g.1 h.1 hfu, Option.bind_some, if_pos t, if_neg (by decide), ix_c (show (3 : Int32) = nI 3 from rfl), m_ld3 (by omega), Option.bind_some, g.2.1.1 _ (by omega), kl.2.2.2.2.1.1]
    have nm := both_new' (xa := nI N * 6) (xa' := (4 : Int32) + (6 : Int32) * nI N) (r := 31) (a := 6 * N) (a' := 4 + 6 * N) (c := 6) (fu := fu) (by have := ix_met (k := N) (m := 0); rw [show nI 0 = (0 : Int32) from rfl, Int32.add_zero] at this; exact this) (by have := ix_met' (k := N) (m := 0); rw [show nI 0 = (0 : Int32) from rfl, Int32.add_zero] at this; rw [this, Nat.add_zero, ix_c (show (4 : Int32) = nI 4 from rfl)]) h g (fun i hi => by rw [nI_add]; exact c3_ld5 (by omega)) (by omega) (fun i hi => kl.2.2.2.2.2.2 i hi) hfu
    rcases nm with ⟨t18, en⟩ | ⟨t18, x, ef, ⟨xn, en⟩ | ⟨xn, en⟩⟩
    · exact absurd t t18
    · simp only [en, ef, if_neg xn, m_bad g.1, Option.bind_some, h_z_0, if_true]
      exact Or.inl ⟨_, _, _, _, rfl, rfl, FLT_fail h g⟩
    · simp only [en, ef, if_pos xn, n10, Option.bind_some, if_false]
      rw [if_neg (show ¬ nI 6 < 6 by decide), if_pos (show nI 6 = 6 from rfl), c_fail h.2.1, m_bad g.1]
      simp only [Option.bind_some, h_z_0]
      exact Or.inl ⟨_, _, _, _, rfl, rfl, FLT_fail h g⟩
  | succ r ih =>
    intro s q P I L J K f1 f2 hr h g kl ht h1 h2
    obtain ⟨f1, rfl⟩ : ∃ f, f1 = f + 1 := ⟨f1 - 1, by omega⟩
    obtain ⟨f2, rfl⟩ : ∃ f, f2 = f + 1 := ⟨f2 - 1, by omega⟩
    have N4 := kl.1.1.2
    have tl := tk_le (b := b) (n := n) (p := q)
    rw [wh2, wh1]
    simp only [MX3_readKind_B75, MX9_readKindLine_B97, c3_r5, c3_r0, c7_fI, m_r2, jn, Option.bind_some]
    have body : ∀ x : Option (Int32 × Hp), (if nI s = 0 then x else if nI (tk b n q) = 19 then (MX3_takeSign fu 1 19 (mkC sw I L)).bind fun p12 => (h_z p12.1).bind fun z13 => some (z13, p12.2) else x) = x := by
      intro x
      by_cases z : nI s = 0
      · rw [if_pos z]
      · rw [if_neg z]
        rcases ht with z2 | z2
        · exact absurd (by rw [z2]; rfl) z
        · rw [if_neg (show ¬ nI (tk b n q) = 19 by rw [z2]; decide)]
    rw [if_neg (show ¬ (6 : Int32) < nI s from nI_nlt (a := 6) (by omega) (by decide)), h.2.1.2.2.1, body, m_isName g.1 h.1 hfu, Option.bind_some, ix_c (show (3 : Int32) = nI 3 from rfl), m_ld3 (by omega), Option.bind_some, g.2.1.1 _ (by omega), kl.2.2.2.2.1.1]
    have nm := both_new' (xa := nI N * 6) (xa' := (4 : Int32) + (6 : Int32) * nI N) (r := 31) (a := 6 * N) (a' := 4 + 6 * N) (c := s) (fu := fu) (by have := ix_met (k := N) (m := 0); rw [show nI 0 = (0 : Int32) from rfl, Int32.add_zero] at this; exact this) (by have := ix_met' (k := N) (m := 0); rw [show nI 0 = (0 : Int32) from rfl, Int32.add_zero] at this; rw [this, Nat.add_zero, ix_c (show (4 : Int32) = nI 4 from rfl)]) h g (fun i hi => by rw [nI_add]; exact c3_ld5 (by omega)) (by omega) (fun i hi => kl.2.2.2.2.2.2 i hi) hfu
    rcases nm with ⟨t18, en⟩ | ⟨t18, x, ef, ⟨xn, en⟩ | ⟨xn, en⟩⟩
    · simp only [en, if_neg t18, m_bad g.1, Option.bind_some, h_z_0, if_true]
      exact Or.inl ⟨_, _, _, _, rfl, rfl, FLT_fail h g⟩
    · simp only [en, ef, if_pos t18, n10, if_neg xn, m_bad g.1, Option.bind_some, h_z_0, if_true, if_false]
      exact Or.inl ⟨_, _, _, _, rfl, rfl, FLT_fail h g⟩
    · simp only [en, ef, if_pos t18, n10, if_pos xn, Option.bind_some, if_false, c3_r5, c3_r0, c7_fL, m_r3, m_fL]
      have w := both_word h.2.1 g.1 h.1 (by omega)
      rw [if_pos (show nI s < 6 from nI_lt (b := 6) (by omega) (by decide)), if_neg (show ¬ nI s = 6 from fun z => by have := nI_inj (b := 6) (by omega) (by decide) z; omega), ix_met, c3_st5 (by omega), Option.bind_some, c2_r1 (isP_K P4), Option.bind_some, c2_st1 (isP_K P4) (by omega), Option.bind_some, c3_r0, Option.bind_some]
      rw [show ((4 : Int32) + (6 : Int32) * nI N) + nI s = nI (4 + 6 * N + s) by have := ix_met' (k := N) (m := 0); rw [show nI 0 = (0 : Int32) from rfl, Int32.add_zero, Nat.add_zero] at this; rw [this, ix_c (show (4 : Int32) = nI 4 from rfl), nI_add], m_st4 (by omega), Option.bind_some, m_r2, Option.bind_some, m_ld3 (by omega), Option.bind_some, m_st3 (by omega), Option.bind_some, g.2.1.1 _ (by omega), kl.2.2.2.2.1.1, nI_1, show d + 1 + 1 = d + 2 by omega]
      have h3 := BC_wI (r := d + 2) (g := up (I (d + 2)) N (nI (s + 1))) (BC_wL (r := 31) (g := up (L 31) (6 * N + s) (L 2 3)) h (by decide)) (by rw [hd]; omega)
      obtain ⟨I4, L4, e7, h4, f5⟩ := BC_adv tx h3 hfu
      have g3 := BM_wM (k := 3 + N) (x := nI (s + 1)) (BM_wK (r := 4) (g := up (K 4) (4 + 6 * N + s) (K 0 15)) g (by decide)) (by omega)
      obtain ⟨J4, K4, e8, g4, f6⟩ := BM_adv tx h.1 g3 hfu
      have pn : q < n := by
        rcases Nat.lt_or_ge q n with z | z
        · exact z
        · have := tk_end (b := b).mpr z; omega
      have p1 := (nx_le (b := b) h.1).2.2 pn
      have kl4 : KLp d N (s + 1) (up P (3 + N) (nI (s + 1))) I4 L4 K4 := KL_more kl (by omega) w rfl (by rw [f5.1 (d + 2) (by omega), ur_at]) (fun x x1 x2 x3 => by rw [f5.1 x (by omega), ur_ne x3]) (by rw [f5.2.1 31 (by decide), ur_at]) ⟨by rw [f5.2.1 30 (by decide), ur_ne (by decide)], by rw [f5.2.1 32 (by decide), ur_ne (by decide)], by rw [f5.2.1 33 (by decide), ur_ne (by decide)]⟩ (by rw [f6.2.1 4 (by decide), ur_at])
      rw [e7, e8, Option.bind_some, Option.bind_some, m_isName g4.1 h4.1 hfu, Option.bind_some]
      have id3 : I4 d 3 = I d 3 := by rw [f5.1 d (by omega), ur_ne (by omega)]
      have i10 : I4 1 10 = I 1 10 := by rw [f5.1 1 (by decide), ur_ne (by omega)]
      by_cases t3 : tk b n (nx b n q) = 18
      · rw [if_pos t3, if_neg (by decide)]
        exact BOT_mono (ih (s + 1) (nx b n q) _ I4 L4 J4 K4 f1 f2 (by omega) h4 g4 kl4 (Or.inr t3) (by omega) (by omega)) (fun p' P' I' L' J' K' _ _ q => QL_trans (by omega) (up_ne (by omega)) id3 i10 q)
      · rw [if_neg t3, if_pos rfl]
        obtain ⟨f1, rfl⟩ : ∃ f, f1 = f + 1 := ⟨f1 - 1, by omega⟩
        rw [wh2]
        simp only [MX3_readKind_B75, c3_r5, c3_r0, c7_fI, m_r2, jn, Option.bind_some]
        have l4 := tk_le (b := b) (n := n) (p := nx b n q)
        have g5 := BM_wM (k := 0) (x := nI (N + 1)) g4 (by decide)
        rw [if_neg (show ¬ (6 : Int32) < nI (s + 1) from nI_nlt (a := 6) (by omega) (by decide)), if_neg (show ¬ nI (s + 1) = 0 from fun z => by have := nI_inj (b := 0) (by omega) (by decide) z; omega), h4.2.1.2.2.1, m_lit (x := 0) (k := 0) rfl (by decide), Option.bind_some, m_slit (x := 0) (k := 0) rfl (by decide), Option.bind_some, g4.2.1.1 0 (by decide), up_ne (show 0 ≠ 3 + N by omega), kl.1.1.1, nI_1 N]
        by_cases t4 : tk b n (nx b n q) = 19
        · rw [if_pos (show nI (tk b n (nx b n q)) = 19 by rw [t4]; rfl)]
          rcases both_semi (fu := fu) tx h4 g5 hfu with ⟨I5, L5, J5, K5, e8, e9, fl⟩ | ⟨p', P', I5, L5, J5, K5, e8, e9, h5, g5, pn2, rfl, rfl, f6', f7⟩
          · simp only [e8, e9, Option.bind_some, h_z_0]
            exact Or.inl ⟨_, _, _, _, rfl, rfl, fl⟩
          · simp only [e8, e9, Option.bind_some, h_z_1]
            have a1 := (nx_le (b := b) h4.1).2.2 pn2
            refine Or.inr ⟨_, _, _, _, _, _, rfl, rfl, h5, g5, by omega, CTX_fr (KL_done kl4 (by omega) (by omega)) (fun x x1 x2 => f6'.1 x (by omega)) (by rw [f6'.1 d (by omega)]) (fun x x1 x2 => f6'.2.1 x (by omega)) (f7.2.1 4 (by decide)), by rw [up_ne (by decide), up_ne (by omega)], ?_, ?_⟩
            · rw [f6'.1 d (by omega), id3]
            · rw [f6'.1 1 (by decide), i10]
        · rw [if_neg (show ¬ nI (tk b n (nx b n q)) = 19 from fun z => t4 (nI_inj (b := 19) (by omega) (by decide) z)), c_new_no h4 t3, Option.bind_some, m_eats_no tx h4.1 g5 t4, Option.bind_some]
          simp only [h_z_0, Option.bind_some, if_true]
          exact Or.inl ⟨_, _, _, _, rfl, rfl, FLT_fail h4 g5⟩
theorem c_addKind {d N : Nat} {I : Nat → Nat → Int32} {L : Nat → Nat → Int64} (hp : isP d) (h : I (d + 1) 0 = nI N) (hN : N < 4) : MX2_addKind (d + 1) (mkC sw I L) = some (nI N, mkC sw (ur (ur (ur (ur I (d + 2) (up (I (d + 2)) N 0)) (d + 3) (up (I (d + 3)) N 0)) (d + 4) (up (I (d + 4)) N 0)) (d + 1) (up (I (d + 1)) 0 (nI (N + 1)))) L) := by
  simp only [MX2_addKind, c2_g (isP_K hp), c2_fI (isP_K hp), c2_r1 (isP_K hp), Option.bind_some]
  rw [h, c2_st1 (isP_K hp) hN, Option.bind_some, c2_r2 (isP_K hp), Option.bind_some, c2_st2 (isP_K hp) hN, Option.bind_some, c2_r3 (isP_K hp), Option.bind_some, c2_st3 (isP_K hp) hN, Option.bind_some, c2_fI (isP_K hp), Option.bind_some, c2_pI (isP_K hp), Option.bind_some]
  rw [ur_ne (show d + 1 ≠ d + 1 + 3 by omega), ur_ne (show d + 1 ≠ d + 1 + 2 by omega), ur_ne (show d + 1 ≠ d + 1 + 1 by omega), h, nI_1, ur_ne (show d + 1 + 3 ≠ d + 1 + 2 by omega), ur_ne (show d + 1 + 3 ≠ d + 1 + 1 by omega), ur_ne (show d + 1 + 2 ≠ d + 1 + 1 by omega)]
theorem both_kind {p : Nat} {P : Nat → Int32} {I : Nat → Nat → Int32} {L : Nat → Nat → Int64} {J : Nat → Nat → Int32} {K : Nat → Nat → Int64} (tx : TX b n) (h : BC b n sw I0 L0 p I L) (g : BM b n J0 Z p P J K) (cx : CTX (dr' sw) P I L K) (hp : p < n) (hfu : 1000 < fu) :
    BOT b n sw I0 L0 J0 Z (MX3_readKind fu 1 (mkC sw I L)) (MX9_readKindLine fu 0 (mkM J K)) (QL (dr' sw) p P I) := by
  have d5 := dr_lt (sw := sw)
  generalize hd : dr' sw = d at *
  have P4 : isP d := by rw [← hd]; exact dr_P
  obtain ⟨⟨⟨x0, x4⟩, x1, x6⟩, ⟨y0, y1⟩, kp, vp⟩ := cx
  have j0 : J 3 0 = nI (nK P) := by rw [g.2.1.1 0 (by decide), x0]
  simp only [MX3_readKind, MX9_readKindLine, c3_g, c3_dr, hd, c4_r0 P4, c2_fI (isP_K P4), m_g, m_r2, Option.bind_some]
  rw [m_lit (x := 0) (k := 0) rfl (by decide), Option.bind_some, j0, y0, x0]
  by_cases c4 : nK P = 4
  · rw [if_neg (show ¬ nI (nK P) < 4 by rw [c4]; decide), if_pos (show nI (nK P) = 4 by rw [c4]; rfl), c_fail h.2.1, m_bad g.1, Option.bind_some, Option.bind_some]
    simp only [h_z_0, Option.bind_some]
    exact Or.inl ⟨_, _, _, _, rfl, rfl, FLT_fail h g⟩
  have v4 : nK P < 4 := by omega
  rw [if_pos (show nI (nK P) < 4 from nI_lt (b := 4) v4 (by decide)), if_neg (show ¬ nI (nK P) = 4 from fun z => c4 (nI_inj (b := 4) (by omega) (by decide) z))]
  simp only [c3_r0, Option.bind_some]
  obtain ⟨I1, L1, e1, h1, f1⟩ := BC_adv tx h hfu
  obtain ⟨J1, K1, e2, g1, f2⟩ := BM_adv tx h.1 g hfu
  have p1 := (nx_le (b := b) h.1).2.2 hp
  rw [e1, e2, Option.bind_some, Option.bind_some]
  simp only [c3_r4, c2_fI (isP_K P4), Option.bind_some]
  have i1 : ∀ x, x ≠ 2 → I1 x = I x := f1.1
  have y0' : I1 (d + 1) 0 = nI (nK P) := by rw [i1 (d + 1) (by omega), y0, x0]
  rw [y0', m_isName g1.1 h1.1 hfu, Option.bind_some]
  have nm := both_new' (xa := 0) (xa' := 0) (r := 30) (a := 0) (a' := 0) (c := nK P) (fu := fu) rfl rfl h1 g1 (fun i hi => by rw [nI_add]; exact c3_ld4 (by omega)) (by omega) (fun i hi => by rw [f1.2.1 30 (by decide), f2.2.1 4 (by decide), Nat.zero_add]; exact (kp i hi).2.2.1) hfu
  rcases nm with ⟨t18, en⟩ | ⟨t18, x, ef, ⟨xn, en⟩ | ⟨xn, en⟩⟩
  · simp only [en, if_neg t18, m_bad g1.1, Option.bind_some, h_z_0, if_true]
    exact Or.inl ⟨_, _, _, _, rfl, rfl, FLT_fail h1 g1⟩
  · simp only [en, if_pos t18, ef, if_neg xn, n10, m_bad g1.1, Option.bind_some, h_z_0, if_true, if_false]
    exact Or.inl ⟨_, _, _, _, rfl, rfl, FLT_fail h1 g1⟩
  · simp only [en, if_pos t18, ef, if_pos xn, n10, Option.bind_some, if_false, c_addKind P4 y0' v4, c3_r0, c3_r4, c7_fL, m_r3, m_fL]
    rw [c3_st4 v4, Option.bind_some, c3_r0, Option.bind_some, ix_0, m_st4 (by omega), Option.bind_some]
    have w := both_word h1.2.1 g1.1 h1.1 (by omega)
    generalize hI2 : ur (ur (ur (ur I1 (d + 2) (up (I1 (d + 2)) (nK P) 0)) (d + 3) (up (I1 (d + 3)) (nK P) 0)) (d + 4) (up (I1 (d + 4)) (nK P) 0)) (d + 1) (up (I1 (d + 1)) 0 (nI (nK P + 1))) = I2
    have h2 : BC b n sw I0 L0 (nx b n p) I2 (ur L1 30 (up (L1 30) (nK P) (L1 2 3))) := by
      rw [← hI2]
      exact BC_wL (BC_wI (BC_wI (BC_wI (BC_wI h1 (by rw [hd]; omega)) (by rw [hd]; omega)) (by rw [hd]; omega)) (by rw [hd]; omega)) (by decide)
    obtain ⟨I3, L3, e3, h3, f3⟩ := BC_adv tx h2 hfu
    obtain ⟨J3, K3, e4, g3, f4⟩ := BM_adv tx h1.1 (BM_wK (r := 4) (g := up (K1 4) (nK P) (K1 0 15)) g1 (by decide)) hfu
    rw [e3, e4, Option.bind_some, Option.bind_some, m_r2, Option.bind_some, ix_c (show (3 : Int32) = nI 3 from rfl), m_st3 (by omega), Option.bind_some, m_r2, Option.bind_some, ix_c (show (7 : Int32) = nI 7 from rfl), m_st3 (by omega), Option.bind_some, m_r2, Option.bind_some, ix_c (show (11 : Int32) = nI 11 from rfl), m_st3 (by omega), Option.bind_some]
    have g6 := BM_wM (k := 11 + nK P) (x := 0) (BM_wM (k := 7 + nK P) (x := 0) (BM_wM (k := 3 + nK P) (x := 0) g3 (by omega)) (by omega)) (by omega)
    have I2o : ∀ x, x ≠ d + 1 → x ≠ d + 2 → x ≠ d + 3 → x ≠ d + 4 → I2 x = I1 x := fun x a1 a2 a3 a4 => by rw [← hI2, ur_ne a1, ur_ne a4, ur_ne a3, ur_ne a2]
    have i3 : ∀ x, x ≠ 2 → x ≠ d + 1 → x ≠ d + 2 → x ≠ d + 3 → x ≠ d + 4 → I3 x = I x := fun x a0 a1 a2 a3 a4 => by rw [f3.1 x a0, I2o x a1 a2 a3 a4, i1 x a0]
    have r1 : I3 (d + 1) = up (I (d + 1)) 0 (nI (nK P + 1)) := by rw [f3.1 _ (by omega), ← hI2, ur_at, i1 _ (by omega)]
    have r2 : I3 (d + 2) = up (I (d + 2)) (nK P) 0 := by rw [f3.1 _ (by omega), ← hI2, ur_ne (by omega), ur_ne (by omega), ur_ne (by omega), ur_at, i1 _ (by omega)]
    have r3 : I3 (d + 3) = up (I (d + 3)) (nK P) 0 := by rw [f3.1 _ (by omega), ← hI2, ur_ne (by omega), ur_ne (by omega), ur_at, i1 _ (by omega)]
    have r4 : I3 (d + 4) = up (I (d + 4)) (nK P) 0 := by rw [f3.1 _ (by omega), ← hI2, ur_ne (by omega), ur_at, i1 _ (by omega)]
    have l3 : ∀ x, x ≠ 2 → x ≠ 30 → L3 x = L x := fun x a0 a1 => by rw [f3.2.1 x a0, ur_ne a1, f1.2.1 x a0]
    have l30 : L3 30 = up (L 30) (nK P) (L1 2 3) := by rw [f3.2.1 30 (by decide), ur_at, f1.2.1 30 (by decide)]
    have k3 : K3 4 = up (K 4) (nK P) (K1 0 15) := by rw [f4.2.1 4 (by decide), ur_at, f2.2.1 4 (by decide)]
    generalize hP' : up (up (up P (3 + nK P) 0) (7 + nK P) 0) (11 + nK P) 0 = P' at *
    have e : ∀ j, j ≠ 3 + nK P → j ≠ 7 + nK P → j ≠ 11 + nK P → P' j = P j := fun j a1 a2 a3 => by rw [← hP', up_ne a3, up_ne a2, up_ne a1]
    have q1 : nV P' = nV P := by show nN (P' 1) = _; rw [e 1 (by omega) (by omega) (by omega)]
    have kl : KLp d (nK P) 0 P' I3 L3 K3 := by
      refine ⟨⟨⟨by rw [e 0 (by omega) (by omega) (by omega)]; exact x0, v4⟩, by rw [q1, e 1 (by omega) (by omega) (by omega)]; exact x1, by rw [q1]; exact x6⟩, ⟨by rw [r1, up_at], by rw [i3 d (by omega) (by omega) (by omega) (by omega) (by omega), e 1 (by omega) (by omega) (by omega)]; exact y1⟩, fun k hk => ?_, fun v hv => ?_, ⟨by rw [← hP', up_ne (by omega), up_ne (by omega), up_at]; rfl, by rw [← hP', up_ne (by omega), up_at], by rw [← hP', up_at], by rw [r2, up_at]; rfl, by rw [r3, up_at], by rw [r4, up_at]⟩, ?_, fun i hi => absurd hi (Nat.not_lt_zero _)⟩
      · refine KP_same (kp k hk) ⟨fun j hj => e j (by omega) (by omega) (by omega), ⟨by rw [r2, up_ne (by omega)], by rw [r3, up_ne (by omega)], by rw [r4, up_ne (by omega)]⟩, fun m hm => ⟨by rw [i3 (d + 5) (by omega) (by omega) (by omega) (by omega) (by omega)], by rw [i3 (d + 6) (by omega) (by omega) (by omega) (by omega) (by omega)], fun s hs => ⟨by rw [i3 (d + 7) (by omega) (by omega) (by omega) (by omega) (by omega)], by rw [i3 (d + 8) (by omega) (by omega) (by omega) (by omega) (by omega)]⟩⟩, by rw [l30, up_ne (by omega)], by rw [k3, up_ne (by omega)], fun s hs => ⟨by rw [l3 31 (by decide) (by decide)], by rw [l3 32 (by decide) (by decide)], by rw [k3, up_ne (by omega)], by rw [k3, up_ne (by omega)]⟩⟩
      · rw [q1] at hv
        have : vK P' v = vK P v := by show nN (P' (327 + v)) = _; rw [e _ (by omega) (by omega) (by omega)]
        rw [this, e _ (by omega) (by omega) (by omega), i3 (d + 13) (by omega) (by omega) (by omega) (by omega) (by omega), l3 33 (by decide) (by decide), k3, up_ne (by omega)]
        exact vp v hv
      · rw [l30, k3, up_at, up_at]; exact w
    simp only [jn]
    have a3 := (nx_le (b := b) h1.1).1
    have := kind_loop (hh := mkC sw I2 L1) (N := nK P) (fu := fu) tx hfu 6 0 _ P' I3 L3 _ K3 fu fu rfl h3 g6 (by rw [hd]; exact kl) (Or.inl rfl) (by omega) (by omega)
    rw [hd] at this
    refine BOT_mono this (fun p' P'' I' L' J' K' _ _ q => QL_trans (by omega) (e 2 (by omega) (by omega) (by omega)) (by rw [i3 d (by omega) (by omega) (by omega) (by omega) (by omega)]) (by rw [i3 1 (by decide) (by omega) (by omega) (by omega) (by omega)]) q)
end LineK
