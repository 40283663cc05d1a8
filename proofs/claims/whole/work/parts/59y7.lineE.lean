/-! LOAD: end -/
section LineE
variable {b : Nat → Nat} {n : Nat} {sw : Bool} {I0 : Nat → Nat → Int32} {L0 : Nat → Nat → Int64} {J0 : Nat → Nat → Int32} {Z : Nat → Int32} {fu : Nat}
theorem c_known_no {p r : Nat} {I : Nat → Nat → Int32} {L : Nat → Nat → Int64} {x y : Int32} (h : BC b n sw I0 L0 p I L) (t : tk b n p ≠ 18) : MX3_known fu 1 r x y (mkC sw I L) = some (-1, mkC sw (ur I 1 (up (up (I 1) 1 (fk b n p 2)) 2 (nI p))) L) := by
  have l := tk_le (b := b) (n := n) (p := p)
  simp only [MX3_known, c3_g, c3_r0, c7_fI, Option.bind_some]
  rw [h.2.1.2.2.1, if_neg (show ¬ nI (tk b n p) = 18 from fun z => t (nI_inj (b := 18) (by omega) (by decide) z)), c_fail h.2.1, Option.bind_some]
theorem m_eats_no {p : Nat} {P : Nat → Int32} {J : Nat → Nat → Int32} {K : Nat → Nat → Int64} (tx : TX b n) (hp : p ≤ n) (g : BM b n J0 Z p P J K) (t : tk b n p ≠ 19) : MX9_eats fu 0 59 (mkM J K) = some (0, mkM (ur J 0 (up (up (J 0) 13 (fk b n p 2)) 14 (nI p))) K) := by
  simp only [MX9_eats, m_g]
  rw [show (59 : Int32) = nI 59 from rfl, m_isSign g.1 tx.2 hp (Or.inl ⟨rfl, rfl⟩), Option.bind_some, if_neg t, if_pos rfl, m_bad g.1, Option.bind_some]
  rfl
theorem b_ends {x : Int32} {f m : Nat} (hf : f < m) (hm : m ≤ 6) (h : ∀ s, m ≤ s → bt x s = false) : ∀ s, m ≤ s → bt (x ||| ((1 : Int32) <<< (nI f &&& 31))) s = false := by
  intro s hs
  rw [b_or, h s hs, Bool.false_or]
  by_cases c : s < 32
  · rw [b_one (by omega) c]; exact decide_eq_false (by omega)
  · exact b_big (by omega)
theorem KP_end {d k f : Nat} {P : Nat → Int32} {I : Nat → Nat → Int32} {L K : Nat → Nat → Int64} (h : KP d k P I L K) (hk : k < 4) (hf : f < nS P k) : KP d k (up P (7 + k) (pE P k ||| ((1 : Int32) <<< (nI f &&& 31)))) (ur I (d + 3) (up (I (d + 3)) k (pE P k ||| ((1 : Int32) <<< (nI f &&& 31))))) L K := by
  obtain ⟨⟨⟨w1, w2, w3⟩, w4, ⟨w5, w6⟩, w7⟩, ⟨c1, c2, c3, c4⟩, n1, n2, n3⟩ := h
  have w4' := b_ends hf w3 w4
  generalize hx : pE P k ||| ((1 : Int32) <<< (nI f &&& 31)) = x at *
  have e : ∀ j, j ≠ 7 + k → up P (7 + k) x j = P j := fun j hj => up_ne hj
  have s3 : nS (up P (7 + k) x) k = nS P k := by show nN (up P (7 + k) x (3 + k)) = _; rw [e _ (by omega)]
  have s11 : nM (up P (7 + k) x) k = nM P k := by show nN (up P (7 + k) x (11 + k)) = _; rw [e _ (by omega)]
  have e7 : pE (up P (7 + k) x) k = x := up_at
  have cell : ∀ m s, pY (up P (7 + k) x) k m s = pY P k m s ∧ pN (up P (7 + k) x) k m s = pN P k m s := fun m s => ⟨e _ (by omega), e _ (by omega)⟩
  have so : ∀ m, pSo (up P (7 + k) x) k m = pSo P k m := fun m => e _ (by omega)
  have i : ∀ y, y ≠ d + 3 → ∀ g, ur I (d + 3) g y = I y := fun y hy g => ur_ne hy
  unfold KP WFk WFm WFt CRm
  rw [s3, s11, e7, e (3 + k) (by omega), e (11 + k) (by omega), i (d + 2) (by omega), i (d + 4) (by omega), i (d + 5) (by omega), i (d + 6) (by omega), i (d + 7) (by omega), i (d + 8) (by omega), ur_at, up_at]
  refine ⟨⟨⟨w1, w2, w3⟩, w4', ⟨w5, w6⟩, fun m hm => ?_⟩, ⟨c1, rfl, c3, fun m hm => ?_⟩, n1, n2, n3⟩
  · obtain ⟨a1, a2⟩ := w7 m hm
    rw [so m]
    refine ⟨a1, fun s hs => ?_⟩
    rw [(cell m s).1, (cell m s).2]
    exact a2 s hs
  · obtain ⟨a1, a2, a3⟩ := c4 m hm
    rw [so m]
    refine ⟨a1, fun s => by rw [a2 s, (cell m s).1], fun s hs => ?_⟩
    rw [(cell m s).1, (cell m s).2]
    exact a3 s hs
theorem QL_trans {d p q : Nat} {P P1 : Nat → Int32} {I I1 : Nat → Nat → Int32} (hp : p ≤ q) (hP : P1 2 = P 2) (h3 : I1 d 3 = I d 3) (h10 : I1 1 10 = I 1 10) {p' : Nat} {P' : Nat → Int32} {I' : Nat → Nat → Int32} {L' : Nat → Nat → Int64} {J' : Nat → Nat → Int32} {K' : Nat → Nat → Int64} (h : QL d q P1 I1 p' P' I' L' J' K') : QL d p P I p' P' I' L' J' K' :=
  ⟨by have := h.1; omega, h.2.1, by rw [h.2.2.1, hP], by rw [h.2.2.2.1, h3], by rw [h.2.2.2.2, h10]⟩
theorem ends_loop {k : Nat} {hh : Hp} (tx : TX b n) (hfu : 1000 < fu) : ∀ r q j P I L J K f1 f2, n - q ≤ r → BC b n sw I0 L0 q I L → BM b n J0 Z q P J K → CTX (dr' sw) P I L K → k < nK P → j ≤ q → (j = 0 ∨ tk b n q = 18) → n - q + 1 < f1 → n - q < f2 →
    BOT b n sw I0 L0 J0 Z (wh2 (MX3_readEnd_B43 fu (fun h10 => (MX3_takeSign fu 1 19 h10).bind fun p12 => (h_z p12.1).bind fun z13 => some (z13, p12.2)) 1 (nI k, hh)) f1 (nI j) (mkC sw I L))
      (wh1 (MX9_readEndLine_B18 fu 0 (nI k) (fun h4 => (MX9_eats fu 0 59 h4).bind fun p6 => (h_z p6.1).bind fun z7 => some (z7, p6.2))) f2 (mkM J K)) (QL (dr' sw) q P I) := by
  have d5 := dr_lt (sw := sw)
  generalize hd : dr' sw = d at *
  have P4 : isP d := by rw [← hd]; exact dr_P
  intro r
  induction r with
  | zero =>
    intro q j P I L J K f1 f2 hr h g cx hk hj ht h1 h2
    obtain ⟨f1, rfl⟩ : ∃ f, f1 = f + 1 := ⟨f1 - 1, by omega⟩
    obtain ⟨f2, rfl⟩ : ∃ f, f2 = f + 1 := ⟨f2 - 1, by omega⟩
    have h4 := cx.1.1.2
    have h6 := (cx.2.2.1 k hk).1.1.2.2
    have t : tk b n q = 22 := tk_end.mpr (by omega)
    have j0 : j = 0 := by omega
    subst j0
    rw [wh2, wh1]
    simp only [MX3_readEnd_B43, MX9_readEndLine_B18, c3_r5, c3_dr, hd, c4_r0 P4, c2_r1 (isP_K P4), jn, Option.bind_some]
    rw [if_neg (by decide), if_pos (show nI 0 = 0 from rfl), c2_ld1 (isP_K P4) (by omega), Option.bind_some, c_known_no h (by omega), Option.bind_some]
    simp only [MX9_readState, MX9_readKnown, m_g, m_r2, Option.bind_some]
    rw [ix_c (show (3 : Int32) = nI 3 from rfl), m_ld3 (by omega), Option.bind_some, m_isName g.1 h.1 hfu, Option.bind_some, if_neg (show ¬ tk b n q = 18 by omega)]
    simp only [m_bad g.1, Option.bind_some, h_z_0, if_true]
    exact Or.inl ⟨_, _, _, _, rfl, rfl, FLT_fail h g⟩
  | succ r ih =>
    intro q j P I L J K f1 f2 hr h g cx hk hj ht h1 h2
    obtain ⟨f1, rfl⟩ : ∃ f, f1 = f + 1 := ⟨f1 - 1, by omega⟩
    obtain ⟨f2, rfl⟩ : ∃ f, f2 = f + 1 := ⟨f2 - 1, by omega⟩
    have cx0 := cx
    obtain ⟨⟨⟨x0, x4⟩, x1, x6⟩, ⟨y0, y1⟩, kp, vp⟩ := cx
    obtain ⟨⟨⟨w1, w2, w3⟩, w4, w5, w7⟩, ⟨c1, c2, c3, c4⟩, n1, n2, n3⟩ := kp k hk
    have qn := h.1
    have q900 := tx.1
    rw [wh2, wh1]
    simp only [MX3_readEnd_B43, MX9_readEndLine_B18, c3_r5, c3_r0, c3_dr, hd, c4_r0 P4, c2_r1 (isP_K P4), c7_fI, jn, Option.bind_some]
    rw [show (900 : Int32) = nI 900 from rfl, if_neg (nI_nlt (by omega) (by omega)), c2_ld1 (isP_K P4) (by omega), Option.bind_some, show d + 1 + 1 = d + 2 by omega, c1, w1, h.2.1.2.2.1]
    have tl := tk_le (b := b) (n := n) (p := q)
    have e19 : ¬ (j ≠ 0 ∧ nI (tk b n q) = 19) := by
      rintro ⟨z1, z2⟩
      rcases ht with z | z
      · exact z1 z
      · rw [z] at z2; exact absurd z2 (by decide)
    simp only [MX9_readState, m_g, m_r2, Option.bind_some]
    rw [ix_c (show (3 : Int32) = nI 3 from rfl), m_ld3 (by omega), Option.bind_some, g.2.1.1 (3 + k) (by omega), w1]
    have body : ∀ x : Option (Int32 × Hp), (if nI j = 0 then x else if nI (tk b n q) = 19 then (MX3_takeSign fu 1 19 (mkC sw I L)).bind fun p12 => (h_z p12.1).bind fun z13 => some (z13, p12.2) else x) = x := by
      intro x
      by_cases z : nI j = 0
      · rw [if_pos z]
      · rw [if_neg z, if_neg (fun z2 => e19 ⟨fun z3 => z (by rw [z3]; rfl), z2⟩)]
    rw [body]
    have kn := both_known' (xa := nI k * 6) (xa' := (4 : Int32) + (6 : Int32) * nI k) (r := 31) (a := 6 * k) (a' := 4 + 6 * k) (c := nS P k) (fu := fu) (by have := ix_met (k := k) (m := 0); rw [show nI 0 = (0 : Int32) from rfl, Int32.add_zero] at this; exact this) (by have := ix_met' (k := k) (m := 0); rw [show nI 0 = (0 : Int32) from rfl, Int32.add_zero] at this; rw [this, Nat.add_zero, ix_c (show (4 : Int32) = nI 4 from rfl)]) tx h g (fun i hi => by rw [nI_add]; exact c3_ld5 (by omega)) (by omega) (fun i hi => n2 i hi) hfu
    rcases kn with ⟨I3, L3, J3, K3, e5, e6, fl⟩ | ⟨f, J3, K3, hf, pn, t2, e5, e6, g3, j16, j3, k3⟩
    · simp only [e5, e6, Option.bind_some, h_z_0, if_true]
      exact Or.inl ⟨_, _, _, _, rfl, rfl, fl⟩
    · simp only [e5, e6, Option.bind_some, h_z_1, n10, nfm (show f < 2 ^ 31 by omega), if_false, c3_dr, hd, c4_r0 P4, c2_r2 (isP_K P4), m_r2, m_fI]
      rw [c2_ld2 (isP_K P4) (by omega), Option.bind_some, c2_st2 (isP_K P4) (by omega), Option.bind_some, c3_r0, Option.bind_some, j16, ix_c (show (7 : Int32) = nI 7 from rfl), m_ld3 (by omega), Option.bind_some, m_st3 (by omega), Option.bind_some, show d + 1 + 2 = d + 3 by omega, c2, g3.2.1.1 (7 + k) (by omega)]
      have h3 := BC_wI (r := d + 3) (g := up (I (d + 3)) k (pE P k ||| ((1 : Int32) <<< (nI f &&& 31)))) h (by rw [hd]; omega)
      obtain ⟨I4, L4, e7, h4, f5⟩ := BC_adv tx h3 hfu
      have g4 := BM_wM (k := 7 + k) (x := pE P k ||| ((1 : Int32) <<< (nI f &&& 31))) g3 (by omega)
      have p1 := (nx_le (b := b) h.1).2.2 pn
      rw [e7, Option.bind_some, m_isName g4.1 h4.1 hfu, Option.bind_some]
      generalize hx : pE P k ||| ((1 : Int32) <<< (nI f &&& 31)) = x at *
      have i4 : ∀ y, y ≠ 2 → y ≠ d + 3 → I4 y = I y := fun y y2 y3 => by rw [f5.1 y y2, ur_ne y3]
      have q0 : nK (up P (7 + k) x) = nK P := by show nN (up P (7 + k) x 0) = _; rw [up_ne (by omega)]
      have q1 : nV (up P (7 + k) x) = nV P := by show nN (up P (7 + k) x 1) = _; rw [up_ne (by omega)]
      have i3 : I4 (d + 3) = up (I (d + 3)) k x := by rw [f5.1 (d + 3) (by omega), ur_at]
      have cx4 : CTX d (up P (7 + k) x) I4 L4 K3 := by
        refine ⟨⟨⟨by rw [q0, up_ne (by omega)]; exact x0, by rw [q0]; exact x4⟩, by rw [q1, up_ne (by omega)]; exact x1, by rw [q1]; exact x6⟩, ⟨by rw [i4 (d + 1) (by omega) (by omega), y0, up_ne (by omega)], by rw [i4 d (by omega) (by omega), y1, up_ne (by omega)]⟩, fun k' hk' => ?_, fun v hv => ?_⟩
        · rw [q0] at hk'
          have hs : ∀ P', (∀ j, j ≠ 7 + k → P' j = P j) → (I4 (d + 3) k' = I (d + 3) k') → P' (7 + k') = P (7 + k') → sameK k' d P P' I I4 L L4 K K3 := by
            intro P' hP hI hE
            refine ⟨fun j hj => ?_, ⟨by rw [i4 (d + 2) (by omega) (by omega)], hI, by rw [i4 (d + 4) (by omega) (by omega)]⟩, fun m hm => ⟨by rw [i4 (d + 5) (by omega) (by omega)], by rw [i4 (d + 6) (by omega) (by omega)], fun s hs => ⟨by rw [i4 (d + 7) (by omega) (by omega)], by rw [i4 (d + 8) (by omega) (by omega)]⟩⟩, by rw [f5.2.1 30 (by decide)], by rw [k3 4 (by decide)], fun s hs => ⟨by rw [f5.2.1 31 (by decide)], by rw [f5.2.1 32 (by decide)], by rw [k3 4 (by decide)], by rw [k3 4 (by decide)]⟩⟩
            by_cases e : j = 7 + k
            · have : k' = k := by omega
              rw [e, ← this]; exact hE
            · exact hP j e
          by_cases ek : k' = k
          · subst ek
            have old := KP_end (kp k' hk) (by omega) hf
            rw [hx] at old
            refine KP_same old ⟨fun j hj => rfl, ⟨by rw [i4 (d + 2) (by omega) (by omega), ur_ne (by omega)], by rw [i3, ur_at], by rw [i4 (d + 4) (by omega) (by omega), ur_ne (by omega)]⟩, fun m hm => ⟨by rw [i4 (d + 5) (by omega) (by omega), ur_ne (by omega)], by rw [i4 (d + 6) (by omega) (by omega), ur_ne (by omega)], fun s hs => ⟨by rw [i4 (d + 7) (by omega) (by omega), ur_ne (by omega)], by rw [i4 (d + 8) (by omega) (by omega), ur_ne (by omega)]⟩⟩, by rw [f5.2.1 30 (by decide)], by rw [k3 4 (by decide)], fun s hs => ⟨by rw [f5.2.1 31 (by decide)], by rw [f5.2.1 32 (by decide)], by rw [k3 4 (by decide)], by rw [k3 4 (by decide)]⟩⟩
          · exact KP_same (kp k' hk') (hs _ (fun j hj => up_ne hj) (by rw [i3, up_ne ek]) (up_ne (by omega)))
        · rw [q1] at hv
          have : vK (up P (7 + k) x) v = vK P v := by show nN (up P (7 + k) x (327 + v)) = _; rw [up_ne (by omega)]
          rw [this, q0, up_ne (by omega), i4 (d + 13) (by omega) (by omega), f5.2.1 33 (by decide), k3 4 (by decide)]
          exact vp v hv
      by_cases t3 : tk b n (nx b n q) = 18
      · rw [if_pos t3, if_neg (by decide), nI_1]
        refine BOT_mono (ih (nx b n q) (j + 1) _ I4 L4 _ K3 f1 f2 (by omega) h4 g4 cx4 (by rw [q0]; exact hk) (by omega) (Or.inr t3) (by omega) (by omega)) (fun p' P' I' L' J' K' _ _ q => QL_trans (by omega) (up_ne (by omega)) (by rw [i4 d (by omega) (by omega)]) (by rw [i4 1 (by decide) (by omega)]) q)
      · rw [if_neg t3, if_pos rfl, nI_1]
        obtain ⟨f1, rfl⟩ : ∃ f, f1 = f + 1 := ⟨f1 - 1, by omega⟩
        rw [wh2]
        simp only [MX3_readEnd_B43, c3_r5, c3_r0, c3_dr, hd, c4_r0 P4, c2_r1 (isP_K P4), c7_fI, jn, Option.bind_some]
        have l4 := tk_le (b := b) (n := n) (p := nx b n q)
        have qn4 := h4.1
        rw [show (900 : Int32) = nI 900 from rfl, if_neg (nI_nlt (by omega) (by omega)), if_neg (show ¬ nI (j + 1) = 0 from fun z => by have := nI_inj (b := 0) (by omega) (by decide) z; omega), h4.2.1.2.2.1]
        by_cases t4 : tk b n (nx b n q) = 19
        · rw [if_pos (show nI (tk b n (nx b n q)) = 19 by rw [t4]; rfl)]
          rcases both_semi (fu := fu) tx h4 g4 hfu with ⟨I5, L5, J5, K5, e8, e9, fl⟩ | ⟨p', P', I5, L5, J5, K5, e8, e9, h5, g5, pn2, rfl, rfl, f6, f7⟩
          · simp only [e8, e9, Option.bind_some, h_z_0]
            exact Or.inl ⟨_, _, _, _, rfl, rfl, fl⟩
          · simp only [e8, e9, Option.bind_some, h_z_1]
            have a1 := (nx_le (b := b) h4.1).2.2 pn2
            refine Or.inr ⟨_, _, _, _, _, _, rfl, rfl, h5, g5, by omega, CTX_fr cx4 (fun x x1 x2 => f6.1 x (by omega)) (by rw [f6.1 d (by omega)]) (fun x x1 x2 => f6.2.1 x (by omega)) (f7.2.1 4 (by decide)), up_ne (by omega), ?_, ?_⟩
            · rw [f6.1 d (by omega), i4 d (by omega) (by omega)]
            · rw [f6.1 1 (by decide), i4 1 (by decide) (by omega)]
        · rw [if_neg (show ¬ nI (tk b n (nx b n q)) = 19 from fun z => t4 (nI_inj (b := 19) (by omega) (by decide) z)), c2_ld1 (isP_K P4) (by omega), Option.bind_some, c_known_no h4 t3, Option.bind_some, m_eats_no tx h4.1 g4 t4, Option.bind_some]
          simp only [h_z_0, Option.bind_some, if_true]
          exact Or.inl ⟨_, _, _, _, rfl, rfl, FLT_fail h4 g4⟩
theorem both_end {p : Nat} {P : Nat → Int32} {I : Nat → Nat → Int32} {L : Nat → Nat → Int64} {J : Nat → Nat → Int32} {K : Nat → Nat → Int64} (tx : TX b n) (h : BC b n sw I0 L0 p I L) (g : BM b n J0 Z p P J K) (cx : CTX (dr' sw) P I L K) (hp : p < n) (hfu : 1000 < fu) :
    BOT b n sw I0 L0 J0 Z (MX3_readEnd fu 1 (mkC sw I L)) (MX9_readEndLine fu 0 (mkM J K)) (QL (dr' sw) p P I) := by
  have d5 := dr_lt (sw := sw)
  have q900 := tx.1
  have P4 : isP (dr' sw) := dr_P
  have x4 := cx.1.1.2
  simp only [MX3_readEnd, MX9_readEndLine, c3_g, c3_r0, m_g, Option.bind_some]
  obtain ⟨I1, L1, e1, h1, f1⟩ := BC_adv tx h hfu
  obtain ⟨J1, K1, e2, g1, f2⟩ := BM_adv tx h.1 g hfu
  have p1 := (nx_le (b := b) h.1).2.2 hp
  have cx1 : CTX (dr' sw) P I1 L1 K1 := CTX_fr cx (fun x x1 x2 => f1.1 x (by omega)) (by rw [f1.1 _ (by omega)]) (fun x x1 x2 => f1.2.1 x (by omega)) (f2.2.1 4 (by decide))
  rw [e1, e2, Option.bind_some, Option.bind_some]
  simp only [c3_r0, c3_r4, c3_dr, c4_r0 P4, c2_fI (isP_K P4), Option.bind_some, MX9_readKind, m_g, m_r2]
  rw [cx1.2.1.1, cx.1.1.1, m_lit (x := 0) (k := 0) rfl (by decide), Option.bind_some, g1.2.1.1 0 (by decide), cx.1.1.1]
  have kn := both_known' (xa := 0) (xa' := 0) (r := 30) (a := 0) (a' := 0) (c := nK P) (fu := fu) rfl rfl tx h1 g1 (fun i hi => by rw [nI_add]; exact c3_ld4 (by omega)) (by omega) (fun i hi => by rw [Nat.zero_add]; exact (cx1.2.2.1 i hi).2.2.1) hfu
  rcases kn with ⟨I3, L3, J3, K3, e5, e6, fl⟩ | ⟨f, J3, K3, hf, pn, t2, e5, e6, g3, j16, j3, k3⟩
  · simp only [e5, e6, Option.bind_some, h_z_0, if_true]
    exact Or.inl ⟨_, _, _, _, rfl, rfl, fl⟩
  · simp only [e5, e6, Option.bind_some, h_z_1, n10, nfm (show f < 2 ^ 31 by omega), if_false, c3_r0, m_fI]
    obtain ⟨I4, L4, e7, h4, f5⟩ := BC_adv tx h1 hfu
    have p2 := (nx_le (b := b) h1.1).2.2 pn
    have cx4 : CTX (dr' sw) P I4 L4 K3 := CTX_fr cx1 (fun x x1 x2 => f5.1 x (by omega)) (by rw [f5.1 _ (by omega)]) (fun x x1 x2 => f5.2.1 x (by omega)) (k3 4 (by decide))
    rw [e7, Option.bind_some, j16]
    simp only [jn]
    have qn4 := h4.1
    exact BOT_mono (ends_loop (hh := mkC sw I1 L1) tx hfu (n - nx b n (nx b n p)) (nx b n (nx b n p)) 0 P I4 L4 J3 K3 fu fu (Nat.le_refl _) h4 g3 cx4 hf (Nat.zero_le _) (Or.inl rfl) (by omega) (by omega)) (fun p' P' I' L' J' K' _ _ q => QL_trans (by omega) rfl (by rw [f5.1 _ (by omega), f1.1 _ (by omega)]) (by rw [f5.1 1 (by decide), f1.1 1 (by decide)]) q)
end LineE
