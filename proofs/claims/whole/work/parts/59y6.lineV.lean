/-! LOAD: var and end -/
/-- what a line leaves -/
def QL (d p : Nat) (P : Nat → Int32) (I : Nat → Nat → Int32) (p' : Nat) (P' : Nat → Int32) (I' : Nat → Nat → Int32) (L' : Nat → Nat → Int64) (J' : Nat → Nat → Int32) (K' : Nat → Nat → Int64) : Prop := p < p' ∧ CTX d P' I' L' K' ∧ P' 2 = P 2 ∧ I' d 3 = I d 3 ∧ I' 1 10 = I 1 10
section LineV
variable {b : Nat → Nat} {n : Nat} {sw : Bool} {I0 : Nat → Nat → Int32} {L0 : Nat → Nat → Int64} {J0 : Nat → Nat → Int32} {Z : Nat → Int32} {p fu : Nat} {P : Nat → Int32} {I I' : Nat → Nat → Int32} {L L' : Nat → Nat → Int64} {J J' : Nat → Nat → Int32} {K K' : Nat → Nat → Int64}
theorem both_new {r a a' c : Nat} (h : BC b n sw I0 L0 p I L) (g : BM b n J0 Z p P J K) (hr : ∀ i, i < c → h_ldL (mkC sw I L) r (nI a + nI i) = some (L r (a + i))) (h58 : a' + c ≤ 58) (hN : ∀ i, i < c → WR (L r (a + i)) (K 4 (a' + i))) (hfu : 1000 < fu) :
    (tk b n p ≠ 18 ∧ MX3_isNewName fu 1 r (nI a) (nI c) (mkC sw I L) = some (0, mkC sw (ur I 1 (up (up (I 1) 1 (fk b n p 2)) 2 (nI p))) L)) ∨
    (tk b n p = 18 ∧ ∃ x, MX9_findIn fu 0 (nI a') (nI c) (mkM J K) = some x ∧ ((x ≠ -1 ∧ MX3_isNewName fu 1 r (nI a) (nI c) (mkC sw I L) = some (0, mkC sw (ur I 1 (up (up (I 1) 1 (fk b n p 4)) 2 (nI p))) L)) ∨ (x = -1 ∧ MX3_isNewName fu 1 r (nI a) (nI c) (mkC sw I L) = some (1, mkC sw I L)))) := by
  have l := tk_le (b := b) (n := n) (p := p)
  simp only [MX3_isNewName, c3_g, c3_r0, c7_fI, Option.bind_some, jn]
  rw [h.2.1.2.2.1]
  by_cases e : tk b n p = 18
  · rw [if_pos (show nI (tk b n p) = 18 by rw [e]; rfl)]
    obtain ⟨x, hx, f1, f2⟩ := both_find (fu := fu) (J := J) (K := K) hr h58 (both_word h.2.1 g.1 h.1 (by omega)) hN hfu
    rw [f1, Option.bind_some, c_fail h.2.1, Option.bind_some]
    refine Or.inr ⟨e, x, f2, ?_⟩
    by_cases c : x = -1
    · rw [if_pos c]; exact Or.inr ⟨c, rfl⟩
    · rw [if_neg c]; exact Or.inl ⟨c, rfl⟩
  · rw [if_neg (show ¬ nI (tk b n p) = 18 from fun z => e (nI_inj (b := 18) (by omega) (by decide) z)), c_fail h.2.1, Option.bind_some]
    exact Or.inl ⟨e, rfl⟩
theorem n10 : ((1 : Int32) = 0) = False := by simp
theorem nfm {f : Nat} (h : f < 2 ^ 31) : (nI f = (-1 : Int32)) = False := eq_false (nI_ne_m1 h)
theorem both_new' {xa xa' : Int32} {r a a' c : Nat} (ha : xa = nI a) (ha' : xa' = nI a') (h : BC b n sw I0 L0 p I L) (g : BM b n J0 Z p P J K) (hr : ∀ i, i < c → h_ldL (mkC sw I L) r (nI a + nI i) = some (L r (a + i))) (h58 : a' + c ≤ 58) (hN : ∀ i, i < c → WR (L r (a + i)) (K 4 (a' + i))) (hfu : 1000 < fu) :
    (tk b n p ≠ 18 ∧ MX3_isNewName fu 1 r xa (nI c) (mkC sw I L) = some (0, mkC sw (ur I 1 (up (up (I 1) 1 (fk b n p 2)) 2 (nI p))) L)) ∨
    (tk b n p = 18 ∧ ∃ x, MX9_findIn fu 0 xa' (nI c) (mkM J K) = some x ∧ ((x ≠ -1 ∧ MX3_isNewName fu 1 r xa (nI c) (mkC sw I L) = some (0, mkC sw (ur I 1 (up (up (I 1) 1 (fk b n p 4)) 2 (nI p))) L)) ∨ (x = -1 ∧ MX3_isNewName fu 1 r xa (nI c) (mkC sw I L) = some (1, mkC sw I L)))) := by
  subst ha ha'
  exact both_new h g hr h58 hN hfu
theorem both_known' {xa xa' : Int32} {r a a' c : Nat} (ha : xa = nI a) (ha' : xa' = nI a') (tx : TX b n) (h : BC b n sw I0 L0 p I L) (g : BM b n J0 Z p P J K) (hr : ∀ i, i < c → h_ldL (mkC sw I L) r (nI a + nI i) = some (L r (a + i))) (h58 : a' + c ≤ 58) (hN : ∀ i, i < c → WR (L r (a + i)) (K 4 (a' + i))) (hfu : 1000 < fu) :
    (∃ I' L' J' K', MX3_known fu 1 r xa (nI c) (mkC sw I L) = some (-1, mkC sw I' L') ∧ MX9_readKnown fu 0 xa' (nI c) (mkM J K) = some (0, mkM J' K') ∧ FLT sw I0 L0 J0 I' L' J') ∨
    ∃ f J' K', f < c ∧ p < n ∧ tk b n p = 18 ∧ MX3_known fu 1 r xa (nI c) (mkC sw I L) = some (nI f, mkC sw I L) ∧ MX9_readKnown fu 0 xa' (nI c) (mkM J K) = some (1, mkM J' K') ∧ BM b n J0 Z (nx b n p) P J' K' ∧ J' 0 16 = nI f ∧ (∀ x, x ≠ 0 → J' x = J x) ∧ ∀ x, x ≠ 0 → K' x = K x := by
  subst ha ha'
  exact both_known tx h g hr h58 hN hfu
/-- the semicolon -/
theorem both_semi (tx : TX b n) (h : BC b n sw I0 L0 p I L) (g : BM b n J0 Z p P J K) (hfu : 1000 < fu) :
    BOT b n sw I0 L0 J0 Z (MX3_takeSign fu 1 19 (mkC sw I L)) (MX9_eats fu 0 59 (mkM J K)) (fun p' P' I' L' J' K' => p < n ∧ p' = nx b n p ∧ P' = P ∧ frT I I' L L' ∧ frY J J' K K') := both_sign (c := 59) (t := 19) tx h g (Or.inl ⟨rfl, rfl⟩) hfu
theorem m_lit {x : Int32} {k : Nat} (hx : x = nI k) (hk : k < 573) : h_ldI (mkM J K) 3 x = some (J 3 k) := by rw [hx]; exact m_ld3 hk
theorem m_slit {x y : Int32} {k : Nat} (hx : x = nI k) (hk : k < 573) : h_stI (mkM J K) 3 x y = some (mkM (ur J 3 (up (J 3) k y)) K) := by rw [hx]; exact m_st3 hk
theorem dr_lt : 5 ≤ dr' sw ∧ (dr' sw = 5 ∨ dr' sw = 228) := by unfold dr'; cases sw <;> simp
theorem both_var (tx : TX b n) (h : BC b n sw I0 L0 p I L) (g : BM b n J0 Z p P J K) (cx : CTX (dr' sw) P I L K) (hp : p < n) (hfu : 1000 < fu) :
    BOT b n sw I0 L0 J0 Z (MX3_readVariable fu 1 (mkC sw I L)) (MX9_readVarLine fu 0 (mkM J K)) (QL (dr' sw) p P I) := by
  have d5 := dr_lt (sw := sw)
  generalize hd : dr' sw = d at *
  have P4 : isP d := by rw [← hd]; exact dr_P
  obtain ⟨⟨⟨x0, x4⟩, x1, x6⟩, ⟨y0, y1⟩, kp, vp⟩ := cx
  have j1 : J 3 1 = nI (nV P) := by rw [g.2.1.1 1 (by decide), x1]
  simp only [MX3_readVariable, MX9_readVarLine, c3_g, c3_dr, hd, c4_fI P4, m_g, m_r2, Option.bind_some]
  rw [m_lit (x := 1) (k := 1) rfl (by decide), Option.bind_some, j1, y1, x1]
  by_cases c6 : nV P = 6
  · rw [if_neg (show ¬ nI (nV P) < 6 by rw [c6]; decide), if_pos (show nI (nV P) = 6 by rw [c6]; rfl), c_fail h.2.1, m_bad g.1, Option.bind_some, Option.bind_some]
    simp only [h_z_0, Option.bind_some]
    exact Or.inl ⟨_, _, _, _, rfl, rfl, FLT_fail h g⟩
  have v6 : nV P < 6 := by omega
  rw [if_pos (show nI (nV P) < 6 from nI_lt (b := 6) v6 (by decide)), if_neg (show ¬ nI (nV P) = 6 from fun z => c6 (nI_inj (b := 6) (by omega) (by decide) z))]
  simp only [c3_r0, Option.bind_some]
  obtain ⟨I1, L1, e1, h1, f1⟩ := BC_adv tx h hfu
  obtain ⟨J1, K1, e2, g1, f2⟩ := BM_adv tx h.1 g hfu
  have p1 := (nx_le (b := b) h.1).2.2 hp
  rw [e1, e2, Option.bind_some, Option.bind_some]
  simp only [c3_r7, c3_dr, hd, c4_fI P4, Option.bind_some]
  have i1 : ∀ x, x ≠ 2 → I1 x = I x := f1.1
  rw [i1 d (by omega), y1, x1, m_isName g1.1 h1.1 hfu, Option.bind_some]
  have nm := both_new' (xa := 0) (xa' := 52) (r := 33) (a := 0) (a' := 52) (c := nV P) (fu := fu) rfl rfl h1 g1 (fun i hi => by rw [nI_add]; exact c3_ld7 (by omega)) (by omega) (fun i hi => by rw [f1.2.1 33 (by decide), f2.2.1 4 (by decide), Nat.zero_add]; exact (vp i hi).2.2) hfu
  rcases nm with ⟨t18, en⟩ | ⟨t18, x, ef, ⟨xn, en⟩ | ⟨xn, en⟩⟩
  · simp only [en, if_neg t18, m_bad g1.1, Option.bind_some, h_z_0, if_true]
    exact Or.inl ⟨_, _, _, _, rfl, rfl, FLT_fail h1 g1⟩
  · simp only [en, if_pos t18, ef, if_neg xn, n10, m_bad g1.1, Option.bind_some, h_z_0, if_true, if_false]
    exact Or.inl ⟨_, _, _, _, rfl, rfl, FLT_fail h1 g1⟩
  · simp only [en, if_pos t18, ef, if_pos xn, n10, Option.bind_some, if_false, c3_r0, c3_r4, c3_r7, c3_dr, hd, c4_fI P4, c7_fL, m_r3, m_fL]
    rw [i1 d (by omega), y1, x1, c3_st7 v6, Option.bind_some, ix_c (show (52 : Int32) = nI 52 from rfl), m_st4 (by omega), Option.bind_some]
    have w := both_word h1.2.1 g1.1 h1.1 (by omega)
    obtain ⟨I2, L2, e3, h2, f3⟩ := BC_adv tx (BC_wL (r := 33) (g := up (L1 33) (nV P) (L1 2 3)) h1 (by decide)) hfu
    obtain ⟨J2, K2, e4, g2, f4⟩ := BM_adv tx h1.1 (BM_wK (r := 4) (g := up (K1 4) (52 + nV P) (K1 0 15)) g1 (by decide)) hfu
    rw [c3_r0, Option.bind_some, e3, e4, Option.bind_some, Option.bind_some]
    simp only [c3_r0, c3_r4, c3_dr, hd, c4_r0 P4, c2_fI (isP_K P4), Option.bind_some, MX9_readKind, m_g, m_r2]
    have i2 : ∀ x, x ≠ 2 → I2 x = I x := fun x hx => by rw [f3.1 x hx, i1 x hx]
    have l30 : ∀ x, x ≠ 2 → x ≠ 33 → L2 x = L x := fun x hx h33 => by rw [f3.2.1 x hx, ur_ne h33, f1.2.1 x hx]
    have l33 : L2 33 = up (L 33) (nV P) (L1 2 3) := by rw [f3.2.1 33 (by decide), ur_at, f1.2.1 33 (by decide)]
    have k4 : K2 4 = up (K 4) (52 + nV P) (K1 0 15) := by rw [f4.2.1 4 (by decide), ur_at, f2.2.1 4 (by decide)]
    rw [i2 (d + 1) (by omega), y0, x0, m_lit (x := 0) (k := 0) rfl (by decide), Option.bind_some, g2.2.1.1 0 (by decide), x0]
    have kn := both_known' (xa := 0) (xa' := 0) (r := 30) (a := 0) (a' := 0) (c := nK P) (fu := fu) rfl rfl tx h2 g2 (fun i hi => by rw [nI_add]; exact c3_ld4 (by omega)) (by omega) (fun i hi => by rw [Nat.zero_add, l30 30 (by decide) (by decide), k4, up_ne (by omega)]; exact (kp i hi).2.2.1) hfu
    rcases kn with ⟨I3, L3, J3, K3, e5, e6, fl⟩ | ⟨f, J3, K3, hf, pn, t2, e5, e6, g3, j16, j3, k3⟩
    · simp only [e5, e6, Option.bind_some, h_z_0, if_true]
      exact Or.inl ⟨_, _, _, _, rfl, rfl, fl⟩
    · simp only [e5, e6, Option.bind_some, h_z_1, n10, nfm (show f < 2 ^ 31 by omega), if_false, c3_r0, c3_dr, hd, c4_r2 P4, m_r2, m_fI]
      rw [c4_st2 P4 v6, Option.bind_some, j16, ix_c (show (327 : Int32) = nI 327 from rfl), m_st3 (by omega), Option.bind_some]
      simp only [c3_r0, c3_dr, hd, c4_fI P4, c4_pI P4, m_r2, Option.bind_some]
      rw [m_lit (x := 1) (k := 1) rfl (by decide), Option.bind_some, m_slit (x := 1) (k := 1) rfl (by decide), Option.bind_some]
      rw [ur_ne (show d ≠ d + 13 by omega), i2 d (by omega), y1, x1, nI_1, ur_at, up_ne (show 1 ≠ 327 + nV P by omega), g3.2.1.1 1 (by decide), x1, nI_1, ur_ur]
      have h3 := BC_wI (r := d) (g := up (I d) 1 (nI (nV P + 1))) (BC_wI (r := d + 13) (g := up (I2 (d + 13)) (nV P) (nI f)) h2 (by rw [hd]; omega)) (by rw [hd]; omega)
      obtain ⟨I4, L4, e7, h4, f5⟩ := BC_adv tx h3 hfu
      have g4 := BM_wM (k := 1) (x := nI (nV P + 1)) (BM_wM (k := 327 + nV P) (x := nI f) g3 (by omega)) (by decide)
      rw [ur_at, ur_ur] at g4
      rw [e7, Option.bind_some]
      rcases both_semi (fu := fu) tx h4 g4 hfu with ⟨I5, L5, J5, K5, e8, e9, fl⟩ | ⟨p', P', I5, L5, J5, K5, e8, e9, h5, g5, pn2, rfl, rfl, f6, f7⟩
      · simp only [e8, e9, Option.bind_some, h_z_0]
        exact Or.inl ⟨_, _, _, _, rfl, rfl, fl⟩
      · simp only [e8, e9, Option.bind_some, h_z_1]
        have i5 : ∀ x, x ≠ 2 → x ≠ d → x ≠ d + 13 → I5 x = I x := fun x hx hxd hx13 => by rw [f6.1 x hx, f5.1 x hx, ur_ne hxd, ur_ne hx13, i2 x hx]
        have k5 : K5 4 = up (K 4) (52 + nV P) (K1 0 15) := by rw [f7.2.1 4 (by decide), k3 4 (by decide), k4]
        have l5 : ∀ x, x ≠ 2 → L5 x = L2 x := fun x hx => by rw [f6.2.1 x hx, f5.2.1 x hx]
        have q1 : nV (up (up P (327 + nV P) (nI f)) 1 (nI (nV P + 1))) = nV P + 1 := by show nN (up (up P (327 + nV P) (nI f)) 1 (nI (nV P + 1)) 1) = nV P + 1; rw [up_at, nN_nI (by omega)]
        have q0 : nK (up (up P (327 + nV P) (nI f)) 1 (nI (nV P + 1))) = nK P := by unfold nK; rw [up_ne (by decide), up_ne (by omega)]
        refine Or.inr ⟨_, _, _, _, _, _, rfl, rfl, h5, g5, ?_, ⟨⟨⟨?_, ?_⟩, ?_, ?_⟩, ⟨?_, ?_⟩, fun k hk => ?_, fun v hv => ?_⟩, ?_, ?_, ?_⟩
        · have a1 := (nx_le (b := b) h4.1).2.2 pn2
          have a2 := (nx_le (b := b) h2.1).1
          have a3 := (nx_le (b := b) h1.1).1
          omega
        · rw [q0, up_ne (by decide), up_ne (by omega), x0]
        · rw [q0]; exact x4
        · rw [q1, up_at]
        · rw [q1]; omega
        · rw [i5 (d + 1) (by omega) (by omega) (by omega), y0, up_ne (by decide), up_ne (by omega)]
        · rw [f6.1 d (by omega), f5.1 d (by omega), ur_at, up_at, up_at]
        · rw [q0] at hk
          refine KP_same (kp k hk) ⟨fun j hj => by rw [up_ne (by omega), up_ne (by omega)], ⟨by rw [i5 (d + 2) (by omega) (by omega) (by omega)], by rw [i5 (d + 3) (by omega) (by omega) (by omega)], by rw [i5 (d + 4) (by omega) (by omega) (by omega)]⟩, fun m hm => ⟨by rw [i5 (d + 5) (by omega) (by omega) (by omega)], by rw [i5 (d + 6) (by omega) (by omega) (by omega)], fun s hs => ⟨by rw [i5 (d + 7) (by omega) (by omega) (by omega)], by rw [i5 (d + 8) (by omega) (by omega) (by omega)]⟩⟩, by rw [l5 30 (by decide), l30 30 (by decide) (by decide)], by rw [k5, up_ne (by omega)], fun s hs => ⟨by rw [l5 31 (by decide), l30 31 (by decide) (by decide)], by rw [l5 32 (by decide), l30 32 (by decide) (by decide)], by rw [k5, up_ne (by omega)], by rw [k5, up_ne (by omega)]⟩⟩
        · rw [q1] at hv
          have i13 : I5 (d + 13) = up (I (d + 13)) (nV P) (nI f) := by rw [f6.1 (d + 13) (by omega), f5.1 (d + 13) (by omega), ur_ne (by omega), ur_at, i2 (d + 13) (by omega)]
          have vq : up (up P (327 + nV P) (nI f)) 1 (nI (nV P + 1)) (327 + v) = up P (327 + nV P) (nI f) (327 + v) := up_ne (by omega)
          have vk : vK (up (up P (327 + nV P) (nI f)) 1 (nI (nV P + 1))) v = nN (up P (327 + nV P) (nI f) (327 + v)) := by unfold vK; rw [vq]
          rw [vk, vq, q0, i13, l5 33 (by decide), l33, k5]
          by_cases c : v = nV P
          · rw [c, up_at, up_at, up_at, up_at, nN_nI (by omega)]
            exact ⟨⟨rfl, hf⟩, rfl, w⟩
          · rw [up_ne (by omega), up_ne (by omega), up_ne (by omega), up_ne (by omega)]
            exact vp v (by omega)
        · rw [up_ne (by decide), up_ne (by omega)]
        · rw [f6.1 d (by omega), f5.1 d (by omega), ur_at, up_ne (by decide)]
        · rw [i5 1 (by decide) (by omega) (by omega)]
end LineV
