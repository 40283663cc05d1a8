section Args
variable {b : Nat → Nat} {n : Nat} {sw : Bool} {I0 : Nat → Nat → Int32} {L0 : Nat → Nat → Int64} {J0 : Nat → Nat → Int32} {Z : Nat → Int32} {fu p d N : Nat} {P : Nat → Int32} {I : Nat → Nat → Int32} {L : Nat → Nat → Int64} {J : Nat → Nat → Int32} {K : Nat → Nat → Int64}
theorem both_first (hd : dr' sw = d) (tx : TX b n) (h : BC b n sw I0 L0 p I L) (g : BM b n J0 Z p P J K) (cx : CTX d P I L K) (hN : N < 40) (hfu : 1000 < fu) :
    (∃ I' L' J' K', MX3_readFirst fu 1 (nI N) (mkC sw I L) = some (0, mkC sw I' L') ∧ MX9_readVariable fu 0 (mkM J K) = some (0, mkM J' K') ∧ FLT sw I0 L0 J0 I' L' J') ∨
    ∃ v I' L' J' K', v < nV P ∧ p < n ∧ MX3_readFirst fu 1 (nI N) (mkC sw I L) = some (1, mkC sw I' L') ∧ MX9_readVariable fu 0 (mkM J K) = some (1, mkM J' K') ∧ BC b n sw I0 L0 (nx b n p) I' L' ∧ BM b n J0 Z (nx b n p) P J' K' ∧ J' 0 16 = nI v ∧ I' (d + 15) = up (I (d + 15)) N (nI v) ∧ (∀ x, x ≠ 2 → x ≠ d + 15 → I' x = I x) ∧ (∀ x, x ≠ 2 → L' x = L x) ∧ ∀ x, x ≠ 0 → K' x = K x := by
  have d5 := dr_lt (sw := sw)
  have P4 : isP d := by rw [← hd]; exact dr_P
  have v6 := cx.1.2.2
  simp only [MX3_readFirst, MX9_readVariable, c3_g, c3_r7, c3_dr, hd, c4_fI P4, m_g, m_r2, Option.bind_some]
  rw [cx.2.1.2, cx.1.2.1, m_lit (x := 1) (k := 1) rfl (by decide), Option.bind_some, g.2.1.1 1 (by decide), cx.1.2.1]
  rcases both_known' (xa := 0) (xa' := 52) (r := 33) (a := 0) (a' := 52) (c := nV P) (fu := fu) rfl rfl tx h g (fun i hi => by rw [nI_add]; exact c3_ld7 (by omega)) (by omega) (fun i hi => by rw [Nat.zero_add]; exact (cx.2.2.2 i hi).2.2) hfu with ⟨I3, L3, J3, K3, e5, e6, fl⟩ | ⟨f, J3, K3, hf, pn, t2, e5, e6, g3, j16, j3, k3⟩
  · simp only [e5, e6, Option.bind_some, h_z_0, if_true]
    exact Or.inl ⟨_, _, _, _, rfl, rfl, fl⟩
  · simp only [e5, e6, Option.bind_some, h_z_1, nfm (show f < 2 ^ 31 by omega), if_false, c3_dr, hd, c4_r5 P4]
    rw [c4_st5 P4 hN, Option.bind_some, c3_r0, Option.bind_some]
    obtain ⟨I4, L4, e7, h4, f5⟩ := BC_adv tx (BC_wI (r := d + 15) (g := up (I (d + 15)) N (nI f)) h (by rw [hd]; omega)) hfu
    rw [e7, Option.bind_some]
    exact Or.inr ⟨f, I4, L4, J3, K3, hf, pn, rfl, rfl, h4, g3, j16, by rw [f5.1 _ (by omega), ur_at], fun x x2 x15 => by rw [f5.1 x x2, ur_ne x15], f5.2.1, k3⟩
theorem both_second {v : Nat} (hd : dr' sw = d) (tx : TX b n) (h : BC b n sw I0 L0 p I L) (g : BM b n J0 Z p P J K) (cx : CTX d P I L K) (hN : N < 40) (hv : v < nV P) (iv : I (d + 15) N = nI v) (pv : P (373 + N) = nI v) (hfu : 1000 < fu) :
    (∃ I' L' J' K', MX3_readSecond fu 1 (nI N) (mkC sw I L) = some (0, mkC sw I' L') ∧ MX9_readOther fu 0 (nI N) (mkM J K) = some (0, mkM J' K') ∧ FLT sw I0 L0 J0 I' L' J') ∨
    ∃ w I' L' J' K', w < nV P ∧ w ≠ v ∧ P (327 + w) = P (327 + v) ∧ p < n ∧ MX3_readSecond fu 1 (nI N) (mkC sw I L) = some (1, mkC sw I' L') ∧ MX9_readOther fu 0 (nI N) (mkM J K) = some (1, mkM J' K') ∧ BC b n sw I0 L0 (nx b n p) I' L' ∧ BM b n J0 Z (nx b n p) (up P (413 + N) (nI w)) J' K' ∧ I' (d + 16) = up (I (d + 16)) N (nI w) ∧ (∀ x, x ≠ 2 → x ≠ d + 16 → I' x = I x) ∧ (∀ x, x ≠ 2 → L' x = L x) ∧ ∀ x, x ≠ 0 → K' x = K x := by
  have d5 := dr_lt (sw := sw)
  have P4 : isP d := by rw [← hd]; exact dr_P
  have v6 := cx.1.2.2
  simp only [MX3_readSecond, MX9_readOther, c3_g, c3_r7, c3_dr, hd, c4_fI P4, m_g, m_r2, Option.bind_some, jn]
  rw [cx.2.1.2, cx.1.2.1, m_isName g.1 h.1 hfu, Option.bind_some, m_lit (x := 1) (k := 1) rfl (by decide), Option.bind_some, g.2.1.1 1 (by decide), cx.1.2.1]
  rcases both_kn (xa := 0) (xa' := 52) (r := 33) (a := 0) (a' := 52) (c := nV P) (fu := fu) rfl rfl h g (fun i hi => by rw [nI_add]; exact c3_ld7 (by omega)) (by omega) (fun i hi => by rw [Nat.zero_add]; exact (cx.2.2.2 i hi).2.2) hfu with ⟨t18, en⟩ | ⟨t18, x, ef, ⟨xn, en⟩ | ⟨w, hw, xn, en⟩⟩
  · simp only [en, if_neg t18, m_bad g.1, Option.bind_some, h_z_0, if_true]
    exact Or.inl ⟨_, _, _, _, rfl, rfl, FLT_fail h g⟩
  · simp only [en, if_pos t18, ef, if_pos xn, n10, m_bad g.1, Option.bind_some, h_z_0, if_true, if_false]
    exact Or.inl ⟨_, _, _, _, rfl, rfl, FLT_fail h g⟩
  · subst xn
    simp only [en, if_pos t18, ef, n10, nfm (show w < 2 ^ 31 by omega), Option.bind_some, if_false, c3_dr, hd, c4_r5 P4, c4_r2 P4, c4_r6 P4]
    rw [c4_ld5 P4 hN, Option.bind_some, iv, ix_c (show (373 : Int32) = nI 373 from rfl), m_ld3 (by omega), Option.bind_some, g.2.1.1 _ (by omega), pv]
    by_cases cw : w = v
    · rw [if_pos (by rw [cw]), if_pos (by rw [cw]), c_fail h.2.1, m_bad g.1]
      simp only [Option.bind_some, h_z_0]
      exact Or.inl ⟨_, _, _, _, rfl, rfl, FLT_fail h g⟩
    · have nw : ¬ nI w = nI v := fun z => cw (nI_inj (by omega) (by omega) z)
      rw [if_neg nw, if_neg nw, c4_ld2 P4 (by omega), Option.bind_some, c4_ld2 P4 (by omega), Option.bind_some, (cx.2.2.2 w hw).2.1, (cx.2.2.2 v hv).2.1, ix_c (show (327 : Int32) = nI 327 from rfl), m_ld3 (by omega), Option.bind_some, ix_c (show (327 : Int32) = nI 327 from rfl), m_ld3 (by omega), Option.bind_some, g.2.1.1 _ (by omega), g.2.1.1 _ (by omega)]
      by_cases ck : P (327 + w) = P (327 + v)
      · rw [if_pos ck, if_pos ck, c4_st6 P4 hN, Option.bind_some, c3_r0, Option.bind_some, ix_c (show (413 : Int32) = nI 413 from rfl), m_st3 (by omega), Option.bind_some]
        obtain ⟨I4, L4, e7, h4, f5⟩ := BC_adv tx (BC_wI (r := d + 16) (g := up (I (d + 16)) N (nI w)) h (by rw [hd]; omega)) hfu
        obtain ⟨J4, K4, e8, g4, f6⟩ := BM_adv tx h.1 (BM_wM (k := 413 + N) (x := nI w) g (by omega)) hfu
        rw [e7, e8, Option.bind_some, Option.bind_some]
        refine Or.inr ⟨w, I4, L4, J4, K4, hw, cw, ck, ?_, rfl, rfl, h4, g4, by rw [f5.1 _ (by omega), ur_at], fun x x2 x15 => by rw [f5.1 x x2, ur_ne x15], f5.2.1, f6.2.1⟩
        rcases Nat.lt_or_ge p n with z | z
        · exact z
        · have := tk_end (b := b).mpr z; omega
      · rw [if_neg ck, if_neg ck, c_fail h.2.1, m_bad g.1]
        simp only [Option.bind_some, h_z_0]
        exact Or.inl ⟨_, _, _, _, rfl, rfl, FLT_fail h g⟩
theorem both_asked {v : Nat} {z : Int32} (hd : dr' sw = d) (tx : TX b n) (h : BC b n sw I0 L0 p I L) (g : BM b n J0 Z p P J K) (cx : CTX d P I L K) (hN : N < 40) (hv : v < nV P) (iv : I (d + 15) N = nI v) (pv : P (373 + N) = nI v) (hz : z = 0 ∨ z = 1) (hfu : 1000 < fu) :
    (∃ I' L' J' K', MX3_readAsked fu 1 (nI N) z (mkC sw I L) = some (0, mkC sw I' L') ∧ MX9_readMethod fu 0 (nI N) z (mkM J K) = some (0, mkM J' K') ∧ FLT sw I0 L0 J0 I' L' J') ∨
    ∃ m I' L' J' K', m < nM P (vK P v) ∧ (pSo P (vK P v) m = 1 ↔ z = 1) ∧ p < n ∧ MX3_readAsked fu 1 (nI N) z (mkC sw I L) = some (1, mkC sw I' L') ∧ MX9_readMethod fu 0 (nI N) z (mkM J K) = some (1, mkM J' K') ∧ BC b n sw I0 L0 (nx b n p) I' L' ∧ BM b n J0 Z (nx b n p) (up P (453 + N) (nI m)) J' K' ∧ I' (d + 17) = up (I (d + 17)) N (nI m) ∧ (∀ x, x ≠ 2 → x ≠ d + 17 → I' x = I x) ∧ (∀ x, x ≠ 2 → L' x = L x) ∧ ∀ x, x ≠ 0 → K' x = K x := by
  have d5 := dr_lt (sw := sw)
  have P4 : isP d := by rw [← hd]; exact dr_P
  have v6 := cx.1.2.2
  have h4 := cx.1.1.2
  obtain ⟨⟨vk1, vk2⟩, vk3, -⟩ := cx.2.2.2 v hv
  obtain ⟨⟨⟨w1, w2, w3⟩, w4, ⟨w5, w6⟩, w7⟩, ⟨c1, c2, c3, c4⟩, n1, n2, n3⟩ := cx.2.2.1 _ vk2
  generalize hkk : vK P v = k at *
  simp only [MX3_readAsked, MX9_readMethod, c3_g, c3_r6, c3_dr, hd, c4_r2 P4, c4_r5 P4, c4_r0 P4, c2_r3 (isP_K P4), m_g, m_r2, Option.bind_some, jn]
  rw [c4_ld5 P4 hN, Option.bind_some, iv, c4_ld2 P4 (by omega), Option.bind_some, vk3, vk1, c2_ld3 (isP_K P4) (by omega), Option.bind_some, show d + 1 + 3 = d + 4 by omega, c3, w5, m_isName g.1 h.1 hfu, Option.bind_some, ix_c (show (373 : Int32) = nI 373 from rfl), m_ld3 (by omega), Option.bind_some, g.2.1.1 _ (by omega), pv, ix_c (show (327 : Int32) = nI 327 from rfl), m_ld3 (by omega), Option.bind_some, g.2.1.1 _ (by omega), vk1, ix_c (show (11 : Int32) = nI 11 from rfl), m_ld3 (by omega), Option.bind_some, g.2.1.1 _ (by omega), w5]
  rcases both_kn (xa := nI k * 6) (xa' := (28 : Int32) + (6 : Int32) * nI k) (r := 32) (a := 6 * k) (a' := 28 + 6 * k) (c := nM P k) (fu := fu) x6k (x6k' rfl) h g (fun i hi => by rw [nI_add]; exact c3_ld6 (by omega)) (by omega) (fun i hi => n3 i hi) hfu with ⟨t18, en⟩ | ⟨t18, x, ef, ⟨xn, en⟩ | ⟨m, hm, xn, en⟩⟩
  · simp only [en, if_neg t18, m_bad g.1, Option.bind_some, h_z_0, if_true]
    exact Or.inl ⟨_, _, _, _, rfl, rfl, FLT_fail h g⟩
  · simp only [en, if_pos t18, ef, if_pos xn, n10, m_bad g.1, Option.bind_some, h_z_0, if_true, if_false]
    exact Or.inl ⟨_, _, _, _, rfl, rfl, FLT_fail h g⟩
  · subst xn
    simp only [en, if_pos t18, ef, n10, nfm (show m < 2 ^ 31 by omega), Option.bind_some, if_false, c3_dr, hd, c4_r0 P4, c4_r7 P4, MX9_methodAt, ix_met']
    rw [c_sortOf P4 (by omega) (by omega), Option.bind_some, ix_c (show (15 : Int32) = nI 15 from rfl), m_ld3 (by omega), Option.bind_some, g.2.1.1 _ (by omega), (c4 m hm).1, show 15 + (6 * k + m) = 15 + 6 * k + m by omega]
    have fin : ∀ y : Int32, (y = 0 ∨ y = 1) → (y = 1 ↔ pSo P k m = 1) → (if pSo P k m = 1 then (1 : Int32) else 0) = y := by
      intro y y01 hy
      by_cases c : pSo P k m = 1
      · rw [if_pos c]; exact (hy.mpr c).symm
      · rw [if_neg c]
        rcases y01 with q | q
        · exact q.symm
        · exact absurd (hy.mp q) c
    have good : (pSo P k m = 1 ↔ z = 1) → (if pSo P k m = 1 then (if (1 : Int32) = z then (h_stI (mkC sw I L) (d + 17) (nI N) (nI m)).bind fun h17 => (h_fR 3 h17 1 0).bind fun x18 => (MX7_advance fu x18 h17).bind fun h19 => some ((1 : Int32), h19) else none) else (if (0 : Int32) = z then (h_stI (mkC sw I L) (d + 17) (nI N) (nI m)).bind fun h17 => (h_fR 3 h17 1 0).bind fun x18 => (MX7_advance fu x18 h17).bind fun h19 => some ((1 : Int32), h19) else none)) = (h_stI (mkC sw I L) (d + 17) (nI N) (nI m)).bind fun h17 => (h_fR 3 h17 1 0).bind fun x18 => (MX7_advance fu x18 h17).bind fun h19 => some ((1 : Int32), h19) := by
      intro iff
      by_cases c : pSo P k m = 1
      · rw [if_pos c, if_pos (iff.mp c).symm]
      · rw [if_neg c]
        rcases hz with q | q
        · rw [if_pos q.symm]
        · exact absurd (iff.mpr q) c
    by_cases iff : pSo P k m = 1 ↔ z = 1
    · have two : ∀ {α : Type} (A B : α), (if pSo P k m = 1 then (if (1 : Int32) = z then A else B) else (if (0 : Int32) = z then A else B)) = A := by
        intro α A B
        by_cases c : pSo P k m = 1
        · rw [if_pos c, if_pos (iff.mp c).symm]
        · rw [if_neg c]
          rcases hz with q | q
          · rw [if_pos q.symm]
          · exact absurd (iff.mpr q) c
      rw [two, two, c4_st7 P4 hN, Option.bind_some, c3_r0, Option.bind_some, ix_c (show (453 : Int32) = nI 453 from rfl), m_st3 (by omega), Option.bind_some]
      obtain ⟨I4, L4, e7, h4', f5⟩ := BC_adv tx (BC_wI (r := d + 17) (g := up (I (d + 17)) N (nI m)) h (by rw [hd]; omega)) hfu
      obtain ⟨J4, K4, e8, g4, f6⟩ := BM_adv tx h.1 (BM_wM (k := 453 + N) (x := nI m) g (by omega)) hfu
      rw [e7, e8, Option.bind_some, Option.bind_some]
      refine Or.inr ⟨m, I4, L4, J4, K4, hm, iff, ?_, rfl, rfl, h4', g4, by rw [f5.1 _ (by omega), ur_at], fun x x2 x15 => by rw [f5.1 x x2, ur_ne x15], f5.2.1, f6.2.1⟩
      rcases Nat.lt_or_ge p n with z | z
      · exact z
      · have := tk_end (b := b).mpr z; omega
    · have two : ∀ {α : Type} (A B : α), (if pSo P k m = 1 then (if (1 : Int32) = z then A else B) else (if (0 : Int32) = z then A else B)) = B := by
        intro α A B
        by_cases c : pSo P k m = 1
        · rw [if_pos c, if_neg (fun q => iff ⟨fun _ => q.symm, fun _ => c⟩)]
        · rw [if_neg c, if_neg (fun q => iff ⟨fun y => absurd y c, fun y => absurd (by rw [← q] at y; exact y) (by decide)⟩)]
      rw [two, two, c_fail h.2.1, m_bad g.1]
      simp only [Option.bind_some, h_z_0]
      exact Or.inl ⟨_, _, _, _, rfl, rfl, FLT_fail h g⟩
end Args
