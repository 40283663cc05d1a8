/-! LOAD: call, test, look -/
section LineM
variable {b : Nat → Nat} {n : Nat} {sw : Bool} {I0 : Nat → Nat → Int32} {L0 : Nat → Nat → Int64} {J0 : Nat → Nat → Int32} {Z : Nat → Int32} {fu p : Nat} {P : Nat → Int32} {I : Nat → Nat → Int32} {L : Nat → Nat → Int64} {J : Nat → Nat → Int32} {K : Nat → Nat → Int64}
theorem both_kn {xa xa' : Int32} {r a a' c : Nat} (ha : xa = nI a) (ha' : xa' = nI a') (h : BC b n sw I0 L0 p I L) (g : BM b n J0 Z p P J K) (hr : ∀ i, i < c → h_ldL (mkC sw I L) r (nI a + nI i) = some (L r (a + i))) (h58 : a' + c ≤ 58) (hN : ∀ i, i < c → WR (L r (a + i)) (K 4 (a' + i))) (hfu : 1000 < fu) :
    (tk b n p ≠ 18 ∧ MX3_known fu 1 r xa (nI c) (mkC sw I L) = some (-1, mkC sw (ur I 1 (up (up (I 1) 1 (fk b n p 2)) 2 (nI p))) L)) ∨
    (tk b n p = 18 ∧ ∃ x, MX9_findIn fu 0 xa' (nI c) (mkM J K) = some x ∧ ((x = -1 ∧ MX3_known fu 1 r xa (nI c) (mkC sw I L) = some (-1, mkC sw (ur I 1 (up (up (I 1) 1 (fk b n p 3)) 2 (nI p))) L)) ∨ (∃ f, f < c ∧ x = nI f ∧ MX3_known fu 1 r xa (nI c) (mkC sw I L) = some (nI f, mkC sw I L)))) := by
  subst ha ha'
  have l := tk_le (b := b) (n := n) (p := p)
  by_cases e : tk b n p = 18
  · simp only [MX3_known, c3_g, c3_r0, c7_fI, Option.bind_some]
    rw [h.2.1.2.2.1, if_pos (show nI (tk b n p) = 18 by rw [e]; rfl)]
    obtain ⟨x, hx, f1, f2⟩ := both_find (fu := fu) (J := J) (K := K) hr h58 (both_word h.2.1 g.1 h.1 (by omega)) hN hfu
    rw [f1, Option.bind_some, c_fail h.2.1, Option.bind_some]
    refine Or.inr ⟨e, x, f2, ?_⟩
    rcases hx with rfl | ⟨f, hf, rfl⟩
    · rw [if_pos rfl]; exact Or.inl ⟨rfl, rfl⟩
    · rw [if_neg (nI_ne_m1 (by omega))]; exact Or.inr ⟨f, hf, rfl, rfl⟩
  · exact Or.inl ⟨e, c_known_no h e⟩
theorem WFK_of {d : Nat} (cx : CTX d P I L K) (h2 : P 2 = nI 0) : WFK P ∧ CRk d I P := by
  have t0 : nT P = 0 := by show nN (P 2) = 0; rw [h2]; rfl
  exact ⟨⟨⟨cx.1.1, cx.1.2, by rw [t0]; exact ⟨h2, by decide⟩⟩, fun k hk => (cx.2.2.1 k hk).1⟩, cx.2.1.1, fun k hk => (cx.2.2.1 k hk).2.1⟩
theorem CTX_tell {d k m s : Nat} {y z : Int32} {P' : Nat → Int32} {I' : Nat → Nat → Int32} (cx : CTX d P I L K) (h2 : P 2 = nI 0) (hk : k < nK P) (hm : m < nM P k) (hs : s < nS P k) (tp : TP P P' k m s y z) (ti : TI d I I' k m s y z) (hc : ∃ a b, a < nS P k ∧ b < nS P k ∧ y = nI a ∧ z = nI b ∧ (pSo P k m ≠ 1 → a = b) ∧ (pSo P k m = 2 → a = s)) : CTX d P' I' L K := by
  obtain ⟨hW, hR⟩ := WFK_of cx h2
  have h4 := hW.1.1.2
  have h6 := (hW.2 k hk).1.2.2
  have h7 := (hW.2 k hk).2.2.1.2
  have lo : ∀ j, j < 39 ∨ 327 ≤ j → P' j = P j := fun j hj => TP_lo (by omega) (by omega) (by omega) tp hj
  have W' := WFK_tell hW hk hm hs tp (Or.inr hc)
  have R' := CRk_tell hW hR hk hm hs tp ti
  have eK : nK P' = nK P := congrArg nN (lo 0 (by omega))
  have eV : nV P' = nV P := congrArg nN (lo 1 (by omega))
  refine ⟨⟨W'.1.1, W'.1.2.1⟩, ⟨R'.1, by rw [ti.1 d (by omega) (by omega) (by omega), lo 1 (by omega)]; exact cx.2.1.2⟩, fun k2 hk2 => ⟨W'.2 k2 hk2, R'.2 k2 hk2, ?_⟩, fun v hv => ?_⟩
  · rw [eK] at hk2
    have eS : nS P' k2 = nS P k2 := congrArg nN (lo (3 + k2) (by omega))
    have eM : nM P' k2 = nM P k2 := congrArg nN (lo (11 + k2) (by omega))
    rw [eS, eM]
    exact (cx.2.2.1 k2 hk2).2.2
  · rw [eV] at hv
    have e : vK P' v = vK P v := congrArg nN (lo (327 + v) (by omega))
    rw [e, eK, lo (327 + v) (by omega), ti.1 (d + 13) (by omega) (by omega) (by omega)]
    exact cx.2.2.2 v hv
theorem BC_TI {d k m s : Nat} {y z : Int32} {I' : Nat → Nat → Int32} (hd : dr' sw = d) (h : BC b n sw I0 L0 p I L) (ti : TI d I I' k m s y z) : BC b n sw I0 L0 p I' L := by
  have d5 := dr_lt (sw := sw)
  obtain ⟨h1, ⟨⟨a1, a2, a3⟩, a4, a5, a6, a7⟩, ⟨h3, h4, h5⟩, h6, h7⟩ := h
  have e : ∀ x, x < d + 6 ∨ d + 8 < x → I' x = I x := fun x hx => ti.1 x (by omega) (by omega) (by omega)
  unfold BC LC tapC
  rw [e 1 (by omega), e 2 (by omega), e 3 (by omega)]
  exact ⟨h1, ⟨⟨a1, a2, a3⟩, a4, a5, a6, a7⟩, ⟨fun x x1 x2 x3 x4 x5 => by rw [e x (by omega), h3 x x1 x2 x3 x4 x5], h4, by rw [e 2 (by omega)]; exact h5⟩, h6, h7⟩
theorem c_can {d k m s : Nat} (hp : isP d) (hk : k < 4) (hm : m < 6) (hs : s < 6) : MX2_canBe (d + 1) (nI k) (nI m) (nI s) (mkC sw I L) = some (if bt (I (d + 6) (6 * k + m)) s then 1 else 0) := by
  simp only [MX2_canBe, c2_g (isP_K hp), c2_r5 (isP_K hp), Option.bind_some, ix_met]
  rw [c2_ld5 (isP_K hp) (by omega), Option.bind_some, b_get (by omega), show d + 1 + 5 = d + 6 by omega]
  cases bt (I (d + 6) (6 * k + m)) s <;> rfl
/-- what comes has been read: it is written down, and the line ends -/
theorem tell_end {d k m s a c : Nat} {Q0 : Nat → Int32} {IQ : Nat → Nat → Int32} (hd : dr' sw = d) (tx : TX b n) (h : BC b n sw I0 L0 p I L) (g : BM b n J0 Z p P J K) (cx : CTX d P I L K) (h2 : P 2 = nI 0) (hk : k < nK P) (hm : m < nM P k) (hs : s < nS P k) (ha : a < nS P k) (hc : c < nS P k) (e1 : pSo P k m ≠ 1 → a = c) (e2 : pSo P k m = 2 → a = s) (hfu : 1000 < fu) {q : Nat} (hq : q ≤ p) (eQ : P 2 = Q0 2) (eI : I d 3 = IQ d 3) (eI2 : I 1 10 = IQ 1 10) :
    BOT b n sw I0 L0 J0 Z (((h_fR 3 (mkC sw I L) 1 3).bind fun x8 => (h_fR 4 (mkC sw I L) x8 0).bind fun x9 => (MX2_allow x9 (nI k) (nI m) (nI s) (nI a) (nI c) (mkC sw I L)).bind fun h10 => some ((1 : Int32), h10)).bind fun p13 => if p13.1 = 0 then some (0, p13.2) else (MX3_takeSign fu 1 19 p13.2).bind fun p16 => if p16.1 = 0 then some (0, p16.2) else some (1, p16.2))
      ((h_fR 9 (mkM J K) 0 2).bind fun x27 => (MX9_cell 39 (nI k) (nI m) (nI s)).bind fun x28 => (h_stI (mkM J K) x27 x28 (nI a)).bind fun h29 => (h_fR 9 h29 0 2).bind fun x30 => (MX9_cell 183 (nI k) (nI m) (nI s)).bind fun x31 => (h_stI h29 x30 x31 (nI c)).bind fun h32 => (MX9_eats fu 0 59 h32).bind fun p33 => (h_z p33.1).bind fun z34 => some (z34, p33.2)) (QL d q Q0 IQ) := by
  have d5 := dr_lt (sw := sw)
  have P4 : isP d := by rw [← hd]; exact dr_P
  have h4 := cx.1.1.2
  have w6 := (cx.2.2.1 k hk).1.1.2.2
  have w7 := (cx.2.2.1 k hk).1.2.2.1.2
  obtain ⟨I1, a1, ti⟩ := c_allow (sw := sw) (I := I) (L := L) (p := d) (k := k) (m := m) (s := s) (y := nI a) (n := nI c) P4 (by omega) (by omega) (by omega) (nI_ne_m1 (by omega))
  simp only [c3_dr, hd, c4_r0 P4, Option.bind_some, a1, n10, if_false, m_r2, MX9_cell, MX9_methodAt]
  rw [show (39 : Int32) = nI 39 from rfl, show (183 : Int32) = nI 183 from rfl, ix_cell, ix_cell, m_st3 (by omega), Option.bind_some, m_r2, Option.bind_some, m_st3 (by omega), Option.bind_some]
  have g1 := BM_wM (k := 183 + 6 * (6 * k + m) + s) (x := nI c) (BM_wM (k := 39 + 6 * (6 * k + m) + s) (x := nI a) g (by omega)) (by omega)
  have tp : TP P (up (up P (39 + 6 * (6 * k + m) + s) (nI a)) (183 + 6 * (6 * k + m) + s) (nI c)) k m s (nI a) (nI c) := ⟨by rw [up_ne (by omega), up_at], by rw [up_at], fun j h1 h2 => by rw [up_ne h2, up_ne h1]⟩
  have cx1 := CTX_tell cx h2 hk hm hs tp ti ⟨a, c, ha, hc, rfl, rfl, e1, e2⟩
  have h1 := BC_TI hd h ti
  rcases both_semi (fu := fu) tx h1 g1 hfu with ⟨I5, L5, J5, K5, e8, e9, fl⟩ | ⟨p', P', I5, L5, J5, K5, e8, e9, h5, g5, pn2, rfl, rfl, f6, f7⟩
  · simp only [e8, e9, Option.bind_some, h_z_0, if_true]
    exact Or.inl ⟨_, _, _, _, rfl, rfl, fl⟩
  · simp only [e8, e9, Option.bind_some, h_z_1, n10, if_false]
    have b1 := (nx_le (b := b) h1.1).2.2 pn2
    refine Or.inr ⟨_, _, _, _, _, _, rfl, rfl, h5, g5, by omega, CTX_fr cx1 (fun x x1 x2 => f6.1 x (by omega)) (by rw [f6.1 d (by omega)]) (fun x x1 x2 => f6.2.1 x (by omega)) (f7.2.1 4 (by decide)), ?_, ?_, ?_⟩
    · rw [up_ne (by omega), up_ne (by omega), eQ]
    · rw [f6.1 d (by omega), ti.1 d (by omega) (by omega) (by omega), eI]
    · rw [f6.1 1 (by decide), ti.1 1 (by omega) (by omega) (by omega), eI2]
end LineM
