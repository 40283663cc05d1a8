/-! LOAD: the whole text -/
section Text
variable {b : Nat → Nat} {n : Nat} {sw : Bool} {I0 : Nat → Nat → Int32} {L0 : Nat → Nat → Int64} {J0 : Nat → Nat → Int32} {Z : Nat → Int32} {fu d : Nat}
theorem BOT_z {x y : Option (Int32 × Hp)} {Q : Nat → (Nat → Int32) → (Nat → Nat → Int32) → (Nat → Nat → Int64) → (Nat → Nat → Int32) → (Nat → Nat → Int64) → Prop} (h : BOT b n sw I0 L0 J0 Z x y Q) : BOT b n sw I0 L0 J0 Z (x.bind fun p => (h_z p.1).bind fun z => some (z, p.2)) (y.bind fun p => (h_z p.1).bind fun z => some (z, p.2)) Q := by
  rcases h with ⟨I', L', J', K', rfl, rfl, f⟩ | ⟨p', P', I', L', J', K', rfl, rfl, q⟩
  · exact Or.inl ⟨I', L', J', K', rfl, rfl, f⟩
  · exact Or.inr ⟨p', P', I', L', J', K', rfl, rfl, q⟩
theorem both_line {p : Nat} {P : Nat → Int32} {I : Nat → Nat → Int32} {L : Nat → Nat → Int64} {J : Nat → Nat → Int32} {K : Nat → Nat → Int64} (tx : TX b n) (h : BC b n sw I0 L0 p I L) (g : BM b n J0 Z p P J K) (cx : CTX (dr' sw) P I L K) (h2 : P 2 = nI 0) (i3 : I (dr' sw) 3 = nI 0) (ht : tk b n p ≤ 5) (hfu : 1000 < fu) :
    BOT b n sw I0 L0 J0 Z (MX3_readPiece fu 1 (mkC sw I L)) (MX9_readLine fu 0 (nI (tk b n p)) (mkM J K)) (QL (dr' sw) p P I) := by
  have P4 : isP (dr' sw) := dr_P
  have hp := (tk_word (b := b) (n := n) (p := p) (by omega) h.1).1
  have b0 := BOT_z (both_kind (fu := fu) tx h g cx hp hfu)
  have b1 := BOT_z (both_end (fu := fu) tx h g cx hp hfu)
  have b2 := fun so (q : so ≤ 2) => BOT_z (both_meth (fu := fu) (so := so) tx h g cx h2 hp q hfu)
  have b5 := BOT_z (both_var (fu := fu) tx h g cx hp hfu)
  simp only [MX3_readPiece, MX9_readLine, m_g, c3_g, c3_r0, c3_fI, c3_dr, c4_fI P4, c7_fI, Option.bind_some, jn]
  rw [h.2.1.2.2.1, i3]
  have cs : tk b n p = 0 ∨ tk b n p = 1 ∨ tk b n p = 2 ∨ tk b n p = 3 ∨ tk b n p = 4 ∨ tk b n p = 5 := by omega
  rw [if_pos (show nI (tk b n p) < 7 from nI_lt (b := 7) (by omega) (by decide)), if_neg (show ¬ nI (tk b n p) = 21 from fun z => by have := nI_inj (b := 21) (by omega) (by decide) z; omega), if_pos (show nI 0 ≤ 0 by decide)]
  rcases cs with e | e | e | e | e | e
  · rw [e, if_pos (show nI 0 = 0 from rfl), if_pos (show nI 0 = 0 from rfl)]
    exact b0
  · rw [e, if_neg (show ¬ nI 1 = 0 by decide), if_pos (show nI 1 = 1 from rfl), if_neg (show ¬ nI 1 = 0 by decide), if_pos (show nI 1 = 1 from rfl)]
    exact b1
  · rw [e, if_neg (show ¬ nI 2 = 0 by decide), if_neg (show ¬ nI 2 = 1 by decide), if_pos (show nI 2 = 2 from rfl), if_neg (show ¬ nI 2 = 0 by decide), if_neg (show ¬ nI 2 = 1 by decide), if_pos (show nI 2 = 2 from rfl)]
    exact b2 0 (by omega)
  · rw [e, if_neg (show ¬ nI 3 = 0 by decide), if_neg (show ¬ nI 3 = 1 by decide), if_neg (show ¬ nI 3 = 2 by decide), if_pos (show nI 3 = 3 from rfl), if_neg (show ¬ nI 3 = 0 by decide), if_neg (show ¬ nI 3 = 1 by decide), if_neg (show ¬ nI 3 = 2 by decide), if_pos (show nI 3 = 3 from rfl)]
    exact b2 1 (by omega)
  · rw [e, if_neg (show ¬ nI 4 = 0 by decide), if_neg (show ¬ nI 4 = 1 by decide), if_neg (show ¬ nI 4 = 2 by decide), if_neg (show ¬ nI 4 = 3 by decide), if_pos (show nI 4 = 4 from rfl), if_neg (show ¬ nI 4 = 0 by decide), if_neg (show ¬ nI 4 = 1 by decide), if_neg (show ¬ nI 4 = 2 by decide), if_neg (show ¬ nI 4 = 3 by decide), if_pos (show nI 4 = 4 from rfl)]
    exact b2 2 (by omega)
  · rw [e, if_neg (show ¬ nI 5 = 0 by decide), if_neg (show ¬ nI 5 = 1 by decide), if_neg (show ¬ nI 5 = 2 by decide), if_neg (show ¬ nI 5 = 3 by decide), if_neg (show ¬ nI 5 = 4 by decide), if_pos (show nI 5 = 5 from rfl), if_neg (show ¬ nI 5 = 0 by decide), if_neg (show ¬ nI 5 = 1 by decide), if_neg (show ¬ nI 5 = 2 by decide), if_neg (show ¬ nI 5 = 3 by decide), if_neg (show ¬ nI 5 = 4 by decide)]
    exact b5
theorem lines_all {j2 : Hp → Option (Int32 × Hp)} (tx : TX b n) (hd : dr' sw = d) (hfu : 1000 < fu) : ∀ r p P I L J K f2, n - p ≤ r → BC b n sw I0 L0 p I L → BM b n J0 Z p P J K → CTX d P I L K → P 2 = nI 0 → I d 3 = nI 0 → I 1 10 = nI 0 → n - p < f2 →
    FA n sw I0 L0 J0 fu p (mkC sw I L) (wh1 (MX9_readText_B0 fu 0 j2) f2 (mkM J K)) ∨
    ∃ m p' P' I' L' J' K', m + p ≤ p' ∧ StepsTo fu m (mkC sw I L) (mkC sw I' L') ∧ wh1 (MX9_readText_B0 fu 0 j2) f2 (mkM J K) = j2 (mkM J' K') ∧ BC b n sw I0 L0 p' I' L' ∧ BM b n J0 Z p' P' J' K' ∧ CTX d P' I' L' K' ∧ P' 2 = nI 0 ∧ I' d 3 = nI 0 ∧ I' 1 10 = nI 0 ∧ 5 < tk b n p' := by
  intro r
  induction r with
  | zero =>
    intro p P I L J K f2 hr h g cx h2 i3 i10 hf
    obtain ⟨f2, rfl⟩ : ∃ f, f2 = f + 1 := ⟨f2 - 1, by omega⟩
    have t : tk b n p = 22 := tk_end.mpr (by have := h.1; omega)
    refine Or.inr ⟨0, p, P, I, L, J, K, by omega, st_refl, ?_, h, g, cx, h2, i3, i10, by omega⟩
    show MX9_readText_B0 fu 0 j2 (wh1 (MX9_readText_B0 fu 0 j2) f2) (mkM J K) = _
    unfold MX9_readText_B0
    rw [m_fI, Option.bind_some, g.1.2.2.2.1, t, if_neg (show ¬ knd 22 = 2 by decide)]
  | succ r ih =>
    intro p P I L J K f2 hr h g cx h2 i3 i10 hf
    obtain ⟨f2, rfl⟩ : ∃ f, f2 = f + 1 := ⟨f2 - 1, by omega⟩
    have st : wh1 (MX9_readText_B0 fu 0 j2) (f2 + 1) (mkM J K) = MX9_readText_B0 fu 0 j2 (wh1 (MX9_readText_B0 fu 0 j2) f2) (mkM J K) := rfl
    rw [st]
    unfold MX9_readText_B0
    rw [m_fI, Option.bind_some, g.1.2.2.2.1]
    have tl := tk_le (b := b) (n := n) (p := p)
    by_cases c5 : tk b n p ≤ 5
    · have hp := (tk_word (b := b) (n := n) (p := p) (by omega) h.1).1
      rw [if_pos (show knd (tk b n p) = 2 by unfold knd; rw [if_pos (by omega)]), m_wordHere g.1 h.1 hfu, Option.bind_some, if_pos (show tk b n p < 18 by omega), show mpW (tk b n p) = tk b n p by unfold mpW; rw [if_pos (by omega)], if_neg (show ¬ nI (tk b n p) < 0 from nI_nlt (b := 0) (by omega) (by omega)), if_neg (show ¬ (5 : Int32) < nI (tk b n p) from nI_nlt (a := 5) (by omega) (by decide))]
      have ae := at_end (deep := 0) h i10 (by omega)
      rw [if_neg (by omega)] at ae
      rcases both_line (fu := fu) tx h g (by rw [hd]; exact cx) h2 (by rw [hd]; exact i3) c5 hfu with ⟨I1, L1, J1, K1, e1, e2, fl⟩ | ⟨p1, P1, I1, L1, J1, K1, e1, e2, h1, g1, ql⟩
      · rw [e2, Option.bind_some, if_pos rfl]
        exact Or.inl ⟨1, I1, L1, J1, K1, by omega, fl_1 ae e1, rfl, fl⟩
      · rw [e2, Option.bind_some, if_neg (show ¬ (1 : Int32) = 0 by decide)]
        rw [hd] at ql
        obtain ⟨q1, q2, q3, q4, q5⟩ := ql
        have s1 := st_1 ae e1
        rcases ih p1 P1 I1 L1 J1 K1 f2 (by omega) h1 g1 q2 (by rw [q3]; exact h2) (by rw [q4]; exact i3) (by rw [q5]; exact i10) (by omega) with ⟨m, I2, L2, J2, K2, a1, a2, a3, a4⟩ | ⟨m, p2, P2, I2, L2, J2, K2, a1, a2, a3⟩
        · exact Or.inl ⟨1 + m, I2, L2, J2, K2, by omega, st_fail s1 a2, a3, a4⟩
        · exact Or.inr ⟨1 + m, p2, P2, I2, L2, J2, K2, by omega, st_trans s1 a2, a3⟩
    · refine Or.inr ⟨0, p, P, I, L, J, K, by omega, st_refl, ?_, h, g, cx, h2, i3, i10, by omega⟩
      by_cases c18 : tk b n p ≤ 18
      · rw [if_pos (show knd (tk b n p) = 2 by unfold knd; rw [if_pos c18]), m_wordHere g.1 h.1 hfu, Option.bind_some]
        by_cases c17 : tk b n p < 18
        · have mp : 5 < mpW (tk b n p) ∧ mpW (tk b n p) < 30 := by unfold mpW; split; omega; split <;> omega
          rw [if_pos c17, if_neg (show ¬ nI (mpW (tk b n p)) < 0 from nI_nlt (b := 0) (by omega) (by omega)), if_pos (show (5 : Int32) < nI (mpW (tk b n p)) from nI_lt (a := 5) mp.1 (by omega))]
        · rw [if_neg c17, if_pos (by decide)]
      · rw [if_neg (show ¬ knd (tk b n p) = 2 by unfold knd; rw [if_neg c18]; split; decide; split <;> decide)]
theorem stmts_all {P0 : Nat → Int32} {I00 : Nat → Nat → Int32} {D0 sp0 cl0 : Nat → Nat} (tx : TX b n) (hd : dr' sw = d) (hfu : 1000 < fu) : ∀ r p P I L J K D sp cl N f f2, n - p ≤ r → BC b n sw I0 L0 p I L → BM b n J0 Z p P J K → CTX d P I L K → I 1 10 = nI 0 → (tk b n p ≤ 5 → 0 < N) → n - p < f2 → WB P sp cl f (-1) 0 0 N → PO d 0 P0 I00 D0 sp0 cl0 N P I D sp cl →
    FA n sw I0 L0 J0 fu p (mkC sw I L) (wh1 (MX9_readText_B36 fu 0) f2 (mkM J K)) ∨
    ∃ m p' P' I' L' J' K' D' sp' cl' N1, m + p ≤ p' ∧ StepsTo fu m (mkC sw I L) (mkC sw I' L') ∧ wh1 (MX9_readText_B36 fu 0) f2 (mkM J K) = some (1, mkM J' K') ∧ BC b n sw I0 L0 p' I' L' ∧ BM b n J0 Z p' P' J' K' ∧ CTX d P' I' L' K' ∧ I' 1 10 = nI 0 ∧ tk b n p' = 22 ∧ PO d 0 P0 I00 D0 sp0 cl0 N1 P' I' D' sp' cl' ∧ ∃ f, WB P' sp' cl' f (-1) 0 0 N1 := by
  intro r
  induction r with
  | zero =>
    intro p P I L J K D sp cl N f f2 hr h g cx i10 h5 hf wb po
    obtain ⟨f2, rfl⟩ : ∃ f, f2 = f + 1 := ⟨f2 - 1, by omega⟩
    have t : tk b n p = 22 := tk_end.mpr (by have := h.1; omega)
    refine Or.inr ⟨0, p, P, I, L, J, K, D, sp, cl, N, by omega, st_refl, ?_, h, g, cx, i10, t, po, f, wb⟩
    show MX9_readText_B36 fu 0 (wh1 (MX9_readText_B36 fu 0) f2) (mkM J K) = _
    unfold MX9_readText_B36
    rw [m_fI, Option.bind_some, g.1.2.2.2.1, t, if_pos (show knd 22 = 0 by decide)]
  | succ r ih =>
    intro p P I L J K D sp cl N f f2 hr h g cx i10 h5 hf wb po
    obtain ⟨f2, rfl⟩ : ∃ f, f2 = f + 1 := ⟨f2 - 1, by omega⟩
    have st : wh1 (MX9_readText_B36 fu 0) (f2 + 1) (mkM J K) = MX9_readText_B36 fu 0 (wh1 (MX9_readText_B36 fu 0) f2) (mkM J K) := rfl
    rw [st]
    unfold MX9_readText_B36
    rw [m_fI, Option.bind_some, g.1.2.2.2.1]
    by_cases t : tk b n p = 22
    · rw [t, if_pos (show knd 22 = 0 by decide)]
      exact Or.inr ⟨0, p, P, I, L, J, K, D, sp, cl, N, by omega, st_refl, rfl, h, g, cx, i10, t, po, f, wb⟩
    · have hp : p < n := by
        have z : ¬ n ≤ p := fun z => t (tk_end.mpr z)
        omega
      rw [if_neg (show ¬ knd (tk b n p) = 0 by unfold knd; split; decide; split; decide; decide)]
      unfold MX9_readStatement
      have sa := stm_all (b := b) (n := n) (sw := sw) (I0 := I0) (L0 := L0) (J0 := J0) (Z := Z) (fu := fu) (d := d) tx hd hfu 5 0 rfl p P I L J K D sp cl N (-1) 0 h g cx po.1.2.1 po.1.1.2 po.1.2.2 ⟨i10, Or.inl ⟨rfl, rfl, rfl⟩⟩ (fun _ => rfl) h5 (fun z => absurd z t)
      rcases sa with ⟨m, I1, L1, J1, K1, a1, a2, a3, a4⟩ | ⟨m, p1, P1, I1, L1, J1, K1, D1, sp1, cl1, N1, ⟨a1, a1'⟩, a2, a3, h1, g1, cx1, po1, nn, j10, -, f1, wb1⟩
      · left
        refine ⟨m, I1, L1, J1, K1, a1, a2, ?_, a4⟩
        rw [show wh5 (MX9_readStatement_R fu) 7 0 (-1) 0 0 (mkM J K) = some (0, mkM J1 K1) from a3, Option.bind_some, if_pos rfl]
      · rw [show wh5 (MX9_readStatement_R fu) 7 0 (-1) 0 0 (mkM J K) = some (1, mkM J1 K1) from a3, Option.bind_some, if_neg (show ¬ (1 : Int32) = 0 by decide)]
        rcases ih p1 P1 I1 L1 J1 K1 D1 sp1 cl1 N1 (f + f1) f2 (by omega) h1 g1 cx1 j10 (fun _ => by omega) (by omega) (WB_app f 0 N (PO_WB po1 wb) f1 wb1) (PO_trans cx po po1) with ⟨m2, I2, L2, J2, K2, c1, c2, c3, c4⟩ | ⟨m2, p2, P2, I2, L2, J2, K2, D2, sp2, cl2, N2, c1, c2, c3⟩
        · exact Or.inl ⟨m + m2, I2, L2, J2, K2, by omega, st_fail a2 c2, c3, c4⟩
        · exact Or.inr ⟨m + m2, p2, P2, I2, L2, J2, K2, D2, sp2, cl2, N2, by omega, st_trans a2 c2, c3⟩
end Text
