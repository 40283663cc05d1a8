/-! LOAD: both read the text to its end -/
section Reads
variable {b : Nat → Nat} {n : Nat} {sw : Bool} {I0 : Nat → Nat → Int32} {L0 : Nat → Nat → Int64} {J0 : Nat → Nat → Int32} {Z : Nat → Int32} {fu d : Nat}
theorem both_text {p : Nat} {P : Nat → Int32} {I : Nat → Nat → Int32} {L : Nat → Nat → Int64} {J : Nat → Nat → Int32} {K : Nat → Nat → Int64} (tx : TX b n) (hd : dr' sw = d) (hfu : 1000 < fu) (h : BC b n sw I0 L0 p I L) (g : BM b n J0 Z p P J K) (cx : CTX d P I L K) (h2 : P 2 = nI 0) (i3 : I d 3 = nI 0) (i10 : I 1 10 = nI 0) :
    (∃ I' L' J' K', (∀ j10 : Int32 → Hp → Option (Int32 × Hp), wh3 (MX3_parse_B34 fu j10 1) fu (1 : Int32) (0 : Int32) (mkC sw I L) = j10 0 (mkC sw I' L')) ∧ MX9_readText fu 0 (mkM J K) = some (0, mkM J' K') ∧ FLT sw I0 L0 J0 I' L' J') ∨
    ∃ p' P' I' L' J' K' D sp cl N f, (∀ j10 : Int32 → Hp → Option (Int32 × Hp), wh3 (MX3_parse_B34 fu j10 1) fu (1 : Int32) (0 : Int32) (mkC sw I L) = j10 1 (mkC sw I' L')) ∧ MX9_readText fu 0 (mkM J K) = some (1, mkM J' K') ∧ BC b n sw I0 L0 p' I' L' ∧ BM b n J0 Z p' P' J' K' ∧ CTX d P' I' L' K' ∧ (N ≤ 40 ∧ P' 2 = nI N ∧ I' d 3 = nI N) ∧ (∀ i, i < N → SRr d P' I' D sp cl i ∧ WFo P' i ∧ WFp P' D i) ∧ WB P' sp cl f (-1) 0 0 N := by
  have n900 := tx.1
  simp only [MX9_readText, m_g, jn]
  rcases lines_all (j2 := fun h1 => wh1 (MX9_readText_B36 fu 0) fu h1) tx hd hfu n p P I L J K fu (by omega) h g cx h2 i3 i10 (by omega) with ⟨m, I1, L1, J1, K1, a1, a2, a3, a4⟩ | ⟨m, p1, P1, I1, L1, J1, K1, a1, a2, a3, h1, g1, cx1, e2, e3, e10, t1⟩
  · left
    refine ⟨I1, L1, J1, K1, fun j10 => ?_, a3, a4⟩
    have := a2 j10 (fu - m - 1) 0 (by omega)
    rw [show fu - m - 1 + m + 1 = fu by omega] at this
    exact this
  · rw [a3]
    rcases stmts_all (d := d) (P0 := P1) (I00 := I1) (D0 := fun _ => 0) (sp0 := fun _ => 0) (cl0 := fun _ => 0) tx hd hfu n p1 P1 I1 L1 J1 K1 (fun _ => 0) (fun _ => 0) (fun _ => 0) 0 0 fu (by omega) h1 g1 cx1 e10 (by omega) (by omega) WB_refl (PO_refl (by decide) e2 e3) with ⟨m2, I2, L2, J2, K2, c1, c2, c3, c4⟩ | ⟨m2, p2, P2, I2, L2, J2, K2, D2, sp2, cl2, N2, c1, c2, c3, h3, g3, cx3, k10, t3, po, f, wb⟩
    · left
      refine ⟨I2, L2, J2, K2, fun j10 => ?_, c3, c4⟩
      have := st_fail a2 c2 j10 (fu - (m + m2) - 1) 0 (by omega)
      rw [show fu - (m + m2) - 1 + (m + m2) + 1 = fu by omega] at this
      exact this
    · right
      refine ⟨p2, P2, I2, L2, J2, K2, D2, sp2, cl2, N2, f, fun j10 => ?_, c3, h3, g3, cx3, ⟨po.1.1.2, po.1.2.1, po.1.2.2⟩, fun i hi => po.2.2.2 i (by omega) hi, wb⟩
      have p2n := h3.1
      have := st_trans a2 c2 j10 (fu - (m + m2) - 1 + 1) 0 (by omega)
      rw [show fu - (m + m2) - 1 + 1 + (m + m2) = fu by omega] at this
      refine Eq.trans this ?_
      show MX3_parse_B34 fu j10 1 (wh3 (MX3_parse_B34 fu j10 1) (fu - (m + m2) - 1)) 1 (nI (0 + (m + m2))) (mkC sw I2 L2) = _
      unfold MX3_parse_B34
      have ae := at_end (deep := 0) h3 k10 (by omega)
      rw [if_pos ⟨t3, rfl⟩] at ae
      rw [if_neg (show ¬ (900 : Int32) < nI (0 + (m + m2)) from nI_nlt (a := 900) (by omega) (by decide)), if_neg (by decide), ae, Option.bind_some, if_neg (by decide)]
theorem m_copy {j21 : Hp → Option (Int32 × Hp)} {J : Nat → Nat → Int32} {K : Nat → Nat → Int64} : ∀ r f i (Q : Nat → Int32), i + r = 573 → r < f → (∀ j, j < i → Q j = J 3 j) → (∀ j, 573 ≤ j → Q j = J 2 j) → wh2 (MX9_load_B102 j21 0) f (nI i) (mkM (ur J 2 Q) K) = j21 (mkM (ur J 2 (fun j => if j < 573 then J 3 j else J 2 j)) K) := by
  intro r
  induction r with
  | zero =>
    intro f i Q hi hf h1 h2
    obtain ⟨f, rfl⟩ : ∃ g, f = g + 1 := ⟨f - 1, by omega⟩
    show MX9_load_B102 j21 0 (wh2 (MX9_load_B102 j21 0) f) (nI i) _ = _
    unfold MX9_load_B102
    rw [if_pos (show (573 : Int32) ≤ nI i from nI_le (a := 573) (by omega) (by omega))]
    have : Q = fun j => if j < 573 then J 3 j else J 2 j := by
      funext j
      by_cases c : j < 573
      · rw [if_pos c]; exact h1 j (by omega)
      · rw [if_neg c]; exact h2 j (by omega)
    rw [this]
  | succ r ih =>
    intro f i Q hi hf h1 h2
    obtain ⟨f, rfl⟩ : ∃ g, f = g + 1 := ⟨f - 1, by omega⟩
    show MX9_load_B102 j21 0 (wh2 (MX9_load_B102 j21 0) f) (nI i) _ = _
    unfold MX9_load_B102
    rw [if_neg (show ¬ (573 : Int32) ≤ nI i from nI_ge (b := 573) (by omega) (by decide)), m_r1, Option.bind_some, m_r2, Option.bind_some, m_ld3 (by omega), Option.bind_some, m_st2 (by omega), Option.bind_some, nI_1, ur_ur, ur_at, ur_ne (show (3 : Nat) ≠ 2 by decide)]
    refine ih f (i + 1) _ (by omega) (by omega) (fun j hj => ?_) (fun j hj => by rw [up_ne (by omega)]; exact h2 j hj)
    by_cases z : j = i
    · rw [z, up_at]
    · rw [up_ne z]; exact h1 j (by omega)
/-- REL, when a text was not read to its end -/
theorem REL_text {I I' : Nat → Nat → Int32} {L L' : Nat → Nat → Int64} {J J' : Nat → Nat → Int32} (hd : dr' sw = d) (h : REL kSo sw I L J) (hI : ∀ b, b ≠ 0 → b ≠ 1 → b ≠ 2 → b ≠ 34 → b ≠ 35 → b < d ∨ d + 24 < b → I' b = I b) (h0 : ∀ k, k < 9 → I' 0 k = I 0 k) (h9 : I' 0 9 = J' 0 5 ∧ I' 0 10 = J' 0 6 ∧ I' 0 11 = J' 0 7) (t1 : I' 2 0 = 0) (t2 : J' 0 4 = 0) (hL : L' 4 = L 4 ∧ L' 217 = L 217) (hJ : J' 2 = J 2) (h31 : J' 0 31 = J 0 31) : REL kSo sw I' L' J' := by
  obtain ⟨-, -, ⟨D, w1, w2⟩, s31, r, f1, g1, k1⟩ := h
  have d5 := dr_lt (sw := sw)
  rw [hd] at d5
  have hb : ∀ b, 36 ≤ b → b ≤ 227 → I' b = I b := fun b b1 b2 => hI b (by omega) (by omega) (by omega) (by omega) (by omega) (by omega)
  have dp : (d = 5 ∧ pid sw = 228) ∨ (d = 228 ∧ pid sw = 5) := by
    rw [← hd]; unfold dr' pid; cases sw <;> simp
  have hP : ∀ b, pid sw ≤ b → b ≤ pid sw + 24 → I' b = I b := fun b b1 b2 => hI b (by omega) (by omega) (by omega) (by omega) (by omega) (by omega)
  refine ⟨⟨0, by omega, t1, t2, fun j hj => by omega⟩, h9, ⟨D, by rw [hJ]; exact w1, by rw [hJ]; exact CR_fr pid_P w2 hP⟩, by rw [h31]; exact s31, fun i hi => by rw [hL.1]; exact r i hi, ?_, ?_, ?_⟩
  · rw [hJ]
    unfold kF
    rw [h0 7 (by decide)]
    rcases f1 with q | ⟨q, q2⟩
    · exact Or.inl q
    · exact Or.inr ⟨q, FlowOK_fr q2 (fun b b1 b2 => hb b (by omega) (by omega))⟩
  · rw [hJ]
    intro i hi
    rw [hb 227 (by decide) (by decide)]
    exact g1 i hi
  · rw [hJ]
    exact okS_o _ _ _ _ _ (fun b b1 b2 => hb b (by omega) (by omega)) (h0 8 (by decide)) hL.2 k1
end Reads
