def fyS (P : Nat → Int32) (S : PS) (lo : Nat) : Nat → Int32
  | 0 => 0
  | n + 1 => if wcS P S lo n = 0 then rS P S lo n else fyS P S lo n
/-- what the reference knows when it has checked -/
def RefOK (P : Nat → Int32) (out : Nat → Bool) (J : Nat → Nat → Int32) : Prop :=
  LF (TR P out) (nN (fst0 P out)) (sM J) ∧ J 0 32 = nI (wcS P (sM J) 99 (nT P + 1)) ∧ J 0 33 = fwS P (sM J) 99 (nT P + 1) ∧ J 0 34 = fyS P (sM J) 99 (nT P + 1)
theorem fw_wc {P : Nat → Int32} {S : PS} {lo : Nat} : ∀ n, n ≤ 1000 → (fwS P S lo n = -1 ↔ wcS P S lo n = 0) := by
  intro n
  induction n with
  | zero => intro _; exact ⟨fun _ => rfl, fun _ => rfl⟩
  | succ n ih =>
    intro hn
    have ih := ih (by omega)
    rw [wcS_s]
    show (if _ then _ else _) = (-1 : Int32) ↔ _
    by_cases c : fwS P S lo n = -1
    · rw [if_pos c, ih.mp c]
      by_cases c2 : rS P S lo n = 0
      · rw [if_pos c2, if_pos c2]; exact ⟨fun _ => rfl, fun _ => rfl⟩
      · rw [if_neg c2, if_neg c2]
        constructor
        · intro q; exact absurd q (nI_ne_m1 (by omega))
        · intro q; omega
    · rw [if_neg c]
      constructor
      · intro q; exact absurd q c
      · intro q; exact absurd (ih.mpr (by omega)) c
theorem fy_0 {P : Nat → Int32} {S : PS} {lo : Nat} : ∀ n, wcS P S lo n = 0 → fyS P S lo n = 0 := by
  intro n
  induction n with
  | zero => intro _; rfl
  | succ n ih =>
    intro h
    rw [wcS_s] at h
    show (if _ then _ else _) = (0 : Int32)
    have h0 : wcS P S lo n = 0 := by omega
    rw [if_pos h0]
    by_cases c : rS P S lo n = 0
    · exact c
    · rw [if_neg c] at h; omega
section Checks
variable {J J0 J' : Nat → Nat → Int32} {K : Nat → Nat → Int64} {fu s0 : Nat} {D : Nat → Nat} {P : Nat → Int32} {out : Nat → Bool}
theorem fst0_pl (hn : WFn P) : ∃ t, t ≤ nT P ∧ fst0 P out = nI t := by
  have h40 := hn.2.2.2
  unfold fst0
  split
  · exact ⟨nT P, Nat.le_refl _, hn.2.2.1⟩
  · rename_i c
    obtain ⟨t, h1, h2⟩ := nxt_pl h40 (by omega) c
    exact ⟨t, by omega, h2⟩
theorem m_round1 {Q : Hp → Prop} {j37 : Hp → Option Hp} (hA : WFA (J0 2) D) (h : RI J0 J s0) (hz : J 0 31 = 0) (hfu : 41 < fu)
    (hj : ∀ J', AF J0 J J' s0 → (J' 0 31 = 0 → ∀ i, i < nT (J0 2) → ∀ X t Y, sM J' i = some X → TR (J0 2) (ot J0) i t X Y → ∃ Z, sM J' t = some Z ∧ leX Y Z) → WP (j37 (mkM J' K)) Q) :
    WP (wh2 (MX9_checks_B90 fu 0 j37) fu (0 : Int32) (mkM J K)) Q := by
  have h40 := hA.1.1.2.2.2
  refine wh2_wp (fun r n hh => ∃ i J', i + r = nT (J0 2) ∧ n = nI i ∧ hh = mkM J' K ∧ AF J0 J J' s0 ∧ (J' 0 31 = 0 → ∀ j, j < i → ∀ X t Y, sM J' j = some X → TR (J0 2) (ot J0) j t X Y → ∃ Z, sM J' t = some Z ∧ leX Y Z)) ?_ fu (nT (J0 2)) _ _ (by omega) ⟨0, J, by omega, rfl, rfl, AF_0 h, fun _ j hj => by omega⟩
  rintro r n hh self ⟨i, J', hi, rfl, rfl, a, q⟩ ih
  have e2 := frm_2 a.1.2.2.2
  simp only [MX9_checks_B90, m_statements, m_r22, Option.bind_some, jn]
  rw [e2, hA.1.1.2.2.1]
  by_cases hr : r = 0
  · subst hr
    rw [if_pos (nI_le (by omega) (by omega))]
    exact hj J' a (fun z j hj => q z j (by omega))
  · rw [if_neg (nI_ge (by omega) (by omega)), m_ld10 (by omega), Option.bind_some]
    by_cases c0 : J' 10 i = 0
    · rw [if_pos c0]
      refine ih (r - 1) _ _ (by omega) ⟨i + 1, J', by omega, nI_1 i, rfl, a, fun z j hj X t Y w1 w2 => ?_⟩
      by_cases e : j = i
      · subst e
        unfold sM at w1
        rw [if_neg (fun q => q.2 c0)] at w1
        cases w1
      · exact q z j (by omega) X t Y w1 w2
    · rw [if_neg c0]
      obtain ⟨_, ep, J2, rfl, a2, q2⟩ := m_passes (K := K) (fu := fu) hA (show i < nT (J0 2) by omega) a.1 c0 hfu
      rw [ep, Option.bind_some]
      refine ih (r - 1) _ _ (by omega) ⟨i + 1, J2, by omega, nI_1 i, rfl, AF_trans a a2, fun z j hj X t Y w1 w2 => ?_⟩
      have z1 : J' 0 31 = 0 ∧ sM J2 = sM J' := by
        rcases a2.2.2.2 with ⟨-, p2, p3⟩ | ⟨p1, -⟩
        · exact ⟨p2, p3⟩
        · rw [p1] at z; exact absurd z (by decide)
      by_cases e : j = i
      · subst e
        have Si : sM J' j = some (tX J' j) := by unfold sM; rw [if_pos ⟨by omega, c0⟩]
        rw [z1.2, Si] at w1
        cases w1
        exact q2 z t Y w2
      · rw [z1.2] at w1 ⊢
        exact q z1.1 j (by omega) X t Y w1 w2
theorem m_rounds {Q : Hp → Prop} {j9 : Hp → Option Hp} (hA : WFA (J0 2) D) (h : RI J0 J s0) (hz : J 0 31 = 1) (hfu : 6000 < fu)
    (hj : ∀ J', RI J0 J' s0 → LF (TR (J0 2) (ot J0)) s0 (sM J') → J' 0 31 = 0 → WP (j9 (mkM J' K)) Q) :
    WP (wh1 (MX9_checks_B76 fu 0 j9) fu (mkM J K)) Q := by
  have h40 := hA.1.1.2.2.2
  refine wh1_wp (fun r hh => ∃ J', hh = mkM J' K ∧ RI J0 J' s0 ∧ ((J' 0 31 = 1 ∧ hS (sM J') + r = 5947) ∨ (J' 0 31 = 0 ∧ ∀ i, i < nT (J0 2) → ∀ X t Y, sM J' i = some X → TR (J0 2) (ot J0) i t X Y → ∃ Z, sM J' t = some Z ∧ leX Y Z))) ?_ fu (5947 - hS (sM J)) _ (by omega) ⟨J, rfl, h, Or.inl ⟨hz, by have := hS_le (sM J); omega⟩⟩
  rintro r hh self ⟨J', rfl, h, d⟩ ih
  simp only [MX9_checks_B76, m_fI, Option.bind_some, jn]
  rcases d with ⟨z, hm⟩ | ⟨z, q⟩
  · rw [if_neg (by rw [z]; decide), m_pZ (Or.inl rfl), Option.bind_some]
    have f0 : ∀ b, b ≠ 0 → ur J' 0 (up (J' 0) 31 0) b = J' b := fun b hb => ur_ne hb
    have sE : sM (ur J' 0 (up (J' 0) 31 0)) = sM J' := sM_eq (fun b h1 h2 => f0 b (by omega))
    have h1 : RI J0 (ur J' 0 (up (J' 0) 31 0)) s0 := by
      obtain ⟨a1, a2, a3, a4⟩ := h
      refine ⟨⟨fun i hi => by rw [f0 10 (by decide)]; exact a1.1 i hi, Or.inl (by rw [ur_at, up_at])⟩, by rw [sE]; exact a2, by rw [sE]; exact a3, ⟨fun b b0 hb => by rw [f0 b b0]; exact a4.1 b b0 hb, by rw [f0 9 (by decide)]; exact a4.2.1, fun k hk => by rw [ur_at, up_ne (by omega)]; exact a4.2.2 k hk⟩⟩
    refine m_round1 hA h1 (by rw [ur_at, up_at]) (by omega) (fun J2 a q => ?_)
    have b2 := hS_le (sM J2)
    rcases a.2.2.2 with ⟨p1, -, -⟩ | ⟨p1, p2⟩
    · exact ih 0 _ (by have := hS_le (sM J'); omega) ⟨J2, rfl, a.1, Or.inr ⟨p1, q p1⟩⟩
    · rcases p2 with p2 | p2
      · rw [ur_at, up_at] at p2; exact absurd p2 (by decide)
      · rw [sE] at p2
        exact ih (5947 - hS (sM J2)) _ (by omega) ⟨J2, rfl, a.1, Or.inl ⟨p1, by omega⟩⟩
  · rw [if_pos z]
    exact hj J' h ⟨⟨h.2.1.1, h.2.2.1, fun i t X Y w1 w2 => q i w2.1 X t Y w1 w2⟩, h.2.1⟩ z
theorem m_judge (hA : WFA (J 2) D) (gS : goodS (sM J)) (h0 : J 0 32 = 0 ∧ J 0 33 = -1 ∧ J 0 34 = 0) (hfu : 42 < fu) :
    WP (wh2 (MX9_checks_B138 fu 0) fu (0 : Int32) (mkM J K)) (fun h => ∃ J', h = mkM J' K ∧ (∀ b, b ≠ 0 → b < 15 ∨ 18 < b → J' b = J b) ∧ (∀ k, k < 32 ∨ 34 < k → J' 0 k = J 0 k) ∧ J' 0 32 = nI (wcS (J 2) (sM J) 99 (nT (J 2) + 1)) ∧ J' 0 33 = fwS (J 2) (sM J) 99 (nT (J 2) + 1) ∧ J' 0 34 = fyS (J 2) (sM J) 99 (nT (J 2) + 1)) := by
  have h40 := hA.1.1.2.2.2
  refine wh2_wp (fun r v h => ∃ n J', n + r = nT (J 2) + 1 ∧ v = nI n ∧ h = mkM J' K ∧ (∀ b, b ≠ 0 → b < 15 ∨ 18 < b → J' b = J b) ∧ (∀ k, k < 32 ∨ 34 < k → J' 0 k = J 0 k) ∧ J' 0 32 = nI (wcS (J 2) (sM J) 99 n) ∧ J' 0 33 = fwS (J 2) (sM J) 99 n ∧ J' 0 34 = fyS (J 2) (sM J) 99 n) ?_ fu (nT (J 2) + 1) _ _ (by omega) ⟨0, J, by omega, rfl, rfl, fun _ _ _ => rfl, fun _ _ => rfl, h0.1, h0.2.1, h0.2.2⟩
  rintro r v h self ⟨n, J', hn, rfl, rfl, f1, f2, w2, w3, w4⟩ ih
  have e2 : J' 2 = J 2 := f1 2 (by decide) (by decide)
  have sE : sM J' = sM J := sM_eq (fun b h1 h2 => f1 b (by omega) (by omega))
  simp only [MX9_checks_B138, m_statements, m_r22, Option.bind_some, jn]
  rw [e2, hA.1.1.2.2.1]
  by_cases hr : r = 0
  · subst hr
    rw [if_pos (nI_lt (by omega) (by omega))]
    rw [show nT (J 2) + 1 = n by omega]
    exact WP_some ⟨J', rfl, f1, f2, w2, w3, w4⟩
  · rw [if_neg (nI_nlt (by omega) (by omega)), m_ld10 (by omega), Option.bind_some, f1 10 (by decide) (by decide)]
    have hwc : wcS (J 2) (sM J) 99 n ≤ 41 := by
      have := cnt_le n (fun i => decide (rS (J 2) (sM J) 99 i ≠ 0))
      unfold wcS
      omega
    have step : ∀ J3 : Nat → Nat → Int32, (∀ b, b ≠ 0 → b < 15 ∨ 18 < b → J3 b = J b) → (∀ k, k < 32 ∨ 34 < k → J3 0 k = J 0 k) → J3 0 32 = nI (wcS (J 2) (sM J) 99 (n + 1)) → J3 0 33 = fwS (J 2) (sM J) 99 (n + 1) → J3 0 34 = fyS (J 2) (sM J) 99 (n + 1) → WP (self (nI n + 1) (mkM J3 K)) (fun h => ∃ J', h = mkM J' K ∧ (∀ b, b ≠ 0 → b < 15 ∨ 18 < b → J' b = J b) ∧ (∀ k, k < 32 ∨ 34 < k → J' 0 k = J 0 k) ∧ J' 0 32 = nI (wcS (J 2) (sM J) 99 (nT (J 2) + 1)) ∧ J' 0 33 = fwS (J 2) (sM J) 99 (nT (J 2) + 1) ∧ J' 0 34 = fyS (J 2) (sM J) 99 (nT (J 2) + 1)) :=
      fun J3 a1 a2 a3 a4 a5 => ih (r - 1) _ _ (by omega) ⟨n + 1, J3, by omega, nI_1 n, rfl, a1, a2, a3, a4, a5⟩
    have yE : fyS (J 2) (sM J) 99 (n + 1) = if wcS (J 2) (sM J) 99 n = 0 then rS (J 2) (sM J) 99 n else fyS (J 2) (sM J) 99 n := rfl
    have fE : fwS (J 2) (sM J) 99 (n + 1) = if fwS (J 2) (sM J) 99 n = -1 then (if rS (J 2) (sM J) 99 n = 0 then -1 else nI n) else fwS (J 2) (sM J) 99 n := rfl
    have fwn := fw_wc (P := J 2) (S := sM J) (lo := 99) n (by omega)
    have keep : rS (J 2) (sM J) 99 n = 0 → ∀ J3 : Nat → Nat → Int32, (∀ b, b ≠ 0 → b < 15 ∨ 18 < b → J3 b = J b) → J3 0 = J' 0 → WP (self (nI n + 1) (mkM J3 K)) (fun h => ∃ J', h = mkM J' K ∧ (∀ b, b ≠ 0 → b < 15 ∨ 18 < b → J' b = J b) ∧ (∀ k, k < 32 ∨ 34 < k → J' 0 k = J 0 k) ∧ J' 0 32 = nI (wcS (J 2) (sM J) 99 (nT (J 2) + 1)) ∧ J' 0 33 = fwS (J 2) (sM J) 99 (nT (J 2) + 1) ∧ J' 0 34 = fyS (J 2) (sM J) 99 (nT (J 2) + 1)) := by
      intro R0 J3 a1 a0
      refine step J3 a1 (fun k hk => by rw [a0]; exact f2 k hk) (by rw [a0, w2, wcS_s, if_pos R0]; rfl) ?_ ?_
      · rw [a0, w3, fE, if_pos R0]
        split
        · rename_i q; exact q
        · rfl
      · rw [a0, w4, yE, R0]
        by_cases c : wcS (J 2) (sM J) 99 n = 0
        · rw [if_pos c]
          exact fy_0 n c
        · rw [if_neg c]
    by_cases c0 : J 10 n = 0
    · rw [if_pos c0, if_pos trivial]
      exact keep (by unfold rS sM; rw [if_neg (fun q => q.2 c0)]) J' f1 rfl
    · have Sn : sM J n = some (tX J n) := by unfold sM; rw [if_pos ⟨by omega, c0⟩]
      have Rn : rS (J 2) (sM J) 99 n = rsn (J 2) n (tX J n) := by unfold rS; rw [Sn]; exact if_neg (by omega)
      have tE : tX J' n = tX J n := tX_eq (fun b h1 h2 => f1 b (by omega) (by omega))
      obtain ⟨J2, ew, fc⟩ := m_whyAt (J := J') (K := K) (fu := fu) (D := D) (pl := n) (by rw [e2]; exact hA) (by rw [e2]; omega) (by rw [tE]; exact gS n _ Sn) (by omega)
      rw [e2, tE, ← Rn] at ew
      rw [if_neg c0, ew, Option.bind_some]
      have g1 : ∀ b, b ≠ 0 → b < 15 ∨ 18 < b → J2 b = J b := fun b b0 hb => by rw [fc b hb]; exact f1 b b0 hb
      have g0 : J2 0 = J' 0 := fc 0 (by omega)
      by_cases cr : rS (J 2) (sM J) 99 n = 0
      · rw [if_pos cr]
        exact keep cr J2 g1 g0
      · rw [if_neg cr]
        show WP ((h_fI 9 (mkM J2 K) 0 32).bind fun x24 => if x24 = 0 then (h_pI 9 (mkM J2 K) 0 33 (nI n)).bind fun h29 => (h_pI 9 h29 0 34 (rS (J 2) (sM J) 99 n)).bind fun h30 => (h_fI 9 h30 0 32).bind fun x27 => (h_pI 9 h30 0 32 (x27 + 1)).bind fun h28 => self (nI n + 1) h28 else (h_fI 9 (mkM J2 K) 0 32).bind fun x27 => (h_pI 9 (mkM J2 K) 0 32 (x27 + 1)).bind fun h28 => self (nI n + 1) h28) _
        rw [m_fI, Option.bind_some, g0, w2]
        by_cases cw : wcS (J 2) (sM J) 99 n = 0
        · rw [cw, if_pos (show nI 0 = 0 from rfl), m_pI, Option.bind_some, m_pI, Option.bind_some, m_fI, Option.bind_some, m_pI, Option.bind_some]
          simp only [ur_ur, ur_at]
          refine step _ (fun b b0 hb => by rw [ur_ne b0]; exact g1 b b0 hb) (fun k hk => ?_) ?_ ?_ ?_
          · rw [ur_at, up_ne (by omega), up_ne (by omega), up_ne (by omega), g0]; exact f2 k hk
          · rw [ur_at, up_at, up_ne (by decide), up_ne (by decide), g0, w2, wcS_s, if_neg cr, nI_1]
          · rw [ur_at, up_ne (by decide), up_ne (by decide), up_at, fE, if_pos (fwn.mpr cw), if_neg cr]
          · rw [ur_at, up_ne (by decide), up_at, yE, if_pos cw]
        · have nw : ¬ nI (wcS (J 2) (sM J) 99 n) = 0 := fun q => cw (nI_inj (b := 0) (by omega) (by omega) q)
          rw [if_neg nw, Option.bind_some, m_pI, Option.bind_some]
          refine step _ (fun b b0 hb => by rw [ur_ne b0]; exact g1 b b0 hb) (fun k hk => ?_) ?_ ?_ ?_
          · rw [ur_at, up_ne (by omega), g0]; exact f2 k hk
          · rw [ur_at, up_at, wcS_s, if_neg cr, nI_1]
          · rw [ur_at, up_ne (by decide), g0, w3, fE, if_neg (fun q => cw (fwn.mp q))]
          · rw [ur_at, up_ne (by decide), g0, w4, yE, if_neg cw]
theorem m_checks (hA : WFA (J 2) D) (hz : J 0 31 = 0 ∨ J 0 31 = 1) (hfu : 6000 < fu) :
    WP (MX9_checks fu 0 (mkM J K)) (fun h => ∃ J', h = mkM J' K ∧ frm J J' ∧ RefOK (J 2) (ot J) J' ∧ (J' 0 31 = 0 ∨ J' 0 31 = 1)) := by
  have h40 := hA.1.1.2.2.2
  obtain ⟨s0, hs0, es0⟩ := fst0_pl (out := ot J) hA.1.1
  simp only [MX9_checks, m_g, jn]
  refine wh2_wp (fun r n h => ∃ w f, w + r = 41 ∧ n = nI w ∧ h = mkM (ur J 10 f) K ∧ ∀ j, j < w → f j = 0) ?_ fu 41 _ _ (by omega) ⟨0, J 10, by omega, rfl, by rw [ur_self], fun j h => by omega⟩
  rintro r n h self ⟨w, f, hw, rfl, rfl, q⟩ ih
  simp only [MX9_checks_B2, m_r22, Option.bind_some]
  rw [show (41 : Int32) = nI 41 from rfl]
  by_cases hr : r = 0
  · subst hr
    rw [if_pos (nI_le (by omega) (by omega))]
    clear ih
    generalize hJ1 : ur J 10 f = J1
    have j10 : ∀ j, j < 41 → J1 10 j = 0 := fun j hj => by rw [← hJ1, ur_at]; exact q j (by omega)
    have jo : ∀ b, b ≠ 10 → J1 b = J b := fun b hb => by rw [← hJ1, ur_ne hb]
    clear hJ1
    refine wh2_wp (fun r n h => ∃ w J2, w + r = 6 ∧ n = nI w ∧ h = mkM J2 K ∧ frc J1 J2 ∧ ∀ j, j < w → J2 15 j = 1 ∧ J2 16 j = 0 ∧ J2 17 j = 0 ∧ J2 18 j = 0) ?_ fu 6 _ _ (by omega) ⟨0, J1, by omega, rfl, rfl, fun _ _ => rfl, fun j h => by omega⟩
    rintro r n h self ⟨w, J2, hw, rfl, rfl, fc, q2⟩ ih
    simp only [MX9_checks_B23, m_r27, Option.bind_some]
    rw [show (6 : Int32) = nI 6 from rfl]
    by_cases hr : r = 0
    · subst hr
      rw [if_pos (nI_le (by omega) (by omega))]
      clear ih
      have e2 : J2 2 = J 2 := by rw [fc 2 (by omega), jo 2 (by decide)]
      have e9 : J2 9 = J 9 := by rw [fc 9 (by omega), jo 9 (by decide)]
      have e0 : J2 0 = J 0 := by rw [fc 0 (by omega), jo 0 (by decide)]
      have eot : ot J2 = ot J := by funext j; unfold ot; rw [e9]
      have xc : e24 (cX J2) X0 := e24_of (fun u hu => by rw [cX_h hu, (q2 u (by omega)).1]; exact (if_pos hu).symm) (fun u hu => by rw [cX_s hu, (q2 u (by omega)).2.1]; exact (if_neg (by omega)).symm) (fun u hu => by rw [cX_m hu, (q2 u (by omega)).2.2.1]; exact (if_neg (by omega)).symm) (fun u hu => by rw [cX_u, (q2 u (by omega)).2.2.2]; exact (if_neg (by omega)).symm)
      have S0 : sM J2 = fun _ => none := by
        funext j
        unfold sM
        by_cases c : j < 41
        · rw [if_neg (fun z => z.2 (by rw [fc 10 (by omega)]; exact j10 j c))]
        · rw [if_neg (fun z => c z.1)]
      have b2 : BS J2 := ⟨fun i hi => Or.inl (by rw [fc 10 (by omega)]; exact j10 i hi), by rw [e0]; exact hz⟩
      rw [m_first (by rw [e2]; exact hA.1.1) (by omega), Option.bind_some, e2, eot, es0]
      obtain ⟨_, em, J3, rfl, f3, g3, b3, st, l3, d3⟩ := m_merges (J := J2) (K := K) (fu := fu) (t := s0) (by omega) b2 (e24_GX xc GX_0) (by rw [S0]; intro i X z; cases z) (by omega)
      rw [em, Option.bind_some, m_pZ (Or.inr rfl), Option.bind_some]
      obtain ⟨W, w1, w2⟩ : ∃ W, sM J3 s0 = some W ∧ e24 W (cX J2) := by
        rcases st.2 with ⟨-, z⟩ | ⟨Z, W, z, -⟩
        · exact z
        · rw [S0] at z; cases z
      have none : ∀ j, j ≠ s0 → sM J3 j = none := fun j hj => by rw [st.1 j hj, S0]
      have wx : e24 W X0 := e24_trans w2 xc
      have f0 : ∀ b, b ≠ 0 → ur J3 0 (up (J3 0) 31 1) b = J3 b := fun b hb => ur_ne hb
      have sE : sM (ur J3 0 (up (J3 0) 31 1)) = sM J3 := sM_eq (fun b h1 h2 => f0 b (by omega))
      have frJ : frm J (ur J3 0 (up (J3 0) 31 1)) := by
        refine ⟨fun b b0 hb => ?_, ?_, fun k hk => ?_⟩
        · rw [f0 b b0, f3.1 b b0 hb, fc b (by omega), jo b (by omega)]
        · rw [f0 9 (by decide), f3.2.1, e9]
        · rw [ur_at, up_ne (by omega), f3.2.2 k hk, e0]
      have start : RI J (ur J3 0 (up (J3 0) 31 1)) s0 := by
        refine ⟨⟨fun i hi => by rw [f0 10 (by decide)]; exact b3.1 i hi, Or.inr (by rw [ur_at, up_at])⟩, ?_, by rw [sE]; exact ⟨W, w1, e24_le (e24_symm wx)⟩, frJ⟩
        rw [sE]
        refine ⟨fun i X z => ?_, fun S' hp i X z => ?_⟩
        · by_cases c : i = s0
          · subst c; rw [w1] at z; cases z; exact e24_GX wx GX_0
          · rw [none i c] at z; cases z
        · by_cases c : i = s0
          · subst c; rw [w1] at z; cases z
            obtain ⟨Z, z1, z2⟩ := hp.2.1
            exact ⟨Z, z1, leX_trans (e24_le wx) z2⟩
          · rw [none i c] at z; cases z
      refine m_rounds (J0 := J) hA start (by rw [ur_at, up_at]) hfu (fun J4 r4 l4 z4 => ?_)
      rw [m_pI, Option.bind_some, m_pI, Option.bind_some, m_pI, Option.bind_some]
      simp only [ur_ur, ur_at]
      generalize hJ5 : ur J4 0 (up (up (up (J4 0) 32 0) 33 (-1)) 34 0) = J5
      have o5 : ∀ b, b ≠ 0 → J5 b = J4 b := fun b hb => by rw [← hJ5, ur_ne hb]
      have z5 : J5 0 = up (up (up (J4 0) 32 0) 33 (-1)) 34 0 := by rw [← hJ5, ur_at]
      clear hJ5
      have e25 : J5 2 = J 2 := by rw [o5 2 (by decide)]; exact frm_2 r4.2.2.2
      have s5 : sM J5 = sM J4 := sM_eq (fun b h1 h2 => o5 b (by omega))
      obtain ⟨_, ej, J6, rfl, p1, p2, p3, p4, p5⟩ := m_judge (J := J5) (K := K) (fu := fu) (D := D) (by rw [e25]; exact hA) (by rw [s5]; exact l4.2.1) ⟨by rw [z5]; rfl, by rw [z5]; rfl, by rw [z5]; rfl⟩ (by omega)
      rw [ej]
      have s6 : sM J6 = sM J4 := by rw [sM_eq (fun b h1 h2 => p1 b (by omega) (by omega)), s5]
      rw [e25, s5] at p3 p4 p5
      refine ⟨_, rfl, J6, rfl, ⟨fun b b0 hb => ?_, ?_, fun k hk => ?_⟩, ⟨by rw [s6, es0, nN_nI (by omega)]; exact l4, by rw [s6]; exact p3, by rw [s6]; exact p4, by rw [s6]; exact p5⟩, ?_⟩
      · rw [p1 b b0 (by omega), o5 b b0, r4.2.2.2.1 b b0 hb]
      · rw [p1 9 (by decide) (by decide), o5 9 (by decide), r4.2.2.2.2.1]
      · rw [p2 k (by omega), z5, up_ne (by omega), up_ne (by omega), up_ne (by omega), r4.2.2.2.2.2 k hk]
      · rw [p2 31 (by decide), z5, up_ne (by decide), up_ne (by decide), up_ne (by decide)]
        exact Or.inl z4
    · rw [if_neg (nI_ge (by omega) (by omega)), m_st15 (by omega), Option.bind_some, m_r28, Option.bind_some, m_st16 (by omega), Option.bind_some, m_r29, Option.bind_some, m_st17 (by omega), Option.bind_some, m_r30, Option.bind_some, m_st18 (by omega), Option.bind_some]
      refine ih (r - 1) _ _ (by omega) ⟨w + 1, _, by omega, nI_1 w, rfl, frc_ur (frc_ur (frc_ur (frc_ur fc (by decide)) (by decide)) (by decide)) (by decide), fun j hj => ?_⟩
      rw [ur_ne (show (15 : Nat) ≠ 18 by decide), ur_ne (show (15 : Nat) ≠ 17 by decide), ur_ne (show (15 : Nat) ≠ 16 by decide), ur_at, ur_ne (show (16 : Nat) ≠ 18 by decide), ur_ne (show (16 : Nat) ≠ 17 by decide), ur_at, ur_ne (show (17 : Nat) ≠ 18 by decide), ur_at, ur_at, ur_ne (show (16 : Nat) ≠ 15 by decide), ur_ne (show (17 : Nat) ≠ 16 by decide), ur_ne (show (17 : Nat) ≠ 15 by decide), ur_ne (show (18 : Nat) ≠ 17 by decide), ur_ne (show (18 : Nat) ≠ 16 by decide), ur_ne (show (18 : Nat) ≠ 15 by decide)]
      by_cases c : j = w
      · rw [c, up_at, up_at, up_at, up_at]; exact ⟨rfl, rfl, rfl, rfl⟩
      · rw [up_ne c, up_ne c, up_ne c, up_ne c]; exact q2 j (by omega)
  · rw [if_neg (nI_ge (by omega) (by omega)), m_st10 (by omega) (Or.inl rfl), Option.bind_some, ur_ur, ur_at]
    refine ih (r - 1) _ _ (by omega) ⟨w + 1, _, by omega, nI_1 w, rfl, fun j hj => ?_⟩
    by_cases c : j = w
    · rw [c, up_at]
    · rw [up_ne c]; exact q j (by omega)
end Checks
