def sM (J : Nat → Nat → Int32) : PS := fun i => if i < 41 ∧ J 10 i ≠ 0 then some (tX J i) else none
def BS (J : Nat → Nat → Int32) : Prop := (∀ i, i < 41 → J 10 i = 0 ∨ J 10 i = 1) ∧ (J 0 31 = 0 ∨ J 0 31 = 1)
/-- nothing is changed but the rows of a flow -/
def frm (J J' : Nat → Nat → Int32) : Prop := (∀ b, b ≠ 0 → b < 9 ∨ 18 < b → J' b = J b) ∧ J' 9 = J 9 ∧ ∀ k, k < 31 ∨ 34 < k → J' 0 k = J 0 k
theorem frm_refl (J : Nat → Nat → Int32) : frm J J := ⟨fun _ _ _ => rfl, rfl, fun _ _ => rfl⟩
theorem frm_trans {J J1 J2 : Nat → Nat → Int32} (h : frm J J1) (h2 : frm J1 J2) : frm J J2 := ⟨fun b b0 hb => (h2.1 b b0 hb).trans (h.1 b b0 hb), h2.2.1.trans h.2.1, fun k hk => (h2.2.2 k hk).trans (h.2.2 k hk)⟩
theorem frc_frm {J J1 : Nat → Nat → Int32} (h : frc J J1) : frm J J1 := ⟨fun b _ hb => h b (by omega), h 9 (by omega), fun k _ => by rw [h 0 (by omega)]⟩
section Merges
variable {J J' : Nat → Nat → Int32} {K : Nat → Nat → Int64} {fu t : Nat} {D : Nat → Nat}
theorem tX_eq (h : ∀ b, 11 ≤ b → b ≤ 14 → J' b = J b) : tX J' t = tX J t := by
  funext j
  unfold tX
  rw [h 11 (by decide) (by decide), h 12 (by decide) (by decide), h 13 (by decide) (by decide), h 14 (by decide) (by decide)]
theorem sM_eq (h : ∀ b, 10 ≤ b → b ≤ 14 → J' b = J b) : sM J' = sM J := by
  funext j
  unfold sM
  rw [h 10 (by decide) (by decide), tX_eq (fun b h1 h2 => h b (by omega) h2)]
/-- what comes to stand at t -/
def nw (J : Nat → Nat → Int32) (t j : Nat) : Int32 := if J 10 t = 0 then cX J j else mrg (tX J t) (cX J) j
theorem nw_h {v : Nat} (hv : v < 6) : nw J t v = if J 10 t = 0 then J 15 v else J 11 (6 * t + v) ||| J 15 v := by
  unfold nw; rw [mrg_o (by omega), cX_h hv, tX_h hv]
theorem nw_s {v : Nat} (hv : v < 6) : nw J t (6 + v) = if J 10 t = 0 then J 16 v else J 12 (6 * t + v) ||| J 16 v := by
  unfold nw; rw [mrg_o (by omega), cX_s hv, tX_s hv]
theorem nw_m {v : Nat} (hv : v < 6) : nw J t (12 + v) = if J 10 t = 0 then J 17 v else J 13 (6 * t + v) ||| J 17 v := by
  unfold nw; rw [mrg_o (by omega), cX_m hv, tX_m hv]
theorem nw_u {v : Nat} (hv : v < 6) : nw J t (18 + v) = if J 10 t = 0 then J 18 v else J 14 (6 * t + v) &&& J 18 v := by
  unfold nw; rw [mrg_a (by omega), cX_u, tX_u hv]
/-- the state of the loop of merges -/
def MI (J J' : Nat → Nat → Int32) (t w : Nat) : Prop :=
  J' 10 = up (J 10) t 1 ∧ (∀ b, b ≠ 0 → b < 10 ∨ 14 < b → J' b = J b) ∧ (∀ k, k ≠ 31 → J' 0 k = J 0 k) ∧
  (∀ v, v < w → J' 11 (6 * t + v) = nw J t v ∧ J' 12 (6 * t + v) = nw J t (6 + v) ∧ J' 13 (6 * t + v) = nw J t (12 + v) ∧ J' 14 (6 * t + v) = nw J t (18 + v)) ∧
  (∀ c, (c < 6 * t ∨ 6 * t + w ≤ c) → J' 11 c = J 11 c ∧ J' 12 c = J 12 c ∧ J' 13 c = J 13 c ∧ J' 14 c = J 14 c) ∧
  ((J' 0 31 = 0 ∧ J 0 31 = 0 ∧ ∀ v, v < w → J 10 t ≠ 0 ∧ nw J t v = tX J t v ∧ nw J t (6 + v) = tX J t (6 + v) ∧ nw J t (12 + v) = tX J t (12 + v) ∧ nw J t (18 + v) = tX J t (18 + v)) ∨
   (J' 0 31 = 1 ∧ (J 0 31 = 1 ∨ J 10 t = 0 ∨ ∃ j, j < 24 ∧ nw J t j ≠ tX J t j)))
theorem m_merge1 {w : Nat} {w3 : Int32} {Q : Hp → Prop} {self : Int32 → Hp → Option Hp} (ht : t < 41) (hw : w < 6) (h3 : (w3 = 1 ∧ J 10 t = 0) ∨ (w3 = 0 ∧ J 10 t ≠ 0)) (h : MI J J' t w)
    (hj : ∀ J2, MI J J2 t (w + 1) → WP (self (nI w + 1) (mkM J2 K)) Q) : WP (MX9_merges_B24 (nI t) 0 w3 self (nI w) (mkM J' K)) Q := by
  obtain ⟨i1, i2, i3, i4, i5, i6⟩ := h
  have r15 : J' 15 = J 15 := i2 15 (by decide) (by decide)
  have r16 : J' 16 = J 16 := i2 16 (by decide) (by decide)
  have r17 : J' 17 = J 17 := i2 17 (by decide) (by decide)
  have r18 : J' 18 = J 18 := i2 18 (by decide) (by decide)
  obtain ⟨c1, c2, c3, c4⟩ := i5 (6 * t + w) (by omega)
  have fin : ∀ x : Int32, ((x = 0 ∧ J' 0 31 = 0 ∧ J 10 t ≠ 0 ∧ nw J t w = tX J t w ∧ nw J t (6 + w) = tX J t (6 + w) ∧ nw J t (12 + w) = tX J t (12 + w) ∧ nw J t (18 + w) = tX J t (18 + w)) ∨ (x = 1 ∧ (J 0 31 = 1 ∨ J 10 t = 0 ∨ ∃ j, j < 24 ∧ nw J t j ≠ tX J t j))) →
      WP ((h_pZ 9 (mkM J' K) 0 31 x).bind fun h21 => (h_fR 9 h21 0 23).bind fun x22 => (h_stI h21 x22 (nI (6 * t + w)) (nw J t w)).bind fun h23 => (h_fR 9 h23 0 24).bind fun x24 => (h_stI h23 x24 (nI (6 * t + w)) (nw J t (6 + w))).bind fun h25 => (h_fR 9 h25 0 25).bind fun x26 => (h_stI h25 x26 (nI (6 * t + w)) (nw J t (12 + w))).bind fun h27 => (h_fR 9 h27 0 26).bind fun x28 => (h_stI h27 x28 (nI (6 * t + w)) (nw J t (18 + w))).bind fun h29 => self (nI w + 1) h29) Q := by
    intro x hx
    have x01 : x = 0 ∨ x = 1 := by rcases hx with ⟨q, -⟩ | ⟨q, -⟩; exact Or.inl q; exact Or.inr q
    rw [m_pZ x01, Option.bind_some, m_r23, Option.bind_some, m_st11 (by omega), Option.bind_some, m_r24, Option.bind_some, m_st12 (by omega), Option.bind_some, m_r25, Option.bind_some, m_st13 (by omega), Option.bind_some, m_r26, Option.bind_some, m_st14 (by omega), Option.bind_some]
    generalize hJ2 : ur (ur (ur (ur (ur J' 0 (up (J' 0) 31 x)) 11 (up (ur J' 0 (up (J' 0) 31 x) 11) (6 * t + w) (nw J t w))) 12 (up (ur (ur J' 0 (up (J' 0) 31 x)) 11 (up (ur J' 0 (up (J' 0) 31 x) 11) (6 * t + w) (nw J t w)) 12) (6 * t + w) (nw J t (6 + w)))) 13 (up (ur (ur (ur J' 0 (up (J' 0) 31 x)) 11 (up (ur J' 0 (up (J' 0) 31 x) 11) (6 * t + w) (nw J t w))) 12 (up (ur (ur J' 0 (up (J' 0) 31 x)) 11 (up (ur J' 0 (up (J' 0) 31 x) 11) (6 * t + w) (nw J t w)) 12) (6 * t + w) (nw J t (6 + w))) 13) (6 * t + w) (nw J t (12 + w)))) 14 (up (ur (ur (ur (ur J' 0 (up (J' 0) 31 x)) 11 (up (ur J' 0 (up (J' 0) 31 x) 11) (6 * t + w) (nw J t w))) 12 (up (ur (ur J' 0 (up (J' 0) 31 x)) 11 (up (ur J' 0 (up (J' 0) 31 x) 11) (6 * t + w) (nw J t w)) 12) (6 * t + w) (nw J t (6 + w)))) 13 (up (ur (ur (ur J' 0 (up (J' 0) 31 x)) 11 (up (ur J' 0 (up (J' 0) 31 x) 11) (6 * t + w) (nw J t w))) 12 (up (ur (ur J' 0 (up (J' 0) 31 x)) 11 (up (ur J' 0 (up (J' 0) 31 x) 11) (6 * t + w) (nw J t w)) 12) (6 * t + w) (nw J t (6 + w))) 13) (6 * t + w) (nw J t (12 + w))) 14) (6 * t + w) (nw J t (18 + w))) = J2
    have s0 : J2 0 = up (J' 0) 31 x := by rw [← hJ2, ur_ne (by decide), ur_ne (by decide), ur_ne (by decide), ur_ne (by decide), ur_at]
    have s11 : J2 11 = up (J' 11) (6 * t + w) (nw J t w) := by rw [← hJ2, ur_ne (by decide), ur_ne (by decide), ur_ne (by decide), ur_at, ur_ne (by decide)]
    have s12 : J2 12 = up (J' 12) (6 * t + w) (nw J t (6 + w)) := by rw [← hJ2, ur_ne (by decide), ur_ne (by decide), ur_at, ur_ne (by decide), ur_ne (by decide)]
    have s13 : J2 13 = up (J' 13) (6 * t + w) (nw J t (12 + w)) := by rw [← hJ2, ur_ne (by decide), ur_at, ur_ne (by decide), ur_ne (by decide), ur_ne (by decide)]
    have s14 : J2 14 = up (J' 14) (6 * t + w) (nw J t (18 + w)) := by rw [← hJ2, ur_at, ur_ne (by decide), ur_ne (by decide), ur_ne (by decide), ur_ne (by decide)]
    have so : ∀ b, b ≠ 0 → b < 11 ∨ 14 < b → J2 b = J' b := fun b b0 hb => by rw [← hJ2, ur_ne (by omega), ur_ne (by omega), ur_ne (by omega), ur_ne (by omega), ur_ne b0]
    clear hJ2
    refine hj J2 ⟨by rw [so 10 (by decide) (by decide)]; exact i1, fun b b0 hb => by rw [so b b0 (by omega)]; exact i2 b b0 hb, fun k hk => by rw [s0, up_ne hk]; exact i3 k hk, fun v hv => ?_, fun c hc => ?_, ?_⟩
    · rw [s11, s12, s13, s14]
      by_cases e : v = w
      · rw [e, up_at, up_at, up_at, up_at]; exact ⟨rfl, rfl, rfl, rfl⟩
      · rw [up_ne (by omega), up_ne (by omega), up_ne (by omega), up_ne (by omega)]; exact i4 v (by omega)
    · rw [s11, s12, s13, s14, up_ne (by omega), up_ne (by omega), up_ne (by omega), up_ne (by omega)]
      exact i5 c (by omega)
    · rw [s0, up_at]
      rcases hx with ⟨q, q0, q1⟩ | ⟨q, q1⟩
      · rcases i6 with ⟨-, p2, p3⟩ | ⟨p1, -⟩
        · refine Or.inl ⟨q, p2, fun v hv => ?_⟩
          by_cases e : v = w
          · rw [e]; exact q1
          · exact p3 v (by omega)
        · rw [p1] at q0; exact absurd q0 (by decide)
      · exact Or.inr ⟨q, q1⟩
  have j01 : J' 0 31 = 1 → (J 0 31 = 1 ∨ J 10 t = 0 ∨ ∃ j, j < 24 ∧ nw J t j ≠ tX J t j) := by
    intro q
    rcases i6 with ⟨p1, -⟩ | ⟨-, p2⟩
    · rw [p1] at q; exact absurd q (by decide)
    · exact p2
  have z01 : J' 0 31 = 0 ∨ J' 0 31 = 1 := by rcases i6 with ⟨q, -⟩ | ⟨q, -⟩; exact Or.inl q; exact Or.inr q
  simp only [MX9_merges_B24, MX9_at, ix_66, m_r23, m_r24, m_r25, m_r26, m_r27, m_r28, m_r29, m_r30, m_fI, Option.bind_some, jn, show (6 : Int32) = nI 6 from rfl]
  have hlt : ¬ nI 6 ≤ nI w := nI_ge (by omega) (by omega)
  have eix : nI 6 * nI t + nI w = nI (6 * t + w) := ix_66
  simp only [if_neg hlt, eix, m_ld11 (k := 6 * t + w) (show _ < 246 by omega), m_ld12 (k := 6 * t + w) (show _ < 246 by omega), m_ld13 (k := 6 * t + w) (show _ < 246 by omega), m_ld14 (k := 6 * t + w) (show _ < 246 by omega), m_ld15 (k := w) hw, m_ld16 (k := w) hw, m_ld17 (k := w) hw, m_ld18 (k := w) hw, Option.bind_some]
  rw [r15, r16, r17, r18, c1, c2, c3, c4]
  rcases h3 with ⟨rfl, h0⟩ | ⟨rfl, h0⟩
  · have e1 : nw J t w = J 15 w := by rw [nw_h hw, if_pos h0]
    have e2 : nw J t (6 + w) = J 16 w := by rw [nw_s hw, if_pos h0]
    have e3 : nw J t (12 + w) = J 17 w := by rw [nw_m hw, if_pos h0]
    have e4 : nw J t (18 + w) = J 18 w := by rw [nw_u hw, if_pos h0]
    simp only [if_neg (show ¬ (1 : Int32) = 0 by decide)]
    rw [e1, e2, e3, e4] at fin
    rw [ite_self]
    exact fin 1 (Or.inr ⟨rfl, Or.inr (Or.inl h0)⟩)
  · have e1 : nw J t w = J 11 (6 * t + w) ||| J 15 w := by rw [nw_h hw, if_neg h0]
    have e2 : nw J t (6 + w) = J 12 (6 * t + w) ||| J 16 w := by rw [nw_s hw, if_neg h0]
    have e3 : nw J t (12 + w) = J 13 (6 * t + w) ||| J 17 w := by rw [nw_m hw, if_neg h0]
    have e4 : nw J t (18 + w) = J 14 (6 * t + w) &&& J 18 w := by rw [nw_u hw, if_neg h0]
    simp only [if_true]
    rw [← e1, ← e2, ← e3, ← e4]
    rcases z01 with z | z
    · rw [if_pos z]
      by_cases d1 : nw J t w = J 11 (6 * t + w)
      · rw [if_pos d1]
        by_cases d2 : nw J t (6 + w) = J 12 (6 * t + w)
        · rw [if_pos d2]
          by_cases d3 : nw J t (12 + w) = J 13 (6 * t + w)
          · rw [if_pos d3]
            by_cases d4 : nw J t (18 + w) = J 14 (6 * t + w)
            · rw [if_pos d4]
              exact fin 0 (Or.inl ⟨rfl, z, h0, by rw [tX_h hw]; exact d1, by rw [tX_s hw]; exact d2, by rw [tX_m hw]; exact d3, by rw [tX_u hw]; exact d4⟩)
            · rw [if_neg d4]
              exact fin 1 (Or.inr ⟨rfl, Or.inr (Or.inr ⟨18 + w, by omega, by rw [tX_u hw]; exact d4⟩)⟩)
          · rw [if_neg d3]
            exact fin 1 (Or.inr ⟨rfl, Or.inr (Or.inr ⟨12 + w, by omega, by rw [tX_m hw]; exact d3⟩)⟩)
        · rw [if_neg d2]
          exact fin 1 (Or.inr ⟨rfl, Or.inr (Or.inr ⟨6 + w, by omega, by rw [tX_s hw]; exact d2⟩)⟩)
      · rw [if_neg d1]
        exact fin 1 (Or.inr ⟨rfl, Or.inr (Or.inr ⟨w, by omega, by rw [tX_h hw]; exact d1⟩)⟩)
    · rw [if_neg (by rw [z]; decide)]
      exact fin 1 (Or.inr ⟨rfl, j01 z⟩)
theorem m_merges (ht : t < 41) (hB : BS J) (gY : GX (cX J)) (gS : goodS (sM J)) (hfu : 6 < fu) : WP (MX9_merges fu 0 (nI t) (mkM J K)) (fun h => ∃ J', h = mkM J' K ∧ frm J J' ∧ (∀ b, 15 ≤ b → J' b = J b) ∧ BS J' ∧ stepped (sM J) (sM J') t (cX J) ∧ hS (sM J) ≤ hS (sM J') ∧ ((J' 0 31 = 0 ∧ J 0 31 = 0 ∧ sM J' = sM J) ∨ (J' 0 31 = 1 ∧ (J 0 31 = 1 ∨ hS (sM J) < hS (sM J'))))) := by
  simp only [MX9_merges, m_g, m_r22, Option.bind_some, jn]
  rw [m_ld10 ht, Option.bind_some, m_st10 ht (Or.inr rfl), Option.bind_some]
  have main : ∀ w3 : Int32, (w3 = 1 ∧ J 10 t = 0) ∨ (w3 = 0 ∧ J 10 t ≠ 0) → WP (wh2 (MX9_merges_B24 (nI t) 0 w3) fu 0 (mkM (ur J 10 (up (J 10) t 1)) K)) (fun h => ∃ J', h = mkM J' K ∧ MI J J' t 6) := by
    intro w3 h3
    have start : MI J (ur J 10 (up (J 10) t 1)) t 0 := by
      refine ⟨ur_at, fun b b0 hb => ur_ne (by omega), fun k _ => by rw [ur_ne (by decide)], fun v hv => by omega, fun c _ => ?_, ?_⟩
      · rw [ur_ne (by decide), ur_ne (by decide), ur_ne (by decide), ur_ne (by decide)]; exact ⟨rfl, rfl, rfl, rfl⟩
      · rw [ur_ne (by decide)]
        rcases hB.2 with q | q
        · exact Or.inl ⟨q, q, fun v hv => by omega⟩
        · exact Or.inr ⟨q, Or.inl q⟩
    refine wh2_wp (fun r n h => ∃ w J', w + r = 6 ∧ n = nI w ∧ h = mkM J' K ∧ MI J J' t w) ?_ fu 6 _ _ (by omega) ⟨0, _, by omega, rfl, rfl, start⟩
    rintro r n h self ⟨w, J', hw, rfl, rfl, q⟩ ih
    by_cases hr : r = 0
    · subst hr
      have ew : w = 6 := by omega
      subst ew
      unfold MX9_merges_B24
      rw [if_pos (show (6 : Int32) ≤ nI 6 from by decide)]
      exact WP_some ⟨J', rfl, q⟩
    · exact m_merge1 ht (by omega) h3 q (fun J2 q2 => ih (r - 1) _ _ (by omega) ⟨w + 1, J2, by omega, nI_1 w, rfl, q2⟩)
  have done : ∀ J', MI J J' t 6 → frm J J' ∧ (∀ b, 15 ≤ b → J' b = J b) ∧ BS J' ∧ stepped (sM J) (sM J') t (cX J) ∧ hS (sM J) ≤ hS (sM J') ∧ ((J' 0 31 = 0 ∧ J 0 31 = 0 ∧ sM J' = sM J) ∨ (J' 0 31 = 1 ∧ (J 0 31 = 1 ∨ hS (sM J) < hS (sM J')))) := by
    rintro J' ⟨i1, i2, i3, i4, i5, i6⟩
    have eT : e24 (tX J' t) (nw J t) := e24_of (fun u hu => by rw [tX_h hu]; exact (i4 u hu).1) (fun u hu => by rw [tX_s hu]; exact (i4 u hu).2.1) (fun u hu => by rw [tX_m hu]; exact (i4 u hu).2.2.1) (fun u hu => by rw [tX_u hu]; exact (i4 u hu).2.2.2)
    have eO : ∀ j, j ≠ t → sM J' j = sM J j := by
      intro j hj
      unfold sM
      rw [i1, up_ne hj]
      by_cases c : j < 41 ∧ J 10 j ≠ 0
      · rw [if_pos c, if_pos c]
        congr 1
        funext u
        unfold tX
        by_cases u1 : u < 6
        · rw [if_pos u1, if_pos u1, (i5 _ (by omega)).1]
        · rw [if_neg u1, if_neg u1]
          by_cases u2 : u < 12
          · rw [if_pos u2, if_pos u2, (i5 _ (by omega)).2.1]
          · rw [if_neg u2, if_neg u2]
            by_cases u3 : u < 18
            · rw [if_pos u3, if_pos u3, (i5 _ (by omega)).2.2.1]
            · rw [if_neg u3, if_neg u3]
              by_cases u4 : u < 24
              · rw [if_pos u4, if_pos u4, (i5 _ (by omega)).2.2.2]
              · rw [if_neg u4, if_neg u4]
      · rw [if_neg c, if_neg c]
    have eSt : sM J' t = some (tX J' t) := by unfold sM; rw [i1, up_at, if_pos ⟨ht, by decide⟩]
    have st : stepped (sM J) (sM J') t (cX J) := by
      refine ⟨eO, ?_⟩
      by_cases c0 : J 10 t = 0
      · refine Or.inl ⟨by unfold sM; rw [if_neg (fun q => q.2 c0)], _, eSt, fun j hj => ?_⟩
        rw [eT j hj]; unfold nw; rw [if_pos c0]
      · refine Or.inr ⟨tX J t, _, by unfold sM; rw [if_pos ⟨ht, c0⟩], eSt, fun j hj => ?_⟩
        rw [eT j hj]; unfold nw; rw [if_neg c0]
    have fr : frm J J' := ⟨fun b b0 hb => i2 b b0 (by omega), i2 9 (by decide) (by decide), fun k hk => i3 k (by omega)⟩
    have bs : BS J' := by
      refine ⟨fun i hi => ?_, by rcases i6 with ⟨q, -⟩ | ⟨q, -⟩; exact Or.inl q; exact Or.inr q⟩
      rw [i1]
      by_cases c : i = t
      · rw [c, up_at]; exact Or.inr rfl
      · rw [up_ne c]; exact hB.1 i hi
    have mono : ∀ i, i < 41 → hP (sM J i) ≤ hP (sM J' i) := by
      intro i _
      by_cases c : i = t
      · subst c
        rcases st.2 with ⟨n, -⟩ | ⟨Z, W, z1, z2, z3⟩
        · rw [n]; exact Nat.zero_le _
        · rw [z1, z2]
          have := hX_mono (leX_trans (mrg_l (Y := cX J)) (e24_le (e24_symm z3)))
          show 1 + hX Z ≤ 1 + hX W
          omega
      · rw [st.1 i c]; exact Nat.le_refl _
    have le : hS (sM J) ≤ hS (sM J') := by
      have H : ∀ N, N ≤ 41 → sm N (fun i => hP (sM J i)) ≤ sm N (fun i => hP (sM J' i)) := by
        intro N
        induction N with
        | zero => intro _; exact Nat.le_refl _
        | succ N ih => intro hN; have := ih (by omega); have := mono N (by omega); simp only [sm]; omega
      exact H 41 (Nat.le_refl _)
    refine ⟨fr, fun b hb => i2 b (by omega) (by omega), bs, st, le, ?_⟩
    rcases i6 with ⟨q1, q2, q3⟩ | ⟨q1, q2⟩
    · refine Or.inl ⟨q1, q2, ?_⟩
      have c0 : J 10 t ≠ 0 := (q3 0 (by decide)).1
      have s10 : J' 10 = J 10 := by
        rw [i1]
        funext j
        by_cases c : j = t
        · rw [c, up_at]
          rcases hB.1 t ht with q | q
          · exact absurd q c0
          · exact q.symm
        · rw [up_ne c]
      funext j
      by_cases c : j = t
      · subst c
        unfold sM
        rw [s10, if_pos ⟨ht, c0⟩, if_pos ⟨ht, c0⟩]
        congr 1
        funext u
        by_cases u4 : u < 24
        · rw [eT u u4]
          have H : e24 (nw J j) (tX J j) := e24_of (fun v hv => (q3 v hv).2.1) (fun v hv => (q3 v hv).2.2.1) (fun v hv => (q3 v hv).2.2.2.1) (fun v hv => (q3 v hv).2.2.2.2)
          exact H u u4
        · unfold tX
          rw [if_neg (by omega), if_neg (by omega), if_neg (by omega), if_neg u4, if_neg (by omega), if_neg (by omega), if_neg (by omega), if_neg u4]
      · exact eO j c
    · refine Or.inr ⟨q1, ?_⟩
      rcases q2 with q2 | q2
      · exact Or.inl q2
      · refine Or.inr (sm_lt (t := t) mono ht ?_)
        by_cases c0 : J 10 t = 0
        · rw [show sM J t = none by unfold sM; rw [if_neg (fun q => q.2 c0)], eSt]
          show 0 < 1 + hX _
          omega
        · rcases q2 with q2 | ⟨j, hj, q2⟩
          · exact absurd q2 c0
          · have eS : sM J t = some (tX J t) := by unfold sM; rw [if_pos ⟨ht, c0⟩]
            have em : e24 (tX J' t) (mrg (tX J t) (cX J)) := fun u hu => by rw [eT u hu]; unfold nw; rw [if_neg c0]
            rw [eS, eSt]
            have := hX_lt (gS t _ eS) (e24_GX em (mrg_GX (gS t _ eS) gY)) (leX_trans (mrg_l (Y := cX J)) (e24_le (e24_symm em))) hj (by rw [eT j hj]; exact Ne.symm q2)
            show 1 + hX _ < 1 + hX _
            omega
  by_cases c0 : J 10 t = 0
  · rw [if_pos c0]
    obtain ⟨_, e, J', rfl, q⟩ := main 1 (Or.inl ⟨rfl, c0⟩)
    exact ⟨_, e, J', rfl, done J' q⟩
  · rw [if_neg c0]
    obtain ⟨_, e, J', rfl, q⟩ := main 0 (Or.inr ⟨rfl, c0⟩)
    exact ⟨_, e, J', rfl, done J' q⟩
end Merges
