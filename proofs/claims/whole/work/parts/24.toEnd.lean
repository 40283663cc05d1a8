/-- rows that the class writes and reads within one call only: steps, likes, ways, longerWays of the two programs -/
def scC (b : Nat) : Prop := (14 ≤ b ∧ b ≤ 17) ∨ (237 ≤ b ∧ b ≤ 240)
/-- both answer alike with a status, and change nothing else but scratch -/
def SB (x y : Option (Int32 × Hp)) (sw : Bool) (I : Nat → Nat → Int32) (L : Nat → Nat → Int64) (J : Nat → Nat → Int32) (K : Nat → Nat → Int64) : Prop :=
  ∃ r z I' J', x = some (r, mkC sw (ur I' 0 (up (I' 0) 9 z)) L) ∧ y = some (r, mkM (ur J' 0 (up (J' 0) 5 z)) K) ∧ (∀ b, ¬ scC b → I' b = I b) ∧ ∀ b, b ≤ 2 → J' b = J b
theorem ev_ew {P : Nat → Int32} {k s : Nat} {x y : Int32} (hW : WFK P) (hk : k < nK P) (hs : s < nS P k) (hx : EV1 P k (nS P k - 1) s x) (hy : EW P k 6 s y) : (x = -1 ∧ y = 99) ∨ ∃ d, d ≤ 5 ∧ x = nI d ∧ y = nI d := by
  have h6 := (hW.2 k hk).1.2.2
  obtain ⟨v, v1, rfl, v2, v3⟩ := hy
  rcases hx with ⟨rfl, hb⟩ | ⟨d, hd, rfl, h1, h2⟩
  · left
    refine ⟨rfl, ?_⟩
    have : ¬ v < 99 := by
      intro h
      have q := v2 h
      by_cases c : v ≤ nS P k - 1
      · rw [rb_ge q c] at hb; cases hb
      · rw [rb_stab hW hk v (by omega) s hs, hb] at q; cases q
    obtain rfl : v = 99 := by omega
    rfl
  · right
    refine ⟨d, by omega, rfl, ?_⟩
    have a1 := v3 d (by omega) h1
    have a2 : ¬ v < d := by
      intro h
      have q := v2 (by omega)
      rw [h2 v h] at q; cases q
    rw [show v = d by omega]
section ToEnd
variable {sw : Bool} {I : Nat → Nat → Int32} {L : Nat → Nat → Int64} {J : Nat → Nat → Int32} {K : Nat → Nat → Int64} {fu : Nat}
theorem scr_C {f : Nat → Int32} : ∀ b, ¬ scC b → ur I (pid sw + 9) f b = I b := by
  intro b hb
  refine ur_ne ?_
  intro e
  apply hb
  unfold scC
  rcases (pid_P (sw := sw)) with h | h <;> rw [h] at e <;> omega
theorem scr_M {f : Nat → Int32} {a : Nat} (ha : 2 < a) : ∀ b, b ≤ 2 → ur J a f b = J b := fun b hb => ur_ne (by omega)
theorem sa_sb {x y : Option (Int32 × Hp)} (h : SA x y sw I L J K) : SB x y sw I L J K := by
  obtain ⟨r, z, h1, h2⟩ := h
  exact ⟨r, z, I, J, h1, h2, fun _ _ => rfl, fun _ _ => rfl⟩
theorem sb_toEnd {a b : Int32} (hW : WFK (J 2)) (hR : CRk (pid sw) I (J 2)) (hfu : 6 < fu) : SB (MX8_toEnd fu 0 a b (mkC sw I L)) (MX9_toEnd fu 0 a b (mkM J K)) sw I L J K := by
  have h4 := hW.1.1.2
  have hq := isP_K (pid_P (sw := sw))
  simp only [MX8_toEnd, MX9_toEnd, MX2_stepsToEnd, c_hasState pid_P hW hR, m_isState hW, c8_g, m_g, c8_pg, c4_r0 pid_P, c2_g hq, Option.bind_some, m_r17, ite0]
  by_cases h2 : stR (J 2) a b = true
  · obtain ⟨k, s, hk, hs, rfl, rfl⟩ := stR_of hW h2
    have h6 := (hW.2 k hk).1.2.2
    obtain ⟨_, e1, f, rfl, g1⟩ := c_measure (sw := sw) (I := I) (L := L) (fu := fu) pid_P hR hW hk hfu
    obtain ⟨_, e2, f', rfl, g2⟩ := m_lays (J := J) (K := K) (fu := fu) hW hk hfu
    simp only [h2, Bool.true_eq_false, if_false, e1, e2, Option.bind_some, c2_r8 hq, c2_ld8 hq (show s < 6 by omega), m_r17, m_ld5 (show s < 6 by omega), c_answer, c_refuse, m_refuse, m_gives, show pid sw + 1 + 8 = pid sw + 9 from rfl, ur_at]
    rcases ev_ew hW hk hs (g1 s hs) (g2 s hs) with ⟨x1, x2⟩ | ⟨d, hd, x1, x2⟩
    · rw [x1, x2, if_pos rfl, if_pos rfl]
      exact ⟨_, _, _, _, rfl, rfl, scr_C, scr_M (by decide)⟩
    · rw [x1, x2, if_neg (nI_ne_m1 (by omega)), if_neg (fun e => by have := nI_inj (b := 99) (by omega) (by omega) e; omega)]
      exact ⟨_, _, _, _, rfl, rfl, scr_C, scr_M (by decide)⟩
  · have h2 : stR (J 2) a b = false := by simpa using h2
    simp only [h2, if_true, c_refuse, m_refuse, Option.bind_some]
    exact ⟨_, _, I, J, rfl, rfl, fun _ _ => rfl, fun _ _ => rfl⟩
end ToEnd
