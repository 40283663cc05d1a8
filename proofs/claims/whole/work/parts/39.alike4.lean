section Alike4
variable {sw : Bool} {I : Nat → Nat → Int32} {L : Nat → Nat → Int64} {J : Nat → Nat → Int32} {K : Nat → Nat → Int64} {p fu : Nat} {P : Nat → Int32}
def RM (f : Nat → Int32) (s o : Nat) : Bool := decide (s < 6) && decide (o < 6) && decide (f (6 * s + o) = 0)
theorem RM_lt {f : Nat → Int32} {s o : Nat} (hs : s < 6) (ho : o < 6) : (RM f s o = true ↔ f (6 * s + o) = 0) := by simp [RM, hs, ho]
theorem RM_SE {k a b : Nat} {f : Nat → Int32} (hW : WFK P) (hk : k < nK P) (ha : a < nS P k) (hb : b < nS P k) : SE P k (fun s o => f (6 * s + o) = 0) a b ↔ SE P k (fun s o => RM f s o = true) a b := by
  have h6 := (hW.2 k hk).1.2.2
  constructor
  · exact SE_mono hW hk ha hb (fun a b ha hb q => (RM_lt (by omega) (by omega)).mpr q)
  · exact SE_mono hW hk ha hb (fun a b ha hb q => (RM_lt (by omega) (by omega)).mp q)
theorem m_part1 {k i : Nat} {f0 f : Nat → Int32} {z : Int32} {Q : Int32 × Hp → Prop} {j28 : Int32 → Hp → Option (Int32 × Hp)} (hW : WFK (J 2)) (hk : k < nK (J 2)) (hi : i < nS (J 2) k) (hfu : 6 < fu) (h0 : SW (J 2) k (RM f0) (RM f) z i 0)
    (hj : ∀ f' z', SW (J 2) k (RM f0) (RM f') z' i (nS (J 2) k) → WP (j28 z' (mkM (ur J 6 f') K)) Q) :
    WP (wh3 (MX9_alike_B78 fu 0 (nI k) j28 (nI i)) fu z (0 : Int32) (mkM (ur J 6 f) K)) Q := by
  have h4 := hW.1.1.2
  have hw := hW.2 k hk
  have h6 := hw.1.2.2
  refine wh3_wp (fun r z v h => ∃ j f', j + r = nS (J 2) k ∧ v = nI j ∧ h = mkM (ur J 6 f') K ∧ SW (J 2) k (RM f0) (RM f') z i j) ?_ fu (nS (J 2) k) _ _ _ (by omega) ⟨0, f, by omega, rfl, rfl, h0⟩
  rintro r z v h self ⟨j, f, hj2, rfl, rfl, g⟩ ih
  have e2 : ur J 6 f 2 = J 2 := ur_ne (by decide)
  have e6 : ur J 6 f 6 = f := ur_at
  simp only [MX9_alike_B78, m_r1, m_r18, Option.bind_some, jn, ix_66]
  rw [ix_c (show (3 : Int32) = nI 3 from rfl), m_ld2 (by omega), Option.bind_some, e2, hw.1.1]
  by_cases hr : r = 0
  · subst hr
    rw [if_pos (nI_le (by omega) (by omega))]
    have e : j = nS (J 2) k := by omega
    rw [e] at g
    exact hj f z g
  · have hj3 : j < nS (J 2) k := by omega
    rw [if_neg (nI_ge (by omega) (by omega)), m_ld6 (by omega), Option.bind_some, e6]
    by_cases hb : f (6 * i + j) = 0
    · rw [if_pos hb]
      obtain ⟨x, x1, x2⟩ := m_differ (J := ur J 6 f) (K := K) (k := k) (a := i) (b := j) (fu := fu) (by rw [e2]; exact hW) (by rw [e2]; exact hk) (by rw [e2]; exact hi) (by rw [e2]; exact hj3) hfu
      rw [x1, Option.bind_some]
      rw [e2, e6, RM_SE hW hk hi hj3] at x2
      have hb2 : RM f i j = true := (RM_lt (by omega) (by omega)).mpr hb
      rcases x2 with ⟨rfl, x2⟩ | ⟨rfl, x2⟩
      · rw [if_pos rfl]
        exact ih (r - 1) _ _ _ (by omega) ⟨j + 1, f, by omega, nI_1 j, rfl, SW_keep g (fun _ => x2)⟩
      · rw [if_neg (by decide), m_st6 (by omega) (Or.inr rfl), Option.bind_some, ur_ur, e6]
        have bd : ∀ s o, RM (up f (6 * i + j) 1) s o = (RM f s o && !decide (s = i ∧ o = j)) := by
          intro s o
          by_cases hs : s < 6
          · by_cases ho : o < 6
            · by_cases e : s = i ∧ o = j
              · obtain ⟨rfl, rfl⟩ := e
                simp [RM, hs, ho, up]
              · have e3 : up f (6 * i + j) 1 (6 * s + o) = f (6 * s + o) := if_neg (by omega)
                simp [RM, hs, ho, e3, e]
            · simp [RM, ho]
          · simp [RM, hs]
        refine ih (r - 1) _ _ _ (by omega) ⟨j + 1, _, by omega, nI_1 j, rfl, SW_part hW hk hi hj3 g hb2 x2 (fun s o _ _ => bd s o) ?_⟩
        intro s o
        rw [bd, Bool.and_eq_true]
        exact fun q => q.1
    · rw [if_neg hb]
      exact ih (r - 1) _ _ _ (by omega) ⟨j + 1, f, by omega, nI_1 j, rfl, SW_keep g (fun q => absurd ((RM_lt (by omega) (by omega)).mp q) hb)⟩
theorem m_part {k : Nat} {f0 : Nat → Int32} {Q : Int32 × Hp → Prop} {j19 : Int32 → Hp → Option (Int32 × Hp)} (hW : WFK (J 2)) (hk : k < nK (J 2)) (hfu : 6 < fu) (h0 : ∀ s o, s < nS (J 2) k → o < nS (J 2) k → Al (J 2) k s o → RM f0 s o = true)
    (hj : ∀ f z, SW (J 2) k (RM f0) (RM f) z (nS (J 2) k) 0 → WP (j19 z (mkM (ur J 6 f) K)) Q) :
    WP (wh3 (MX9_alike_B62 fu 0 (nI k) j19) fu (0 : Int32) (0 : Int32) (mkM (ur J 6 f0) K)) Q := by
  have h4 := hW.1.1.2
  have hw := hW.2 k hk
  have h6 := hw.1.2.2
  refine wh3_wp (fun r z v h => ∃ i f, i + r = nS (J 2) k ∧ v = nI i ∧ h = mkM (ur J 6 f) K ∧ SW (J 2) k (RM f0) (RM f) z i 0) ?_ fu (nS (J 2) k) _ _ _ (by omega) ⟨0, f0, by omega, rfl, rfl, SW_0 h0⟩
  rintro r z v h self ⟨i, f, hi, rfl, rfl, g⟩ ih
  have e2 : ur J 6 f 2 = J 2 := ur_ne (by decide)
  simp only [MX9_alike_B62, m_r1, Option.bind_some, jn]
  rw [ix_c (show (3 : Int32) = nI 3 from rfl), m_ld2 (by omega), Option.bind_some, e2, hw.1.1]
  by_cases hr : r = 0
  · subst hr
    rw [if_pos (nI_le (by omega) (by omega))]
    have e : i = nS (J 2) k := by omega
    rw [e] at g
    exact hj f z g
  · rw [if_neg (nI_ge (by omega) (by omega))]
    exact m_part1 hW hk (by omega) hfu g (fun f' z' g' => ih (r - 1) _ _ _ (by omega) ⟨i + 1, f', by omega, nI_1 i, rfl, SW_row g'⟩)
theorem m_alike {k a b : Nat} {Q : Int32 × Hp → Prop} {j8 : Hp → Option (Int32 × Hp)} (hW : WFK (J 2)) (hk : k < nK (J 2)) (ha : a < nS (J 2) k) (hb : b < nS (J 2) k) (hfu : 38 < fu)
    (hj : ∀ f, (f (6 * a + b) = 0 ↔ Al (J 2) k a b) → WP (j8 (mkM (ur J 6 f) K)) Q) :
    WP (wh2 (MX9_alike_B27 (fun h5 => wh2 (MX9_alike_B51 fu j8 0 (nI k)) fu (1 : Int32) h5) 0) fu (0 : Int32) (mkM J K)) Q := by
  have h4 := hW.1.1.2
  have hw := hW.2 k hk
  have h6 := hw.1.2.2
  refine wh2_wp (fun r v h => ∃ i f, i + r = 36 ∧ v = nI i ∧ h = mkM (ur J 6 f) K ∧ ∀ s, s < i → f s = 0) ?_ fu 36 _ _ (by omega) ⟨0, J 6, by omega, rfl, by rw [ur_self], fun s h => by omega⟩
  rintro r v h self ⟨i, f, hi, rfl, rfl, g⟩ ih
  simp only [MX9_alike_B27, m_r18, Option.bind_some, jn]
  by_cases hr : r = 0
  · subst hr
    rw [show (36 : Int32) = nI 36 from rfl, if_pos (nI_le (by omega) (by omega))]
    clear ih
    refine wh2_wp (fun r z h => ∃ f, h = mkM (ur J 6 f) K ∧ (∀ s o, s < nS (J 2) k → o < nS (J 2) k → Al (J 2) k s o → RM f s o = true) ∧ ((z = 0 ∧ ∀ s o, s < nS (J 2) k → o < nS (J 2) k → (RM f s o = true ↔ Al (J 2) k s o)) ∨ (z = 1 ∧ pc (RM f) + 1 ≤ r))) ?_ fu 37 _ _ (by omega) ⟨f, rfl, fun s o hs ho _ => (RM_lt (by omega) (by omega)).mpr (g _ (by omega)), Or.inr ⟨rfl, by have := pc_le (RM f); omega⟩⟩
    rintro r z h self ⟨f, rfl, g1, g2⟩ ih
    simp only [MX9_alike_B51, jn]
    rcases g2 with ⟨rfl, g2⟩ | ⟨rfl, g2⟩
    · rw [if_pos rfl]
      exact hj f ((RM_lt (by omega) (by omega)).symm.trans (g2 a b ha hb))
    · rw [if_neg (by decide)]
      refine m_part hW hk (by omega) g1 (fun f' x x3 => ?_)
      rcases x3.2.2.1 with ⟨z0, -⟩ | ⟨z1, q⟩
      · obtain rfl : x = 0 := z0
        exact ih (r - 1) _ _ (by omega) ⟨f', rfl, x3.1, Or.inl ⟨rfl, SW_end x3⟩⟩
      · obtain rfl : x = 1 := z1
        exact ih (r - 1) _ _ (by omega) ⟨f', rfl, x3.1, Or.inr ⟨rfl, by omega⟩⟩
  · rw [show (36 : Int32) = nI 36 from rfl, if_neg (nI_ge (by omega) (by omega)), m_st6 (by omega) (Or.inl rfl), Option.bind_some, ur_ur, ur_at]
    refine ih (r - 1) _ _ (by omega) ⟨i + 1, _, by omega, nI_1 i, rfl, fun s hs => ?_⟩
    unfold up
    by_cases e : s = i
    · rw [if_pos e]
    · rw [if_neg e]
      exact g s (by omega)
theorem scr_C2 {d : Nat} {f : Nat → Int32} (hd : 9 ≤ d ∧ d ≤ 12) : ∀ b, ¬ scC b → ur I (pid sw + d) f b = I b := by
  intro b hb
  refine ur_ne ?_
  intro e
  apply hb
  unfold scC
  rcases (pid_P (sw := sw)) with h | h <;> rw [h] at e <;> omega
theorem sb_alike {a b c : Int32} (hW : WFK (J 2)) (hR : CRk (pid sw) I (J 2)) (hfu : 38 < fu) : SB (MX8_alike fu 0 a b c (mkC sw I L)) (MX9_alike fu 0 a b c (mkM J K)) sw I L J K := by
  have h4 := hW.1.1.2
  have hq := isP_K (pid_P (sw := sw))
  simp only [MX8_alike, MX9_alike, c_hasState pid_P hW hR, m_isState hW, c8_g, m_g, c8_pg, c4_r0 pid_P, Option.bind_some, ite0, jn, c_refuse, m_refuse]
  by_cases h2 : stR (J 2) a b = true
  · by_cases h3 : stR (J 2) a c = true
    · obtain ⟨k, s, hk, hs, rfl, rfl⟩ := stR_of hW h2
      obtain ⟨k2, o, hk2, ho, e, rfl⟩ := stR_of hW h3
      obtain rfl : k = k2 := (nI_eq (by omega) (by omega)).mp e
      have h6 := (hW.2 k hk).1.2.2
      simp only [h2, h3, Bool.true_eq_false, if_false]
      obtain ⟨⟨x, _⟩, x1, f, rfl, x3⟩ := c_alike (sw := sw) (I := I) (L := L) (fu := fu) pid_P hR hW hk hs ho hfu
      rw [x1, Option.bind_some]
      obtain ⟨y, y1, f', y2⟩ : WP (wh2 (MX9_alike_B27 (fun h5 => wh2 (MX9_alike_B51 fu (fun h7 => (h_fR 9 h7 0 18).bind fun x9 => (h_ldZ h7 x9 (((6 : Int32) * nI s) + nI o)).bind fun x10 => if x10 = 0 then (MX9_gives 0 1 h7).bind fun p13 => some (p13.1, p13.2) else (MX9_gives 0 0 h7).bind fun p13 => some (p13.1, p13.2)) 0 (nI k)) fu (1 : Int32) h5) 0) fu (0 : Int32) (mkM J K)) (fun y => ∃ f, y = (x, mkM (ur (ur J 6 f) 0 (up ((ur J 6 f) 0) 5 0)) K)) := by
        refine m_alike hW hk hs ho hfu (fun f hf => ?_)
        rw [m_r18, Option.bind_some, ix_66, m_ld6 (by omega), Option.bind_some, ur_at]
        rcases x3 with ⟨e, x3⟩ | ⟨e, x3⟩
        · obtain rfl : x = 1 := e
          rw [if_pos (hf.mpr x3), m_gives, Option.bind_some]
          exact WP_some ⟨f, rfl⟩
        · obtain rfl : x = 0 := e
          rw [if_neg (fun q => x3 (hf.mp q)), m_gives, Option.bind_some]
          exact WP_some ⟨f, rfl⟩
      rw [y1, y2]
      have fin : ∀ v : Int32, x = v → SB ((MX8_answer 0 v (x, mkC sw (ur I (pid sw + 10) f) L).2).bind fun p2 => some (p2.1, p2.2)) (some (x, mkM (ur (ur J 6 f') 0 (up ((ur J 6 f') 0) 5 0)) K)) sw I L J K := by
        rintro v rfl
        rw [c_answer, Option.bind_some]
        exact ⟨_, _, _, _, rfl, rfl, scr_C2 (by decide), scr_M (by decide)⟩
      rcases x3 with ⟨e, x3⟩ | ⟨e, x3⟩
      · obtain rfl : x = 1 := e
        rw [if_neg (show ¬ (1 : Int32) = 0 by decide)]
        exact fin 1 rfl
      · obtain rfl : x = 0 := e
        rw [if_pos rfl]
        exact fin 0 rfl
    · have h3 : stR (J 2) a c = false := by simpa using h3
      simp only [h2, h3, Bool.true_eq_false, if_false, if_true]
      exact ⟨_, _, I, J, rfl, rfl, fun _ _ => rfl, fun _ _ => rfl⟩
  · have h2 : stR (J 2) a b = false := by simpa using h2
    simp only [h2, if_true]
    exact ⟨_, _, I, J, rfl, rfl, fun _ _ => rfl, fun _ _ => rfl⟩
end Alike4
