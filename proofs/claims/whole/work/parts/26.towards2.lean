section Towards
variable {sw : Bool} {I : Nat → Nat → Int32} {L : Nat → Nat → Int64} {J : Nat → Nat → Int32} {K : Nat → Nat → Int64} {fu : Nat}
theorem m_tow {k n s : Nat} {f g : Nat → Int32} {j8 : Int32 → Option (Int32 × Hp)} (hW : WFK (J 2)) (hk : k < nK (J 2)) (hs : s < nS (J 2) k) (hn : n ≤ 5) (hfu : 6 < fu) (hf : ∀ t, t < nS (J 2) k → EV1 (J 2) k (nS (J 2) k - 1) t (f t)) (hg : ∀ t, t < nS (J 2) k → EW (J 2) k 6 t (g t)) (hb : rb (J 2) k n s = false)
    (he : fnd (mcond (J 2) k s f (nI n)) (nM (J 2) k) 0 ≠ -1) :
    wh1 (MX9_towards_B48 0 (nI k) (nI s) (mkM (ur J 5 g) K) (nI (n + 1)) j8) fu (0 : Int32) = j8 (fnd (mcond (J 2) k s f (nI n)) (nM (J 2) k) 0) := by
  have h4 := hW.1.1.2
  have hw := hW.2 k hk
  have h7 := hw.2.2.1.2
  refine wh1_rule (fun r v => ∃ m, m + r = nM (J 2) k ∧ v = nI m ∧ fnd (mcond (J 2) k s f (nI n)) r m = fnd (mcond (J 2) k s f (nI n)) (nM (J 2) k) 0) ?_ fu (nM (J 2) k) _ (by omega) ⟨0, by omega, rfl, rfl⟩
  rintro r v self ⟨m, hm, rfl, e⟩ ih
  obtain ⟨r, rfl⟩ : ∃ r', r = r' + 1 := by
    cases r with
    | zero => exact absurd e.symm he
    | succ r => exact ⟨r, rfl⟩
  simp only [MX9_towards_B48]
  rw [m_leastOf hW hk (by omega) hs, Option.bind_some]
  have q := least_iff (m := m) hW hk hs (by omega) hn hf hg hb
  have e3 : fnd (mcond (J 2) k s f (nI n)) (r + 1) m = if mcond (J 2) k s f (nI n) m = true then nI m else fnd (mcond (J 2) k s f (nI n)) r (m + 1) := rfl
  by_cases c : mcond (J 2) k s f (nI n) m = true
  · rw [if_pos (q.mpr c), ← e, e3, if_pos c]
  · rw [if_neg (fun h => c (q.mp h))]
    refine ih r _ (by omega) ⟨m + 1, by omega, nI_1 m, ?_⟩
    rw [← e, e3, if_neg c]
theorem sb_towards {a b : Int32} (hW : WFK (J 2)) (hR : CRk (pid sw) I (J 2)) (hfu : 6 < fu) : SB (MX8_towards fu 0 a b (mkC sw I L)) (MX9_towards fu 0 a b (mkM J K)) sw I L J K := by
  have h4 := hW.1.1.2
  have hq := isP_K (pid_P (sw := sw))
  simp only [MX8_towards, MX9_towards, MX2_stepsToEnd, c_hasState pid_P hW hR, m_isState hW, c8_g, m_g, c8_pg, c4_r0 pid_P, c2_g hq, Option.bind_some, m_r17, ite0, jn]
  by_cases h2 : stR (J 2) a b = true
  · obtain ⟨k, s, hk, hs, rfl, rfl⟩ := stR_of hW h2
    have h6 := (hW.2 k hk).1.2.2
    obtain ⟨_, e1, f, rfl, g1⟩ := c_measure (sw := sw) (I := I) (L := L) (fu := fu) pid_P hR hW hk hfu
    obtain ⟨_, e2, f', rfl, g2⟩ := m_lays (J := J) (K := K) (fu := fu) hW hk hfu
    have hR' : CRk (pid sw) (ur I (pid sw + 9) f) (J 2) := CRk_ur (by omega) hR
    simp only [h2, Bool.true_eq_false, if_false, e1, e2, Option.bind_some, c2_r8 hq, c2_ld8 hq (show s < 6 by omega), m_r17, m_ld5 (show s < 6 by omega), c_answer, c_refuse, m_refuse, m_gives, show pid sw + 1 + 8 = pid sw + 9 from rfl, ur_at]
    rcases ev_ew hW hk hs (g1 s hs) (g2 s hs) with ⟨x1, x2⟩ | ⟨d, hd, x1, x2⟩
    · rw [x1, x2, if_pos rfl, if_pos rfl]
      exact ⟨_, _, _, _, rfl, rfl, scr_C, scr_M (by decide)⟩
    · have n99 : ¬ nI d = 99 := fun e => by have := nI_inj (b := 99) (by omega) (by omega) e; omega
      rw [x1, x2, if_neg (nI_ne_m1 (by omega)), if_neg n99]
      cases d with
      | zero =>
        rw [if_pos (show nI 0 = 0 from rfl), if_pos (show nI 0 = 0 from rfl)]
        exact ⟨_, _, _, _, rfl, rfl, scr_C, scr_M (by decide)⟩
      | succ n =>
        have hd2 : n + 1 ≤ nS (J 2) k - 1 ∧ rb (J 2) k (n + 1) s = true ∧ rb (J 2) k n s = false := by
          rcases g1 s hs with ⟨y1, -⟩ | ⟨d, hd, y1, y2, y3⟩
          · rw [x1] at y1; exact absurd y1 (nI_ne_m1 (by omega))
          · rw [x1] at y1
            obtain rfl := nI_inj (by omega) (by omega) y1
            exact ⟨hd, y2, y3 n (by omega)⟩
        have n0 : ¬ nI (n + 1) = 0 := fun e => by have := nI_inj (b := 0) (by omega) (by omega) e; omega
        have ex := mc_ex hW hk hs (by omega) g1 hd2.2.2 hd2.2.1
        have e1 : nI (n + 1) - 1 = nI n := by rw [← nI_1 n]; exact Int32.add_sub_cancel _ _
        rw [if_neg n0, if_neg n0, e1, c_methodTo pid_P hR' hW hk hs hfu, ur_at, Option.bind_some, m_tow hW hk hs (by omega) hfu g1 g2 hd2.2.2 ex]
        exact ⟨_, _, _, _, rfl, rfl, scr_C, scr_M (by decide)⟩
  · have h2 : stR (J 2) a b = false := by simpa using h2
    simp only [h2, if_true, c_refuse, m_refuse, Option.bind_some]
    exact ⟨_, _, I, J, rfl, rfl, fun _ _ => rfl, fun _ _ => rfl⟩
end Towards
