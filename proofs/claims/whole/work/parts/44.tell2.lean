section Tell2
variable {sw : Bool} {I I' : Nat → Nat → Int32} {L : Nat → Nat → Int64} {J : Nat → Nat → Int32} {K : Nat → Nat → Int64} {p fu k m s : Nat} {P P' : Nat → Int32} {y n : Int32}
/-- what comes to stand at the cell: both ways, or the way that is told -/
def bo (P : Nat → Int32) (k m s : Nat) (z t : Int32) : Prop := pSo P k m ≠ 1 ∨ t = -1 ∨ (if z = 0 then pN P k m s else pY P k m s) = -1
theorem Y_N (hW : WFK P) (hk : k < nK P) (hm : m < nM P k) (hs : s < nS P k) : pY P k m s = -1 ↔ pN P k m s = -1 := by
  have h6 := (hW.2 k hk).1.2.2
  rcases ((hW.2 k hk).2.2.2 m hm).2 s hs with h | ⟨a, b, l1, l2, e1, e2, -⟩
  · exact ⟨fun _ => h.2, fun _ => h.1⟩
  · rw [e1, e2]
    exact ⟨fun q => absurd q (nI_ne_m1 (by omega)), fun q => absurd q (nI_ne_m1 (by omega))⟩
theorem wz {z : Int32} (hW : WFK P) (hk : k < nK P) (hm : m < nM P k) (hs : s < nS P k) : (if z = 0 then pN P k m s else pY P k m s) = -1 ↔ pY P k m s = -1 := by
  by_cases c : z = 0
  · rw [if_pos c]; exact (Y_N hW hk hm hs).symm
  · rw [if_neg c]
theorem c_change {z t : Int32} (hp : isP p) (hR : CRk p I P) (hW : WFK P) (hk : k < nK P) (hm : m < nM P k) (hs : s < nS P k) (hy : (bo P k m s z t ∧ y = t ∧ n = t) ∨ (¬ bo P k m s z t ∧ y = (if z = 0 then pY P k m s else t) ∧ n = (if z = 0 then t else pN P k m s))) :
    ∃ I', MX2_change (p + 1) (nI k) (nI m) (nI s) z t (mkC sw I L) = some (mkC sw I' L) ∧ TI p I I' k m s y n := by
  have hq := isP_K hp
  have h4 := hW.1.1.2
  have h6 := (hW.2 k hk).1.2.2
  have h7 := (hW.2 k hk).2.2.1.2
  obtain ⟨r1, r2, -⟩ := (hR.2 k hk).2.2.2 m hm
  simp only [MX2_change, c2_g hq, c2_r5 hq, Option.bind_some, jn, c_sortOf hp (show k < 4 by omega) (show m < 6 by omega), c_canBe hp (show k < 4 by omega) (show m < 6 by omega) (show s < 32 by omega), c_following hp hR hW hk hm hs, r1, r2 s, if_true, if_neg (show ¬ (1 : Int32) = 0 by decide), hs, decide_true, Bool.true_and]
  by_cases ht : t = -1
  · rw [if_pos ht, ix_met, c2_ld5 hq (by omega), Option.bind_some, c2_st5 hq (by omega), Option.bind_some, show p + 1 + 5 = p + 6 from rfl]
    have hb : bo P k m s z t := Or.inr (Or.inl ht)
    rcases hy with ⟨-, rfl, rfl⟩ | ⟨q, -⟩
    · refine ⟨_, rfl, fun b h1 h2 h3 => ur_ne h1, fun j hj => ?_, fun u => ?_, fun j hj => ?_, fun q => absurd ht q⟩
      · rw [ur_at, up_ne hj]
      · rw [ur_at, up_at]
        by_cases h32 : u < 32
        · rw [b_and, b_not h32, b_one (by omega) h32]
          by_cases e : u = s
          · simp [e, ht]
          · simp [e]
        · rw [b_big (by omega), if_neg (by omega), b_big (by omega)]
      · exact ⟨by rw [ur_ne (by omega)], by rw [ur_ne (by omega)]⟩
    · exact absurd hb q
  · rw [if_neg ht]
    have both : bo P k m s z t → ∃ I', ((MX2_allow (p + 1) (nI k) (nI m) (nI s) t t (mkC sw I L)).bind fun h8 => some h8) = some (mkC sw I' L) ∧ TI p I I' k m s y n := by
      intro hb
      rcases hy with ⟨-, e1, e2⟩ | ⟨q, -⟩
      · obtain ⟨I', x1, x2⟩ := c_allow (sw := sw) (I := I) (L := L) (y := t) (n := t) hp (show k < 4 by omega) (show m < 6 by omega) (show s < 6 by omega) ht
        rw [x1, Option.bind_some]
        exact ⟨I', rfl, by rw [e1, e2]; exact x2⟩
      · exact absurd hb q
    by_cases hso : pSo P k m = 1
    · rw [if_pos hso]
      by_cases hyy : pY P k m s = -1
      · rw [if_pos (by simp [hyy])]
        exact both (Or.inr (Or.inr ((wz hW hk hm hs).mpr hyy)))
      · rw [if_neg (by simp [hyy])]
        have nb : ¬ bo P k m s z t := by
          rintro (q | q | q)
          · exact q hso
          · exact ht q
          · exact hyy ((wz hW hk hm hs).mp q)
        rcases hy with ⟨q, -⟩ | ⟨-, e1, e2⟩
        · exact absurd q nb
        · have ne : y ≠ -1 := by
            rw [e1]
            by_cases c : z = 0
            · rw [if_pos c]; exact hyy
            · rw [if_neg c]; exact ht
          obtain ⟨I', x1, x2⟩ := c_allow (sw := sw) (I := I) (L := L) (y := y) (n := n) hp (show k < 4 by omega) (show m < 6 by omega) (show s < 6 by omega) ne
          refine ⟨I', ?_, x2⟩
          by_cases c : z = 0
          · rw [if_pos c] at e1 e2
            rw [if_pos c, if_pos c, ← e1, ← e2, x1, Option.bind_some]
          · rw [if_neg c] at e1 e2
            rw [if_neg c, if_neg c, ← e1, ← e2, x1, Option.bind_some]
    · rw [if_neg hso]
      exact both (Or.inl hso)
theorem c_forget (hfu : 40 < fu) : MX8_forgetAnswers fu 0 (mkC sw I L) = some (mkC sw (ur (ur I 0 (up (up (I 0) 7 0) 8 0)) 227 (fun j => if j < 40 then -1 else I 227 j)) L) := by
  simp only [MX8_forgetAnswers, c8_g, c8_pZ (Or.inl rfl), Option.bind_some, c8_r5, ur_ur, ur_at]
  rw [fillI (N := 40) rfl (by decide) hfu, Option.bind_some, rowI_C]
  rfl
/-- both tell: the program is another one, and what was known is forgotten -/
def ST (x y : Option (Int32 × Hp)) (sw : Bool) (I : Nat → Nat → Int32) (L : Nat → Nat → Int64) (J : Nat → Nat → Int32) (K : Nat → Nat → Int64) : Prop :=
  ∃ r I' P', x = some (r, mkC sw I' L) ∧ y = some (r, mkM (ur (ur J 2 P') 0 (up (J 0) 5 0)) K) ∧ WFK P' ∧ CRk (pid sw) I' P' ∧ (∀ j, j < 3 ∨ 327 ≤ j → P' j = J 2 j) ∧
    (∀ b, b ≠ 0 → b ≠ 227 → (b < pid sw + 6 ∨ pid sw + 8 < b) → I' b = I b) ∧ I' 0 = up (up (up (I 0) 7 0) 8 0) 9 0 ∧ ∀ i, i < 40 → I' 227 i = -1
def TL (x y : Option (Int32 × Hp)) (sw : Bool) (I : Nat → Nat → Int32) (L : Nat → Nat → Int64) (J : Nat → Nat → Int32) (K : Nat → Nat → Int64) : Prop := SA x y sw I L J K ∨ ST x y sw I L J K
theorem st_fin {z t w : Int32} (hW : WFK (J 2)) (hR : CRk (pid sw) I (J 2)) (hk : k < nK (J 2)) (hm : m < nM (J 2) k) (hs : s < nS (J 2) k) (hfu : 40 < fu) (hT : TP (J 2) P' k m s y n)
    (hy : (bo (J 2) k m s z t ∧ y = t ∧ n = t) ∨ (¬ bo (J 2) k m s z t ∧ y = (if z = 0 then pY (J 2) k m s else t) ∧ n = (if z = 0 then t else pN (J 2) k m s)))
    (ht : t = -1 ∨ ∃ a, a < nS (J 2) k ∧ t = nI a) (hl : pSo (J 2) k m = 2 → t = -1 ∨ t = nI s) :
    TL ((MX2_change (pid sw + 1) (nI k) (nI m) (nI s) z t (mkC sw I L)).bind fun h11 => (MX8_forgetAnswers fu 0 h11).bind fun h12 => (MX8_answer 0 w h12).bind fun p13 => some (p13.1, p13.2))
      (some (w, mkM (ur (ur J 2 P') 0 (up (J 0) 5 0)) K)) sw I L J K := by
  have h4 := hW.1.1.2
  have h6 := (hW.2 k hk).1.2.2
  have h7 := (hW.2 k hk).2.2.1.2
  obtain ⟨I', x1, x2⟩ := c_change (sw := sw) (L := L) pid_P hR hW hk hm hs hy
  rw [x1, Option.bind_some, c_forget hfu, Option.bind_some, c_answer, Option.bind_some]
  have hc : (y = -1 ∧ n = -1) ∨ ∃ a b, a < nS (J 2) k ∧ b < nS (J 2) k ∧ y = nI a ∧ n = nI b ∧ (pSo (J 2) k m ≠ 1 → a = b) ∧ (pSo (J 2) k m = 2 → a = s) := by
    rcases hy with ⟨hb, rfl, rfl⟩ | ⟨nb, e1, e2⟩
    · rcases ht with ht | ⟨a, ha, rfl⟩
      · exact Or.inl ⟨ht, ht⟩
      · refine Or.inr ⟨a, a, ha, ha, rfl, rfl, fun _ => rfl, fun q => ?_⟩
        rcases hl q with q | q
        · exact absurd q (nI_ne_m1 (by omega))
        · exact nI_inj (by omega) (by omega) q
    · have hso : pSo (J 2) k m = 1 := Classical.byContradiction (fun q => nb (Or.inl q))
      have hyy : pY (J 2) k m s ≠ -1 := fun q => nb (Or.inr (Or.inr ((wz hW hk hm hs).mpr q)))
      have h2 : ¬ pSo (J 2) k m = 2 := by rw [hso]; decide
      obtain ⟨a1, b1, l1, l2, e3, e4, -⟩ := tr_of hW hk hm hs hyy
      rcases ht with ht | ⟨a, ha, rfl⟩
      · exact absurd (Or.inr (Or.inl ht)) nb
      · rw [e3, e4] at *
        by_cases c : z = 0
        · rw [if_pos c] at e1 e2
          exact Or.inr ⟨a1, a, l1, ha, e1, e2, fun q => absurd hso q, fun q => absurd q h2⟩
        · rw [if_neg c] at e1 e2
          exact Or.inr ⟨a, b1, ha, l2, e1, e2, fun q => absurd hso q, fun q => absurd q h2⟩
  have big : ∀ d, 1 ≤ d → d ≤ 8 → (ur (ur (ur I' 0 (up (up (I' 0) 7 0) 8 0)) 227 (fun j => if j < 40 then -1 else I' 227 j)) 0 (up ((ur (ur I' 0 (up (up (I' 0) 7 0) 8 0)) 227 (fun j => if j < 40 then -1 else I' 227 j)) 0) 9 0)) (pid sw + d) = I' (pid sw + d) := by
    intro d h1 h2
    rw [ur_ne (by omega), ur_ne (by rcases (pid_P (sw := sw)) with h | h <;> rw [h] <;> omega), ur_ne (by omega)]
  have hR2 := CRk_tell hW hR hk hm hs hT x2
  have i0 : I' 0 = I 0 := x2.1 0 (by omega) (by omega) (by omega)
  refine Or.inr ⟨w, _, P', rfl, rfl, WFK_tell hW hk hm hs hT hc, ?_, fun j hj => TP_lo (by omega) (by omega) (by omega) hT (by omega), fun b b1 b2 b3 => ?_, ?_, fun i hi => ?_⟩
  · unfold CRk CRm at hR2 ⊢
    rw [big 1 (by decide) (by decide), big 2 (by decide) (by decide), big 3 (by decide) (by decide), big 4 (by decide) (by decide), big 5 (by decide) (by decide), big 6 (by decide) (by decide), big 7 (by decide) (by decide), big 8 (by decide) (by decide)]
    exact hR2
  · rw [ur_ne b1, ur_ne b2, ur_ne b1]
    exact x2.1 b (by omega) (by omega) (by omega)
  · rw [ur_at, ur_ne (by decide), ur_at, i0]
  · rw [ur_ne (by decide), ur_at, if_pos hi]
theorem ix_cel {c a s : Nat} {x : Int32} (hx : x = nI c) : x + (6 : Int32) * nI a + nI s = nI (c + 6 * a + s) := by
  rw [hx, show (6 : Int32) = nI 6 from rfl, pk_mul, nI_add, nI_add]
theorem TP_both {t : Int32} (hk : k < 4) (hm : m < 6) (hs : s < 6) : TP P (up (up P (39 + 6 * (6 * k + m) + s) t) (183 + 6 * (6 * k + m) + s) t) k m s t t :=
  ⟨by rw [up_ne (by omega), up_at], by rw [up_at], fun j h1 h2 => by rw [up_ne h2, up_ne h1]⟩
theorem TP_y {t : Int32} (hk : k < 4) (hm : m < 6) (hs : s < 6) : TP P (up P (39 + 6 * (6 * k + m) + s) t) k m s t (pN P k m s) :=
  ⟨by rw [up_at], by rw [up_ne (by omega)], fun j h1 h2 => by rw [up_ne h1]⟩
theorem TP_n {t : Int32} (hk : k < 4) (hm : m < 6) (hs : s < 6) : TP P (up P (183 + 6 * (6 * k + m) + s) t) k m s (pY P k m s) t :=
  ⟨by rw [up_ne (by omega)], by rw [up_at], fun j h1 h2 => by rw [up_ne h2]⟩
theorem tl_tell {a b c z t : Int32} (hW : WFK (J 2)) (hR : CRk (pid sw) I (J 2)) (hfu : 40 < fu) : TL (MX8_tell fu 0 a b c z t (mkC sw I L)) (MX9_tell 0 a b c z t (mkM J K)) sw I L J K := by
  have h4 := hW.1.1.2
  simp only [MX8_tell, MX9_tell, c_hasMethod pid_P hW hR, c_hasState pid_P hW hR, m_isMethod hW, m_isState hW, c8_g, m_g, c8_pg, c4_r0 pid_P, Option.bind_some, c_refuse, m_refuse, m_r1, ite0]
  by_cases h1 : (-1 : Int32) ≤ t
  · rw [if_pos h1, if_pos h1]
    by_cases h : mtR (J 2) a b = true
    · by_cases h2 : stR (J 2) a c = true
      · obtain ⟨k, m, hk, hm, rfl, rfl⟩ := mtR_of hW h
        obtain ⟨k2, s, hk2, hs, e, rfl⟩ := stR_of hW h2
        obtain rfl : k = k2 := (nI_eq (by omega) (by omega)).mp e
        have h7 := (hW.2 k hk).2.2.1.2
        have h6 := (hW.2 k hk).1.2.2
        obtain ⟨r1, r2, -⟩ := (hR.2 k hk).2.2.2 m hm
        simp only [jn, h, h2, Bool.true_eq_false, if_false, c_following pid_P hR hW hk hm hs, c_sortOf pid_P (show k < 4 by omega) (show m < 6 by omega), r1, m_yes (J := J) (K := K) (show k < 4 by omega) (show m < 6 by omega) (show s < 6 by omega), m_no (J := J) (K := K) (show k < 4 by omega) (show m < 6 by omega) (show s < 6 by omega), MX9_cell, MX9_methodAt, ix_66, Option.bind_some, if_true, if_neg (show ¬ (1 : Int32) = 0 by decide)]
        rw [ix_c (show (15 : Int32) = nI 15 from rfl), m_ld2 (by omega), show 15 + (6 * k + m) = 15 + 6 * k + m by omega]
        simp only [Option.bind_some]
        have k4 : k < 4 := by omega
        have m6 : m < 6 := by omega
        have s6 : s < 6 := by omega
        have e0 : ∀ f : Nat → Int32, ur J 2 f 0 = J 0 := fun f => ur_ne (by decide)
        simp only [ix_cel (show (39 : Int32) = nI 39 from rfl), ix_cel (show (183 : Int32) = nI 183 from rfl), m_st2 (k := 39 + 6 * (6 * k + m) + s) (show _ < 573 by omega), m_st2 (k := 183 + 6 * (6 * k + m) + s) (show _ < 573 by omega), Option.bind_some, m_r1, ur_ur, ur_at, m_gives, e0]
        by_cases ht : t = -1 ∨ stR (J 2) (nI k) t = true
        · have ht2 : t = -1 ∨ ∃ a, a < nS (J 2) k ∧ t = nI a := by
            rcases ht with h | h
            · exact Or.inl h
            · obtain ⟨k3, a, h3, h5, e5, e6⟩ := stR_of hW h
              obtain rfl : k = k3 := (nI_eq (by omega) (by omega)).mp e5
              exact Or.inr ⟨a, h5, e6⟩
          have fin := fun (w : Int32) (P' : Nat → Int32) (y n : Int32) (hT : TP (J 2) P' k m s y n) hy hl => st_fin (sw := sw) (L := L) (K := K) (z := z) (t := t) (w := w) hW hR hk hm hs hfu hT hy ht2 hl
          have strip : ∀ (A B C D : Option (Int32 × Hp)), TL A B sw I L J K → TL (if t = -1 then A else if stR (J 2) (nI k) t = false then C else A) (if t = -1 then B else if stR (J 2) (nI k) t = false then D else B) sw I L J K := by
            intro A B C D h
            by_cases q : t = -1
            · rw [if_pos q, if_pos q]; exact h
            · have : stR (J 2) (nI k) t = true := by rcases ht with h | h; exact absurd h q; exact h
              rw [if_neg q, if_neg q, this, if_neg (by decide), if_neg (by decide)]; exact h
          refine strip _ _ _ _ ?_
          by_cases z0 : z = 0
          · simp only [z0, if_true]
            by_cases hw : pN (J 2) k m s = t
            · rw [if_pos hw, if_pos hw]; exact Or.inl ⟨_, _, rfl, rfl⟩
            · rw [if_neg hw, if_neg hw]
              subst z0
              by_cases so2 : pSo (J 2) k m = 2
              · have n1 : ¬ pSo (J 2) k m = 1 := by rw [so2]; decide
                have hb : bo (J 2) k m s 0 t := Or.inl n1
                rw [if_pos so2, if_pos so2]
                simp only [if_neg n1]
                by_cases t1 : t = -1
                · rw [if_pos t1, if_pos t1]
                  exact fin _ _ _ _ (TP_both k4 m6 s6) (Or.inl ⟨hb, rfl, rfl⟩) (fun _ => Or.inl t1)
                · rw [if_neg t1, if_neg t1]
                  by_cases ts : t = nI s
                  · rw [if_pos ts, if_pos ts]
                    exact fin _ _ _ _ (TP_both k4 m6 s6) (Or.inl ⟨hb, rfl, rfl⟩) (fun _ => Or.inr ts)
                  · rw [if_neg ts, if_neg ts]; exact Or.inl ⟨_, _, rfl, rfl⟩
              · rw [if_neg so2, if_neg so2]
                by_cases so1 : pSo (J 2) k m = 1
                · rw [if_pos so1]
                  by_cases t1 : t = -1
                  · rw [if_pos t1]
                    exact fin _ _ _ _ (TP_both k4 m6 s6) (Or.inl ⟨Or.inr (Or.inl t1), rfl, rfl⟩) (fun q => absurd q so2)
                  · rw [if_neg t1]
                    by_cases w1 : pN (J 2) k m s = -1
                    · rw [if_pos w1]
                      exact fin _ _ _ _ (TP_both k4 m6 s6) (Or.inl ⟨Or.inr (Or.inr (by rw [if_pos rfl]; exact w1)), rfl, rfl⟩) (fun q => absurd q so2)
                    · rw [if_neg w1]
                      refine fin _ _ _ _ (TP_n k4 m6 s6) (Or.inr ⟨?_, by rw [if_pos rfl], by rw [if_pos rfl]⟩) (fun q => absurd q so2)
                      rintro (q | q | q)
                      · exact q so1
                      · exact t1 q
                      · rw [if_pos rfl] at q; exact w1 q
                · rw [if_neg so1]
                  exact fin _ _ _ _ (TP_both k4 m6 s6) (Or.inl ⟨Or.inl so1, rfl, rfl⟩) (fun q => absurd q so2)
          · simp only [z0, if_false]
            by_cases hw : pY (J 2) k m s = t
            · rw [if_pos hw, if_pos hw]; exact Or.inl ⟨_, _, rfl, rfl⟩
            · rw [if_neg hw, if_neg hw]
              by_cases so2 : pSo (J 2) k m = 2
              · have n1 : ¬ pSo (J 2) k m = 1 := by rw [so2]; decide
                have hb : bo (J 2) k m s z t := Or.inl n1
                rw [if_pos so2, if_pos so2]
                simp only [if_neg n1]
                by_cases t1 : t = -1
                · rw [if_pos t1, if_pos t1]
                  exact fin _ _ _ _ (TP_both k4 m6 s6) (Or.inl ⟨hb, rfl, rfl⟩) (fun _ => Or.inl t1)
                · rw [if_neg t1, if_neg t1]
                  by_cases ts : t = nI s
                  · rw [if_pos ts, if_pos ts]
                    exact fin _ _ _ _ (TP_both k4 m6 s6) (Or.inl ⟨hb, rfl, rfl⟩) (fun _ => Or.inr ts)
                  · rw [if_neg ts, if_neg ts]; exact Or.inl ⟨_, _, rfl, rfl⟩
              · rw [if_neg so2, if_neg so2]
                by_cases so1 : pSo (J 2) k m = 1
                · rw [if_pos so1]
                  by_cases t1 : t = -1
                  · rw [if_pos t1]
                    exact fin _ _ _ _ (TP_both k4 m6 s6) (Or.inl ⟨Or.inr (Or.inl t1), rfl, rfl⟩) (fun q => absurd q so2)
                  · rw [if_neg t1]
                    by_cases w1 : pY (J 2) k m s = -1
                    · rw [if_pos w1]
                      exact fin _ _ _ _ (TP_both k4 m6 s6) (Or.inl ⟨Or.inr (Or.inr (by rw [if_neg z0]; exact w1)), rfl, rfl⟩) (fun q => absurd q so2)
                    · rw [if_neg w1]
                      refine fin _ _ _ _ (TP_y k4 m6 s6) (Or.inr ⟨?_, by rw [if_neg z0], by rw [if_neg z0]⟩) (fun q => absurd q so2)
                      rintro (q | q | q)
                      · exact q so1
                      · exact t1 q
                      · rw [if_neg z0] at q; exact w1 q
                · rw [if_neg so1]
                  exact fin _ _ _ _ (TP_both k4 m6 s6) (Or.inl ⟨Or.inl so1, rfl, rfl⟩) (fun q => absurd q so2)
        · have t1 : ¬ t = -1 := fun q => ht (Or.inl q)
          have t2 : stR (J 2) (nI k) t = false := by
            cases q : stR (J 2) (nI k) t
            · rfl
            · exact absurd (Or.inr q) ht
          have strip : ∀ (A B A' B' C D : Option (Int32 × Hp)), TL C D sw I L J K → TL (if t = -1 then A else if stR (J 2) (nI k) t = false then C else A') (if t = -1 then B else if stR (J 2) (nI k) t = false then D else B') sw I L J K := by
            intro A B A' B' C D h
            rw [if_neg t1, if_neg t1, if_pos t2, if_pos t2]
            exact h
          exact strip _ _ _ _ _ _ (Or.inl ⟨_, _, rfl, rfl⟩)
      · have h2 : stR (J 2) a c = false := by simpa using h2
        simp only [jn, h, h2, Bool.true_eq_false, if_false, if_true]
        exact Or.inl ⟨_, _, rfl, rfl⟩
    · have h : mtR (J 2) a b = false := by simpa using h
      simp only [jn, h, if_true]
      exact Or.inl ⟨_, _, rfl, rfl⟩
  · rw [if_neg h1, if_neg h1]
    exact Or.inl ⟨_, _, rfl, rfl⟩
end Tell2
