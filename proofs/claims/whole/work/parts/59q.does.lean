/-- what is left behind by a statement -/
def lft (P : Nat → Int32) (i : Nat) (X l : Nat → Int32) : Nat → Int32 := if nN (P (333 + i)) = 5 ∧ X (18 + nN (P (373 + i))) = 0 then up l (vK P (nN (P (373 + i)))) (l (vK P (nN (P (373 + i)))) ||| X (6 + nN (P (373 + i)))) else l
theorem up_self {α : Type} {f : Nat → α} {k : Nat} : up f k (f k) = f := by funext j; unfold up; split; rename_i q; rw [q]; rfl
theorem CF_S {P T M S S' X : Nat → Int32} (h : CF P T M S X) (e : ∀ o, o < 6 → S' o = S o) : CF P T M S' X := by
  refine ⟨fun u hu => by rw [e u hu]; exact h.1 u hu, h.2.1, h.2.2.1, h.2.2.2.1, fun u w hu hw q1 q2 => by rw [e u hu, e w hw]; exact h.2.2.2.2 u w hu hw q1 q2⟩
section Does
variable {J J' : Nat → Nat → Int32} {K : Nat → Nat → Int64} {fu i v : Nat} {D : Nat → Nat} {X : Nat → Int32}
theorem m_isAlone (hv : v < 6) (hfu : 6 < fu) : ∃ r, MX9_isAlone fu 0 (nI v) (mkM J K) = some r ∧ ((r = 1 ∧ ∀ w, w < 6 → w ≠ v → J 19 w ≠ J 19 v) ∨ (r = 0 ∧ ¬ ∀ w, w < 6 → w ≠ v → J 19 w ≠ J 19 v)) := by
  have main : WP (MX9_isAlone fu 0 (nI v) (mkM J K)) (fun r => (r = 1 ∧ ∀ w, w < 6 → w ≠ v → J 19 w ≠ J 19 v) ∨ (r = 0 ∧ ¬ ∀ w, w < 6 → w ≠ v → J 19 w ≠ J 19 v)) := by
    simp only [MX9_isAlone, m_g]
    refine wh1_wp (fun r n => ∃ u, u + r = 6 ∧ n = nI u ∧ ∀ w, w < u → w ≠ v → J 19 w ≠ J 19 v) ?_ fu 6 _ (by omega) ⟨0, by omega, rfl, fun w h => by omega⟩
    rintro r n self ⟨u, hu, rfl, q⟩ ih
    simp only [MX9_isAlone_B2, m_r35, Option.bind_some, jn]
    rw [show (6 : Int32) = nI 6 from rfl]
    by_cases hr : r = 0
    · subst hr
      rw [if_pos (nI_le (by omega) (by omega))]
      exact WP_some (Or.inl ⟨rfl, fun w hw => q w (by omega)⟩)
    · rw [if_neg (nI_ge (by omega) (by omega))]
      by_cases c : u = v
      · rw [if_pos (by rw [c])]
        refine ih (r - 1) _ (by omega) ⟨u + 1, by omega, nI_1 u, fun w hw ne => ?_⟩
        exact q w (by omega) ne
      · rw [if_neg (fun z => c (nI_inj (by omega) (by omega) z)), m_ld19 (by omega), Option.bind_some, m_ld19 (by omega), Option.bind_some]
        by_cases d : J 19 u = J 19 v
        · rw [if_pos d]
          exact WP_some (Or.inr ⟨rfl, fun z => z u (by omega) c d⟩)
        · rw [if_neg d]
          refine ih (r - 1) _ (by omega) ⟨u + 1, by omega, nI_1 u, fun w hw ne => ?_⟩
          by_cases e : w = u
          · rw [e]; exact d
          · exact q w (by omega) ne
  obtain ⟨r, e, q⟩ := main
  exact ⟨r, e, q⟩
def lt3 (J : Nat → Nat → Int32) (v : Nat) : Nat → Nat → Int32 := ur (ur (ur J 19 (up (J 19) v (-1))) 20 (up (J 20) v 0)) 21 (up (J 21) v 0)
theorem m_lets (hv : v < 6) : MX9_lets 0 (nI v) (mkM J K) = some (mkM (lt3 J v) K) := by
  simp only [MX9_lets, m_g, m_r35, Option.bind_some]
  rw [m_st19 hv, Option.bind_some, m_r36, Option.bind_some, m_st20 hv, Option.bind_some, m_r37, Option.bind_some, m_st21 hv, Option.bind_some]
  unfold lt3
  rw [ur_ne (show (20 : Nat) ≠ 19 by decide), ur_ne (show (21 : Nat) ≠ 20 by decide), ur_ne (show (21 : Nat) ≠ 19 by decide)]
theorem lt3_19 : lt3 J v 19 = up (J 19) v (-1) := by unfold lt3; rw [ur_ne (by decide), ur_ne (by decide), ur_at]
theorem lt3_20 : lt3 J v 20 = up (J 20) v 0 := by unfold lt3; rw [ur_ne (by decide), ur_at]
theorem lt3_21 : lt3 J v 21 = up (J 21) v 0 := by unfold lt3; rw [ur_at]
theorem lt3_o {b : Nat} (hb : b < 19 ∨ 21 < b) : lt3 J v b = J b := by unfold lt3; rw [ur_ne (by omega), ur_ne (by omega), ur_ne (by omega)]
/-- what does() gives -/
def TT (J J' : Nat → Nat → Int32) (i : Nat) (fr : Int32) : Prop := ∀ v, v < 6 → J' 19 v = -1 ∨ (nN (J 2 (333 + i)) = 0 ∧ J' 19 v = fr) ∨ ∃ w, w < 6 ∧ J' 19 v = J 19 w
theorem TT_0 {fr : Int32} (e : J' 19 = J 19) : TT J J' i fr := fun v hv => Or.inr (Or.inr ⟨v, hv, by rw [e]⟩)
theorem TT_1 {fr x : Int32} {a : Nat} (e : J' 19 = up (J 19) a x) (hx : x = -1 ∨ (nN (J 2 (333 + i)) = 0 ∧ x = fr) ∨ ∃ w, w < 6 ∧ x = J 19 w) : TT J J' i fr := by
  intro v hv
  rw [e]
  by_cases c : v = a
  · rw [c, up_at]; exact hx
  · rw [up_ne c]; exact Or.inr (Or.inr ⟨v, hv, rfl⟩)
theorem TT_2 {fr x : Int32} {a b : Nat} (e : J' 19 = up (up (J 19) a x) b (-1)) (hx : x = -1 ∨ (nN (J 2 (333 + i)) = 0 ∧ x = fr) ∨ ∃ w, w < 6 ∧ x = J 19 w) : TT J J' i fr := by
  intro v hv
  rw [e]
  by_cases c : v = b
  · rw [c, up_at]; exact Or.inl rfl
  · rw [up_ne c]
    by_cases d : v = a
    · rw [d, up_at]; exact hx
    · rw [up_ne d]; exact Or.inr (Or.inr ⟨v, hv, rfl⟩)
def DO1 (J J' : Nat → Nat → Int32) (i : Nat) (z : Int32) (X : Nat → Int32) (r fr : Int32) : Prop :=
  r = rsn (J 2) i X ∧ TT J J' i fr ∧ (∀ b, b < 19 ∨ 22 < b → J' b = J b) ∧ J' 22 = lft (J 2) i X (J 22) ∧ (r = 0 → ∃ Y, tr (J 2) i z X = some Y ∧ CF (J 2) (J' 19) (J' 20) (J' 21) Y)
theorem m_does {z fr : Int32} (hA : WFA (J 2) D) (hi : i < nT (J 2)) (h9 : nN (J 2 (333 + i)) < 9) (h : CF (J 2) (J 19) (J 20) (J 21) X) (hfr : nN (J 2 (333 + i)) = 0 → fr ≠ -1 ∧ ∀ v, v < 6 → J 19 v ≠ fr) (hfu : 6 < fu) :
    ∃ r J', MX9_does fu 0 (nI i) z fr (mkM J K) = some (r, mkM J' K) ∧ DO1 J J' i z X r fr := by
  have h40 := hA.1.1.2.2.2
  have hV := hA.1.1.2.1.2
  have h4 := hA.1.1.1.2
  obtain ⟨so, h10, eso, es, o1, o2, o3⟩ := op_of hA.1 hA.2.1 hA.2.2 hi
  rw [es] at h9 hfr
  obtain ⟨la, ea⟩ := o1 h9
  have kin : 1 ≤ so → so ≤ 4 → vK (J 2) (nN (J 2 (373 + i))) = vK (J 2) (nN (J 2 (413 + i))) := by
    intro q1 q2
    obtain ⟨so', l', e', ho⟩ := (hA.2.2 i hi).1
    have : so' = so := by rw [eso] at e'; exact (nI_inj (by omega) (by omega) e').symm
    subst this
    obtain ⟨v, l, ev, hw, -⟩ := ho h9
    obtain ⟨w, lw, ne, ew, ek⟩ := hw q1 q2
    show nN (J 2 (327 + nN (J 2 (373 + i)))) = nN (J 2 (327 + nN (J 2 (413 + i))))
    rw [ev, ew, nN_nI (by omega), nN_nI (by omega), ek]
  have rsE : rsn (J 2) i X = rsS (J 2) X so (nN (J 2 (373 + i))) (nN (J 2 (413 + i))) (nN (J 2 (453 + i))) := by
    unfold rsn
    rw [if_neg (by omega), es]
  have trG : so < 6 → tr (J 2) i z X = some (goS so (nN (J 2 (373 + i))) (nN (J 2 (413 + i))) X) := fun q => by unfold tr; rw [es, if_pos q]
  have lfN : so ≠ 5 → lft (J 2) i X (J 22) = J 22 := fun q => by unfold lft; rw [if_neg (fun z => q (by rw [← es]; exact z.1))]
  simp only [MX9_does, m_g, m_r1, m_r35, m_r36, m_r37, Option.bind_some, jn]
  rw [ix_c (show (373 : Int32) = nI 373 from rfl), m_ld2 (by omega), Option.bind_some, ix_c (show (413 : Int32) = nI 413 from rfl), m_ld2 (by omega), Option.bind_some, m_sortAt (by omega), Option.bind_some, eso]
  generalize hda : nN (J 2 (373 + i)) = a at *
  have ha : a < 6 := by omega
  rw [ea, m_ld19 ha, Option.bind_some]
  have keep : ∀ r : Int32, r = rsn (J 2) i X → r ≠ 0 → so ≠ 5 → ∃ r' J', (some (r, mkM J K) : Option (Int32 × Hp)) = some (r', mkM J' K) ∧ DO1 J J' i z X r' fr := fun r hr hn h5 => ⟨r, J, rfl, hr, TT_0 rfl, fun _ _ => rfl, (lfN h5).symm, fun q => absurd q hn⟩
  rcases (show so = 0 ∨ (1 ≤ so ∧ so ≤ 3) ∨ so = 4 ∨ so = 5 ∨ (6 ≤ so ∧ so ≤ 8) by omega) with q | q | q | q | q
  · subst q
    rw [if_pos (show nI 0 = 0 from rfl)]
    rw [rsS_0, CF_hold h ha] at rsE
    by_cases ct : J 19 a = -1
    · rw [decide_eq_false (fun q => q ct), if_neg (by decide)] at rsE
      rw [if_pos ct, m_st19 ha, Option.bind_some, m_r36, Option.bind_some, m_st20 ha, Option.bind_some, m_r37, Option.bind_some, m_st21 ha, Option.bind_some]
      refine ⟨0, _, rfl, rsE.symm, TT_1 (a := a) (x := fr) (by rw [ur_ne (by decide), ur_ne (by decide), ur_at]) (Or.inr (Or.inl ⟨es, rfl⟩)), fun b hb => by rw [ur_ne (by omega), ur_ne (by omega), ur_ne (by omega)], by rw [ur_ne (by decide), ur_ne (by decide), ur_ne (by decide), lfN (by decide)], fun _ => ⟨_, trG (by decide), ?_⟩⟩
      rw [ur_ne (show (19 : Nat) ≠ 21 by decide), ur_ne (show (19 : Nat) ≠ 20 by decide), ur_at, ur_ne (show (20 : Nat) ≠ 21 by decide), ur_at, ur_at, ur_ne (show (20 : Nat) ≠ 19 by decide), ur_ne (show (21 : Nat) ≠ 20 by decide), ur_ne (show (21 : Nat) ≠ 19 by decide)]
      exact CF_new hA h la ct (hfr rfl).1 (hfr rfl).2
    · rw [decide_eq_true ct, if_pos rfl] at rsE
      rw [if_neg ct]
      exact keep 1 rsE.symm (by decide) (by decide)
  · obtain ⟨lb, ne, eb⟩ := o2 q.1 (by omega)
    have kk := kin q.1 (by omega)
    generalize hdb : nN (J 2 (413 + i)) = b at *
    have hb : b < 6 := by omega
    have n0 : ¬ nI so = 0 := fun z => by have := nI_inj (b := 0) (by omega) (by omega) z; omega
    have n4 : ¬ (4 : Int32) ≤ nI so := by rw [show (4 : Int32) = nI 4 from rfl]; exact nI_ge (by omega) (by omega)
    rw [if_neg n0, if_neg n4, eb]
    have rs3 : rsn (J 2) i X = if J 19 a ≠ -1 ∨ J 19 b = -1 then 1 else if so = 2 ∧ J 20 b = 2 then 3 else 0 := by
      rw [rsE]
      rcases (show so = 2 ∨ so = 1 ∨ so = 3 by omega) with z | z
      · subst z
        rw [rsS_2, CF_hold h ha, CF_lack h hb, CF_look h hb]
        by_cases c1 : J 19 a = -1 <;> by_cases c2 : J 19 b = -1 <;> by_cases c3 : J 20 b = 2 <;> simp [c1, c2, c3]
      · rw [rsS_13 z, CF_hold h ha, CF_lack h hb]
        have n2 : ¬ so = 2 := by omega
        by_cases c1 : J 19 a = -1 <;> by_cases c2 : J 19 b = -1 <;> simp [c1, c2, n2]
    simp only [MX9_gets, m_g, m_r35, m_r36, m_r37, Option.bind_some, jn]
    rw [m_ld19 ha, Option.bind_some, m_ld19 hb, Option.bind_some]
    by_cases c1 : J 19 a = -1
    · rw [if_pos c1]
      by_cases c2 : J 19 b = -1
      · rw [if_pos c2, Option.bind_some]
        exact keep 1 (by rw [rs3, if_pos (Or.inr c2)]) (by decide) (by omega)
      · have nn : ¬ (J 19 a ≠ -1 ∨ J 19 b = -1) := by rintro (z | z); exact z c1; exact c2 z
        rw [if_neg nn] at rs3
        rw [if_neg c2, m_ld20 hb, Option.bind_some, m_st19 ha, Option.bind_some, m_r37, Option.bind_some, m_ld21 hb, Option.bind_some, m_st21 ha, Option.bind_some, m_r36, Option.bind_some, m_ld20 hb, Option.bind_some, m_st20 ha, Option.bind_some]
        have r19 : ∀ f : Nat → Int32, ur J 19 f 21 = J 21 := fun f => ur_ne (by decide)
        have r20 : ∀ f g : Nat → Int32, ur (ur J 19 f) 21 g 20 = J 20 := fun f g => by rw [ur_ne (by decide), ur_ne (by decide)]
        rw [r19, r20]
        generalize hJ1 : ur (ur (ur J 19 (up (J 19) a (J 19 b))) 21 (up (J 21) a (J 21 b))) 20 (up (J 20) a (J 20 b)) = J1
        have s19 : J1 19 = up (J 19) a (J 19 b) := by rw [← hJ1, ur_ne (by decide), ur_ne (by decide), ur_at]
        have s20 : J1 20 = up (J 20) a (J 20 b) := by rw [← hJ1, ur_at]
        have s21 : J1 21 = up (J 21) a (J 21 b) := by rw [← hJ1, ur_ne (by decide), ur_at]
        have soo : ∀ b, b < 19 ∨ 21 < b → J1 b = J b := fun b hb => by rw [← hJ1, ur_ne (by omega), ur_ne (by omega), ur_ne (by omega)]
        clear hJ1
        rcases (show so = 1 ∨ so = 2 ∨ so = 3 by omega) with w | w | w
        · subst w
          rw [if_neg (show ¬ ((1 : Nat) = 2 ∧ J 20 b = 2) from fun z => by omega)] at rs3
          rw [if_neg (show ¬ nI 1 = 2 by decide), if_pos (show nI 1 = 1 from rfl), m_lets hb, Option.bind_some, Option.bind_some]
          refine ⟨0, _, rfl, rs3.symm, TT_2 (a := a) (b := b) (x := J 19 b) (by rw [lt3_19, s19]) (Or.inr (Or.inr ⟨b, hb, rfl⟩)), fun b hb => by rw [lt3_o (by omega), soo b (by omega)], by rw [lt3_o (by decide), soo 22 (by decide), lfN (by decide)], fun _ => ⟨_, trG (by decide), ?_⟩⟩
          rw [lt3_19, lt3_20, lt3_21, s19, s20, s21]
          exact CF_move h la hV hb (Ne.symm ne) c1 c2 kk
        · subst w
          rw [if_pos (show nI 2 = 2 from rfl)]
          by_cases c3 : J 20 b = 2
          · rw [if_pos c3, Option.bind_some]
            exact keep 3 (by rw [rs3, if_pos ⟨rfl, c3⟩]) (by decide) (by decide)
          · rw [if_neg (fun z => c3 z.2)] at rs3
            rw [if_neg c3, if_neg (show ¬ nI 2 = 1 by decide), if_pos (show nI 2 = 2 from rfl), m_r36, Option.bind_some, m_st20 ha, Option.bind_some, m_r36, Option.bind_some, m_st20 hb, Option.bind_some, Option.bind_some, ur_ur, ur_at, s20]
            refine ⟨0, _, rfl, rs3.symm, TT_1 (a := a) (x := J 19 b) (by rw [ur_ne (by decide), s19]) (Or.inr (Or.inr ⟨b, hb, rfl⟩)), fun b hb => by rw [ur_ne (by omega), soo b (by omega)], by rw [ur_ne (by decide), soo 22 (by decide), lfN (by decide)], fun _ => ⟨_, trG (by decide), ?_⟩⟩
            rw [ur_ne (show (19 : Nat) ≠ 20 by decide), ur_at, ur_ne (show (21 : Nat) ≠ 20 by decide), s19, s21]
            have e : up (up (up (J 20) a (J 20 b)) a 4) b 4 = up (up (J 20) a 4) b 4 := by
              funext j
              unfold up
              by_cases y1 : j = b <;> by_cases y2 : j = a <;> simp [y1, y2]
            rw [e]
            exact CF_share h la hV hb (Ne.symm ne) c1 c2 kk
        · subst w
          rw [if_neg (show ¬ ((3 : Nat) = 2 ∧ J 20 b = 2) from fun z => by omega)] at rs3
          rw [if_neg (show ¬ nI 3 = 2 by decide), if_neg (show ¬ nI 3 = 1 by decide), if_neg (show ¬ nI 3 = 2 by decide), m_r36, Option.bind_some, m_st20 ha, Option.bind_some, m_r36, Option.bind_some, m_ld20 hb, Option.bind_some, ur_at, up_ne ne, s20, up_ne ne]
          have fin : ∀ y : Int32, y = (if J 20 b = 8 then 2 else J 20 b) → ∃ r J', (((h_stI (mkM (ur J1 20 (up (up (J 20) a (J 20 b)) a 2)) K) 20 (nI b) y).bind fun h18 => some ((0 : Int32), h18)).bind fun p43 => some (p43.1, p43.2)) = some (r, mkM J' K) ∧ DO1 J J' i z X r fr := by
            intro y hy
            rw [m_st20 hb, Option.bind_some, Option.bind_some, ur_ur, ur_at]
            refine ⟨0, _, rfl, rs3.symm, TT_1 (a := a) (x := J 19 b) (by rw [ur_ne (by decide), s19]) (Or.inr (Or.inr ⟨b, hb, rfl⟩)), fun b hb => by rw [ur_ne (by omega), soo b (by omega)], by rw [ur_ne (by decide), soo 22 (by decide), lfN (by decide)], fun _ => ⟨_, trG (by decide), ?_⟩⟩
            rw [ur_ne (show (19 : Nat) ≠ 20 by decide), ur_at, ur_ne (show (21 : Nat) ≠ 20 by decide), s19, s21]
            have e : up (up (up (J 20) a (J 20 b)) a 2) b y = up (up (J 20) a 2) b y := by
              funext j
              unfold up
              by_cases y1 : j = b <;> by_cases y2 : j = a <;> simp [y1, y2]
            rw [e, hy]
            exact CF_lend h la hV hb (Ne.symm ne) c1 c2 kk
          by_cases c8 : J 20 b = 8
          · rw [if_pos c8]
            exact fin 2 (by rw [if_pos c8])
          · rw [if_neg c8]
            exact fin _ (by rw [if_neg c8])
    · rw [if_neg c1, Option.bind_some]
      exact keep 1 (by rw [rs3, if_pos (Or.inl c1)]) (by decide) (by omega)
  · subst q
    obtain ⟨lb, ne, eb⟩ := o2 (by decide) (by decide)
    generalize hdb : nN (J 2 (413 + i)) = b at *
    have hb : b < 6 := by omega
    rw [if_neg (show ¬ nI 4 = 0 by decide), if_pos (show (4 : Int32) ≤ nI 4 by decide), if_pos (show nI 4 = 4 from rfl), eb, m_ld19 hb, Option.bind_some]
    have rs4 : rsn (J 2) i X = if J 19 a = -1 ∨ J 19 b = -1 then 1 else if J 19 a = J 19 b then 0 else 2 := by
      rw [rsE, rsS_4, CF_lack h ha, CF_lack h hb]
      by_cases c1 : J 19 a = -1
      · simp [c1]
      · by_cases c2 : J 19 b = -1
        · simp [c1, c2]
        · have : bt (X (18 + a)) b = decide (J 19 a = J 19 b) := by
            have := CF_must h ha b
            cases e : bt (X (18 + a)) b
            · refine (decide_eq_false (fun z => ?_)).symm
              rw [this.mpr ⟨hb, ne, c1, z.symm⟩] at e; cases e
            · exact (decide_eq_true (this.mp e).2.2.2.symm).symm
          rw [this]
          by_cases c3 : J 19 a = J 19 b <;> simp [c1, c2, c3]
    by_cases c1 : J 19 a = -1
    · rw [if_pos c1]
      exact keep 1 (by rw [rs4, if_pos (Or.inl c1)]) (by decide) (by decide)
    · rw [if_neg c1, Option.bind_some]
      by_cases c2 : J 19 b = -1
      · rw [if_pos c2]
        exact keep 1 (by rw [rs4, if_pos (Or.inr c2)]) (by decide) (by decide)
      · rw [if_neg c2]
        rw [if_neg (by rintro (z | z); exact c1 z; exact c2 z)] at rs4
        by_cases c3 : J 19 a = J 19 b
        · rw [if_pos c3] at rs4
          rw [if_pos c3, m_lets hb, Option.bind_some]
          obtain ⟨cA, cB⟩ := CF_join h ha hb (Ne.symm ne) c1
          obtain ⟨r, er, d⟩ := m_isAlone (J := lt3 J b) (K := K) (fu := fu) ha hfu
          rw [lt3_19, up_ne (Ne.symm ne)] at d
          rw [er, Option.bind_some]
          rcases d with ⟨rfl, d⟩ | ⟨rfl, d⟩
          · rw [if_neg (by decide), m_r36, Option.bind_some, m_st20 ha, Option.bind_some]
            refine ⟨0, _, rfl, rs4.symm, TT_1 (a := b) (x := -1) (by rw [ur_ne (by decide), lt3_19]) (Or.inl rfl), fun b hb => by rw [ur_ne (by omega), lt3_o (by omega)], by rw [ur_ne (by decide), lt3_o (by decide), lfN (by decide)], fun _ => ⟨_, trG (by decide), ?_⟩⟩
            rw [ur_ne (show (19 : Nat) ≠ 20 by decide), ur_at, ur_ne (show (21 : Nat) ≠ 20 by decide), lt3_19, lt3_20, lt3_21]
            exact cA d
          · rw [if_pos rfl]
            refine ⟨0, _, rfl, rs4.symm, TT_1 (a := b) (x := -1) lt3_19 (Or.inl rfl), fun b hb => lt3_o (by omega), by rw [lt3_o (by decide), lfN (by decide)], fun _ => ⟨_, trG (by decide), ?_⟩⟩
            rw [lt3_19, lt3_20, lt3_21]
            exact cB d
        · rw [if_neg c3] at rs4
          rw [if_neg c3]
          exact keep 2 rs4.symm (by decide) (by decide)
  · subst q
    rw [if_neg (show ¬ nI 5 = 0 by decide), if_pos (show (4 : Int32) ≤ nI 5 by decide), if_neg (show ¬ nI 5 = 4 by decide)]
    simp only [Option.bind_some]
    have al := CF_alone h ha
    have lfE : lft (J 2) i X (J 22) = if X (18 + a) = 0 then up (J 22) (vK (J 2) a) (J 22 (vK (J 2) a) ||| X (6 + a)) else J 22 := by
      unfold lft
      rw [es, hda]
      by_cases c : X (18 + a) = 0
      · rw [if_pos ⟨rfl, c⟩, if_pos c]
      · rw [if_neg (fun z => c z.2), if_neg c]
    have rs5 : rsn (J 2) i X = if J 19 a = -1 then 1 else if X (18 + a) = 0 ∧ nEnd (J 2) X a = true then 5 else 0 := by
      rw [rsE, rsS_5, CF_lack h ha]
      by_cases c : J 19 a = -1 <;> simp [c]
    by_cases c1 : J 19 a = -1
    · rw [if_pos c1] at rs5 ⊢
      have x0 : X (6 + a) = 0 := by
        rcases h.1 a ha with ⟨-, -, -, -, z⟩ | ⟨z, -⟩
        · exact z
        · exact absurd c1 z
      refine ⟨1, J, rfl, rs5.symm, TT_0 rfl, fun _ _ => rfl, ?_, fun z => absurd z (by decide)⟩
      rw [lfE, if_pos (al.mpr (Or.inl c1)), x0, Int32.or_zero, up_self]
    · rw [if_neg c1] at rs5 ⊢
      rw [if_pos (show nI 5 = 5 from rfl)]
      obtain ⟨s, ls, s2, s3⟩ : ∃ s, s < nS (J 2) (vK (J 2) a) ∧ J 21 a = nI s ∧ X (6 + a) = b1 s := by
        rcases h.1 a ha with ⟨z, -⟩ | ⟨-, -, -, -, z⟩
        · exact absurd z c1
        · exact z
      obtain ⟨ek, lk⟩ := hA.2.1 a la
      have h6 := (hA.1.2 _ lk).1.2.2
      have ne1 : nEnd (J 2) X a = !bt (pE (J 2) (vK (J 2) a)) s := by
        unfold nEnd
        rw [s3]
        have : b1 s &&& (pE (J 2) (vK (J 2) a) ^^^ -1) = 0 ↔ bt (pE (J 2) (vK (J 2) a)) s = true := by
          rw [z_bt]
          constructor
          · intro z
            have := z s
            rw [b_and, b_not (by omega), b_b1 (by omega)] at this
            simpa using this
          · intro z t
            by_cases c : t < 32
            · rw [b_and, b_not c, b_b1 (by omega)]
              by_cases c2 : t = s
              · rw [c2, z]; simp
              · simp [c2]
            · exact b_big (by omega)
        cases e : bt (pE (J 2) (vK (J 2) a)) s
        · exact decide_eq_true (fun z => by rw [this.mp z] at e; cases e)
        · exact decide_eq_false (fun z => z (this.mpr e))
      simp only [MX9_drops, m_g, m_r1, m_r37, m_r38, Option.bind_some, jn]
      obtain ⟨r, er, d⟩ := m_isAlone (J := J) (K := K) (fu := fu) ha hfu
      rw [er, Option.bind_some, ix_c (show (327 : Int32) = nI 327 from rfl), m_ld2 (by omega), Option.bind_some, ek, m_ld21 ha, Option.bind_some, s2, m_isEnd (by omega) (by omega), Option.bind_some]
      have alE : X (18 + a) = 0 ↔ ∀ w, w < 6 → w ≠ a → J 19 w ≠ J 19 a := by
        rw [al]
        constructor
        · rintro (z | z)
          · exact absurd z c1
          · exact z
        · exact fun z => Or.inr z
      rcases d with ⟨rfl, d⟩ | ⟨rfl, d⟩
      · have x0 := alE.mpr d
        rw [if_pos x0] at lfE
        rw [if_neg (show ¬ (1 : Int32) = 0 by decide), m_ld22 (by omega), Option.bind_some, m_st22 (by omega), Option.bind_some, if_neg (show ¬ (1 : Int32) = 0 by decide)]
        have l22 : ur J 22 (up (J 22) (vK (J 2) a) (J 22 (vK (J 2) a) ||| ((1 : Int32) <<< (nI s &&& 31)))) 22 = lft (J 2) i X (J 22) := by rw [ur_at, lfE, s3]
        cases e : bt (pE (J 2) (vK (J 2) a)) s
        · rw [if_pos (by decide), Option.bind_some]
          rw [if_pos ⟨x0, by rw [ne1, e]; rfl⟩] at rs5
          exact ⟨5, _, rfl, rs5.symm, TT_0 (ur_ne (by decide)), fun b hb => ur_ne (by omega), l22, fun z => absurd z (by decide)⟩
        · rw [if_neg (by decide), m_lets ha, Option.bind_some, Option.bind_some]
          rw [if_neg (fun z => by have := z.2; rw [ne1, e] at this; cases this)] at rs5
          refine ⟨0, _, rfl, rs5.symm, TT_1 (a := a) (x := -1) (by rw [lt3_19, ur_ne (by decide)]) (Or.inl rfl), fun b hb => by rw [lt3_o (by omega), ur_ne (by omega)], by rw [lt3_o (by decide)]; exact l22, fun _ => ⟨_, trG (by decide), ?_⟩⟩
          rw [lt3_19, lt3_20, lt3_21, ur_ne (by decide), ur_ne (by decide), ur_ne (by decide), goS_5]
          exact CF_emp h ha
      · have x0 : ¬ X (18 + a) = 0 := fun z => d (alE.mp z)
        rw [if_neg x0] at lfE
        rw [if_pos rfl, if_pos rfl, m_lets ha, Option.bind_some, Option.bind_some]
        rw [if_neg (fun z => x0 z.1)] at rs5
        refine ⟨0, _, rfl, rs5.symm, TT_1 (a := a) (x := -1) lt3_19 (Or.inl rfl), fun b hb => by rw [lt3_o (by omega)], by rw [lt3_o (by decide), lfE], fun _ => ⟨_, trG (by decide), ?_⟩⟩
        rw [lt3_19, lt3_20, lt3_21, goS_5]
        exact CF_emp h ha
  · obtain ⟨k1, k2, k3, -⟩ := o3 q.1 q.2
    have h7 := (hA.1.2 _ k1).2.2.1.2
    have hS6 := (hA.1.2 _ k1).1.2.2
    generalize hdm : nN (J 2 (453 + i)) = m at *
    obtain ⟨ek, lk⟩ := hA.2.1 a la
    have n0 : ¬ nI so = 0 := fun z => by have := nI_inj (b := 0) (by omega) (by omega) z; omega
    have p4 : (4 : Int32) ≤ nI so := by rw [show (4 : Int32) = nI 4 from rfl]; exact nI_le (by omega) (by omega)
    have n4 : ¬ nI so = 4 := fun z => by have := nI_inj (b := 4) (by omega) (by omega) z; omega
    have n5 : ¬ nI so = 5 := fun z => by have := nI_inj (b := 5) (by omega) (by omega) z; omega
    rw [rsS_ask q, CF_lack h ha, CF_look h ha] at rsE
    rw [if_neg n0, if_pos p4, if_neg n4]
    simp only [Option.bind_some]
    by_cases c1 : J 19 a = -1
    · rw [decide_eq_true c1, if_pos rfl] at rsE
      rw [if_pos c1]
      exact keep 1 rsE.symm (by decide) (by omega)
    · rw [decide_eq_false c1, if_neg (by decide)] at rsE
      rw [if_neg c1, if_neg n5]
      obtain ⟨s, ls, s2, s3⟩ : ∃ s, s < nS (J 2) (vK (J 2) a) ∧ J 21 a = nI s ∧ X (6 + a) = b1 s := by
        rcases h.1 a ha with ⟨z, -⟩ | ⟨-, -, -, -, z⟩
        · exact absurd z c1
        · exact z
      have cnE : X (6 + a) &&& (cn (J 2) (vK (J 2) a) m ^^^ -1) = 0 ↔ pY (J 2) (vK (J 2) a) m s ≠ -1 := by
        rw [s3, z_bt]
        constructor
        · intro z
          have := z s
          rw [b_and, b_not (by omega), b_b1 (by omega), cn_bt hS6] at this
          simpa [ls] using this
        · intro z t
          by_cases c : t < 32
          · rw [b_and, b_not c, b_b1 (by omega), cn_bt hS6]
            by_cases c2 : t = s
            · rw [c2]; simp [ls, z]
            · simp [c2]
          · exact b_big (by omega)
      rw [ix_c (show (327 : Int32) = nI 327 from rfl), m_ld2 (by omega), Option.bind_some, ek, ix_c (show (453 : Int32) = nI 453 from rfl), m_ld2 (by omega), Option.bind_some, k3, m_ld20 ha, Option.bind_some, m_ld21 ha]
      simp only [MX9_methodAt, ix_66, Option.bind_some]
      rw [ix_c (show (15 : Int32) = nI 15 from rfl), m_ld2 (by omega), Option.bind_some, show 15 + (6 * vK (J 2) a + m) = 15 + 6 * vK (J 2) a + m by omega, s2, m_canBe (by omega) (by omega) (by omega), m_no (by omega) (by omega) (by omega), m_yes (by omega) (by omega) (by omega)]
      simp only [Option.bind_some]
      have goOn : (pSo (J 2) (vK (J 2) a) m = 2 ∨ J 20 a ≠ 2) → ∃ r J', (if (if pY (J 2) (vK (J 2) a) m s = -1 then (0 : Int32) else 1) = 0 then some ((4 : Int32), mkM J K) else if z = 0 then wh2 (MX9_does_B313 (fun h17 => (h_fR 9 h17 0 37).bind fun x19 => (h_stI h17 x19 (nI a) (pN (J 2) (vK (J 2) a) m s)).bind fun h20 => some ((0 : Int32), h20)) (nI a) 0 (pN (J 2) (vK (J 2) a) m s)) fu 0 (mkM J K) else wh2 (MX9_does_B313 (fun h17 => (h_fR 9 h17 0 37).bind fun x19 => (h_stI h17 x19 (nI a) (pY (J 2) (vK (J 2) a) m s)).bind fun h20 => some ((0 : Int32), h20)) (nI a) 0 (pY (J 2) (vK (J 2) a) m s)) fu 0 (mkM J K)) = some (r, mkM J' K) ∧ DO1 J J' i z X r fr := by
        intro hl
        have nl : ¬ (pSo (J 2) (vK (J 2) a) m ≠ 2 ∧ decide (J 20 a = 2) = true) := by
          rintro ⟨z1, z2⟩
          rcases hl with z | z
          · exact z1 z
          · exact z (of_decide_eq_true z2)
        rw [if_neg nl] at rsE
        by_cases cy : pY (J 2) (vK (J 2) a) m s = -1
        · rw [if_neg (fun z => (cnE.mp z) cy)] at rsE
          rw [if_pos (by rw [if_pos cy])]
          exact keep 4 rsE.symm (by decide) (by omega)
        · rw [if_pos (cnE.mpr cy)] at rsE
          rw [if_neg (by rw [if_neg cy]; decide)]
          obtain ⟨x1, x2, l1, l2, e1, e2, -⟩ := tr_of hA.1 lk k2 ls cy
          have run : ∀ t, t < nS (J 2) (vK (J 2) a) → fol (J 2) (vK (J 2) a) m s z = nI t → ∃ r J', wh2 (MX9_does_B313 (fun h17 => (h_fR 9 h17 0 37).bind fun x19 => (h_stI h17 x19 (nI a) (nI t)).bind fun h20 => some ((0 : Int32), h20)) (nI a) 0 (nI t)) fu 0 (mkM J K) = some (r, mkM J' K) ∧ DO1 J J' i z X r fr := by
            intro t lt et
            obtain ⟨nz, cf⟩ := CF_ask hA h ha c1 rfl k2 s2 s3 ls cy lt et
            have main : WP (wh2 (MX9_does_B313 (fun h17 => (h_fR 9 h17 0 37).bind fun x19 => (h_stI h17 x19 (nI a) (nI t)).bind fun h20 => some ((0 : Int32), h20)) (nI a) 0 (nI t)) fu 0 (mkM J K)) (fun r => ∃ f, r = (0, mkM (ur J 21 f) K) ∧ ∀ o, o < 6 → f o = if J 19 o = J 19 a then nI t else J 21 o) := by
              refine wh2_wp (fun r n hh => ∃ w f, w + r = 6 ∧ n = nI w ∧ hh = mkM (ur J 21 f) K ∧ ∀ o, o < 6 → f o = if o < w ∧ o ≠ a ∧ J 19 o = J 19 a then nI t else J 21 o) ?_ fu 6 _ _ (by omega) ⟨0, J 21, by omega, rfl, by rw [ur_self], fun o ho => by rw [if_neg (by omega)]⟩
              rintro r n hh self ⟨w, f, hw, rfl, rfl, g⟩ ih
              simp only [MX9_does_B313, m_r35, m_r37, Option.bind_some, jn]
              rw [show (6 : Int32) = nI 6 from rfl]
              by_cases hr : r = 0
              · subst hr
                rw [if_pos (nI_le (by omega) (by omega)), m_st21 ha, Option.bind_some, ur_ur, ur_at]
                refine WP_some ⟨_, rfl, fun o ho => ?_⟩
                by_cases c : o = a
                · rw [c, up_at, if_pos rfl]
                · rw [up_ne c, g o ho]
                  by_cases d : J 19 o = J 19 a
                  · rw [if_pos ⟨by omega, c, d⟩, if_pos d]
                  · rw [if_neg (fun z => d z.2.2), if_neg d]
              · have e19 : ur J 21 f 19 = J 19 := ur_ne (by decide)
                rw [if_neg (nI_ge (by omega) (by omega))]
                by_cases c : w = a
                · rw [if_pos (by rw [c])]
                  refine ih (r - 1) _ _ (by omega) ⟨w + 1, f, by omega, nI_1 w, rfl, fun o ho => ?_⟩
                  rw [g o ho]
                  by_cases d : o < w ∧ o ≠ a ∧ J 19 o = J 19 a
                  · rw [if_pos d, if_pos ⟨by omega, d.2⟩]
                  · rw [if_neg d, if_neg (fun z => d ⟨by omega, z.2⟩)]
                · rw [if_neg (fun z => c (nI_inj (by omega) (by omega) z)), m_ld19 (by omega), Option.bind_some, m_ld19 ha, Option.bind_some, e19]
                  by_cases d : J 19 w = J 19 a
                  · rw [if_pos d, m_st21 (by omega), Option.bind_some, ur_ur, ur_at]
                    refine ih (r - 1) _ _ (by omega) ⟨w + 1, _, by omega, nI_1 w, rfl, fun o ho => ?_⟩
                    by_cases e : o = w
                    · subst e; rw [up_at, if_pos ⟨by omega, c, d⟩]
                    · rw [up_ne e, g o ho]
                      by_cases d2 : o < w ∧ o ≠ a ∧ J 19 o = J 19 a
                      · rw [if_pos d2, if_pos ⟨by omega, d2.2⟩]
                      · rw [if_neg d2, if_neg (fun z => d2 ⟨by omega, z.2⟩)]
                  · rw [if_neg d]
                    refine ih (r - 1) _ _ (by omega) ⟨w + 1, f, by omega, nI_1 w, rfl, fun o ho => ?_⟩
                    rw [g o ho]
                    by_cases d2 : o < w ∧ o ≠ a ∧ J 19 o = J 19 a
                    · rw [if_pos d2, if_pos ⟨by omega, d2.2⟩]
                    · rw [if_neg d2, if_neg (fun z => d2 ⟨by have : o ≠ w := by rintro rfl; exact d z.2.2
                                                             omega, z.2⟩)]
            obtain ⟨_, em, f, rfl, g⟩ := main
            refine ⟨0, _, em, rsE.symm, TT_0 (ur_ne (by decide)), fun b hb => ur_ne (by omega), by rw [ur_ne (by decide), lfN (by omega)], fun _ => ⟨asS (J 2) (vK (J 2) a) m a z X, ?_, ?_⟩⟩
            · unfold tr
              rw [es, if_neg (by omega), if_pos (by omega), hda, hdm, if_neg nz]
            · rw [ur_ne (by decide), ur_ne (by decide), ur_at]
              refine CF_S cf (fun o ho => ?_)
              rw [g o ho]
              by_cases d : J 19 o = J 19 a
              · rw [if_pos d]; exact (if_pos ⟨ho, d⟩).symm
              · rw [if_neg d]; exact (if_neg (fun z => d z.2)).symm
          by_cases hz : z = 0
          · rw [if_pos hz, e2]
            exact run x2 l2 (by unfold fol; rw [if_pos hz, e2])
          · rw [if_neg hz, e1]
            exact run x1 l1 (by unfold fol; rw [if_neg hz, e1])
      by_cases c2 : J 20 a = 2
      · rw [if_pos c2]
        by_cases c3 : pSo (J 2) (vK (J 2) a) m = 2
        · rw [if_pos c3]
          exact goOn (Or.inl c3)
        · rw [if_neg c3]
          rw [if_pos ⟨c3, decide_eq_true c2⟩] at rsE
          exact keep 3 rsE.symm (by decide) (by omega)
      · rw [if_neg c2]
        exact goOn (Or.inr c2)
end Does
