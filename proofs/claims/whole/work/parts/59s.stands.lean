section Stands
variable {sw : Bool} {I : Nat → Nat → Int32} {L : Nat → Nat → Int64} {J J' : Nat → Nat → Int32} {K : Nat → Nat → Int64} {fu i n md p : Nat} {D : Nat → Nat} {X P : Nat → Int32}
/-- the things that there are have numbers from 7 on -/
def TBn (T : Nat → Int32) (md : Nat) : Prop := ∀ v, v < 6 → T v = -1 ∨ ∃ k, k < md ∧ T v = nI (7 + k)
theorem TBn_step {md md' : Nat} (h : TBn (J 19) md) (t : TT J J' i (7 + nI md)) (hm : md ≤ md') (h0 : nN (J 2 (333 + i)) = 0 → md < md') : TBn (J' 19) md' := by
  intro v hv
  rcases t v hv with q | ⟨q1, q2⟩ | ⟨w, hw, q⟩
  · exact Or.inl q
  · exact Or.inr ⟨md, h0 q1, by rw [q2, show (7 : Int32) = nI 7 from rfl, nI_add]⟩
  · rcases h w hw with z | ⟨k, hk, z⟩
    · exact Or.inl (by rw [q, z])
    · exact Or.inr ⟨k, by omega, by rw [q, z]⟩
theorem TBn_ne (h : TBn (J 19) md) (hm : md ≤ 400) : (7 : Int32) + nI md ≠ -1 ∧ ∀ v, v < 6 → J 19 v ≠ 7 + nI md := by
  have e : (7 : Int32) + nI md = nI (7 + md) := by rw [show (7 : Int32) = nI 7 from rfl, nI_add]
  rw [e]
  refine ⟨nI_ne_m1 (by omega), fun v hv q => ?_⟩
  rcases h v hv with z | ⟨k, hk, z⟩
  · rw [z] at q; exact absurd q.symm (nI_ne_m1 (by omega))
  · rw [z] at q
    have := nI_inj (by omega) (by omega) q
    omega
theorem m_stands (hA : WFA (J 2) D) (ho : ∀ j, j < nT (J 2) → ot J j = no j) (hi : i < nT (J 2)) (h48 : J 0 48 = nI i) (h46 : J 0 46 = nI n) (h49 : J 0 49 = nI md) (hmd : md ≤ 300) (h : CF (J 2) (J 19) (J 20) (J 21) X) (tb : TBn (J 19) md) (hfu : 41 < fu) :
    ∃ r J', MX9_stands fu 0 (mkM J K) = some (r, mkM J' K) ∧ r = rsn (J 2) i X ∧ (∀ b, b ≠ 0 → b < 19 ∨ 22 < b → J' b = J b) ∧ (∀ k, k < 45 ∨ k = 47 → J' 0 k = J 0 k) ∧ J' 0 46 = nI (n + 1) ∧ (r ≠ 0 → J' 0 48 = nI i ∧ J' 0 49 = nI md) ∧
      (r = 0 → J' 0 45 = dd (J 2) i (J 0 45) ∧ J' 0 48 = dp (J 2) i (J 0 45) ∧ ∃ md', J' 0 49 = nI md' ∧ md' = (if nN (J 2 (333 + i)) = 0 then md + 1 else md) ∧ TBn (J' 19) md' ∧ ∃ Y, tr (J 2) i (dz (J 2) i (J 0 45)) X = some Y ∧ CF (J 2) (J' 19) (J' 20) (J' 21) Y) := by
  have h40 := hA.1.1.2.2.2
  obtain ⟨so, h10, eso, es, -, -, -⟩ := op_of hA.1 hA.2.1 hA.2.2 hi
  have l9 : ∀ c, c ≤ 10 → (nI so < nI c ↔ so < c) := by
    intro c hc
    rw [i_lt, n_i (by omega), n_i (by omega)]
    omega
  have esn : nN (nI so) = so := by rw [← eso]; exact es
  simp only [MX9_stands, m_g, m_fI, Option.bind_some]
  rw [h48, m_sortAt (by omega), Option.bind_some, h46, m_pI, Option.bind_some, nI_1, eso]
  generalize hJ1 : ur J 0 (up (J 0) 46 (nI (n + 1))) = J1
  have o1 : ∀ b, b ≠ 0 → J1 b = J b := fun b hb => by rw [← hJ1, ur_ne hb]
  have z1 : J1 0 = up (J 0) 46 (nI (n + 1)) := by rw [← hJ1, ur_at]
  clear hJ1
  have e2 : J1 2 = J 2 := o1 2 (by decide)
  have yes : ∀ J2 : Nat → Nat → Int32, J2 2 = J 2 → J2 9 = J 9 → MX9_byYes fu 0 (nI i) (mkM J2 K) = some (lkY (J 2) no i) := by
    intro J2 q1 q2
    have := m_byYes (J := J2) (K := K) (fu := fu) (D := D) (i := i) (by rw [q1]; exact hA.1.1) (by rw [q1]; exact hA.2.2) hfu (by rw [q1]; exact hi)
    rw [this, q1, show ot J2 = ot J by funext j; unfold ot; rw [q2], lkY_congr hA.2.2 ho hi h40]
  have noo : ∀ J2 : Nat → Nat → Int32, J2 2 = J 2 → J2 9 = J 9 → MX9_byNo fu 0 (nI i) (mkM J2 K) = some (lkN (J 2) no i) := by
    intro J2 q1 q2
    have := m_byNo (J := J2) (K := K) (fu := fu) (D := D) (i := i) (by rw [q1]; exact hA.1.1) (by rw [q1]; exact hA.2.2) hfu (by rw [q1]; exact hi)
    rw [this, q1, show ot J2 = ot J by funext j; unfold ot; rw [q2], lkN_congr hA.2.2 ho hi h40]
  have cf1 : CF (J1 2) (J1 19) (J1 20) (J1 21) X := by rw [e2, o1 19 (by decide), o1 20 (by decide), o1 21 (by decide)]; exact h
  by_cases c9 : so < 9
  · rw [show (9 : Int32) = nI 9 from rfl, if_pos ((l9 9 (by decide)).mpr c9)]
    by_cases c7 : so < 7
    · have dz1 : dz (J 2) i (J 0 45) = 1 := by unfold dz; rw [es, if_pos c7]
      have dd1 : dd (J 2) i (J 0 45) = J 0 45 := by unfold dd; rw [es, if_pos c7]
      have dp1 : dp (J 2) i (J 0 45) = lkY (J 2) no i := by unfold dp; rw [dz1, if_neg (by decide)]
      have asked : MX9_isAsked (nI so) = some 0 := by
        rcases (show so = 0 ∨ so = 1 ∨ so = 2 ∨ so = 3 ∨ so = 4 ∨ so = 5 ∨ so = 6 by omega) with q | q | q | q | q | q | q <;> subst q <;> rfl
      rw [asked, Option.bind_some, if_pos rfl, m_fI, Option.bind_some, z1, up_ne (by decide), h49]
      obtain ⟨r, J2, ed, r1, tt, f1, -, cc⟩ := m_does (J := J1) (K := K) (fu := fu) (D := D) (i := i) (X := X) (z := 1) (fr := 7 + nI md) (by rw [e2]; exact hA) (by rw [e2]; exact hi) (by rw [e2, es]; exact c9) cf1 (fun _ => by rw [o1 19 (by decide)]; exact TBn_ne tb (by omega)) (by omega)
      rw [e2] at r1 cc
      rw [ed, Option.bind_some]
      have q0 : J2 0 = J1 0 := f1 0 (by omega)
      have q2 : J2 2 = J 2 := by rw [f1 2 (by omega), e2]
      have q9 : J2 9 = J 9 := by rw [f1 9 (by omega), o1 9 (by decide)]
      have tb2 : ∀ md', md ≤ md' → (so = 0 → md < md') → TBn (J2 19) md' := fun md' a b => TBn_step (J := J1) (J' := J2) (i := i) (md := md) (by rw [o1 19 (by decide)]; exact tb) tt a (by rw [e2, es]; exact b)
      simp only [jn, m_fI, Option.bind_some]
      rw [q0, z1, up_ne (show (49 : Nat) ≠ 46 by decide), h49]
      have fin : ∀ w : Int32, (∃ md', nI md + w = nI md' ∧ md' = (if so = 0 ∧ r = 0 then md + 1 else md)) → ∃ r' J', ((h_pI 9 (mkM J2 K) 0 49 (nI md + w)).bind fun h19 => if r = 0 then (MX9_byYes fu 0 (nI i) h19).bind fun x23 => (h_pI 9 h19 0 48 x23).bind fun h22 => some (r, h22) else (h_pI 9 h19 0 48 (nI i)).bind fun h22 => some (r, h22)) = some (r', mkM J' K) ∧ r' = rsn (J 2) i X ∧ (∀ b, b ≠ 0 → b < 19 ∨ 22 < b → J' b = J b) ∧ (∀ k, k < 45 ∨ k = 47 → J' 0 k = J 0 k) ∧ J' 0 46 = nI (n + 1) ∧ (r' ≠ 0 → J' 0 48 = nI i ∧ J' 0 49 = nI md) ∧ (r' = 0 → J' 0 45 = dd (J 2) i (J 0 45) ∧ J' 0 48 = dp (J 2) i (J 0 45) ∧ ∃ md', J' 0 49 = nI md' ∧ md' = (if nN (nI so) = 0 then md + 1 else md) ∧ TBn (J' 19) md' ∧ ∃ Y, tr (J 2) i (dz (J 2) i (J 0 45)) X = some Y ∧ CF (J 2) (J' 19) (J' 20) (J' 21) Y) := by
        rintro w ⟨md', w1, w2⟩
        rw [w1, m_pI, Option.bind_some]
        by_cases cr : r = 0
        · rw [if_pos cr, yes _ (by rw [ur_ne (by decide)]; exact q2) (by rw [ur_ne (by decide)]; exact q9), Option.bind_some, m_pI, Option.bind_some, ur_ur, ur_at]
          refine ⟨r, _, rfl, r1, fun b b0 hb => by rw [ur_ne b0, f1 b (by omega), o1 b b0], fun k hk => by rw [ur_at, up_ne (by omega), up_ne (by omega), q0, z1, up_ne (by omega)], by rw [ur_at, up_ne (by decide), up_ne (by decide), q0, z1, up_at], fun z => absurd cr z, fun _ => ⟨by rw [ur_at, up_ne (by decide), up_ne (by decide), q0, z1, up_ne (by decide), dd1], by rw [ur_at, up_at, dp1], md', by rw [ur_at, up_ne (by decide), up_at], ?_, ?_, ?_⟩⟩
          · rw [esn, w2]
            by_cases c0 : so = 0
            · rw [if_pos ⟨c0, cr⟩, if_pos c0]
            · rw [if_neg (fun z => c0 z.1), if_neg c0]
          · rw [ur_ne (by decide)]
            refine tb2 md' (by rw [w2]; split <;> omega) (fun c0 => by rw [w2, if_pos ⟨c0, cr⟩]; omega)
          · obtain ⟨Y, y1, y2⟩ := cc cr
            rw [dz1, ur_ne (by decide), ur_ne (by decide), ur_ne (by decide)]
            exact ⟨Y, y1, y2⟩
        · rw [if_neg cr, m_pI, Option.bind_some, ur_ur, ur_at]
          refine ⟨r, _, rfl, r1, fun b b0 hb => by rw [ur_ne b0, f1 b (by omega), o1 b b0], fun k hk => by rw [ur_at, up_ne (by omega), up_ne (by omega), q0, z1, up_ne (by omega)], by rw [ur_at, up_ne (by decide), up_ne (by decide), q0, z1, up_at], fun _ => ⟨by rw [ur_at, up_at], ?_⟩, fun z => absurd z cr⟩
          rw [ur_at, up_ne (by decide), up_at, w2, if_neg (fun z => cr z.2)]
      by_cases c0 : so = 0
      · rw [if_pos (show nI so = 0 by rw [c0]; rfl)]
        by_cases cr : r = 0
        · rw [if_pos cr]
          exact fin 1 ⟨md + 1, nI_1 md, by rw [if_pos ⟨c0, cr⟩]⟩
        · rw [if_neg cr]
          exact fin 0 ⟨md, Int32.add_zero _, by rw [if_neg (fun z => cr z.2)]⟩
      · rw [if_neg (show ¬ nI so = 0 from fun z => c0 (nI_inj (b := 0) (by omega) (by omega) z))]
        exact fin 0 ⟨md, Int32.add_zero _, by rw [if_neg (fun z => c0 z.1)]⟩
    · have dz1 : dz (J 2) i (J 0 45) = yz (J 0 45) := by unfold dz; rw [es, if_neg c7]
      have dd1 : dd (J 2) i (J 0 45) = dr (J 0 45) := by unfold dd; rw [es, if_neg c7]
      have asked : MX9_isAsked (nI so) = some 1 := by
        rcases (show so = 7 ∨ so = 8 by omega) with q | q <;> subst q <;> rfl
      rw [asked, Option.bind_some, if_neg (by decide), m_asksWrong (by rw [e2]; exact hA) (by rw [e2]; exact hi) (by rw [e2, es]; omega) (by rw [e2, es]; omega) cf1, Option.bind_some, e2]
      have pos : rsn (J 2) i X ≤ 0 ↔ rsn (J 2) i X = 0 := by
        unfold rsn
        rw [if_neg (by omega), es, rsS_ask ⟨by omega, by omega⟩]
        split
        · decide
        · split
          · decide
          · split <;> decide
      by_cases cr : rsn (J 2) i X = 0
      · rw [if_pos (pos.mpr cr), m_draw, Option.bind_some]
        have j45 : J1 0 45 = J 0 45 := by rw [z1, up_ne (by decide)]
        rw [j45]
        generalize hJ3 : ur J1 0 (up (J1 0) 45 (dr (J 0 45))) = J3
        have o3 : ∀ b, b ≠ 0 → J3 b = J b := fun b hb => by rw [← hJ3, ur_ne hb, o1 b hb]
        have z3 : J3 0 = up (J1 0) 45 (dr (J 0 45)) := by rw [← hJ3, ur_at]
        clear hJ3
        have e23 : J3 2 = J 2 := o3 2 (by decide)
        obtain ⟨r, J2, ed, r1, tt, f1, -, cc⟩ := m_does (J := J3) (K := K) (fu := fu) (D := D) (i := i) (X := X) (z := yz (J 0 45)) (fr := 0) (by rw [e23]; exact hA) (by rw [e23]; exact hi) (by rw [e23, es]; exact c9) (by rw [e23, o3 19 (by decide), o3 20 (by decide), o3 21 (by decide)]; exact h) (fun z => by rw [e23, es] at z; omega) (by omega)
        rw [e23] at r1 cc
        rw [cr] at r1
        subst r1
        rw [ed, Option.bind_some]
        have q0 : J2 0 = J3 0 := f1 0 (by omega)
        have q2 : J2 2 = J 2 := by rw [f1 2 (by omega), e23]
        have q9 : J2 9 = J 9 := by rw [f1 9 (by omega), o3 9 (by decide)]
        have tb2 : TBn (J2 19) md := by
          intro v hv
          rcases tt v hv with q | ⟨q1, -⟩ | ⟨w, hw, q⟩
          · exact Or.inl q
          · rw [e23, es] at q1; omega
          · rw [o3 19 (by decide)] at q
            rcases tb w hw with z | ⟨k, hk, z⟩
            · exact Or.inl (by rw [q, z])
            · exact Or.inr ⟨k, hk, by rw [q, z]⟩
        have fin : ∀ w : Int32, w = dp (J 2) i (J 0 45) → ∃ r' J', ((h_pI 9 (mkM J2 K) 0 48 w).bind fun h11 => some ((0 : Int32), h11)) = some (r', mkM J' K) ∧ r' = rsn (J 2) i X ∧ (∀ b, b ≠ 0 → b < 19 ∨ 22 < b → J' b = J b) ∧ (∀ k, k < 45 ∨ k = 47 → J' 0 k = J 0 k) ∧ J' 0 46 = nI (n + 1) ∧ (r' ≠ 0 → J' 0 48 = nI i ∧ J' 0 49 = nI md) ∧ (r' = 0 → J' 0 45 = dd (J 2) i (J 0 45) ∧ J' 0 48 = dp (J 2) i (J 0 45) ∧ ∃ md', J' 0 49 = nI md' ∧ md' = (if nN (nI so) = 0 then md + 1 else md) ∧ TBn (J' 19) md' ∧ ∃ Y, tr (J 2) i (dz (J 2) i (J 0 45)) X = some Y ∧ CF (J 2) (J' 19) (J' 20) (J' 21) Y) := by
          intro w hw
          rw [m_pI, Option.bind_some]
          refine ⟨0, _, rfl, cr.symm, fun b b0 hb => by rw [ur_ne b0, f1 b (by omega), o3 b b0], fun k hk => by rw [ur_at, up_ne (by omega), q0, z3, up_ne (by omega), z1, up_ne (by omega)], by rw [ur_at, up_ne (by decide), q0, z3, up_ne (by decide), z1, up_at], fun z => absurd rfl z, fun _ => ⟨by rw [ur_at, up_ne (by decide), q0, z3, up_at, dd1], by rw [ur_at, up_at, hw], md, by rw [ur_at, up_ne (by decide), q0, z3, up_ne (by decide), z1, up_ne (by decide), h49], by rw [esn, if_neg (by omega)], by rw [ur_ne (by decide)]; exact tb2, ?_⟩⟩
          obtain ⟨Y, y1, y2⟩ := cc rfl
          rw [dz1, ur_ne (by decide), ur_ne (by decide), ur_ne (by decide)]
          exact ⟨Y, y1, y2⟩
        show ∃ r' J', (if yz (J 0 45) = 0 then (MX9_byNo fu 0 (nI i) (mkM J2 K)).bind fun x12 => (h_pI 9 (mkM J2 K) 0 48 x12).bind fun h11 => some ((0 : Int32), h11) else (MX9_byYes fu 0 (nI i) (mkM J2 K)).bind fun x13 => (h_pI 9 (mkM J2 K) 0 48 x13).bind fun h11 => some ((0 : Int32), h11)) = _ ∧ _
        by_cases cy : yz (J 0 45) = 0
        · rw [if_pos cy, noo J2 q2 q9, Option.bind_some]
          exact fin _ (by unfold dp; rw [dz1, if_pos cy])
        · rw [if_neg cy, yes J2 q2 q9, Option.bind_some]
          exact fin _ (by unfold dp; rw [dz1, if_neg cy])
      · rw [if_neg (fun z => cr (pos.mp z))]
        exact ⟨_, J1, rfl, rfl, fun b b0 _ => o1 b b0, fun k hk => by rw [z1, up_ne (by omega)], by rw [z1, up_at], fun _ => ⟨by rw [z1, up_ne (by decide), h48], by rw [z1, up_ne (by decide), h49]⟩, fun z => absurd z cr⟩
  · have dz1 : dz (J 2) i (J 0 45) = yz (J 0 45) := by unfold dz; rw [es, if_neg (by omega)]
    have dd1 : dd (J 2) i (J 0 45) = dr (J 0 45) := by unfold dd; rw [es, if_neg (by omega)]
    have rs0 : rsn (J 2) i X = 0 := by unfold rsn; rw [if_neg (by omega), es, rsS_9 (by omega)]
    rw [show (9 : Int32) = nI 9 from rfl, if_neg (fun z => c9 ((l9 9 (by decide)).mp z)), m_draw, Option.bind_some]
    have j45 : J1 0 45 = J 0 45 := by rw [z1, up_ne (by decide)]
    rw [j45]
    have fin : ∀ w : Int32, w = dp (J 2) i (J 0 45) → ∃ r' J', ((h_pI 9 (mkM (ur J1 0 (up (J1 0) 45 (dr (J 0 45)))) K) 0 48 w).bind fun h28 => some ((0 : Int32), h28)) = some (r', mkM J' K) ∧ r' = rsn (J 2) i X ∧ (∀ b, b ≠ 0 → b < 19 ∨ 22 < b → J' b = J b) ∧ (∀ k, k < 45 ∨ k = 47 → J' 0 k = J 0 k) ∧ J' 0 46 = nI (n + 1) ∧ (r' ≠ 0 → J' 0 48 = nI i ∧ J' 0 49 = nI md) ∧ (r' = 0 → J' 0 45 = dd (J 2) i (J 0 45) ∧ J' 0 48 = dp (J 2) i (J 0 45) ∧ ∃ md', J' 0 49 = nI md' ∧ md' = (if nN (nI so) = 0 then md + 1 else md) ∧ TBn (J' 19) md' ∧ ∃ Y, tr (J 2) i (dz (J 2) i (J 0 45)) X = some Y ∧ CF (J 2) (J' 19) (J' 20) (J' 21) Y) := by
      intro w hw
      rw [m_pI, Option.bind_some, ur_ur, ur_at]
      refine ⟨0, _, rfl, rs0.symm, fun b b0 hb => by rw [ur_ne b0, o1 b b0], fun k hk => by rw [ur_at, up_ne (by omega), up_ne (by omega), z1, up_ne (by omega)], by rw [ur_at, up_ne (by decide), up_ne (by decide), z1, up_at], fun z => absurd rfl z, fun _ => ⟨by rw [ur_at, up_ne (by decide), up_at, dd1], by rw [ur_at, up_at, hw], md, by rw [ur_at, up_ne (by decide), up_ne (by decide), z1, up_ne (by decide), h49], by rw [esn, if_neg (by omega)], by rw [ur_ne (by decide), o1 19 (by decide)]; exact tb, X, by unfold tr; rw [es, if_neg (by omega), if_neg c9], ?_⟩⟩
      rw [ur_ne (by decide), ur_ne (by decide), ur_ne (by decide), o1 19 (by decide), o1 20 (by decide), o1 21 (by decide)]
      exact h
    show ∃ r' J', (if yz (J 0 45) = 0 then (MX9_byNo fu 0 (nI i) (mkM (ur J1 0 (up (J1 0) 45 (dr (J 0 45)))) K)).bind fun x29 => (h_pI 9 (mkM (ur J1 0 (up (J1 0) 45 (dr (J 0 45)))) K) 0 48 x29).bind fun h28 => some ((0 : Int32), h28) else (MX9_byYes fu 0 (nI i) (mkM (ur J1 0 (up (J1 0) 45 (dr (J 0 45)))) K)).bind fun x30 => (h_pI 9 (mkM (ur J1 0 (up (J1 0) 45 (dr (J 0 45)))) K) 0 48 x30).bind fun h28 => some ((0 : Int32), h28)) = _ ∧ _
    by_cases cy : yz (J 0 45) = 0
    · rw [if_pos cy, noo _ (by rw [ur_ne (by decide)]; exact e2) (by rw [ur_ne (by decide), o1 9 (by decide)]), Option.bind_some]
      exact fin _ (by unfold dp; rw [dz1, if_pos cy])
    · rw [if_neg cy, yes _ (by rw [ur_ne (by decide)]; exact e2) (by rw [ur_ne (by decide), o1 9 (by decide)]), Option.bind_some]
      exact fin _ (by unfold dp; rw [dz1, if_neg cy])
end Stands
