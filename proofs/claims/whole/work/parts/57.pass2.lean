section Pass2
variable {sw : Bool} {I : Nat → Nat → Int32} {L : Nat → Nat → Int64} {p fu x : Nat} {P : Nat → Int32} {D : Nat → Nat} {X Y : Nat → Int32}
theorem bind_bind {α β γ : Type} {x : Option α} {f : α → Option β} {g : β → Option γ} : (x.bind fun a => (f a).bind g) = (x.bind f).bind g := by cases x <;> rfl
theorem e24_up_at {j : Nat} {c d : Int32} (h : ∀ i, i < 24 → i ≠ j → X i = Y i) (e : c = d) : e24 (up X j c) (up Y j d) := by
  intro i hi
  by_cases q : i = j
  · rw [q, up_at, up_at, e]
  · rw [up_ne q, up_ne q]; exact h i hi q
theorem goS_0 {a b : Nat} : goS 0 a b X = up (up (emp X a) a 8) (6 + a) 1 := rfl
theorem goS_1 {a b : Nat} : goS 1 a b X = emp (up (joi X a b false) a (X b)) b := rfl
theorem goS_2 {a b : Nat} : goS 2 a b X = up (up (joi X a b true) b (4 ||| (X b &&& 1))) a (4 ||| (X b &&& 1)) := rfl
theorem goS_3 {a b : Nat} : goS 3 a b X = up (up (joi X a b true) a (2 ||| (X b &&& 1))) b (if bt (X b) 3 then (X b &&& 7) ||| 2 else X b) := rfl
theorem goS_4 {a b : Nat} : goS 4 a b X = up (emp X b) a (if emp X b (12 + a) = 0 then 8 else if emp X b (18 + a) = 0 then X a ||| 8 else X a) := rfl
theorem goS_5 {a b : Nat} : goS 5 a b X = emp X a := rfl
theorem c_mk1 {a b : Nat} (hx : isH x) (ha : a < 6) (hb : b < 6) (ne : a ≠ b) : MX1_makeOne x (nI a) (nI b) (mkC sw I L) = some (mkC sw (ur I (x + 1) (mk1 (I (x + 1)) a b)) L) := c_makeOne hx ha hb ne
theorem c_pass {i : Nat} {z : Int32} (hx : isH x) (hp : isP p) (hR : CRk p I P) (hV : CRv p I P) (hC : CRs p I P D) (hW : WFK P) (hv : WFv P) (hS : WFs P D) (hi : i < nT P) (hg : GX (I (x + 1))) (hfu : 6 < fu) :
    WP (MX1_pass fu x p (nI i) z (mkC sw I L)) (fun r => ∃ g, r.2 = mkC sw (ur I (x + 1) g) L ∧ ((r.1 = 0 ∧ tr P i z (I (x + 1)) = none) ∨ (r.1 = 1 ∧ tq P i z (I (x + 1)) g))) := by
  have h40 := hW.1.2.2.2
  have h6 := hW.1.2.1.2
  obtain ⟨so, h10, eso, es, o1, o2, o3⟩ := op_of hW hv hS hi
  obtain ⟨d1, d2, d3, d4, -⟩ := hC.2 i hi
  simp only [MX1_pass, c1_g hx, c4_r4 hp, c4_r5 hp, c4_r6 hp, c4_r7 hp, Option.bind_some, jn]
  rw [c4_ld5 hp (by omega), Option.bind_some, c4_ld6 hp (by omega), Option.bind_some, c4_ld4 hp (by omega), Option.bind_some, c4_ld7 hp (by omega), Option.bind_some, d1, d2, d3, d4]
  have trq : ∀ so', so' = so → so' < 6 → tr P i z (I (x + 1)) = some (goS so' (nN (P (373 + i))) (nN (P (413 + i))) (I (x + 1))) := by
    rintro _ rfl h
    unfold tr
    rw [es, if_pos h]
  by_cases c9 : so < 9
  · obtain ⟨la, ea⟩ := o1 c9
    generalize hda : nN (P (373 + i)) = a at *
    rw [ea]
    rcases (show so = 0 ∨ so = 1 ∨ so = 2 ∨ so = 3 ∨ so = 4 ∨ so = 5 ∨ (6 ≤ so ∧ so ≤ 8) by omega) with rfl | rfl | rfl | rfl | rfl | rfl | hso
    · rw [eso, if_pos (show nI 0 = 0 from rfl)]
      obtain ⟨_, e1, g, rfl, h1⟩ := c_letGo (sw := sw) (I := I) (L := L) (fu := fu) (v := a) hx (by omega) hfu
      rw [e1, Option.bind_some, c1_r0 hx, Option.bind_some, ix_0, c1_st hx (by omega), Option.bind_some, c1_r0 hx, Option.bind_some, ix_c (show (6 : Int32) = nI 6 from rfl), c1_st hx (by omega), Option.bind_some]
      simp only [ur_ur, ur_at]
      refine WP_some ⟨_, rfl, Or.inr ⟨rfl, _, trq 0 rfl (by decide), ?_⟩⟩
      rw [goS_0]
      exact up_e24 (up_e24 h1 rfl) rfl
    · obtain ⟨lb, ne, eb⟩ := o2 (by omega) (by omega)
      generalize hdb : nN (P (413 + i)) = b at *
      rw [eso, eb, if_neg (by decide), if_pos (by decide), bind_bind]
      obtain ⟨_, e1, g, rfl, h1⟩ := c_like (sw := sw) (I := I) (L := L) (fu := fu) (a := a) (b := b) hx (by omega) (by omega) (Ne.symm ne) hfu
      rw [e1, Option.bind_some, c1_r0 hx, Option.bind_some, ix_0, ix_0, c1_ld hx (by omega), Option.bind_some, c1_st hx (by omega), Option.bind_some]
      simp only [ur_ur, ur_at]
      obtain ⟨_, e2, g2, rfl, h2⟩ := c_letGo (sw := sw) (I := ur I (x + 1) (up g a (g b))) (L := L) (fu := fu) (v := b) hx (by omega) hfu
      rw [e2, Option.bind_some]
      simp only [ur_ur, ur_at] at h2 ⊢
      refine WP_some ⟨_, rfl, Or.inr ⟨rfl, _, trq 1 rfl (by decide), ?_⟩⟩
      rw [goS_1]
      refine e24_trans h2 (emp_e24 (e24_up_at (fun j hj nj => ?_) ?_))
      · rw [h1 j hj, bec_joi (by omega) (by omega) (Ne.symm ne) hj nj]
      · rw [h1 b (by omega), bec_joi (by omega) (by omega) (Ne.symm ne) (by omega) ne, joi_h (by omega)]
    · obtain ⟨lb, ne, eb⟩ := o2 (by omega) (by omega)
      generalize hdb : nN (P (413 + i)) = b at *
      rw [eso, eb, if_neg (by decide), if_neg (by decide), if_pos (by decide), bind_bind]
      obtain ⟨_, e1, g, rfl, h1⟩ := c_like (sw := sw) (I := I) (L := L) (fu := fu) (a := a) (b := b) hx (by omega) (by omega) (Ne.symm ne) hfu
      rw [e1, Option.bind_some, c_mk1 hx (by omega) (by omega) (Ne.symm ne), Option.bind_some, c1_r0 hx, Option.bind_some, ix_0, ix_0, c1_ld hx (by omega), Option.bind_some, c1_st hx (by omega), Option.bind_some, c1_r0 hx, Option.bind_some, c1_ld hx (by omega), Option.bind_some, c1_st hx (by omega), Option.bind_some]
      simp only [ur_ur, ur_at, up_at]
      have h2 : ∀ j, j < 24 → j ≠ a → mk1 g a b j = joi (I (x + 1)) a b true j := fun j hj nj => by
        rw [mk1_e24 h1 j hj]; exact mk1_joi (by omega) (by omega) (Ne.symm ne) hj nj
      have hb : mk1 g a b b = I (x + 1) b := by rw [h2 b (by omega) ne, joi_h (by omega)]
      refine WP_some ⟨_, rfl, Or.inr ⟨rfl, _, trq 2 rfl (by decide), ?_⟩⟩
      rw [goS_2]
      have hv2 : (4 ||| (mk1 g a b b &&& 1)) = 4 ||| (I (x + 1) b &&& 1) := by rw [hb]
      refine e24_up_at (fun j hj nj => ?_) hv2
      by_cases q : j = b
      · rw [q, up_at, up_at]; exact hv2
      · rw [up_ne q, up_ne q]; exact h2 j hj nj
    · obtain ⟨lb, ne, eb⟩ := o2 (by omega) (by omega)
      generalize hdb : nN (P (413 + i)) = b at *
      rw [eso, eb, if_neg (by decide), if_neg (by decide), if_neg (by decide), if_pos (by decide), bind_bind]
      obtain ⟨_, e1, g, rfl, h1⟩ := c_like (sw := sw) (I := I) (L := L) (fu := fu) (a := a) (b := b) hx (by omega) (by omega) (Ne.symm ne) hfu
      rw [e1, Option.bind_some, c_mk1 hx (by omega) (by omega) (Ne.symm ne), Option.bind_some, c1_r0 hx, Option.bind_some, ix_0, ix_0, c1_ld hx (by omega), Option.bind_some, c1_st hx (by omega), Option.bind_some, c1_r0 hx, Option.bind_some, c1_ld hx (by omega), Option.bind_some]
      simp only [ur_ur, ur_at]
      have h2 : ∀ j, j < 24 → j ≠ a → mk1 g a b j = joi (I (x + 1)) a b true j := fun j hj nj => by
        rw [mk1_e24 h1 j hj]; exact mk1_joi (by omega) (by omega) (Ne.symm ne) hj nj
      have hb : mk1 g a b b = I (x + 1) b := by rw [h2 b (by omega) ne, joi_h (by omega)]
      rw [up_ne ne]
      have look : MX1_lookForWhole (mk1 g a b b) = some (if bt (I (x + 1) b) 3 then (I (x + 1) b &&& 7) ||| 2 else I (x + 1) b) := by
        unfold MX1_lookForWhole
        rw [hb]
        have e8 : (I (x + 1) b &&& 8 = 0) ↔ bt (I (x + 1) b) 3 = false := by
          rw [z_bt]
          have b8 : ∀ t, bt 8 t = decide (t = 3) := fun t => b_b1 (v := 3) (by decide) t
          constructor
          · intro h
            have := h 3
            rw [b_and, b8] at this
            simpa using this
          · intro h t
            rw [b_and, b8]
            by_cases q : t = 3
            · rw [q, h]; rfl
            · simp [q]
        by_cases c : bt (I (x + 1) b) 3 = true
        · rw [if_neg (fun q => by rw [e8.mp q] at c; cases c), if_pos c]
          congr 2
          apply b_ext
          intro t ht
          rw [b_and, b_and]
          by_cases h4 : t < 4
          · rw [(by decide +kernel : ∀ t, t < 4 → bt (-9) t = bt 7 t) t h4]
          · rw [hg.1 b t (by omega) (by omega)]; rfl
        · rw [if_pos (e8.mpr (by simpa using c)), if_neg c]
      rw [look, Option.bind_some, c1_st hx (by omega), Option.bind_some]
      simp only [ur_ur, ur_at]
      refine WP_some ⟨_, rfl, Or.inr ⟨rfl, _, trq 3 rfl (by decide), ?_⟩⟩
      rw [goS_3]
      have hv2 : (2 ||| (mk1 g a b b &&& 1)) = 2 ||| (I (x + 1) b &&& 1) := by rw [hb]
      refine e24_up_at (fun j hj nj => ?_) rfl
      by_cases q : j = a
      · rw [q, up_at, up_at]; exact hv2
      · rw [up_ne q, up_ne q]; exact h2 j hj q
    · obtain ⟨lb, ne, eb⟩ := o2 (by omega) (by omega)
      generalize hdb : nN (P (413 + i)) = b at *
      rw [eso, eb, if_neg (by decide), if_neg (by decide), if_neg (by decide), if_neg (by decide), if_pos (by decide)]
      simp only [MX1_passJoin, MX1_isAlone, c1_g hx]
      obtain ⟨_, e1, g, rfl, h1⟩ := c_letGo (sw := sw) (I := I) (L := L) (fu := fu) (v := b) hx (by omega) hfu
      rw [e1, Option.bind_some, c1_r0 hx, Option.bind_some, ix_0, ix_c (show (12 : Int32) = nI 12 from rfl), c1_ld hx (by omega), Option.bind_some, ix_c (show (18 : Int32) = nI 18 from rfl), c1_ld hx (by omega), Option.bind_some, Option.bind_some, c1_ld hx (by omega), Option.bind_some, ur_at]
      have ga : g a = I (x + 1) a := by rw [h1 a (by omega), emp_h (by omega), if_neg (Ne.symm ne)]
      have fin : ∀ y : Int32, y = (if emp (I (x + 1)) b (12 + a) = 0 then 8 else if emp (I (x + 1)) b (18 + a) = 0 then I (x + 1) a ||| 8 else I (x + 1) a) → tq P i z (I (x + 1)) (up g a y) := by
        intro y hy
        refine ⟨_, trq 4 rfl (by decide), ?_⟩
        rw [goS_4]
        exact up_e24 h1 hy
      rw [h1 (12 + a) (by omega), h1 (18 + a) (by omega), ga]
      by_cases c1 : emp (I (x + 1)) b (12 + a) = 0
      · rw [if_pos c1, c1_st hx (by omega), Option.bind_some, Option.bind_some, ur_ur, ur_at]
        exact WP_some ⟨_, rfl, Or.inr ⟨rfl, fin 8 (by rw [if_pos c1])⟩⟩
      · rw [if_neg c1]
        by_cases c2 : emp (I (x + 1)) b (18 + a) = 0
        · rw [if_pos c2, c1_g hx, Option.bind_some, if_neg (by decide), c1_st hx (by omega), Option.bind_some, Option.bind_some, ur_ur, ur_at]
          exact WP_some ⟨_, rfl, Or.inr ⟨rfl, fin _ (by rw [if_neg c1, if_pos c2])⟩⟩
        · rw [if_neg c2, c1_g hx, Option.bind_some, if_pos rfl, Option.bind_some]
          have := fin (I (x + 1) a) (by rw [if_neg c1, if_neg c2])
          rw [← ga, show up g a (g a) = g from by funext j; unfold up; split; rename_i q; rw [q]; rfl] at this
          exact WP_some ⟨_, rfl, Or.inr ⟨rfl, this⟩⟩
    · rw [eso, if_neg (by decide), if_neg (by decide), if_neg (by decide), if_neg (by decide), if_neg (by decide), if_pos (by decide)]
      obtain ⟨_, e1, g, rfl, h1⟩ := c_letGo (sw := sw) (I := I) (L := L) (fu := fu) (v := a) hx (by omega) hfu
      rw [e1, Option.bind_some]
      refine WP_some ⟨_, rfl, Or.inr ⟨rfl, _, trq 5 rfl (by decide), ?_⟩⟩
      rw [goS_5]
      exact h1
    · obtain ⟨k1, k2, k3, -⟩ := o3 hso.1 hso.2
      generalize hdm : nN (P (453 + i)) = m at *
      rw [k3]
      have ek : P (327 + a) = nI (vK P a) := (hv a la).1
      obtain ⟨⟨r1, _⟩, e1, g, rfl, h1⟩ := c_ask (sw := sw) (L := L) (fu := fu) (z := z) (x := x) hx hp hR hW hV k1 k2 la ek hg hfu
      have trA : tr P i z (I (x + 1)) = if im P (vK P a) m z (I (x + 1) (6 + a)) = 0 then none else some (asS P (vK P a) m a z (I (x + 1))) := by
        unfold tr
        rw [es, if_neg (by omega), if_pos (by omega), hda, hdm]
      have fin : WP ((MX1_ask fu x p (nI a) (nI m) z (mkC sw I L)).bind fun p10 => (h_z p10.1).bind fun z11 => some (z11, p10.2)) (fun r => ∃ g, r.2 = mkC sw (ur I (x + 1) g) L ∧ ((r.1 = 0 ∧ tr P i z (I (x + 1)) = none) ∨ (r.1 = 1 ∧ tq P i z (I (x + 1)) g))) := by
        rw [e1, Option.bind_some]
        rcases h1 with ⟨q, h2, h3⟩ | ⟨q, h2, h3⟩
        · obtain rfl : r1 = 0 := q
          exact ⟨_, rfl, g, rfl, Or.inl ⟨rfl, by rw [trA, if_pos h2]⟩⟩
        · obtain rfl : r1 = 1 := q
          exact ⟨_, rfl, g, rfl, Or.inr ⟨rfl, _, by rw [trA, if_neg h2], h3⟩⟩
      rcases (show so = 6 ∨ so = 7 ∨ so = 8 by omega) with rfl | rfl | rfl
      · rw [eso]
        simp only [if_neg (show ¬ nI 6 = 0 by decide), if_neg (show ¬ nI 6 = 1 by decide), if_neg (show ¬ nI 6 = 2 by decide), if_neg (show ¬ nI 6 = 3 by decide), if_neg (show ¬ nI 6 = 4 by decide), if_neg (show ¬ nI 6 = 5 by decide), if_pos (show nI 6 = 6 by decide)]
        exact fin
      · rw [eso]
        simp only [if_neg (show ¬ nI 7 = 0 by decide), if_neg (show ¬ nI 7 = 1 by decide), if_neg (show ¬ nI 7 = 2 by decide), if_neg (show ¬ nI 7 = 3 by decide), if_neg (show ¬ nI 7 = 4 by decide), if_neg (show ¬ nI 7 = 5 by decide), if_neg (show ¬ nI 7 = 6 by decide), if_pos (show nI 7 = 7 by decide)]
        exact fin
      · rw [eso]
        simp only [if_neg (show ¬ nI 8 = 0 by decide), if_neg (show ¬ nI 8 = 1 by decide), if_neg (show ¬ nI 8 = 2 by decide), if_neg (show ¬ nI 8 = 3 by decide), if_neg (show ¬ nI 8 = 4 by decide), if_neg (show ¬ nI 8 = 5 by decide), if_neg (show ¬ nI 8 = 6 by decide), if_neg (show ¬ nI 8 = 7 by decide), if_pos (show nI 8 = 8 by decide)]
        exact fin
  · have trI : tr P i z (I (x + 1)) = some (I (x + 1)) := by
      unfold tr
      rw [es, if_neg (by omega), if_neg c9]
    have ne : ∀ c, c < 9 → ¬ P (333 + i) = nI c := by
      intro c hc q
      rw [eso] at q
      have := nI_inj (by omega) (by omega) q
      omega
    rw [if_neg (show ¬ P (333 + i) = 0 from ne 0 (by decide)), if_neg (show ¬ P (333 + i) = 1 from ne 1 (by decide)), if_neg (show ¬ P (333 + i) = 2 from ne 2 (by decide)), if_neg (show ¬ P (333 + i) = 3 from ne 3 (by decide)), if_neg (show ¬ P (333 + i) = 4 from ne 4 (by decide)), if_neg (show ¬ P (333 + i) = 5 from ne 5 (by decide)), if_neg (show ¬ P (333 + i) = 6 from ne 6 (by decide)), if_neg (show ¬ P (333 + i) = 7 from ne 7 (by decide)), if_neg (show ¬ P (333 + i) = 8 from ne 8 (by decide))]
    exact WP_some ⟨I (x + 1), by rw [ur_self], Or.inr ⟨rfl, _, trI, fun _ _ => rfl⟩⟩
end Pass2
