/-! LOAD: the class links its statements -/
section Link
variable {sw : Bool} {d fu f : Nat} {P : Nat → Int32} {I : Nat → Nat → Int32} {L : Nat → Nat → Int64} {D sp cl : Nat → Nat}
theorem c_round4 (hp : isP d) {i : Nat} (hi : i < 40) : MX4_goesRound d (nI i) (mkC sw I L) = some (if rnd (I (d + 14) i) then 1 else 0) := by
  simp only [MX4_goesRound, c4_g hp, c4_r4 hp, Option.bind_some, jn]
  rw [c4_ld4 hp hi, Option.bind_some]
  unfold rnd
  by_cases h : I (d + 14) i = 8
  · rw [if_pos h, decide_eq_true (Or.inl h)]; rfl
  · rw [if_neg h]
    by_cases h2 : I (d + 14) i = 10
    · rw [if_pos h2, decide_eq_true (Or.inr h2)]; rfl
    · rw [if_neg h2, decide_eq_false (by rintro (q | q); exact h q; exact h2 q)]; rfl
/-- the rows that link reads -/
def lkR (d : Nat) (P : Nat → Int32) (sp cl : Nat → Nat) (N : Nat) (I : Nat → Nat → Int32) : Prop := I d 3 = nI N ∧ ∀ i, i < N → I (d + 14) i = P (333 + i) ∧ I (d + 19) i = P (493 + i) ∧ I (d + 20) i = nI (sp i) ∧ I (d + 21) i = nI (cl i)
theorem c_after (hp : isP d) (hn : WFn P) (hS : WFs P D) (wb : WB P sp cl f (-1) 0 0 (nT P)) (lk : lkR d P sp cl (nT P) I) {i : Nat} (hi : i < nT P) (ha : ∀ q, q < i → I (d + 22) q = beh P no 8 q) : MX4_placeAfter d (nI i) (mkC sw I L) = some (beh P no 8 i) := by
  have h40 := hn.2.2.2
  obtain ⟨n1, n2, n3⟩ := nx_sib wb h40 hi
  obtain ⟨l1, l2, l3, l4⟩ := lk.2 i hi
  obtain ⟨-, -, b1, b2, b3, -⟩ := nx_blk wb h40 hi
  have be : beh P no 8 i = if nxt P no (P (493 + i)) (P (533 + i)) (nT P - (i + 1)) (i + 1) = -1 then (if P (493 + i) = -1 then P 2 else if rnd (P (333 + nN (P (493 + i)))) then P (493 + i) else beh P no 7 (nN (P (493 + i)))) else nxt P no (P (493 + i)) (P (533 + i)) (nT P - (i + 1)) (i + 1) := rfl
  rw [be, n1]
  simp only [MX4_placeAfter, c4_g hp, c4_r9 hp, c4_r10 hp, c4_r11 hp, c4_r12 hp, Option.bind_some, jn]
  rw [c4_ld9 hp (by omega), Option.bind_some, l2]
  have cm : nI (cl i) ≠ -1 := nI_ne_m1 (by omega)
  rcases (hS i hi).2.2 with ⟨r1, -⟩ | ⟨q, q1, q2, q3, q4, q5⟩
  · have hb : bEn P sp cl (nT P) i = nT P := by unfold bEn; rw [if_pos r1]
    rw [hb] at n2 ⊢
    rw [if_pos r1, c4_ld11 hp (by omega), Option.bind_some, l4]
    by_cases c : cl i < nT P
    · rw [if_pos c, if_neg cm]
    · rw [if_neg c, if_pos rfl, if_pos r1, hn.2.2.1, show cl i = nT P by omega]
  · have nm : ¬ P (493 + i) = -1 := by rw [q2]; exact nI_ne_m1 (a := q) (by omega)
    obtain ⟨m1, m2, m3, m4⟩ := lk.2 q (by omega)
    have nq : nN (P (493 + i)) = q := by rw [q2, nN_nI (by omega)]
    obtain ⟨-, -, e1, e2, e3, -⟩ := nx_blk wb h40 (show q < nT P by omega)
    have hb : bEn P sp cl (nT P) i = if i < sp q then sp q else cl q := by unfold bEn; rw [if_neg nm, nq]
    have hw : ∀ x : Option Int32, (if nI (sp q) ≤ nI i then (if nI (cl q) ≤ nI (cl i) then x else some (nI (cl i))) else (if nI (sp q) ≤ nI (cl i) then x else some (nI (cl i)))) = if cl i < bEn P sp cl (nT P) i then some (nI (cl i)) else x := by
      intro x
      rw [hb]
      by_cases c : i < sp q
      · rw [if_neg (nI_ge c (by omega)), if_pos c]
        by_cases c2 : cl i < sp q
        · rw [if_neg (nI_ge c2 (by omega)), if_pos c2]
        · rw [if_pos (nI_le (by omega) (by omega)), if_neg c2]
      · rw [if_pos (nI_le (by omega) (by omega)), if_neg c]
        by_cases c2 : cl i < cl q
        · rw [if_neg (nI_ge c2 (by omega)), if_pos c2]
        · rw [if_pos (nI_le (by omega) (by omega)), if_neg c2]
    rw [if_neg nm, q2, c4_ld10 hp (by omega), Option.bind_some, m3, c4_ld11 hp (by omega), Option.bind_some, m4, c4_ld11 hp (by omega), Option.bind_some, l4, c_round4 hp (by omega), Option.bind_some, m1, c4_ld12 hp (by omega), Option.bind_some, ha q q1]
    rw [Option.bind_some, hw]
    rw [q2] at nm
    by_cases c : cl i < bEn P sp cl (nT P) i
    · rw [if_pos c, if_pos c, if_neg cm]
    · rw [if_neg c, if_neg c, if_pos rfl, if_neg nm, nN_nI (by omega)]
      have dq := (hS q (by omega)).2.1
      rw [beh_fuel h40 hS 7 8 q (by omega) (by omega) (by omega)]
      cases rnd (P (333 + q))
      · rfl
      · rfl
theorem c_link (hp : isP d) (hn : WFn P) (hS : WFs P D) (wb : WB P sp cl f (-1) 0 0 (nT P)) (lk : lkR d P sp cl (nT P) I) (hfu : 1000 < fu) :
    ∃ I', MX4_link fu d (mkC sw I L) = some (mkC sw I' L) ∧ (∀ x, x ≠ d + 22 → x ≠ d + 23 → x ≠ d + 24 → I' x = I x) ∧ ∀ i, i < nT P → I' (d + 22) i = beh P no 8 i ∧ I' (d + 23) i = lkY P no i ∧ I' (d + 24) i = lkN P no i := by
  have h40 := hn.2.2.2
  have main : WP (MX4_link fu d (mkC sw I L)) (fun h => ∃ I', h = mkC sw I' L ∧ (∀ x, x ≠ d + 22 → x ≠ d + 23 → x ≠ d + 24 → I' x = I x) ∧ ∀ i, i < nT P → I' (d + 22) i = beh P no 8 i ∧ I' (d + 23) i = lkY P no i ∧ I' (d + 24) i = lkN P no i) := by
    simp only [MX4_link, c4_g hp]
    refine wh2_wp (fun r v h => ∃ i I', i + r = nT P ∧ v = nI i ∧ h = mkC sw I' L ∧ (∀ x, x ≠ d + 22 → x ≠ d + 23 → x ≠ d + 24 → I' x = I x) ∧ ∀ j, j < i → I' (d + 22) j = beh P no 8 j ∧ I' (d + 23) j = lkY P no j ∧ I' (d + 24) j = lkN P no j) ?_ fu (nT P) _ _ (by omega) ⟨0, I, by omega, rfl, rfl, fun _ _ _ _ => rfl, fun j hj => by omega⟩
    rintro r v h self ⟨i, I1, hi, rfl, rfl, fr, ih1⟩ ih
    have lk1 : lkR d P sp cl (nT P) I1 := by
      unfold lkR
      rw [fr d (by omega) (by omega) (by omega), fr (d + 14) (by omega) (by omega) (by omega), fr (d + 19) (by omega) (by omega) (by omega), fr (d + 20) (by omega) (by omega) (by omega), fr (d + 21) (by omega) (by omega) (by omega)]
      exact lk
    simp only [MX4_link_B2, c4_fI hp, Option.bind_some, jn]
    rw [lk1.1]
    by_cases hr : r = 0
    · rw [if_pos (nI_le (by omega) (by omega))]
      exact WP_some ⟨I1, rfl, fr, fun j hj => ih1 j (by omega)⟩
    · have iN : i < nT P := by omega
      rw [if_neg (nI_ge (by omega) (by omega)), c4_r12 hp, Option.bind_some, c_after hp hn hS wb lk1 iN (fun q hq => (ih1 q hq).1), Option.bind_some, c4_st12 hp (by omega), Option.bind_some, c4_r13 hp, Option.bind_some, c4_r12 hp, Option.bind_some, c4_ld12 hp (by omega), Option.bind_some, c4_st13 hp (by omega), Option.bind_some, c4_r14 hp, Option.bind_some, c4_st14 hp (by omega), Option.bind_some, c4_r4 hp, Option.bind_some, c4_ld4 hp (by omega), Option.bind_some]
      generalize hB : beh P no 8 i = B at *
      rw [ur_at, up_at, ur_ne (show d + 23 ≠ d + 22 by omega), ur_ne (show d + 24 ≠ d + 23 by omega), ur_ne (show d + 24 ≠ d + 22 by omega)]
      generalize hI2 : ur (ur (ur I1 (d + 22) (up (I1 (d + 22)) i B)) (d + 23) (up (I1 (d + 23)) i B)) (d + 24) (up (I1 (d + 24)) i (-1)) = I2
      have fr2 : ∀ x, x ≠ d + 22 → x ≠ d + 23 → x ≠ d + 24 → I2 x = I1 x := fun x a1 a2 a3 => by rw [← hI2, ur_ne a3, ur_ne a2, ur_ne a1]
      have r22 : I2 (d + 22) = up (I1 (d + 22)) i B := by rw [← hI2, ur_ne (by omega), ur_ne (by omega), ur_at]
      have r23 : I2 (d + 23) = up (I1 (d + 23)) i B := by rw [← hI2, ur_ne (by omega), ur_at]
      have r24 : I2 (d + 24) = up (I1 (d + 24)) i (-1) := by rw [← hI2, ur_at]
      obtain ⟨l1, l2, l3, l4⟩ := lk1.2 i iN
      rw [fr2 (d + 14) (by omega) (by omega) (by omega), l1]
      obtain ⟨x1, x2, b1, b2, b3, b4⟩ := nx_blk wb h40 iN
      have fin : ∀ I3 : Nat → Nat → Int32, (∀ x, x ≠ d + 22 → x ≠ d + 23 → x ≠ d + 24 → I3 x = I1 x) → I3 (d + 22) = up (I1 (d + 22)) i B → I3 (d + 23) = up (I1 (d + 23)) i (lkY P no i) → I3 (d + 24) = up (I1 (d + 24)) i (lkN P no i) → WP (self (nI i + 1) (mkC sw I3 L)) (fun h => ∃ I', h = mkC sw I' L ∧ (∀ x, x ≠ d + 22 → x ≠ d + 23 → x ≠ d + 24 → I' x = I x) ∧ ∀ i, i < nT P → I' (d + 22) i = beh P no 8 i ∧ I' (d + 23) i = lkY P no i ∧ I' (d + 24) i = lkN P no i) := by
        intro I3 e1 e2 e3 e4
        refine ih (r - 1) _ _ (by omega) ⟨i + 1, I3, by omega, nI_1 i, rfl, fun x a1 a2 a3 => by rw [e1 x a1 a2 a3, fr x a1 a2 a3], fun j hj => ?_⟩
        rw [e2, e3, e4]
        by_cases z : j = i
        · rw [z, up_at, up_at, up_at, hB]; exact ⟨rfl, rfl, rfl⟩
        · rw [up_ne z, up_ne z, up_ne z]; exact ih1 j (by omega)
      by_cases c7 : P (333 + i) < 7
      · rw [if_pos c7]
        refine fin I2 fr2 r22 ?_ ?_
        · rw [r23]; unfold lkY; rw [if_pos c7, hB]
        · rw [r24]; unfold lkN; rw [if_pos c7]
      · rw [if_neg c7]
        have lb : MX4_linkBlocks d (nI i) (mkC sw I2 L) = some (mkC sw (ur (ur I2 (d + 23) (up (I2 (d + 23)) i (lkY P no i))) (d + 24) (up (I2 (d + 24)) i (lkN P no i))) L) := by
          have k20 : I2 (d + 20) i = nI (sp i) := by rw [fr2 (d + 20) (by omega) (by omega) (by omega)]; exact l3
          have k21 : I2 (d + 21) i = nI (cl i) := by rw [fr2 (d + 21) (by omega) (by omega) (by omega)]; exact l4
          have k14 : I2 (d + 14) i = P (333 + i) := by rw [fr2 (d + 14) (by omega) (by omega) (by omega)]; exact l1
          have k22 : I2 (d + 22) i = B := by rw [r22, up_at]
          simp only [MX4_linkBlocks, c4_g hp, jn]
          rw [c_round4 hp (by omega), Option.bind_some, k14]
          simp only [c4_r13 hp, c4_r10 hp, c4_r12 hp, Option.bind_some]
          rw [c4_ld10 hp (by omega), Option.bind_some, k20, c4_ld12 hp (by omega), Option.bind_some, k22, nI_1]
          -- by yes
          have yes : ∀ (F : Int32 → Option Hp), (if (if rnd (P (333 + i)) then (1 : Int32) else 0) = 0 then (if nI (sp i) ≤ nI (i + 1) then F B else F (nI (i + 1))) else (if nI (sp i) ≤ nI (i + 1) then F (nI i) else F (nI (i + 1)))) = F (lkY P no i) := by
            intro F
            unfold lkY
            rw [if_neg c7, x1, hB]
            by_cases c : i + 1 < sp i
            · rw [if_pos c, if_neg (nI_ge c (by omega)), if_neg (nI_ge c (by omega)), if_neg (nI_ne_m1 (a := i + 1) (by omega))]
              split <;> rfl
            · rw [if_neg c, if_pos (nI_le (by omega) (by omega)), if_pos (nI_le (by omega) (by omega)), if_pos rfl]
              cases rnd (P (333 + i)) <;> rfl
          refine (yes (fun w => (h_stI (mkC sw I2 L) (d + 23) (nI i) w).bind fun h9 => (h_fR 4 h9 d 14).bind fun x10 => (h_fR 4 h9 d 11).bind fun x11 => (h_ldI h9 x11 (nI i)).bind fun x12 => (h_fR 4 h9 d 10).bind fun x13 => (h_ldI h9 x13 (nI i)).bind fun x14 => if x12 ≤ x14 then (h_fR 4 h9 d 12).bind fun x18 => (h_ldI h9 x18 (nI i)).bind fun x19 => (h_stI h9 x10 (nI i) x19).bind fun h17 => some h17 else (h_stI h9 x10 (nI i) x14).bind fun h17 => some h17)).trans ?_
          rw [c4_st13 hp (by omega), Option.bind_some, c4_r14 hp, Option.bind_some, c4_r11 hp, Option.bind_some, c4_ld11 hp (by omega), Option.bind_some, c4_r10 hp, Option.bind_some, c4_ld10 hp (by omega), Option.bind_some, c4_r12 hp, Option.bind_some, c4_ld12 hp (by omega), Option.bind_some]
          rw [ur_ne (show d + 21 ≠ d + 23 by omega), ur_ne (show d + 20 ≠ d + 23 by omega), ur_ne (show d + 22 ≠ d + 23 by omega), k20, k21, k22]
          have nob : ∀ (F : Int32 → Option Hp), (if nI (cl i) ≤ nI (sp i) then F B else F (nI (sp i))) = F (lkN P no i) := by
            intro F
            unfold lkN
            rw [if_neg c7, x2, hB]
            by_cases c : sp i < cl i
            · rw [if_neg (nI_ge c (by omega)), if_pos c, if_neg (nI_ne_m1 (a := sp i) (by omega))]
              have nr : rnd (P (333 + i)) = false := by
                obtain ⟨u1, u2⟩ := b4 c
                rcases (hS (sp i) (by omega)).2.2 with ⟨v, -⟩ | ⟨q, q1, q2, q3, q4, q5⟩
                · rw [u1] at v; exact absurd v (nI_ne_m1 (a := i) (by omega))
                · rw [u1] at q2
                  have : i = q := nI_inj (by omega) (by omega) q2
                  subst this
                  rcases q5 with v | v
                  · rw [u2] at v; exact absurd v (by decide)
                  · exact v.2
              rw [nr]
              rfl
            · rw [if_pos (nI_le (by omega) (by omega)), if_neg c, if_pos rfl]
              split <;> rfl
          refine (nob (fun w => (h_stI (mkC sw (ur I2 (d + 23) (up (I2 (d + 23)) i (lkY P no i))) L) (d + 24) (nI i) w).bind fun h17 => some h17)).trans ?_
          rw [c4_st14 hp (by omega), Option.bind_some, ur_ne (show d + 24 ≠ d + 23 by omega)]
        rw [lb, Option.bind_some]
        refine fin _ (fun x a1 a2 a3 => by rw [ur_ne a3, ur_ne a2, fr2 x a1 a2 a3]) (by rw [ur_ne (by omega), ur_ne (by omega), r22]) ?_ ?_
        · rw [ur_ne (by omega), ur_at, r23]
          funext j
          by_cases z : j = i
          · rw [z, up_at, up_at]
          · rw [up_ne z, up_ne z, up_ne z]
        · rw [ur_at, r24]
          funext j
          by_cases z : j = i
          · rw [z, up_at, up_at]
          · rw [up_ne z, up_ne z, up_ne z]
  obtain ⟨_, e, I', rfl, q⟩ := main
  exact ⟨I', e, q⟩
end Link
