/-! RUN -/
def dr (x : Int32) : Int32 := ((75 : Int32) * x + 74) - ((75 : Int32) * x + 74) / 65537 * 65537
def yz (x : Int32) : Int32 := if dr x - dr x / 2 * 2 = 0 then 1 else 0
/-- the answer that is drawn at a statement, and the draw behind it -/
def dz (P : Nat → Int32) (i : Nat) (d : Int32) : Int32 := if nN (P (333 + i)) < 7 then 1 else yz d
def dd (P : Nat → Int32) (i : Nat) (d : Int32) : Int32 := if nN (P (333 + i)) < 7 then d else dr d
def dp (P : Nat → Int32) (i : Nat) (d : Int32) : Int32 := if dz P i d = 0 then lkN P no i else lkY P no i
theorem yz01 (x : Int32) : yz x = 0 ∨ yz x = 1 := by unfold yz; split; exact Or.inr rfl; exact Or.inl rfl
/-- all that is left at the end -/
def lfA (P X : Nat → Int32) (l : Nat → Int32) : Nat → Nat → Int32
  | 0 => l
  | v + 1 => up (lfA P X l v) (vK P v) (lfA P X l v (vK P v) ||| X (6 + v))
section Runner
variable {sw : Bool} {I : Nat → Nat → Int32} {L : Nat → Nat → Int64} {J J' : Nat → Nat → Int32} {K : Nat → Nat → Int64} {fu i v p : Nat} {D : Nat → Nat} {X P : Nat → Int32}
theorem rem_some {x y : Int32} (h : y ≠ 0) : h_rem x y = some (x - x / y * y) := by unfold h_rem; rw [if_neg h]
theorem c_draw : MX5_drawYes 224 (mkC sw I L) = some (yz (I 224 4), mkC sw (ur I 224 (up (I 224) 4 (dr (I 224 4)))) L) := by
  simp only [MX5_drawYes, c5_g, c5_fI, Option.bind_some]
  rw [rem_some (by decide), Option.bind_some, c5_pI, Option.bind_some, c5_fI, Option.bind_some, ur_at, up_at, rem_some (by decide), Option.bind_some]
  unfold yz dr
  split <;> rfl
theorem m_draw : MX9_drawsYes 0 (mkM J K) = some (yz (J 0 45), mkM (ur J 0 (up (J 0) 45 (dr (J 0 45)))) K) := by
  simp only [MX9_drawsYes, m_g, m_fI, Option.bind_some]
  rw [rem_some (by decide), Option.bind_some, m_pI, Option.bind_some, m_fI, Option.bind_some, ur_at, up_at, rem_some (by decide), Option.bind_some]
  unfold yz dr
  split <;> rfl
theorem m_finishes (hA : WFA (J 2) D) (h : CF (J 2) (J 19) (J 20) (J 21) X) (hfu : 6 < fu) : ∃ l, MX9_finishes fu 0 (mkM J K) = some (rsn (J 2) (nT (J 2)) X, mkM (ur J 22 l) K) ∧ ∀ k, k < 4 → l k = lfA (J 2) X (J 22) (nV (J 2)) k := by
  have hV := hA.1.1.2.1.2
  have h4 := hA.1.1.1.2
  have main : WP (MX9_finishes fu 0 (mkM J K)) (fun r => ∃ l, r = (rsn (J 2) (nT (J 2)) X, mkM (ur J 22 l) K) ∧ ∀ k, k < 4 → l k = lfA (J 2) X (J 22) (nV (J 2)) k) := by
    simp only [MX9_finishes, m_g]
    refine wh3_wp (fun r y n hh => ∃ v l, v + r = nV (J 2) ∧ n = nI v ∧ hh = mkM (ur J 22 l) K ∧ (∀ k, k < 4 → l k = lfA (J 2) X (J 22) v k) ∧ y = if anyE (J 2) X v then 5 else 0) ?_ fu (nV (J 2)) _ _ _ (by omega) ⟨0, J 22, by omega, rfl, by rw [ur_self], fun _ _ => rfl, rfl⟩
    rintro r y n hh self ⟨v, l, hv, rfl, rfl, g, rfl⟩ ih
    have e2 : ∀ l : Nat → Int32, ur J 22 l 2 = J 2 := fun l => ur_ne (by decide)
    have e19 : ∀ l : Nat → Int32, ur J 22 l 19 = J 19 := fun l => ur_ne (by decide)
    have e21 : ∀ l : Nat → Int32, ur J 22 l 21 = J 21 := fun l => ur_ne (by decide)
    simp only [MX9_finishes_B4, m_r1, m_r35, m_r37, m_r38, Option.bind_some, jn]
    rw [show h_ldI (mkM (ur J 22 l) K) 2 (1 : Int32) = some (ur J 22 l 2 1) from m_ld2 (k := 1) (by decide), Option.bind_some, e2, hA.1.1.2.1.1]
    by_cases hr : r = 0
    · subst hr
      rw [if_pos (nI_le (by omega) (by omega))]
      have ev : v = nV (J 2) := by omega
      subst ev
      refine WP_some ⟨l, ?_, g⟩
      unfold rsn
      rw [if_pos rfl]
    · have lv : v < nV (J 2) := by omega
      obtain ⟨ek, lk⟩ := hA.2.1 v lv
      have aE : anyE (J 2) X (v + 1) = (anyE (J 2) X v || nEnd (J 2) X v) := rfl
      rw [if_neg (nI_ge (by omega) (by omega)), m_ld19 (by omega), Option.bind_some, e19]
      rcases h.1 v (by omega) with ⟨c1, -, -, -, x0⟩ | ⟨c1, -, -, -, s, ls, s2, s3⟩
      · rw [if_pos c1]
        refine ih (r - 1) _ _ _ (by omega) ⟨v + 1, l, by omega, nI_1 v, rfl, fun k hk => ?_, ?_⟩
        · rw [g k hk]
          show _ = up _ _ _ k
          rw [x0, Int32.or_zero, up_self]
        · have : nEnd (J 2) X v = false := by unfold nEnd; rw [x0]; simp
          rw [aE, this, Bool.or_false]
      · have h6 := (hA.1.2 _ lk).1.2.2
        rw [if_neg c1, ix_c (show (327 : Int32) = nI 327 from rfl), m_ld2 (by omega), Option.bind_some, e2, ek, m_ld22 (by omega), Option.bind_some, m_ld21 (by omega), Option.bind_some, e21, s2, ur_at, m_st22 (by omega), Option.bind_some, m_r1, Option.bind_some, m_ld2 (by omega), Option.bind_some, m_r37, Option.bind_some, m_ld21 (by omega), Option.bind_some, ur_ur, e2, e21, ek, s2, m_isEnd (by omega) (by omega), Option.bind_some, e2, ur_at]
        have g2 : ∀ k, k < 4 → up l (vK (J 2) v) (l (vK (J 2) v) ||| ((1 : Int32) <<< (nI s &&& 31))) k = lfA (J 2) X (J 22) (v + 1) k := by
          intro k hk
          show _ = up _ _ _ k
          by_cases c : k = vK (J 2) v
          · rw [c, up_at, up_at, g _ (by omega), s3]
          · rw [up_ne c, up_ne c, g k hk]
        have ne1 : nEnd (J 2) X v = !bt (pE (J 2) (vK (J 2) v)) s := by
          unfold nEnd
          rw [s3]
          have : b1 s &&& (pE (J 2) (vK (J 2) v) ^^^ -1) = 0 ↔ bt (pE (J 2) (vK (J 2) v)) s = true := by
            rw [z_bt]
            constructor
            · intro z
              have := z s
              rw [b_and, b_not (by omega), b_b1 (by omega)] at this
              simpa using this
            · intro z t
              by_cases c : t < 32
              · rw [b_and, b_not c, b_b1 (by omega)]
                by_cases c2 : t = s
                · rw [c2, z]; simp
                · simp [c2]
              · exact b_big (by omega)
          cases e : bt (pE (J 2) (vK (J 2) v)) s
          · exact decide_eq_true (fun z => by rw [this.mp z] at e; cases e)
          · exact decide_eq_false (fun z => z (this.mpr e))
        cases e : bt (pE (J 2) (vK (J 2) v)) s
        · rw [if_pos (by decide)]
          refine ih (r - 1) _ _ _ (by omega) ⟨v + 1, _, by omega, nI_1 v, rfl, g2, ?_⟩
          rw [aE, ne1, e]
          simp
        · rw [if_neg (by decide)]
          refine ih (r - 1) _ _ _ (by omega) ⟨v + 1, _, by omega, nI_1 v, rfl, g2, ?_⟩
          rw [aE, ne1, e]
          simp
  obtain ⟨_, e, l, rfl, q⟩ := main
  exact ⟨l, e, q⟩
theorem m_asksWrong (hA : WFA (J 2) D) (hi : i < nT (J 2)) (h7 : 7 ≤ nN (J 2 (333 + i))) (h8 : nN (J 2 (333 + i)) ≤ 8) (h : CF (J 2) (J 19) (J 20) (J 21) X) : MX9_asksWrong 0 (nI i) (mkM J K) = some (rsn (J 2) i X) := by
  have h40 := hA.1.1.2.2.2
  have hV := hA.1.1.2.1.2
  have h4 := hA.1.1.1.2
  obtain ⟨so, h10, eso, es, o1, o2, o3⟩ := op_of hA.1 hA.2.1 hA.2.2 hi
  rw [es] at h7 h8
  obtain ⟨la, ea⟩ := o1 (by omega)
  obtain ⟨k1, k2, k3, k4⟩ := o3 (by omega) (by omega)
  have hM6 := (hA.1.2 _ k1).2.2.1.2
  have hS6 := (hA.1.2 _ k1).1.2.2
  have rsE : rsn (J 2) i X = rsS (J 2) X so (nN (J 2 (373 + i))) (nN (J 2 (413 + i))) (nN (J 2 (453 + i))) := by
    unfold rsn
    rw [if_neg (by omega), es]
  generalize hda : nN (J 2 (373 + i)) = a at *
  generalize hdm : nN (J 2 (453 + i)) = m at *
  have ha : a < 6 := by omega
  obtain ⟨ek, lk⟩ := hA.2.1 a la
  have so1 : pSo (J 2) (vK (J 2) a) m ≠ 2 := by rw [k4.mpr h7]; decide
  rw [rsS_ask ⟨by omega, h8⟩, CF_lack h ha, CF_look h ha] at rsE
  simp only [MX9_asksWrong, m_g, m_r1, m_r35, m_r36, m_r37, Option.bind_some]
  rw [ix_c (show (373 : Int32) = nI 373 from rfl), m_ld2 (by omega), Option.bind_some, ea, m_ld19 ha, Option.bind_some, m_ld20 ha, m_ld21 ha]
  simp only [Option.bind_some]
  by_cases c1 : J 19 a = -1
  · rw [decide_eq_true c1, if_pos rfl] at rsE
    rw [if_pos c1, rsE]
  · rw [decide_eq_false c1, if_neg (by decide)] at rsE
    rw [if_neg c1]
    obtain ⟨s, ls, s2, s3⟩ : ∃ s, s < nS (J 2) (vK (J 2) a) ∧ J 21 a = nI s ∧ X (6 + a) = b1 s := by
      rcases h.1 a ha with ⟨z, -⟩ | ⟨-, -, -, -, z⟩
      · exact absurd z c1
      · exact z
    have cnE : X (6 + a) &&& (cn (J 2) (vK (J 2) a) m ^^^ -1) = 0 ↔ pY (J 2) (vK (J 2) a) m s ≠ -1 := by
      rw [s3, z_bt]
      constructor
      · intro z
        have := z s
        rw [b_and, b_not (by omega), b_b1 (by omega), cn_bt hS6] at this
        simpa [ls] using this
      · intro z t
        by_cases c : t < 32
        · rw [b_and, b_not c, b_b1 (by omega), cn_bt hS6]
          by_cases c2 : t = s
          · rw [c2]; simp [ls, z]
          · simp [c2]
        · exact b_big (by omega)
    by_cases c2 : J 20 a = 2
    · rw [if_pos ⟨so1, decide_eq_true c2⟩] at rsE
      rw [if_pos c2, rsE]
    · rw [if_neg (fun z => c2 (of_decide_eq_true z.2))] at rsE
      rw [if_neg c2, ix_c (show (327 : Int32) = nI 327 from rfl), m_ld2 (by omega), Option.bind_some, ek, ix_c (show (453 : Int32) = nI 453 from rfl), m_ld2 (by omega), Option.bind_some, k3, s2, m_canBe (by omega) (by omega) (by omega), Option.bind_some]
      by_cases cy : pY (J 2) (vK (J 2) a) m s = -1
      · rw [if_neg (fun z => (cnE.mp z) cy)] at rsE
        rw [if_pos (by rw [if_pos cy]), rsE]
      · rw [if_pos (cnE.mpr cy)] at rsE
        rw [if_neg (by rw [if_neg cy]; decide), rsE]
end Runner
