/-! STATEMENTS of a program P and which place comes behind which; D: how deep each stands -/
def rnd (x : Int32) : Bool := decide (x = 8 ∨ x = 10)
def WFo (P : Nat → Int32) (i : Nat) : Prop := ∃ so, so ≤ 10 ∧ P (333 + i) = nI so ∧ (so < 9 → ∃ v, v < nV P ∧ P (373 + i) = nI v ∧ (1 ≤ so → so ≤ 4 → ∃ w, w < nV P ∧ w ≠ v ∧ P (413 + i) = nI w ∧ P (327 + w) = P (327 + v)) ∧ (6 ≤ so → so ≤ 8 → ∃ m, m < nM P (vK P v) ∧ P (453 + i) = nI m ∧ (pSo P (vK P v) m = 1 ↔ 7 ≤ so)))
def WFp (P : Nat → Int32) (D : Nat → Nat) (i : Nat) : Prop := D i ≤ 4 ∧ ((P (493 + i) = -1 ∧ D i = 0 ∧ P (533 + i) = 0) ∨ ∃ q, q < i ∧ P (493 + i) = nI q ∧ D i = D q + 1 ∧ ¬ P (333 + q) < 7 ∧ (P (533 + i) = 0 ∨ (P (533 + i) = 1 ∧ rnd (P (333 + q)) = false)))
def WFs (P : Nat → Int32) (D : Nat → Nat) : Prop := ∀ i, i < nT P → WFo P i ∧ WFp P D i
def nxt (P : Nat → Int32) (out : Nat → Bool) (a b : Int32) : Nat → Nat → Int32
  | 0, _ => -1
  | r + 1, j => if out j = false ∧ P (493 + j) = a ∧ P (533 + j) = b then nI j else nxt P out a b r (j + 1)
def beh (P : Nat → Int32) (out : Nat → Bool) : Nat → Nat → Int32
  | 0, _ => P 2
  | f + 1, i => if nxt P out (P (493 + i)) (P (533 + i)) (nT P - (i + 1)) (i + 1) = -1 then (if P (493 + i) = -1 then P 2 else if rnd (P (333 + nN (P (493 + i)))) then P (493 + i) else beh P out f (nN (P (493 + i)))) else nxt P out (P (493 + i)) (P (533 + i)) (nT P - (i + 1)) (i + 1)
def lkY (P : Nat → Int32) (out : Nat → Bool) (i : Nat) : Int32 := if P (333 + i) < 7 then beh P out 8 i else if nxt P out (nI i) 0 (nT P - (i + 1)) (i + 1) = -1 then (if rnd (P (333 + i)) then nI i else beh P out 8 i) else nxt P out (nI i) 0 (nT P - (i + 1)) (i + 1)
def lkN (P : Nat → Int32) (out : Nat → Bool) (i : Nat) : Int32 := if P (333 + i) < 7 then -1 else if rnd (P (333 + i)) then beh P out 8 i else if nxt P out (nI i) 1 (nT P - (i + 1)) (i + 1) = -1 then beh P out 8 i else nxt P out (nI i) 1 (nT P - (i + 1)) (i + 1)
def fst0 (P : Nat → Int32) (out : Nat → Bool) : Int32 := if nxt P out (-1) 0 (nT P) 0 = -1 then P 2 else nxt P out (-1) 0 (nT P) 0
def ot (J : Nat → Nat → Int32) (j : Nat) : Bool := decide (J 9 j ≠ 0)
section Links
variable {sw : Bool} {I : Nat → Nat → Int32} {L : Nat → Nat → Int64} {J : Nat → Nat → Int32} {K : Nat → Nat → Int64} {p fu : Nat} {P : Nat → Int32} {D : Nat → Nat} {out : Nat → Bool}
theorem nxt_of {a b : Int32} : ∀ r j, nxt P out a b r j = -1 ∨ ∃ i, j ≤ i ∧ i < j + r ∧ nxt P out a b r j = nI i ∧ out i = false ∧ P (493 + i) = a ∧ P (533 + i) = b := by
  intro r
  induction r with
  | zero => exact fun j => Or.inl rfl
  | succ r ih =>
    intro j
    unfold nxt
    by_cases c : out j = false ∧ P (493 + j) = a ∧ P (533 + j) = b
    · rw [if_pos c]
      exact Or.inr ⟨j, by omega, by omega, rfl, c⟩
    · rw [if_neg c]
      rcases ih (j + 1) with h | ⟨i, h1, h2, h3⟩
      · exact Or.inl h
      · exact Or.inr ⟨i, by omega, by omega, h3⟩
theorem m_statements : MX9_statements 0 (mkM J K) = some (J 2 2) := by
  simp only [MX9_statements, m_g, m_r1, Option.bind_some]
  rw [show (2 : Int32) = nI 2 from rfl, m_ld2 (by decide), Option.bind_some]
theorem m_sortAt {i : Nat} (hi : i < 40) : MX9_sortAt 0 (nI i) (mkM J K) = some (J 2 (333 + i)) := by
  simp only [MX9_sortAt, m_g, m_r1, Option.bind_some]
  rw [ix_c (show (333 : Int32) = nI 333 from rfl), m_ld2 (by omega), Option.bind_some]
theorem m_isRound {x : Int32} : MX9_isRound 0 x (mkM J K) = some (if rnd x then 1 else 0) := by
  simp only [MX9_isRound, m_g, jn, rnd, decide_eq_true_eq]
  by_cases h : x = 8
  · rw [if_pos h, if_pos (Or.inl h)]
  · by_cases h2 : x = 10
    · rw [if_neg h, if_pos h2, if_pos (Or.inr h2)]
    · rw [if_neg h, if_neg h2, if_neg (by rintro (q | q); exact h q; exact h2 q)]
theorem m_nextIn {i : Nat} {a b : Int32} (hW : WFn (J 2)) (hi : i ≤ nT (J 2)) (hfu : 41 < fu) : MX9_nextIn fu 0 (nI i) a b (mkM J K) = some (nxt (J 2) (ot J) a b (nT (J 2) - i) i) := by
  have h40 := hW.2.2.2
  simp only [MX9_nextIn, m_g]
  refine wh1_rule (fun r v => ∃ j, j + r = nT (J 2) ∧ v = nI j ∧ nxt (J 2) (ot J) a b r j = nxt (J 2) (ot J) a b (nT (J 2) - i) i) ?_ fu (nT (J 2) - i) _ (by omega) ⟨i, by omega, rfl, rfl⟩
  rintro r v self ⟨j, hj, rfl, e⟩ ih
  simp only [MX9_nextIn_B3, m_statements, Option.bind_some, m_r21, m_r1, jn]
  rw [hW.2.2.1]
  by_cases hr : r = 0
  · subst hr
    rw [if_pos (nI_le (by omega) (by omega)), ← e]
    rfl
  · obtain ⟨r, rfl⟩ : ∃ r', r = r' + 1 := ⟨r - 1, by omega⟩
    rw [if_neg (nI_ge (by omega) (by omega)), m_ld9 (by omega), Option.bind_some, ix_c (show (493 : Int32) = nI 493 from rfl), m_ld2 (by omega), Option.bind_some, ix_c (show (533 : Int32) = nI 533 from rfl), m_ld2 (by omega), Option.bind_some]
    have go : ¬ (ot J j = false ∧ J 2 (493 + j) = a ∧ J 2 (533 + j) = b) → self (nI j + 1) = some (nxt (J 2) (ot J) a b (nT (J 2) - i) i) := by
      intro c
      refine ih r _ (by omega) ⟨j + 1, by omega, nI_1 j, ?_⟩
      rw [← e]
      show _ = if _ then _ else _
      rw [if_neg c]
    by_cases c1 : J 9 j = 0
    · rw [if_pos c1]
      by_cases c2 : J 2 (493 + j) = a
      · rw [if_pos c2]
        by_cases c3 : J 2 (533 + j) = b
        · rw [if_pos c3, ← e]
          show _ = some (if _ then _ else _)
          rw [if_pos ⟨by simp [ot, c1], c2, c3⟩]
        · rw [if_neg c3]; exact go (fun q => c3 q.2.2)
      · rw [if_neg c2]; exact go (fun q => c2 q.2.1)
    · rw [if_neg c1]; exact go (fun q => by simp [ot, c1] at q)
theorem m_behind' (hW : WFn (J 2)) (hS : WFs (J 2) D) (hfu : 41 < fu) : ∀ f i, i < nT (J 2) → D i < f → wh3 (MX9_behind_R fu) f 0 (nI i) (mkM J K) = some (beh (J 2) (ot J) f i) := by
  have h40 := hW.2.2.2
  intro f
  induction f with
  | zero => intro i _ h; omega
  | succ f ih =>
    intro i hi hd
    show MX9_behind_R fu (wh3 (MX9_behind_R fu) f) 0 (nI i) (mkM J K) = _
    simp only [MX9_behind_R, m_g, m_r1, Option.bind_some]
    rw [ix_c (show (493 : Int32) = nI 493 from rfl), m_ld2 (by omega), Option.bind_some, ix_c (show (533 : Int32) = nI 533 from rfl), m_ld2 (by omega), Option.bind_some, nI_1, m_nextIn hW (by omega) hfu, Option.bind_some]
    unfold beh
    by_cases c : nxt (J 2) (ot J) (J 2 (493 + i)) (J 2 (533 + i)) (nT (J 2) - (i + 1)) (i + 1) = -1
    · rw [if_pos c, if_pos c]
      by_cases c2 : J 2 (493 + i) = -1
      · rw [if_pos c2, if_pos c2, m_statements, Option.bind_some]
      · rcases (hS i hi).2.2 with h | ⟨q, h1, h2, h3, -⟩
        · exact absurd h.1 c2
        · rw [if_neg c2, if_neg c2, h2, m_sortAt (by omega), Option.bind_some, m_isRound, Option.bind_some, nN_nI (by omega)]
          cases rnd (J 2 (333 + q))
          · simp only [Bool.false_eq_true, if_false, if_true]
            rw [ih q (by omega) (by omega), Option.bind_some]
          · simp only [if_true, if_neg (show ¬ (1 : Int32) = 0 by decide)]
    · rw [if_neg c, if_neg c]
theorem m_behind {i : Nat} (hW : WFn (J 2)) (hS : WFs (J 2) D) (hfu : 41 < fu) (hi : i < nT (J 2)) : MX9_behind fu 0 (nI i) (mkM J K) = some (beh (J 2) (ot J) 8 i) :=
  m_behind' hW hS hfu 8 i hi (by have := (hS i hi).2.1; omega)
theorem m_hasBlock {x : Int32} : MX9_hasBlock x = some (if x < 7 then 0 else 1) := by
  unfold MX9_hasBlock
  split <;> rfl
theorem m_byYes {i : Nat} (hW : WFn (J 2)) (hS : WFs (J 2) D) (hfu : 41 < fu) (hi : i < nT (J 2)) : MX9_byYes fu 0 (nI i) (mkM J K) = some (lkY (J 2) (ot J) i) := by
  have h40 := hW.2.2.2
  simp only [MX9_byYes, m_g, m_hasBlock, m_isRound, Option.bind_some]
  rw [m_sortAt (by omega), Option.bind_some, m_behind hW hS hfu hi, nI_1, m_nextIn hW (by omega) hfu, Option.bind_some, Option.bind_some]
  unfold lkY
  by_cases c : J 2 (333 + i) < 7
  · simp only [c, if_true]
  · simp only [c, if_false, if_neg (show ¬ (1 : Int32) = 0 by decide)]
    by_cases c2 : nxt (J 2) (ot J) (nI i) 0 (nT (J 2) - (i + 1)) (i + 1) = -1
    · rw [if_pos c2, if_pos c2]
      cases rnd (J 2 (333 + i)) <;> rfl
    · rw [if_neg c2, if_neg c2]
theorem m_byNo {i : Nat} (hW : WFn (J 2)) (hS : WFs (J 2) D) (hfu : 41 < fu) (hi : i < nT (J 2)) : MX9_byNo fu 0 (nI i) (mkM J K) = some (lkN (J 2) (ot J) i) := by
  have h40 := hW.2.2.2
  simp only [MX9_byNo, m_g, m_hasBlock, m_isRound, Option.bind_some, jn]
  rw [m_sortAt (by omega), Option.bind_some, m_behind hW hS hfu hi, nI_1, m_nextIn hW (by omega) hfu, Option.bind_some, Option.bind_some]
  unfold lkN
  by_cases c : J 2 (333 + i) < 7
  · simp only [c, if_true]
  · simp only [c, if_false, if_neg (show ¬ (1 : Int32) = 0 by decide)]
    cases rnd (J 2 (333 + i))
    · simp only [Bool.false_eq_true, if_false, if_true]
      by_cases c2 : nxt (J 2) (ot J) (nI i) 1 (nT (J 2) - (i + 1)) (i + 1) = -1
      · rw [if_pos c2, if_pos c2]
      · rw [if_neg c2, if_neg c2]
    · simp only [if_true, if_neg (show ¬ (1 : Int32) = 0 by decide)]
theorem m_first (hW : WFn (J 2)) (hfu : 41 < fu) : MX9_firstPlace fu 0 (mkM J K) = some (fst0 (J 2) (ot J)) := by
  simp only [MX9_firstPlace, m_g, m_statements, Option.bind_some]
  rw [show (0 : Int32) = nI 0 from rfl, m_nextIn hW (by omega) hfu, Option.bind_some]
  unfold fst0
  rw [Nat.sub_zero, show (0 : Int32) = nI 0 from rfl]
  by_cases c : nxt (J 2) (ot J) (-1) (nI 0) (nT (J 2)) 0 = -1
  · rw [if_pos c, if_pos c]
  · rw [if_neg c, if_neg c]
theorem m_allIn (hfu : 40 < fu) : WP (MX9_allIn fu 0 (mkM J K)) (fun h => ∃ f, h = mkM (ur J 9 f) K ∧ ∀ j, j < 40 → f j = 0) := by
  simp only [MX9_allIn, m_g]
  refine wh2_wp (fun r v h => ∃ i f, i + r = 40 ∧ v = nI i ∧ h = mkM (ur J 9 f) K ∧ ∀ j, j < i → f j = 0) ?_ fu 40 _ _ (by omega) ⟨0, J 9, by omega, rfl, by rw [ur_self], fun j h => by omega⟩
  rintro r v h self ⟨i, f, hi, rfl, rfl, g⟩ ih
  simp only [MX9_allIn_B2, m_r21, Option.bind_some, show (40 : Int32) = nI 40 from rfl]
  by_cases hr : r = 0
  · subst hr
    rw [if_pos (nI_le (by omega) (by omega))]
    exact WP_some ⟨f, rfl, fun j hj => g j (by omega)⟩
  · rw [if_neg (nI_ge (by omega) (by omega)), m_st9 (by omega) (Or.inl rfl), Option.bind_some, ur_ur, ur_at]
    refine ih (r - 1) _ _ (by omega) ⟨i + 1, _, by omega, nI_1 i, rfl, fun j hj => ?_⟩
    unfold up
    by_cases e : j = i
    · rw [if_pos e]
    · rw [if_neg e]; exact g j (by omega)
end Links
