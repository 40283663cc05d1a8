/-! THE CLASS'S HOLDS -/
section Hold
variable {sw : Bool} {I : Nat → Nat → Int32} {L : Nat → Nat → Int64} {p fu x a b v : Nat} {P : Nat → Int32} {D : Nat → Nat}
theorem isH_out (hx : isH x) (hp : isP p) : x + 1 < p ∨ p + 24 < x + 1 := by
  rcases hp with rfl | rfl
  · rcases hx with rfl | rfl | rfl | rfl | rfl | ⟨i, hi, rfl⟩ | ⟨i, hi, rfl⟩ <;> omega
  · rcases hx with rfl | rfl | rfl | rfl | rfl | ⟨i, hi, rfl⟩ | ⟨i, hi, rfl⟩ <;> omega
theorem ix_0 {k : Nat} : (0 : Int32) + nI k = nI k := by rw [Int32.zero_add]
theorem c_letGo (hx : isH x) (hv : v < 6) (hfu : 6 < fu) : WP (MX1_letGo fu x (nI v) (mkC sw I L)) (fun h => ∃ g, h = mkC sw (ur I (x + 1) g) L ∧ e24 g (emp (I (x + 1)) v)) := by
  simp only [MX1_letGo, c1_g hx, jn]
  refine wh2_wp (fun r n h => ∃ w g, w + r = 6 ∧ n = nI w ∧ h = mkC sw (ur I (x + 1) g) L ∧ ∀ j, j < 24 → g j = if (12 ≤ j ∧ j < 12 + w) ∨ (18 ≤ j ∧ j < 18 + w) then I (x + 1) j &&& (b1 v ^^^ -1) else I (x + 1) j) ?_ fu 6 _ _ (by omega) ⟨0, I (x + 1), by omega, rfl, by rw [ur_self], fun j hj => by rw [if_neg (by omega)]⟩
  rintro r n h self ⟨w, g, hw, rfl, rfl, q⟩ ih
  simp only [MX1_letGo_B2, c1_r0 hx, Option.bind_some, show (6 : Int32) = nI 6 from rfl]
  by_cases hr : r = 0
  · subst hr
    rw [if_pos (nI_le (by omega) (by omega)), ix_0, c1_st hx (by omega), Option.bind_some, c1_r0 hx, Option.bind_some, ix_c (show nI 6 = nI 6 from rfl), c1_st hx (by omega), Option.bind_some, c1_r0 hx, Option.bind_some, ix_c (show (12 : Int32) = nI 12 from rfl), c1_st hx (by omega), Option.bind_some, c1_r0 hx, Option.bind_some, ix_c (show (18 : Int32) = nI 18 from rfl), c1_st hx (by omega), Option.bind_some]
    simp only [ur_ur, ur_at]
    refine WP_some ⟨_, rfl, fun j hj => ?_⟩
    unfold emp fre up
    by_cases c1 : j = 18 + v
    · rw [if_pos c1, if_neg (by omega), if_neg (by omega), if_pos (Or.inr c1)]
    · rw [if_neg c1]
      by_cases c2 : j = 12 + v
      · rw [if_pos c2, if_neg (by omega), if_neg (by omega), if_pos (Or.inl c2)]
      · rw [if_neg c2]
        by_cases c3 : j = 6 + v
        · rw [if_pos c3, if_neg (by omega), if_pos c3]
        · rw [if_neg c3]
          by_cases c4 : j = v
          · rw [if_pos c4, if_pos c4]
          · rw [if_neg c4, if_neg c4, if_neg c3, if_neg (by omega), q j hj]
            by_cases c5 : 12 ≤ j
            · rw [if_pos (by omega), if_pos c5]
            · rw [if_neg (by omega), if_neg c5]
  · rw [if_neg (nI_ge (by omega) (by omega)), ix_c (show (12 : Int32) = nI 12 from rfl), c1_ld hx (by omega), Option.bind_some, c1_st hx (by omega), Option.bind_some, c1_r0 hx, Option.bind_some, ix_c (show (18 : Int32) = nI 18 from rfl), c1_ld hx (by omega), Option.bind_some, c1_st hx (by omega), Option.bind_some]
    simp only [ur_ur, ur_at]
    refine ih (r - 1) _ _ (by omega) ⟨w + 1, _, by omega, nI_1 w, rfl, fun j hj => ?_⟩
    by_cases c1 : j = 18 + w
    · rw [c1, up_at, up_ne (by omega), q _ (by omega), if_neg (by omega), if_pos (by omega)]
    · rw [up_ne c1]
      by_cases c2 : j = 12 + w
      · rw [c2, up_at, q _ (by omega), if_neg (by omega), if_pos (by omega)]
      · rw [up_ne c2, q j hj]
        by_cases c3 : (12 ≤ j ∧ j < 12 + w) ∨ (18 ≤ j ∧ j < 18 + w)
        · rw [if_pos c3, if_pos (by omega)]
        · rw [if_neg c3, if_neg (by omega)]
/-- a row in which a has come to be like b, with those that b is one with -/
def bec (X : Nat → Int32) (a b : Nat) (j : Nat) : Int32 :=
  if j = 6 + a then X (6 + b) else if j = 12 + a then X (12 + b) else if j = 18 + a then X (18 + b)
  else if 18 ≤ j then (if bt (X (18 + b)) (j - 18) then X j ||| b1 a else X j) else if 12 ≤ j then (if bt (X (12 + b)) (j - 12) then X j ||| b1 a else X j) else X j
theorem sh_if {c : Bool} : (if c = true then (1 : Int32) else 0) <<< (nI a &&& 31) = if c = true then b1 a else 0 := by
  cases c
  · simp
  · rfl
theorem or_if {y : Int32} {c : Bool} : (y ||| if c = true then b1 a else 0) = if c = true then y ||| b1 a else y := by
  cases c
  · simp
  · rfl
theorem c_becomeLike (hx : isH x) (ha : a < 6) (hb : b < 6) (ne : a ≠ b) (na : bt (I (x + 1) (12 + b)) a = false ∧ bt (I (x + 1) (18 + b)) a = false) (hfu : 6 < fu) : WP (MX1_becomeLike fu x (nI a) (nI b) (mkC sw I L)) (fun h => ∃ g, h = mkC sw (ur I (x + 1) g) L ∧ e24 g (bec (I (x + 1)) a b)) := by
  simp only [MX1_becomeLike, c1_g hx, c1_r0 hx, Option.bind_some, ix_c (show (6 : Int32) = nI 6 from rfl), ix_c (show (12 : Int32) = nI 12 from rfl), ix_c (show (18 : Int32) = nI 18 from rfl)]
  rw [c1_ld hx (by omega), Option.bind_some, c1_st hx (by omega), Option.bind_some, c1_r0 hx, Option.bind_some, c1_ld hx (by omega), Option.bind_some, c1_st hx (by omega), Option.bind_some, c1_r0 hx, Option.bind_some, c1_ld hx (by omega), Option.bind_some, c1_st hx (by omega), Option.bind_some]
  simp only [ur_ur, ur_at]
  rw [up_ne (by omega), up_ne (by omega), up_ne (by omega)]
  refine wh2_wp (fun r n h => ∃ w g, w + r = 6 ∧ n = nI w ∧ h = mkC sw (ur I (x + 1) g) L ∧ ∀ j, j < 24 → g j = if j = 6 + a ∨ j = 12 + a ∨ j = 18 + a ∨ (12 ≤ j ∧ j < 12 + w) ∨ (18 ≤ j ∧ j < 18 + w) then bec (I (x + 1)) a b j else I (x + 1) j) ?_ fu 6 _ _ (by omega) ⟨0, _, by omega, rfl, rfl, fun j hj => ?_⟩
  · rintro r n h self ⟨w, g, hw, rfl, rfl, q⟩ ih
    simp only [MX1_becomeLike_B56, c1_r0 hx, Option.bind_some]
    rw [show (6 : Int32) = nI 6 from rfl]
    by_cases hr : r = 0
    · subst hr
      rw [if_pos (nI_le (by omega) (by omega))]
      refine WP_some ⟨g, rfl, fun j hj => ?_⟩
      rw [q j hj]
      by_cases c : j = 6 + a ∨ j = 12 + a ∨ j = 18 + a ∨ (12 ≤ j ∧ j < 12 + w) ∨ (18 ≤ j ∧ j < 18 + w)
      · rw [if_pos c]
      · rw [if_neg c]
        unfold bec
        rw [if_neg (by omega), if_neg (by omega), if_neg (by omega), if_neg (by omega), if_neg (by omega)]
    · have q12 : g (12 + a) = I (x + 1) (12 + b) := by
        rw [q _ (by omega), if_pos (by omega)]
        unfold bec
        rw [if_neg (by omega), if_pos rfl]
      have q18 : g (18 + a) = I (x + 1) (18 + b) := by
        rw [q _ (by omega), if_pos (by omega)]
        unfold bec
        rw [if_neg (by omega), if_neg (by omega), if_pos rfl]
      rw [if_neg (nI_ge (by omega) (by omega)), ix_c (show (12 : Int32) = nI 12 from rfl), ix_c (show (12 : Int32) = nI 12 from rfl), ix_c (show (18 : Int32) = nI 18 from rfl), ix_c (show (18 : Int32) = nI 18 from rfl), c1_ld hx (by omega), Option.bind_some, c1_ld hx (by omega), Option.bind_some, c1_st hx (by omega), Option.bind_some, c1_r0 hx, Option.bind_some, c1_ld hx (by omega), Option.bind_some, c1_ld hx (by omega), Option.bind_some, c1_st hx (by omega), Option.bind_some]
      simp only [ur_ur, ur_at]
      rw [up_ne (show 18 + w ≠ 12 + w by omega), up_ne (show 18 + a ≠ 12 + w by omega), q12, q18, b_get (by omega), b_get (by omega), sh_if, sh_if, or_if, or_if]
      refine ih (r - 1) _ _ (by omega) ⟨w + 1, _, by omega, nI_1 w, rfl, fun j hj => ?_⟩
      by_cases c1 : j = 18 + w
      · rw [c1, up_at]
        rw [if_pos (show 18 + w = 6 + a ∨ 18 + w = 12 + a ∨ 18 + w = 18 + a ∨ (12 ≤ 18 + w ∧ 18 + w < 12 + (w + 1)) ∨ (18 ≤ 18 + w ∧ 18 + w < 18 + (w + 1)) by omega)]
        by_cases c3 : w = a
        · subst c3
          rw [na.2, q18, if_neg (by decide)]
          unfold bec
          rw [if_neg (by omega), if_neg (by omega), if_pos rfl]
        · have hb : bec (I (x + 1)) a b (18 + w) = if bt (I (x + 1) (18 + b)) w then I (x + 1) (18 + w) ||| b1 a else I (x + 1) (18 + w) := by
            unfold bec
            rw [if_neg (by omega), if_neg (by omega), if_neg (by omega), if_pos (by omega), show 18 + w - 18 = w by omega]
          have hq : g (18 + w) = I (x + 1) (18 + w) := by rw [q _ (by omega), if_neg (by omega)]
          rw [hb, hq]
      · rw [up_ne c1]
        by_cases c2 : j = 12 + w
        · rw [c2, up_at]
          rw [if_pos (show 12 + w = 6 + a ∨ 12 + w = 12 + a ∨ 12 + w = 18 + a ∨ (12 ≤ 12 + w ∧ 12 + w < 12 + (w + 1)) ∨ (18 ≤ 12 + w ∧ 12 + w < 18 + (w + 1)) by omega)]
          by_cases c3 : w = a
          · subst c3
            rw [na.1, q12, if_neg (by decide)]
            unfold bec
            rw [if_neg (by omega), if_pos rfl]
          · have hb : bec (I (x + 1)) a b (12 + w) = if bt (I (x + 1) (12 + b)) w then I (x + 1) (12 + w) ||| b1 a else I (x + 1) (12 + w) := by
              unfold bec
              rw [if_neg (by omega), if_neg (by omega), if_neg (by omega), if_neg (by omega), if_pos (by omega), show 12 + w - 12 = w by omega]
            have hq : g (12 + w) = I (x + 1) (12 + w) := by rw [q _ (by omega), if_neg (by omega)]
            rw [hb, hq]
        · rw [up_ne c2, q j hj]
          by_cases c3 : j = 6 + a ∨ j = 12 + a ∨ j = 18 + a ∨ (12 ≤ j ∧ j < 12 + w) ∨ (18 ≤ j ∧ j < 18 + w)
          · rw [if_pos c3, if_pos (by omega)]
          · rw [if_neg c3, if_neg (by omega)]
  · unfold up bec
    by_cases c1 : j = 18 + a
    · rw [if_pos c1, if_pos (by omega), if_neg (by omega), if_neg (by omega), if_pos c1]
    · rw [if_neg c1]
      by_cases c2 : j = 12 + a
      · rw [if_pos c2, if_pos (by omega), if_neg (by omega), if_pos c2]
      · rw [if_neg c2]
        by_cases c3 : j = 6 + a
        · rw [if_pos c3, if_pos (by omega), if_pos c3]
        · rw [if_neg c3, if_neg (by omega)]
theorem c_makeOne (hx : isH x) (ha : a < 6) (hb : b < 6) (ne : a ≠ b) : MX1_makeOne x (nI a) (nI b) (mkC sw I L) = some (mkC sw (ur I (x + 1) (fun j => if j = 12 + a ∨ j = 18 + a then I (x + 1) j ||| b1 b else if j = 12 + b ∨ j = 18 + b then I (x + 1) j ||| b1 a else I (x + 1) j)) L) := by
  simp only [MX1_makeOne, c1_g hx, c1_r0 hx, Option.bind_some, ix_c (show (12 : Int32) = nI 12 from rfl), ix_c (show (18 : Int32) = nI 18 from rfl)]
  rw [c1_ld hx (by omega), Option.bind_some, c1_st hx (by omega), Option.bind_some, c1_r0 hx, Option.bind_some, c1_ld hx (by omega), Option.bind_some, c1_st hx (by omega), Option.bind_some, c1_r0 hx, Option.bind_some, c1_ld hx (by omega), Option.bind_some, c1_st hx (by omega), Option.bind_some, c1_r0 hx, Option.bind_some, c1_ld hx (by omega), Option.bind_some, c1_st hx (by omega), Option.bind_some]
  simp only [ur_ur, ur_at]
  congr 3
  funext j
  unfold up
  by_cases c1 : j = 18 + b
  · rw [if_pos c1]
    rw [if_neg (show ¬ 18 + b = 12 + b by omega), if_neg (show ¬ 18 + b = 18 + a by omega), if_neg (show ¬ 18 + b = 12 + a by omega), if_neg (by omega), if_pos (Or.inr c1), c1]
  · rw [if_neg c1]
    by_cases c2 : j = 12 + b
    · rw [if_pos c2, if_neg (show ¬ 12 + b = 18 + a by omega), if_neg (show ¬ 12 + b = 12 + a by omega), if_neg (by omega), if_pos (Or.inl c2), c2]
    · rw [if_neg c2]
      by_cases c3 : j = 18 + a
      · rw [if_pos c3, if_neg (show ¬ 18 + a = 12 + a by omega), if_pos (Or.inr c3), c3]
      · rw [if_neg c3]
        by_cases c4 : j = 12 + a
        · rw [if_pos c4, if_pos (Or.inl c4), c4]
        · rw [if_neg c4, if_neg (by omega), if_neg (by omega)]
end Hold
