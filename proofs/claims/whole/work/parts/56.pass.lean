section Pass
variable {sw : Bool} {I : Nat → Nat → Int32} {L : Nat → Nat → Int64} {p fu x a b v : Nat} {P : Nat → Int32} {D : Nat → Nat} {X Y : Nat → Int32}
theorem fre_e24 (h : e24 X Y) : e24 (fre X v) (fre Y v) := by
  intro j hj
  unfold fre
  rw [h j hj]
theorem emp_e24 (h : e24 X Y) : e24 (emp X v) (emp Y v) := by
  intro j hj
  unfold emp
  rw [fre_e24 h j hj]
theorem up_e24 {j : Nat} {c d : Int32} (h : e24 X Y) (e : c = d) : e24 (up X j c) (up Y j d) := by
  intro i hi
  unfold up
  rw [h i hi, e]
theorem bec_e24 (h : e24 X Y) (ha : a < 6) (hb : b < 6) : e24 (bec X a b) (bec Y a b) := by
  intro j hj
  unfold bec
  rw [h j hj, h (6 + b) (by omega), h (12 + b) (by omega), h (18 + b) (by omega)]
theorem emp_r {j : Nat} (h1 : j ≠ v) (h2 : j ≠ 6 + v) : emp X v j = fre X v j := by
  unfold emp
  rw [if_neg h1, if_neg h2]
theorem jA_f {c : Nat} : jA X a b c false = fre X a (c + b) := by
  unfold jA
  simp
theorem jA_t {c : Nat} : jA X a b c true = fre X a (c + b) ||| b1 b := by
  unfold jA
  rw [if_pos rfl]
theorem bec_joi {j : Nat} (ha : a < 6) (hb : b < 6) (ne : a ≠ b) (hj : j < 24) (nj : j ≠ a) : bec (emp X a) a b j = joi X a b false j := by
  unfold bec joi
  rw [emp_r (X := X) (v := a) (j := 12 + b) (by omega) (by omega), emp_r (X := X) (v := a) (j := 18 + b) (by omega) (by omega), jA_f, jA_f]
  by_cases c1 : j = 6 + a
  · rw [if_pos c1, if_pos c1, emp_s hb ha, if_neg (Ne.symm ne)]
  · rw [if_neg c1, if_neg c1, emp_r nj c1]
    by_cases c2 : j < 12
    · rw [if_neg (by omega), if_neg (by omega), if_neg (by omega), if_neg (by omega), if_neg (by omega), if_neg (by omega), if_neg (by omega), if_neg (by omega), fre_h c2]
    · by_cases c3 : 18 ≤ j
      · simp only [if_pos c3]
      · have c4 : 12 ≤ j := by omega
        simp only [if_pos c4]
/-- a and b are one -/
def mk1 (X : Nat → Int32) (a b : Nat) : Nat → Int32 := fun j => if j = 12 + a ∨ j = 18 + a then X j ||| b1 b else if j = 12 + b ∨ j = 18 + b then X j ||| b1 a else X j
theorem mk1_e24 (h : e24 X Y) : e24 (mk1 X a b) (mk1 Y a b) := by
  intro j hj
  unfold mk1
  rw [h j hj]
theorem mk1_joi {j : Nat} (ha : a < 6) (hb : b < 6) (ne : a ≠ b) (hj : j < 24) (nj : j ≠ a) : mk1 (bec (emp X a) a b) a b j = joi X a b true j := by
  have e := bec_joi (X := X) ha hb ne hj nj
  unfold mk1
  rw [e]
  unfold joi
  rw [jA_f, jA_f, jA_t, jA_t]
  by_cases c1 : j = 6 + a
  · rw [if_neg (by omega), if_neg (by omega), if_pos c1, if_pos c1]
  · by_cases c2 : j = 12 + a
    · rw [if_pos (Or.inl c2), if_neg c1, if_pos c2, if_neg c1, if_pos c2]
    · by_cases c3 : j = 18 + a
      · rw [if_pos (Or.inr c3), if_neg c1, if_neg c2, if_pos c3, if_neg c1, if_neg c2, if_pos c3]
      · rw [if_neg (show ¬ (j = 12 + a ∨ j = 18 + a) by omega), if_neg c1, if_neg c2, if_neg c3, if_neg c1, if_neg c2, if_neg c3]
        have idem : ∀ (c : Bool) (y : Int32), ((if c = true then y ||| b1 a else y) ||| b1 a) = y ||| b1 a := by
          intro c y
          apply b_ext
          intro t _
          cases c
          · simp
          · simp only [if_true, b_or]
            cases bt y t <;> cases bt (b1 a) t <;> rfl
        by_cases c4 : 18 ≤ j
        · rw [if_pos c4, if_pos c4]
          have bb : bt (fre X a (18 + b) ||| b1 b) (j - 18) = (bt (fre X a (18 + b)) (j - 18) || decide (j - 18 = b)) := b_set (by omega) _
          rw [bb]
          by_cases c5 : j = 18 + b
          · rw [if_pos (Or.inr c5), idem, show decide (j - 18 = b) = true from decide_eq_true (by omega), Bool.or_true, if_pos rfl]
          · rw [if_neg (by omega), show decide (j - 18 = b) = false from decide_eq_false (by omega), Bool.or_false]
        · rw [if_neg c4, if_neg c4]
          by_cases c6 : 12 ≤ j
          · rw [if_pos c6, if_pos c6]
            have bb : bt (fre X a (12 + b) ||| b1 b) (j - 12) = (bt (fre X a (12 + b)) (j - 12) || decide (j - 12 = b)) := b_set (by omega) _
            rw [bb]
            by_cases c5 : j = 12 + b
            · rw [if_pos (Or.inl c5), idem, show decide (j - 12 = b) = true from decide_eq_true (by omega), Bool.or_true, if_pos rfl]
            · rw [if_neg (by omega), show decide (j - 12 = b) = false from decide_eq_false (by omega), Bool.or_false]
          · rw [if_neg c6, if_neg c6, if_neg (by omega)]
theorem c_like (hx : isH x) (ha : a < 6) (hb : b < 6) (ne : a ≠ b) (hfu : 6 < fu) : WP ((MX1_letGo fu x (nI a) (mkC sw I L)).bind fun h17 => MX1_becomeLike fu x (nI a) (nI b) h17) (fun h => ∃ g, h = mkC sw (ur I (x + 1) g) L ∧ e24 g (bec (emp (I (x + 1)) a) a b)) := by
  obtain ⟨_, e1, g, rfl, h1⟩ := c_letGo (sw := sw) (I := I) (L := L) (fu := fu) hx ha hfu
  rw [e1, Option.bind_some]
  obtain ⟨_, e2, g2, rfl, h2⟩ := c_becomeLike (sw := sw) (I := ur I (x + 1) g) (L := L) (fu := fu) hx ha hb ne (by
    rw [ur_at, h1 (12 + b) (by omega), h1 (18 + b) (by omega), emp_m ha hb, emp_u ha hb]
    simp) hfu
  rw [ur_at] at h2
  rw [e2, ur_ur]
  exact ⟨_, rfl, g2, rfl, e24_trans h2 (bec_e24 h1 ha hb)⟩
theorem c_ask {k m v : Nat} {z : Int32} (hx : isH x) (hp : isP p) (hR : CRk p I P) (hW : WFK P) (hV : CRv p I P) (hk : k < nK P) (hm : m < nM P k) (hv : v < nV P) (ek : P (327 + v) = nI k) (hg : GX (I (x + 1))) (hfu : 6 < fu) :
    WP (MX1_ask fu x p (nI v) (nI m) z (mkC sw I L)) (fun r => ∃ g, r.2 = mkC sw (ur I (x + 1) g) L ∧ ((r.1 = 0 ∧ im P k m z (I (x + 1) (6 + v)) = 0 ∧ g = I (x + 1)) ∨ (r.1 = 1 ∧ im P k m z (I (x + 1) (6 + v)) ≠ 0 ∧ e24 g (asS P k m v z (I (x + 1)))))) := by
  have h6 := hW.1.2.1.2
  have hout := isH_out hx hp
  have image : ∀ (g : Nat → Int32) (S : Int32), MX2_image fu (p + 1) (nI k) (nI m) S z (mkC sw (ur I (x + 1) g) L) = some (im P k m z S) := by
    intro g S
    obtain ⟨Y, e, y⟩ := c_image (sw := sw) (L := L) (fu := fu) (S := S) (z := z) hp (CRk_ur (a := x + 1) (f := g) (by omega) hR) hW hk hm hfu
    rw [e]
    congr 1
    apply b_iff
    intro t ht
    rw [y t ht, im_bt hW hk hm ht]
  have image0 := image (I (x + 1)) (I (x + 1) (6 + v))
  rw [ur_self] at image0
  simp only [MX1_ask, c1_g hx, c4_r2 hp, c4_r0 hp, c1_r0 hx, Option.bind_some, jn]
  rw [c4_ld2 hp (by omega), Option.bind_some, hV.2 v hv, ek, ix_c (show (6 : Int32) = nI 6 from rfl), c1_ld hx (by omega), Option.bind_some, image0, Option.bind_some]
  by_cases c0 : im P k m z (I (x + 1) (6 + v)) = 0
  · rw [if_pos c0]
    exact WP_some ⟨I (x + 1), by rw [ur_self], Or.inl ⟨rfl, c0, rfl⟩⟩
  · rw [if_neg c0]
    refine wh2_wp (fun r n h => ∃ w g, w + r = 6 ∧ n = nI w ∧ h = mkC sw (ur I (x + 1) g) L ∧ ∀ j, j < 24 → g j = if 6 ≤ j ∧ j < 6 + w then (if bt (I (x + 1) (18 + v)) (j - 6) then im P k m z (I (x + 1) j) else if bt (I (x + 1) (12 + v)) (j - 6) then I (x + 1) j ||| im P k m z (I (x + 1) j) else I (x + 1) j) else I (x + 1) j) ?_ fu 6 _ _ (by omega) ⟨0, I (x + 1), by omega, rfl, by rw [ur_self], fun j hj => by rw [if_neg (by omega)]⟩
    rintro r n h self ⟨w, g, hw, rfl, rfl, q⟩ ih
    simp only [MX1_ask_B41, c1_r0 hx, c4_r0 hp, Option.bind_some, jn]
    rw [show (6 : Int32) = nI 6 from rfl]
    by_cases hr : r = 0
    · subst hr
      rw [if_pos (nI_le (by omega) (by omega)), c1_st hx (by omega), Option.bind_some, ur_ur, ur_at]
      refine WP_some ⟨_, rfl, Or.inr ⟨rfl, c0, fun j hj => ?_⟩⟩
      unfold asS
      by_cases c1 : j = 6 + v
      · rw [c1, up_at, if_pos rfl]
      · rw [up_ne c1, if_neg c1, q j hj]
        by_cases c2 : 6 ≤ j ∧ j < 12
        · rw [if_pos (by omega), if_pos c2]
          by_cases c3 : bt (I (x + 1) (18 + v)) (j - 6) = true
          · rw [if_pos c3, if_pos c3]
            have := (hg.2.2.1 v (j - 6) (by omega) (by omega) c3).2.2
            rw [show 6 + (j - 6) = j by omega] at this
            rw [this]
          · rw [if_neg c3, if_neg c3]
        · rw [if_neg (by omega), if_neg c2]
    · have q18 : g (18 + v) = I (x + 1) (18 + v) := by rw [q _ (by omega), if_neg (by omega)]
      have q12 : g (12 + v) = I (x + 1) (12 + v) := by rw [q _ (by omega), if_neg (by omega)]
      have q6 : g (6 + w) = I (x + 1) (6 + w) := by rw [q _ (by omega), if_neg (by omega)]
      rw [if_neg (nI_ge (by omega) (by omega)), ix_c (show nI 6 = nI 6 from rfl), c1_ld hx (by omega), Option.bind_some, ix_c (show (18 : Int32) = nI 18 from rfl), c1_ld hx (by omega), Option.bind_some, ix_c (show (12 : Int32) = nI 12 from rfl), c1_ld hx (by omega), Option.bind_some, ur_at, q18, q12, q6, b_get (by omega), b_get (by omega), image, Option.bind_some, Option.bind_some, c1_st hx (by omega), c1_st hx (by omega), Option.bind_some, Option.bind_some, ur_ur, ur_ur, ur_at]
      have step : ∀ y : Int32, y = (if bt (I (x + 1) (18 + v)) w then im P k m z (I (x + 1) (6 + w)) else if bt (I (x + 1) (12 + v)) w then I (x + 1) (6 + w) ||| im P k m z (I (x + 1) (6 + w)) else I (x + 1) (6 + w)) → ∀ g', (∀ j, j ≠ 6 + w → g' j = g j) → g' (6 + w) = y → WP (self (nI w + 1) (mkC sw (ur I (x + 1) g') L)) (fun r => ∃ g, r.2 = mkC sw (ur I (x + 1) g) L ∧ ((r.1 = 0 ∧ im P k m z (I (x + 1) (6 + v)) = 0 ∧ g = I (x + 1)) ∨ (r.1 = 1 ∧ im P k m z (I (x + 1) (6 + v)) ≠ 0 ∧ e24 g (asS P k m v z (I (x + 1)))))) := by
        intro y hy g' h1 h2
        refine ih (r - 1) _ _ (by omega) ⟨w + 1, g', by omega, nI_1 w, rfl, fun j hj => ?_⟩
        by_cases c1 : j = 6 + w
        · rw [c1, h2, hy, if_pos (show 6 ≤ 6 + w ∧ 6 + w < 6 + (w + 1) by omega), show 6 + w - 6 = w by omega]
        · rw [h1 j c1, q j hj]
          by_cases c2 : 6 ≤ j ∧ j < 6 + w
          · rw [if_pos c2, if_pos (show 6 ≤ j ∧ j < 6 + (w + 1) by omega)]
          · rw [if_neg c2, if_neg (by omega)]
      cases b18 : bt (I (x + 1) (18 + v)) w
      · rw [if_pos (by decide)]
        cases b12 : bt (I (x + 1) (12 + v)) w
        · rw [if_pos (by decide)]
          exact step (I (x + 1) (6 + w)) (by rw [b18, b12]; rfl) g (fun _ _ => rfl) q6
        · rw [if_neg (by decide)]
          exact step _ (by rw [b18, b12]; rfl) _ (fun j hj => up_ne hj) up_at
      · rw [if_neg (by decide)]
        exact step _ (by rw [b18]; rfl) _ (fun j hj => up_ne hj) up_at
end Pass
