section AbMono
variable {X Y : Nat → Int32} {a b v : Nat} {z : Bool} {P : Nat → Int32} {D : Nat → Nat}
theorem z_bt {x : Int32} : x = 0 ↔ ∀ t, bt x t = false := by
  constructor
  · rintro rfl t; exact b_0 t
  · intro h
    apply b_ext
    intro i _
    rw [h i, b_0]
/-- leX by its four parts -/
theorem leX_of {X Y : Nat → Int32} (h : ∀ v t, v < 6 → bt (X v) t = true → bt (Y v) t = true) (s : ∀ v t, v < 6 → bt (X (6 + v)) t = true → bt (Y (6 + v)) t = true) (m : ∀ v t, v < 6 → bt (X (12 + v)) t = true → bt (Y (12 + v)) t = true) (u : ∀ v t, v < 6 → bt (Y (18 + v)) t = true → bt (X (18 + v)) t = true) : leX X Y := by
  constructor
  · intro j t hj q
    by_cases c : j < 6
    · exact h j t c q
    · by_cases c2 : j < 12
      · have := s (j - 6) t (by omega)
        rw [show 6 + (j - 6) = j by omega] at this
        exact this q
      · have := m (j - 12) t (by omega)
        rw [show 12 + (j - 12) = j by omega] at this
        exact this q
  · intro j t h18 hj q
    have := u (j - 18) t (by omega)
    rw [show 18 + (j - 18) = j by omega] at this
    exact this q
theorem emp_mono (h : leX X Y) (hv : v < 6) : leX (emp X v) (emp Y v) := by
  refine leX_of (fun u t hu q => ?_) (fun u t hu q => ?_) (fun u t hu q => ?_) (fun u t hu q => ?_)
  · rw [emp_h hu] at q ⊢
    split
    · rename_i c; rw [if_pos c] at q; exact q
    · rename_i c; rw [if_neg c] at q; exact h.1 u t (by omega) q
  · rw [emp_s hu hv] at q ⊢
    split
    · rename_i c; rw [if_pos c] at q; exact q
    · rename_i c; rw [if_neg c] at q; exact h.1 _ t (by omega) q
  · rw [emp_m hv hu] at q ⊢
    have := h.1 (12 + u) t (by omega)
    simp only [Bool.and_eq_true] at q ⊢
    exact ⟨⟨this q.1.1, q.1.2⟩, q.2⟩
  · rw [emp_u hv hu] at q ⊢
    have := h.2 (18 + u) t (by omega) (by omega)
    simp only [Bool.and_eq_true] at q ⊢
    exact ⟨⟨this q.1.1, q.1.2⟩, q.2⟩
theorem joi_mono (h : leX X Y) (ha : a < 6) (hb : b < 6) (ne : a ≠ b) : leX (joi X a b z) (joi Y a b z) := by
  refine leX_of (fun u t hu q => ?_) (fun u t hu q => ?_) (fun u t hu q => ?_) (fun u t hu q => ?_)
  · rw [joi_h hu] at q ⊢
    exact h.1 u t (by omega) q
  · rw [joi_s hu] at q ⊢
    split
    · rename_i c; rw [if_pos c] at q; exact h.1 _ t (by omega) q
    · rename_i c; rw [if_neg c] at q; exact h.1 _ t (by omega) q
  · rw [joi_m ha hb hu ne] at q ⊢
    have h1 := h.1 (12 + u) t (by omega)
    have h2 := h.1 (12 + b) t (by omega)
    have h3 := h.1 (12 + b) u (by omega)
    by_cases c : u = a
    · rw [if_pos c] at q ⊢
      simp only [Bool.or_eq_true, Bool.and_eq_true] at q ⊢
      rcases q with ⟨q1, q2⟩ | q
      · exact Or.inl ⟨h2 q1, q2⟩
      · exact Or.inr q
    · rw [if_neg c] at q ⊢
      simp only [Bool.or_eq_true, Bool.and_eq_true] at q ⊢
      rcases q with ⟨q1, q2⟩ | ⟨q1, q2 | q2⟩
      · exact Or.inl ⟨h1 q1, q2⟩
      · exact Or.inr ⟨q1, Or.inl (h3 q2)⟩
      · exact Or.inr ⟨q1, Or.inr q2⟩
  · rw [joi_u ha hb hu ne] at q ⊢
    have h1 := h.2 (18 + u) t (by omega) (by omega)
    have h2 := h.2 (18 + b) t (by omega) (by omega)
    have h3 := h.2 (18 + b) u (by omega) (by omega)
    by_cases c : u = a
    · rw [if_pos c] at q ⊢
      simp only [Bool.or_eq_true, Bool.and_eq_true] at q ⊢
      rcases q with ⟨q1, q2⟩ | q
      · exact Or.inl ⟨h2 q1, q2⟩
      · exact Or.inr q
    · rw [if_neg c] at q ⊢
      simp only [Bool.or_eq_true, Bool.and_eq_true] at q ⊢
      rcases q with ⟨q1, q2⟩ | ⟨q1, q2 | q2⟩
      · exact Or.inl ⟨h1 q1, q2⟩
      · exact Or.inr ⟨q1, Or.inl (h3 q2)⟩
      · exact Or.inr ⟨q1, Or.inr q2⟩
theorem up_mono {j : Nat} {x y : Int32} (h : leX X Y) (hj : j < 18) (hx : ∀ t, bt x t = true → bt y t = true) : leX (up X j x) (up Y j y) := by
  constructor
  · intro i t hi q
    by_cases c : i = j
    · rw [c, up_at] at q ⊢; exact hx t q
    · rw [up_ne c] at q ⊢; exact h.1 i t hi q
  · intro i t h18 hi q
    rw [up_ne (by omega)] at q ⊢
    exact h.2 i t h18 hi q
theorem bt7 : ∀ t, t < 4 → t ≠ 3 → bt 7 t = true := by decide +kernel
theorem goS_mono {so : Nat} (h : leX X Y) (gX : GX X) (gY : GX Y) (ha : a < 6) (hb : 1 ≤ so → so ≤ 4 → b < 6 ∧ b ≠ a) : leX (goS so a b X) (goS so a b Y) := by
  have how : ∀ c t, c < 6 → bt (X c) t = true → bt (Y c) t = true := fun c t hc => h.1 c t (by omega)
  unfold goS
  by_cases e0 : so = 0
  · rw [if_pos e0, if_pos e0]
    exact up_mono (up_mono (emp_mono h ha) (by omega) (fun t q => q)) (by omega) (fun t q => q)
  rw [if_neg e0, if_neg e0]
  by_cases e1 : so = 1
  · obtain ⟨hb6, ne⟩ := hb (by omega) (by omega)
    rw [if_pos e1, if_pos e1]
    exact emp_mono (up_mono (joi_mono h ha hb6 (Ne.symm ne)) (by omega) (fun t q => how b t hb6 q)) hb6
  rw [if_neg e1, if_neg e1]
  have k1 : ∀ (c : Int32), b < 6 → ∀ t, bt (c ||| (X b &&& 1)) t = true → bt (c ||| (Y b &&& 1)) t = true := by
    intro c hb6 t q
    have := how b t hb6
    rw [b_or, b_and] at q ⊢
    grind
  by_cases e2 : so = 2
  · obtain ⟨hb6, ne⟩ := hb (by omega) (by omega)
    rw [if_pos e2, if_pos e2]
    exact up_mono (up_mono (joi_mono h ha hb6 (Ne.symm ne)) (by omega) (k1 4 hb6)) (by omega) (k1 4 hb6)
  rw [if_neg e2, if_neg e2]
  by_cases e3 : so = 3
  · obtain ⟨hb6, ne⟩ := hb (by omega) (by omega)
    rw [if_pos e3, if_pos e3]
    refine up_mono (up_mono (joi_mono h ha hb6 (Ne.symm ne)) (by omega) (k1 2 hb6)) (by omega) (fun t q => ?_)
    by_cases c1 : bt (X b) 3 = true
    · rw [if_pos c1, b_or, b_and] at q
      rw [if_pos (how b 3 hb6 c1), b_or, b_and]
      have := how b t hb6
      grind
    · rw [if_neg c1] at q
      have q2 := how b t hb6 q
      by_cases c2 : bt (Y b) 3 = true
      · rw [if_pos c2, b_or, b_and, q2]
        have t3 : t ≠ 3 := by rintro rfl; exact c1 q
        have t4 : t < 4 := by
          by_cases c : t < 4
          · exact c
          · rw [gX.1 b t hb6 (by omega)] at q; cases q
        rw [bt7 t t4 t3]; rfl
      · rw [if_neg c2]; exact q2
  rw [if_neg e3, if_neg e3]
  by_cases e4 : so = 4
  · obtain ⟨hb6, ne⟩ := hb (by omega) (by omega)
    rw [if_pos e4, if_pos e4]
    have em := emp_mono (v := b) h hb6
    refine up_mono em (by omega) (fun t q => ?_)
    have qa := how a t ha
    have mu0 : emp X b (12 + a) = 0 → emp X b (18 + a) = 0 := by
      intro e
      rw [z_bt] at e ⊢
      intro t
      have e := e t
      rw [emp_m hb6 ha] at e
      rw [emp_u hb6 ha]
      cases c : bt (X (18 + a)) t
      · rfl
      · have t6 : t < 6 := by
          by_cases c6 : t < 6
          · exact c6
          · rw [gX.2.1 (18 + a) t (by omega) (by omega) (by omega)] at c; cases c
        have := (gX.2.2.1 a t ha t6 c).1
        rw [this] at e
        exact e
    have muY : emp X b (18 + a) = 0 → emp Y b (18 + a) = 0 := by
      intro e
      rw [z_bt] at e ⊢
      intro t
      cases c : bt (emp Y b (18 + a)) t
      · rfl
      · have := em.2 (18 + a) t (by omega) (by omega) c
        rw [e t] at this; cases this
    have maY : emp Y b (12 + a) = 0 → emp X b (12 + a) = 0 := by
      intro e
      rw [z_bt] at e ⊢
      intro t
      cases c : bt (emp X b (12 + a)) t
      · rfl
      · have := em.1 (12 + a) t (by omega) c
        rw [e t] at this; cases this
    by_cases c1 : emp X b (12 + a) = 0
    · rw [if_pos c1] at q
      by_cases c2 : emp Y b (12 + a) = 0
      · rw [if_pos c2]; exact q
      · rw [if_neg c2, if_pos (muY (mu0 c1)), b_or, q, Bool.or_true]
    · rw [if_neg c1] at q
      rw [if_neg (fun c2 => c1 (maY c2))]
      by_cases c3 : emp X b (18 + a) = 0
      · rw [if_pos c3, b_or] at q
        rw [if_pos (muY c3), b_or]
        grind
      · rw [if_neg c3] at q
        by_cases c4 : emp Y b (18 + a) = 0
        · rw [if_pos c4, b_or, qa q]; rfl
        · rw [if_neg c4]; exact qa q
  · rw [if_neg e4, if_neg e4]
    exact emp_mono h ha
theorem asS_mono {k m : Nat} {z : Int32} (h : leX X Y) (gX : GX X) (gY : GX Y) (hW : WFK P) (hk : k < nK P) (hm : m < nM P k) (hv : v < 6) : leX (asS P k m v z X) (asS P k m v z Y) := by
  have e : ∀ X : Nat → Int32, ∀ j, j < 6 ∨ 12 ≤ j → asS P k m v z X j = X j := fun X j hj => by unfold asS; rw [if_neg (by omega), if_neg (by omega)]
  have es : ∀ X : Nat → Int32, ∀ x, x < 6 → asS P k m v z X (6 + x) = if x = v then im P k m z (X (6 + v)) else if bt (X (18 + v)) x then im P k m z (X (6 + v)) else if bt (X (12 + v)) x then X (6 + x) ||| im P k m z (X (6 + x)) else X (6 + x) := by
    intro X x hx
    unfold asS
    by_cases c : x = v
    · rw [if_pos (by omega), if_pos c]
    · rw [if_neg (by omega), if_neg c, if_pos (by omega), show 6 + x - 6 = x by omega]
  have st : ∀ x, x < 6 → ∀ t, bt (X (6 + x)) t = true → bt (Y (6 + x)) t = true := fun x hx t => h.1 (6 + x) t (by omega)
  have si : ∀ x, x < 6 → ∀ t, bt (im P k m z (X (6 + x))) t = true → bt (im P k m z (Y (6 + x))) t = true := fun x hx => im_mono hW hk hm (st x hx)
  refine leX_of (fun u t hu q => ?_) (fun x t hx q => ?_) (fun u t hu q => ?_) (fun u t hu q => ?_)
  · rw [e _ u (by omega)] at q ⊢; exact h.1 u t (by omega) q
  · rw [es _ x hx] at q ⊢
    have q1 := st x hx t
    have q2 := si x hx t
    have q3 := si v hv t
    have u1 := h.2 (18 + v) x (by omega) (by omega)
    have m1 := h.1 (12 + v) x (by omega)
    have g1 := gX.2.2.1 v x hv hx
    by_cases c1 : x = v
    · rw [if_pos c1] at q ⊢; exact q3 q
    · rw [if_neg c1] at q ⊢
      by_cases c2 : bt (X (18 + v)) x = true
      · rw [if_pos c2] at q
        obtain ⟨w1, -, w3⟩ := g1 c2
        by_cases c3 : bt (Y (18 + v)) x = true
        · rw [if_pos c3]; exact q3 q
        · rw [if_neg c3, if_pos (m1 w1), b_or]
          rw [w3] at q
          rw [q2 q, Bool.or_true]
      · rw [if_neg c2] at q
        rw [if_neg (fun c3 => c2 (u1 c3))]
        by_cases c4 : bt (X (12 + v)) x = true
        · rw [if_pos c4, b_or] at q
          rw [if_pos (m1 c4), b_or]
          grind
        · rw [if_neg c4] at q
          by_cases c5 : bt (Y (12 + v)) x = true
          · rw [if_pos c5, b_or, q1 q]; rfl
          · rw [if_neg c5]; exact q1 q
  · rw [e _ _ (by omega)] at q ⊢; exact h.1 _ t (by omega) q
  · rw [e _ _ (by omega)] at q ⊢; exact h.2 _ t (by omega) (by omega) q
/-- the operands of a statement, as numbers -/
theorem op_of {i : Nat} (hW : WFK P) (hv : WFv P) (hS : WFs P D) (hi : i < nT P) : ∃ so, so ≤ 10 ∧ P (333 + i) = nI so ∧ nN (P (333 + i)) = so ∧ (so < 9 → nN (P (373 + i)) < nV P ∧ P (373 + i) = nI (nN (P (373 + i)))) ∧ (1 ≤ so → so ≤ 4 → nN (P (413 + i)) < nV P ∧ nN (P (413 + i)) ≠ nN (P (373 + i)) ∧ P (413 + i) = nI (nN (P (413 + i)))) ∧
    (6 ≤ so → so ≤ 8 → vK P (nN (P (373 + i))) < nK P ∧ nN (P (453 + i)) < nM P (vK P (nN (P (373 + i)))) ∧ P (453 + i) = nI (nN (P (453 + i))) ∧ (pSo P (vK P (nN (P (373 + i)))) (nN (P (453 + i))) = 1 ↔ 7 ≤ so)) := by
  have h6 := hW.1.2.1.2
  obtain ⟨so, h10, e, ho⟩ := (hS i hi).1
  refine ⟨so, h10, e, by rw [e, nN_nI (by omega)], fun h9 => ?_, fun h1 h4 => ?_, fun h1 h8 => ?_⟩
  · obtain ⟨v, l, ev, -⟩ := ho h9
    rw [ev, nN_nI (by omega)]
    exact ⟨l, rfl⟩
  · obtain ⟨v, l, ev, hw, -⟩ := ho (by omega)
    obtain ⟨w, lw, ne, ew, -⟩ := hw h1 h4
    rw [ev, ew, nN_nI (by omega), nN_nI (by omega)]
    exact ⟨lw, ne, rfl⟩
  · obtain ⟨v, l, ev, -, hm⟩ := ho (by omega)
    obtain ⟨m, lm, em, hs⟩ := hm h1 h8
    have h7 := (hW.2 _ (hv v l).2).2.2.1.2
    rw [ev, nN_nI (by omega), em, nN_nI (by omega)]
    exact ⟨(hv v l).2, lm, rfl, hs⟩
theorem tr_GX {i : Nat} {z : Int32} (hW : WFK P) (hv : WFv P) (hS : WFs P D) (hi : i < nT P) (g : GX X) (h : tr P i z X = some Y) : GX Y := by
  have h6 := hW.1.2.1.2
  obtain ⟨so, h10, -, es, o1, o2, o3⟩ := op_of hW hv hS hi
  unfold tr at h
  rw [es] at h
  by_cases c1 : so < 6
  · rw [if_pos c1] at h
    cases h
    have := (o1 (by omega)).1
    exact GX_goS g (by omega) (fun q1 q2 => ⟨by have := (o2 q1 q2).1; omega, (o2 q1 q2).2.1⟩)
  · rw [if_neg c1] at h
    by_cases c2 : so < 9
    · rw [if_pos c2] at h
      split at h
      · cases h
      · rename_i c3
        cases h
        have := (o1 (by omega)).1
        obtain ⟨q1, q2, -⟩ := o3 (by omega) (by omega)
        exact GX_asS c3 g hW q1 q2 (by omega)
    · rw [if_neg c2] at h
      cases h
      exact g
theorem tr_mono {i : Nat} {z : Int32} {X' : Nat → Int32} (hW : WFK P) (hv : WFv P) (hS : WFs P D) (hi : i < nT P) (gX : GX X) (gY : GX Y) (hl : leX X Y) (h : tr P i z X = some X') : ∃ Y', tr P i z Y = some Y' ∧ leX X' Y' := by
  have h6 := hW.1.2.1.2
  obtain ⟨so, h10, -, es, o1, o2, o3⟩ := op_of hW hv hS hi
  unfold tr at h ⊢
  rw [es] at h ⊢
  by_cases c1 : so < 6
  · rw [if_pos c1] at h ⊢
    cases h
    have := (o1 (by omega)).1
    exact ⟨_, rfl, goS_mono hl gX gY (by omega) (fun q1 q2 => ⟨by have := (o2 q1 q2).1; omega, (o2 q1 q2).2.1⟩)⟩
  · rw [if_neg c1] at h ⊢
    by_cases c2 : so < 9
    · have := (o1 (by omega)).1
      obtain ⟨q1, q2, -⟩ := o3 (by omega) (by omega)
      rw [if_pos c2] at h ⊢
      split at h
      · cases h
      · rename_i c3
        cases h
        have c4 : ¬ im P (vK P (nN (P (373 + i)))) (nN (P (453 + i))) z (Y (6 + nN (P (373 + i)))) = 0 := by
          intro e
          apply c3
          rw [z_bt] at e ⊢
          intro t
          cases c : bt (im P (vK P (nN (P (373 + i)))) (nN (P (453 + i))) z (X (6 + nN (P (373 + i))))) t
          · rfl
          · have := im_mono (S' := Y (6 + nN (P (373 + i)))) hW q1 q2 (fun t => hl.1 _ t (by omega)) t c
            rw [e t] at this; cases this
        rw [if_neg c4]
        exact ⟨_, rfl, asS_mono hl gX gY hW q1 q2 (by omega)⟩
    · rw [if_neg c2] at h ⊢
      cases h
      exact ⟨_, rfl, hl⟩
end AbMono
