/-! WHAT THE VARIABLES HOLD AT A PLACE: a row X of 24 ints: v how, 6 + v states, 12 + v may, 18 + v must -/
abbrev b1 (v : Nat) : Int32 := (1 : Int32) <<< (nI v &&& 31)
def img (P : Nat → Int32) (k m : Nat) (z S : Int32) : Nat → Int32
  | 0 => 0
  | s + 1 => if bt S s = true ∧ pY P k m s ≠ -1 then img P k m z S s ||| b1 (nN (fol P k m s z)) else img P k m z S s
def im (P : Nat → Int32) (k m : Nat) (z S : Int32) : Int32 := img P k m z S (nS P k)
theorem im_bt {P : Nat → Int32} {k m t : Nat} {z S : Int32} (hW : WFK P) (hk : k < nK P) (hm : m < nM P k) (ht : t < 32) : bt (im P k m z S) t = true ↔ ∃ s, s < nS P k ∧ bt S s = true ∧ pY P k m s ≠ -1 ∧ fol P k m s z = nI t := by
  have h6 := (hW.2 k hk).1.2.2
  have H : ∀ N, N ≤ nS P k → (bt (img P k m z S N) t = true ↔ ∃ s, s < N ∧ bt S s = true ∧ pY P k m s ≠ -1 ∧ fol P k m s z = nI t) := by
    intro N
    induction N with
    | zero =>
      intro _
      show bt 0 t = true ↔ _
      rw [b_0]
      constructor
      · intro e; cases e
      · rintro ⟨s, q, -⟩; omega
    | succ N ih =>
      intro hN
      have ih := ih (by omega)
      unfold img
      by_cases c : bt S N = true ∧ pY P k m N ≠ -1
      · obtain ⟨a, b, ha, hb, e1, e2, -⟩ := tr_of hW hk hm (show N < nS P k by omega) c.2
        obtain ⟨f, hf, ef⟩ : ∃ f, f < 6 ∧ fol P k m N z = nI f := by
          unfold fol
          by_cases hz : z = 0
          · rw [if_pos hz]; exact ⟨b, by omega, e2⟩
          · rw [if_neg hz]; exact ⟨a, by omega, e1⟩
        rw [if_pos c, b_or, Bool.or_eq_true, ih, ef, nN_nI (by omega), b_one (by omega) ht, decide_eq_true_eq]
        constructor
        · rintro (⟨s, q1, q2⟩ | rfl)
          · exact ⟨s, by omega, q2⟩
          · exact ⟨N, by omega, c.1, c.2, ef⟩
        · rintro ⟨s, q1, q2, q3, q4⟩
          by_cases e : s = N
          · subst e
            right
            rw [ef] at q4
            exact (nI_inj (by omega) (by omega) q4).symm
          · exact Or.inl ⟨s, by omega, q2, q3, q4⟩
      · rw [if_neg c, ih]
        constructor
        · rintro ⟨s, q1, q2⟩; exact ⟨s, by omega, q2⟩
        · rintro ⟨s, q1, q2, q3, q4⟩
          by_cases e : s = N
          · subst e; exact absurd ⟨q2, q3⟩ c
          · exact ⟨s, by omega, q2, q3, q4⟩
  exact H _ (Nat.le_refl _)
theorem im_lt {P : Nat → Int32} {k m t : Nat} {z S : Int32} (hW : WFK P) (hk : k < nK P) (hm : m < nM P k) (ht : 6 ≤ t) : bt (im P k m z S) t = false := by
  have h6 := (hW.2 k hk).1.2.2
  cases h : bt (im P k m z S) t
  · rfl
  · obtain ⟨s, q1, q2, q3, q4⟩ := (im_bt hW hk hm (bt_lt h)).mp h
    obtain ⟨a, b, ha, hb, e1, e2, -⟩ := tr_of hW hk hm q1 q3
    have := bt_lt h
    unfold fol at q4
    by_cases hz : z = 0
    · rw [if_pos hz, e2] at q4
      have := nI_inj (by omega) (by omega) q4
      omega
    · rw [if_neg hz, e1] at q4
      have := nI_inj (by omega) (by omega) q4
      omega
theorem im_mono {P : Nat → Int32} {k m : Nat} {z S S' : Int32} (hW : WFK P) (hk : k < nK P) (hm : m < nM P k) (h : ∀ t, bt S t = true → bt S' t = true) : ∀ t, bt (im P k m z S) t = true → bt (im P k m z S') t = true := by
  intro t ht
  have h32 := bt_lt ht
  rw [im_bt hW hk hm h32] at ht ⊢
  obtain ⟨s, q1, q2, q3⟩ := ht
  exact ⟨s, q1, h s q2, q3⟩
-- what a statement does to a row
def fre (X : Nat → Int32) (v j : Nat) : Int32 := if j = 12 + v ∨ j = 18 + v then 0 else if 12 ≤ j then X j &&& (b1 v ^^^ -1) else X j
def emp (X : Nat → Int32) (v j : Nat) : Int32 := if j = v then 1 else if j = 6 + v then 0 else fre X v j
def jA (X : Nat → Int32) (a b c : Nat) (z : Bool) : Int32 := fre X a (c + b) ||| (if z then b1 b else 0)
def joi (X : Nat → Int32) (a b : Nat) (z : Bool) (j : Nat) : Int32 :=
  if j = 6 + a then X (6 + b) else if j = 12 + a then jA X a b 12 z else if j = 18 + a then jA X a b 18 z
  else if 18 ≤ j then (if bt (jA X a b 18 z) (j - 18) then fre X a j ||| b1 a else fre X a j)
  else if 12 ≤ j then (if bt (jA X a b 12 z) (j - 12) then fre X a j ||| b1 a else fre X a j) else X j
def goS (so : Nat) (a b : Nat) (X : Nat → Int32) : Nat → Int32 :=
  if so = 0 then up (up (emp X a) a 8) (6 + a) 1
  else if so = 1 then emp (up (joi X a b false) a (X b)) b
  else if so = 2 then up (up (joi X a b true) b (4 ||| (X b &&& 1))) a (4 ||| (X b &&& 1))
  else if so = 3 then up (up (joi X a b true) a (2 ||| (X b &&& 1))) b (if bt (X b) 3 then (X b &&& 7) ||| 2 else X b)
  else if so = 4 then up (emp X b) a (if emp X b (12 + a) = 0 then 8 else if emp X b (18 + a) = 0 then X a ||| 8 else X a)
  else emp X a
def asS (P : Nat → Int32) (k m v : Nat) (z : Int32) (X : Nat → Int32) : Nat → Int32 := fun j =>
  if j = 6 + v then im P k m z (X (6 + v)) else if 6 ≤ j ∧ j < 12 then (if bt (X (18 + v)) (j - 6) then im P k m z (X (6 + v)) else if bt (X (12 + v)) (j - 6) then X j ||| im P k m z (X j) else X j) else X j
/-- what comes of a row by a statement and an answer; none: nothing comes -/
def tr (P : Nat → Int32) (i : Nat) (z : Int32) (X : Nat → Int32) : Option (Nat → Int32) :=
  if nN (P (333 + i)) < 6 then some (goS (nN (P (333 + i))) (nN (P (373 + i))) (nN (P (413 + i))) X)
  else if nN (P (333 + i)) < 9 then (if im P (vK P (nN (P (373 + i)))) (nN (P (453 + i))) z (X (6 + nN (P (373 + i)))) = 0 then none else some (asS P (vK P (nN (P (373 + i)))) (nN (P (453 + i))) (nN (P (373 + i))) z X))
  else some X
/-- more may be -/
def leX (X Y : Nat → Int32) : Prop := (∀ j t, j < 18 → bt (X j) t = true → bt (Y j) t = true) ∧ ∀ j t, 18 ≤ j → j < 24 → bt (Y j) t = true → bt (X j) t = true
def mrg (X Y : Nat → Int32) (j : Nat) : Int32 := if j < 18 then X j ||| Y j else X j &&& Y j
/-- what has a state is held -/
def HX (X : Nat → Int32) : Prop := ∀ v, v < 6 → bt (X v) 1 = false → bt (X v) 2 = false → bt (X v) 3 = false → X (6 + v) = 0
/-- a row that can be -/
def GX (X : Nat → Int32) : Prop := (∀ v t, v < 6 → 4 ≤ t → bt (X v) t = false) ∧ (∀ j t, 6 ≤ j → j < 24 → 6 ≤ t → bt (X j) t = false) ∧
  (∀ u v, u < 6 → v < 6 → bt (X (18 + u)) v = true → bt (X (12 + u)) v = true ∧ bt (X (18 + v)) u = true ∧ X (6 + u) = X (6 + v)) ∧
  (∀ u v, u < 6 → v < 6 → bt (X (12 + u)) v = true → bt (X (12 + v)) u = true) ∧
  (∀ u v w, u < 6 → v < 6 → w < 6 → u ≠ w → bt (X (18 + v)) w = true → (bt (X (18 + u)) v = true → bt (X (18 + u)) w = true) ∧ (bt (X (12 + u)) v = true → bt (X (12 + u)) w = true)) ∧ HX X
theorem leX_refl (X : Nat → Int32) : leX X X := ⟨fun _ _ _ h => h, fun _ _ _ _ h => h⟩
theorem leX_trans {X Y Z : Nat → Int32} (h1 : leX X Y) (h2 : leX Y Z) : leX X Z := ⟨fun j t hj h => h2.1 j t hj (h1.1 j t hj h), fun j t h18 hj h => h1.2 j t h18 hj (h2.2 j t h18 hj h)⟩
theorem leX_anti {X Y : Nat → Int32} (h1 : leX X Y) (h2 : leX Y X) : ∀ j, j < 24 → X j = Y j := by
  intro j hj
  apply b_iff
  intro t _
  by_cases c : j < 18
  · exact ⟨h1.1 j t c, h2.1 j t c⟩
  · exact ⟨h2.2 j t (by omega) hj, h1.2 j t (by omega) hj⟩
theorem mrg_o {X Y : Nat → Int32} {j : Nat} (hj : j < 18) : mrg X Y j = X j ||| Y j := if_pos hj
theorem mrg_a {X Y : Nat → Int32} {j : Nat} (hj : 18 ≤ j) : mrg X Y j = X j &&& Y j := if_neg (by omega)
theorem mrg_l {X Y : Nat → Int32} : leX X (mrg X Y) := by
  constructor
  · intro j t hj h
    rw [mrg_o hj, b_or, h, Bool.true_or]
  · intro j t h18 hj h
    rw [mrg_a h18, b_and, Bool.and_eq_true] at h
    exact h.1
theorem mrg_r {X Y : Nat → Int32} : leX Y (mrg X Y) := by
  constructor
  · intro j t hj h
    rw [mrg_o hj, b_or, h, Bool.or_true]
  · intro j t h18 hj h
    rw [mrg_a h18, b_and, Bool.and_eq_true] at h
    exact h.2
theorem mrg_le {X Y Z : Nat → Int32} (h1 : leX X Z) (h2 : leX Y Z) : leX (mrg X Y) Z := by
  constructor
  · intro j t hj h
    rw [mrg_o hj, b_or, Bool.or_eq_true] at h
    rcases h with h | h
    · exact h1.1 j t hj h
    · exact h2.1 j t hj h
  · intro j t h18 hj h
    rw [mrg_a h18, b_and, Bool.and_eq_true]
    exact ⟨h1.2 j t h18 hj h, h2.2 j t h18 hj h⟩
theorem mrg_GX {X Y : Nat → Int32} (h1 : GX X) (h2 : GX Y) : GX (mrg X Y) := by
  obtain ⟨a1, a2, a3, a4, a5, a6⟩ := h1
  obtain ⟨c1, c2, c3, c4, c5, c6⟩ := h2
  have em : ∀ u, mrg X Y (18 + u) = X (18 + u) &&& Y (18 + u) := fun u => mrg_a (by omega)
  have ey : ∀ u, u < 6 → mrg X Y (12 + u) = X (12 + u) ||| Y (12 + u) := fun u hu => mrg_o (by omega)
  have es : ∀ u, u < 6 → mrg X Y (6 + u) = X (6 + u) ||| Y (6 + u) := fun u hu => mrg_o (by omega)
  refine ⟨fun v t hv ht => ?_, fun j t h6 hj ht => ?_, fun u v hu hv h => ?_, fun u v hu hv h => ?_, fun u v w hu hv hw ne h => ⟨fun q => ?_, fun q => ?_⟩, fun v hv q1 q2 q3 => ?_⟩
  · rw [mrg_o (by omega), b_or, a1 v t hv ht, c1 v t hv ht]; rfl
  · by_cases c : j < 18
    · rw [mrg_o c, b_or, a2 j t h6 hj ht, c2 j t h6 hj ht]; rfl
    · rw [mrg_a (by omega), b_and, a2 j t h6 hj ht]; rfl
  · rw [em u, b_and, Bool.and_eq_true] at h
    obtain ⟨x1, x2, x3⟩ := a3 u v hu hv h.1
    obtain ⟨y1, y2, y3⟩ := c3 u v hu hv h.2
    rw [ey u hu, es u hu, es v hv, em v, b_or, b_and, x1, x2, x3, y2, y3]
    exact ⟨rfl, rfl, rfl⟩
  · rw [ey u hu, b_or, Bool.or_eq_true] at h
    rw [ey v hv, b_or, Bool.or_eq_true]
    rcases h with h | h
    · exact Or.inl (a4 u v hu hv h)
    · exact Or.inr (c4 u v hu hv h)
  · rw [em v, b_and, Bool.and_eq_true] at h
    rw [em u, b_and, Bool.and_eq_true] at q ⊢
    exact ⟨(a5 u v w hu hv hw ne h.1).1 q.1, (c5 u v w hu hv hw ne h.2).1 q.2⟩
  · rw [em v, b_and, Bool.and_eq_true] at h
    rw [ey u hu, b_or, Bool.or_eq_true] at q ⊢
    rcases q with q | q
    · exact Or.inl ((a5 u v w hu hv hw ne h.1).2 q)
    · exact Or.inr ((c5 u v w hu hv hw ne h.2).2 q)
  · rw [mrg_o (by omega), b_or, Bool.or_eq_false_iff] at q1 q2 q3
    rw [es v hv, a6 v hv q1.1 q2.1 q3.1, c6 v hv q1.2 q2.2 q3.2]
    rfl
