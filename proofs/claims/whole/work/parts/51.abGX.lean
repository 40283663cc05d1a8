theorem b_set {x : Int32} {v : Nat} (hv : v < 32) (t : Nat) : bt (x ||| b1 v) t = (bt x t || decide (t = v)) := by
  by_cases h : t < 32
  · rw [b_or, b_one hv h]
  · rw [b_big (by omega), b_big (by omega)]
    simp; omega
theorem b_clr {x : Int32} {v : Nat} (hv : v < 32) (t : Nat) : bt (x &&& (b1 v ^^^ -1)) t = (bt x t && !decide (t = v)) := by
  by_cases h : t < 32
  · rw [b_and, b_not h, b_one hv h]
  · rw [b_big (by omega), b_big (by omega)]; rfl
theorem b_b1 {v : Nat} (hv : v < 32) (t : Nat) : bt (b1 v) t = decide (t = v) := by
  by_cases h : t < 32
  · rw [b_one hv h]
  · rw [b_big (by omega)]
    simp; omega
section AbGX
variable {X Y : Nat → Int32} {a b v : Nat} {z : Bool}
theorem fre_h {u : Nat} (hu : u < 12) : fre X v u = X u := by unfold fre; rw [if_neg (by omega), if_neg (by omega)]
theorem fre_m {u t : Nat} (hv : v < 6) (hu : u < 6) : bt (fre X v (12 + u)) t = (bt (X (12 + u)) t && !decide (t = v) && !decide (u = v)) := by
  unfold fre
  by_cases c : u = v
  · rw [if_pos (Or.inl (by omega)), b_0, c]; simp
  · rw [if_neg (by omega), if_pos (by omega), b_clr (by omega)]; simp [c]
theorem fre_u {u t : Nat} (hv : v < 6) (hu : u < 6) : bt (fre X v (18 + u)) t = (bt (X (18 + u)) t && !decide (t = v) && !decide (u = v)) := by
  unfold fre
  by_cases c : u = v
  · rw [if_pos (Or.inr (by omega)), b_0, c]; simp
  · rw [if_neg (by omega), if_pos (by omega), b_clr (by omega)]; simp [c]
theorem emp_h {u : Nat} (hu : u < 6) : emp X v u = if u = v then 1 else X u := by
  unfold emp
  by_cases c : u = v
  · rw [if_pos c, if_pos c]
  · rw [if_neg c, if_neg c, if_neg (by omega), fre_h (by omega)]
theorem emp_s {u : Nat} (hu : u < 6) (hv : v < 6) : emp X v (6 + u) = if u = v then 0 else X (6 + u) := by
  unfold emp
  by_cases c : u = v
  · rw [if_neg (by omega), if_pos (by omega), if_pos c]
  · rw [if_neg (by omega), if_neg (by omega), if_neg c, fre_h (by omega)]
theorem emp_m {u t : Nat} (hv : v < 6) (hu : u < 6) : bt (emp X v (12 + u)) t = (bt (X (12 + u)) t && !decide (t = v) && !decide (u = v)) := by
  unfold emp
  rw [if_neg (by omega), if_neg (by omega), fre_m hv hu]
theorem emp_u {u t : Nat} (hv : v < 6) (hu : u < 6) : bt (emp X v (18 + u)) t = (bt (X (18 + u)) t && !decide (t = v) && !decide (u = v)) := by
  unfold emp
  rw [if_neg (by omega), if_neg (by omega), fre_u hv hu]
theorem bz {c : Nat} {t : Nat} (hc : c < 32) : bt (if z then b1 c else 0) t = (z && decide (t = c)) := by
  cases z
  · simp [b_0]
  · simp [b_b1 hc]
theorem joi_h {u : Nat} (hu : u < 6) : joi X a b z u = X u := by
  unfold joi
  rw [if_neg (by omega), if_neg (by omega), if_neg (by omega), if_neg (by omega), if_neg (by omega)]
theorem joi_s {u : Nat} (hu : u < 6) : joi X a b z (6 + u) = if u = a then X (6 + b) else X (6 + u) := by
  unfold joi
  by_cases c : u = a
  · rw [if_pos (by omega), if_pos c]
  · rw [if_neg (by omega), if_neg (by omega), if_neg (by omega), if_neg (by omega), if_neg (by omega), if_neg c]
theorem joi_m {u t : Nat} (ha : a < 6) (hb : b < 6) (hu : u < 6) (ne : a ≠ b) : bt (joi X a b z (12 + u)) t = if u = a then ((bt (X (12 + b)) t && !decide (t = a)) || (z && decide (t = b))) else ((bt (X (12 + u)) t && !decide (t = a)) || (decide (t = a) && (bt (X (12 + b)) u || (z && decide (u = b))))) := by
  have hA : ∀ t, bt (jA X a b 12 z) t = ((bt (X (12 + b)) t && !decide (t = a)) || (z && decide (t = b))) := by
    intro t
    unfold jA
    rw [b_or, fre_m ha hb, bz (by omega)]
    simp [ne.symm]
  unfold joi
  by_cases c : u = a
  · rw [if_neg (by omega), if_pos (by omega), if_pos c]
    exact hA t
  · rw [if_neg (by omega), if_neg (by omega), if_neg (by omega), if_neg (by omega), if_pos (by omega), if_neg c, show 12 + u - 12 = u by omega, hA u]
    have c2 : decide (u = a) = false := by simp [c]
    rw [c2]
    simp only [Bool.not_false, Bool.and_true]
    cases h : (bt (X (12 + b)) u || (z && decide (u = b)))
    · simp only [Bool.false_eq_true, if_false]
      rw [fre_m ha hu, c2]
      simp
    · simp only [if_true]
      rw [b_set (by omega), fre_m ha hu, c2]
      simp
theorem joi_u {u t : Nat} (ha : a < 6) (hb : b < 6) (hu : u < 6) (ne : a ≠ b) : bt (joi X a b z (18 + u)) t = if u = a then ((bt (X (18 + b)) t && !decide (t = a)) || (z && decide (t = b))) else ((bt (X (18 + u)) t && !decide (t = a)) || (decide (t = a) && (bt (X (18 + b)) u || (z && decide (u = b))))) := by
  have hA : ∀ t, bt (jA X a b 18 z) t = ((bt (X (18 + b)) t && !decide (t = a)) || (z && decide (t = b))) := by
    intro t
    unfold jA
    rw [b_or, fre_u ha hb, bz (by omega)]
    simp [ne.symm]
  unfold joi
  by_cases c : u = a
  · rw [if_neg (by omega), if_neg (by omega), if_pos (by omega), if_pos c]
    exact hA t
  · rw [if_neg (by omega), if_neg (by omega), if_neg (by omega), if_pos (by omega), if_neg c, show 18 + u - 18 = u by omega, hA u]
    have c2 : decide (u = a) = false := by simp [c]
    rw [c2]
    simp only [Bool.not_false, Bool.and_true]
    cases h : (bt (X (18 + b)) u || (z && decide (u = b)))
    · simp only [Bool.false_eq_true, if_false]
      rw [fre_u ha hu, c2]
      simp
    · simp only [if_true]
      rw [b_set (by omega), fre_u ha hu, c2]
      simp
/-- the part of GX that speaks of may, must and states -/
def GR (m u : Nat → Nat → Bool) (s : Nat → Int32) : Prop := (∀ x t, x < 6 → 6 ≤ t → m x t = false ∧ u x t = false ∧ bt (s x) t = false) ∧ (∀ x y, x < 6 → y < 6 → u x y = true → m x y = true ∧ u y x = true ∧ s x = s y) ∧ (∀ x y, x < 6 → y < 6 → m x y = true → m y x = true) ∧
  (∀ x y w, x < 6 → y < 6 → w < 6 → x ≠ w → u y w = true → (u x y = true → u x w = true) ∧ (m x y = true → m x w = true))
theorem GX_GR : GX X ↔ (∀ v t, v < 6 → 4 ≤ t → bt (X v) t = false) ∧ GR (fun x t => bt (X (12 + x)) t) (fun x t => bt (X (18 + x)) t) (fun x => X (6 + x)) ∧ HX X := by
  constructor
  · rintro ⟨h1, h2, h3, h4, h5, h7⟩
    exact ⟨h1, ⟨fun x t hx ht => ⟨h2 _ t (by omega) (by omega) ht, h2 _ t (by omega) (by omega) ht, h2 _ t (by omega) (by omega) ht⟩, h3, h4, h5⟩, h7⟩
  · rintro ⟨h1, ⟨h2, h3, h4, h5⟩, h7⟩
    refine ⟨h1, fun j t h6 hj ht => ?_, h3, h4, h5, h7⟩
    by_cases c : j < 12
    · have : bt (X (6 + (j - 6))) t = false := (h2 (j - 6) t (by omega) ht).2.2
      rw [show 6 + (j - 6) = j by omega] at this
      exact this
    · by_cases c : j < 18
      · have : bt (X (12 + (j - 12))) t = false := (h2 (j - 12) t (by omega) ht).1
        rw [show 12 + (j - 12) = j by omega] at this
        exact this
      · have : bt (X (18 + (j - 18))) t = false := (h2 (j - 18) t (by omega) ht).2.1
        rw [show 18 + (j - 18) = j by omega] at this
        exact this
theorem GR_emp {m u : Nat → Nat → Bool} {s : Nat → Int32} {m' u' : Nat → Nat → Bool} {s' : Nat → Int32} {c : Int32} (h : GR m u s) (hc : ∀ t, 6 ≤ t → bt c t = false) (hm : ∀ x t, x < 6 → m' x t = (m x t && !decide (t = v) && !decide (x = v))) (hu : ∀ x t, x < 6 → u' x t = (u x t && !decide (t = v) && !decide (x = v))) (hs : ∀ x, x < 6 → s' x = if x = v then c else s x) : GR m' u' s' := by
  obtain ⟨h1, h2, h3, h4⟩ := h
  refine ⟨fun x t hx ht => ?_, fun x y hx hy q => ?_, fun x y hx hy q => ?_, fun x y w hx hy hw ne q => ?_⟩
  · have := h1 x t hx ht
    rw [hm x t hx, hu x t hx, hs x hx, this.1, this.2.1]
    refine ⟨rfl, rfl, ?_⟩
    split
    · exact hc t ht
    · exact this.2.2
  · grind
  · grind
  · grind
theorem GR_joi {m u : Nat → Nat → Bool} {s : Nat → Int32} {m' u' : Nat → Nat → Bool} {s' : Nat → Int32} (h : GR m u s) (ha : a < 6) (hb : b < 6) (ne : a ≠ b) (hm : ∀ x t, x < 6 → m' x t = if x = a then ((m b t && !decide (t = a)) || decide (t = b)) else ((m x t && !decide (t = a)) || (decide (t = a) && (m b x || decide (x = b)))))
    (hu : ∀ x t, x < 6 → u' x t = if x = a then ((u b t && !decide (t = a)) || decide (t = b)) else ((u x t && !decide (t = a)) || (decide (t = a) && (u b x || decide (x = b))))) (hs : ∀ x, x < 6 → s' x = if x = a then s b else s x) : GR m' u' s' := by
  obtain ⟨h1, h2, h3, h4⟩ := h
  refine ⟨fun x t hx ht => ?_, fun x y hx hy q => ?_, fun x y hx hy q => ?_, fun x y w hx hy hw nw q => ?_⟩
  · have := h1 x t hx ht
    have := h1 b t hb ht
    grind
  · grind
  · grind
  · rw [hu y w hy] at q
    rw [hu x y hx, hu x w hx, hm x y hx, hm x w hx]
    have a1 := h4 x y w hx hy hw nw
    have a2 := h4 b y w hb hy hw
    have a3 := h4 x y b hx hy hb
    have a4 := h4 x b w hx hb hw nw
    have a5 := h2 b y hb hy
    have a6 := h2 y w hy hw
    have a7 := h2 b w hb hw
    have a8 := h3 x b hx hb
    have a9 := h3 b x hb hx
    have a10 := h2 b x hb hx
    have a11 := h2 x b hx hb
    grind
theorem GR_mov {m u : Nat → Nat → Bool} {s : Nat → Int32} {m' u' : Nat → Nat → Bool} {s' : Nat → Int32} (h : GR m u s) (ha : a < 6) (hb : b < 6) (ne : a ≠ b) (hm : ∀ x t, x < 6 → m' x t = ((if x = a then (m b t && !decide (t = a)) else ((m x t && !decide (t = a)) || (decide (t = a) && m b x))) && !decide (t = b) && !decide (x = b)))
    (hu : ∀ x t, x < 6 → u' x t = ((if x = a then (u b t && !decide (t = a)) else ((u x t && !decide (t = a)) || (decide (t = a) && u b x))) && !decide (t = b) && !decide (x = b))) (hs : ∀ x, x < 6 → s' x = if x = b then 0 else if x = a then s b else s x) : GR m' u' s' := by
  obtain ⟨h1, h2, h3, h4⟩ := h
  refine ⟨fun x t hx ht => ?_, fun x y hx hy q => ?_, fun x y hx hy q => ?_, fun x y w hx hy hw nw q => ?_⟩
  · have := h1 x t hx ht
    have := h1 b t hb ht
    have := b_0 t
    grind
  · have q1 := h2 b x hb hx
    have q2 := h2 b y hb hy
    have q3 := h2 x y hx hy
    grind
  · grind
  · rw [hu y w hy] at q
    rw [hu x y hx, hu x w hx, hm x y hx, hm x w hx]
    have a1 := h4 x y w hx hy hw nw
    have a2 := h4 b y w hb hy hw
    have a3 := h4 x y b hx hy hb
    have a4 := h4 x b w hx hb hw nw
    have a5 := h2 b y hb hy
    have a6 := h2 y w hy hw
    have a7 := h2 b w hb hw
    have a8 := h3 x b hx hb
    have a9 := h3 b x hb hx
    have a10 := h2 b x hb hx
    have a11 := h2 x b hx hb
    grind
end AbGX
