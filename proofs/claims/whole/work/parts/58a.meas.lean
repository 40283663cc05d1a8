section Meas
variable {P : Nat → Int32} {D : Nat → Nat} {X Y : Nat → Int32} {a b v : Nat}
theorem joi_e24 {z : Bool} (h : e24 X Y) (ha : a < 6) (hb : b < 6) : e24 (joi X a b z) (joi Y a b z) := by
  intro j hj
  unfold joi jA
  rw [h j hj, h (6 + b) (by omega), fre_e24 h j hj, fre_e24 h (12 + b) (by omega), fre_e24 h (18 + b) (by omega)]
theorem goS_e24 {so : Nat} (h : e24 X Y) (ha : a < 6) (hb : 1 ≤ so → so ≤ 4 → b < 6 ∧ b ≠ a) : e24 (goS so a b X) (goS so a b Y) := by
  rcases (show so = 0 ∨ so = 1 ∨ so = 2 ∨ so = 3 ∨ so = 4 ∨ 5 ≤ so by omega) with rfl | rfl | rfl | rfl | rfl | h5
  · rw [goS_0, goS_0]
    exact up_e24 (up_e24 (emp_e24 h) rfl) rfl
  · obtain ⟨hb6, -⟩ := hb (by omega) (by omega)
    rw [goS_1, goS_1]
    exact emp_e24 (up_e24 (joi_e24 h ha hb6) (h b (by omega)))
  · obtain ⟨hb6, -⟩ := hb (by omega) (by omega)
    rw [goS_2, goS_2, h b (by omega)]
    exact up_e24 (up_e24 (joi_e24 h ha hb6) rfl) rfl
  · obtain ⟨hb6, -⟩ := hb (by omega) (by omega)
    rw [goS_3, goS_3, h b (by omega)]
    exact up_e24 (up_e24 (joi_e24 h ha hb6) rfl) rfl
  · obtain ⟨hb6, -⟩ := hb (by omega) (by omega)
    rw [goS_4, goS_4, h a (by omega), emp_e24 h (12 + a) (by omega), emp_e24 h (18 + a) (by omega)]
    exact up_e24 (emp_e24 h) rfl
  · unfold goS
    rw [if_neg (by omega), if_neg (by omega), if_neg (by omega), if_neg (by omega), if_neg (by omega), if_neg (by omega), if_neg (by omega), if_neg (by omega), if_neg (by omega), if_neg (by omega)]
    exact emp_e24 h
theorem asS_e24 {k m : Nat} {z : Int32} (h : e24 X Y) (hv : v < 6) : e24 (asS P k m v z X) (asS P k m v z Y) := by
  intro j hj
  unfold asS
  rw [h j hj, h (6 + v) (by omega), h (12 + v) (by omega), h (18 + v) (by omega)]
theorem tr_e24 {i : Nat} {z : Int32} (hW : WFK P) (hv : WFv P) (hS : WFs P D) (hi : i < nT P) (h : e24 X Y) : (tr P i z X = none ∧ tr P i z Y = none) ∨ ∃ X' Y', tr P i z X = some X' ∧ tr P i z Y = some Y' ∧ e24 X' Y' := by
  have h6 := hW.1.2.1.2
  obtain ⟨so, h10, -, es, o1, o2, o3⟩ := op_of hW hv hS hi
  unfold tr
  rw [es]
  by_cases c1 : so < 6
  · have := (o1 (by omega)).1
    rw [if_pos c1, if_pos c1]
    exact Or.inr ⟨_, _, rfl, rfl, goS_e24 h (by omega) (fun q1 q2 => ⟨by have := (o2 q1 q2).1; omega, (o2 q1 q2).2.1⟩)⟩
  · rw [if_neg c1, if_neg c1]
    by_cases c2 : so < 9
    · have := (o1 (by omega)).1
      rw [if_pos c2, if_pos c2, h (6 + nN (P (373 + i))) (by omega)]
      by_cases c3 : im P (vK P (nN (P (373 + i)))) (nN (P (453 + i))) z (Y (6 + nN (P (373 + i)))) = 0
      · rw [if_pos c3, if_pos c3]
        exact Or.inl ⟨rfl, rfl⟩
      · rw [if_neg c3, if_neg c3]
        exact Or.inr ⟨_, _, rfl, rfl, asS_e24 h (by omega)⟩
    · rw [if_neg c2, if_neg c2]
      exact Or.inr ⟨_, _, rfl, rfl, h⟩
theorem tq_e24 {i : Nat} {z : Int32} {Z : Nat → Int32} (hW : WFK P) (hv : WFv P) (hS : WFs P D) (hi : i < nT P) (h : e24 X Y) (q : tq P i z X Z) : tq P i z Y Z := by
  obtain ⟨Z0, e, h2⟩ := q
  rcases tr_e24 (z := z) hW hv hS hi h with ⟨n, -⟩ | ⟨X', Y', e1, e2, h3⟩
  · rw [n] at e; cases e
  · rw [e1] at e; cases e
    exact ⟨Y', e2, e24_trans h2 h3⟩
theorem tq_fun {i : Nat} {z : Int32} {Z Z' : Nat → Int32} (q : tq P i z X Z) (q' : tq P i z X Z') : e24 Z Z' := by
  obtain ⟨Z0, e, h⟩ := q
  obtain ⟨Z1, e', h'⟩ := q'
  rw [e] at e'; cases e'
  exact e24_trans h (e24_symm h')
/-- how much is known of a row -/
def hX (X : Nat → Int32) : Nat := cnt 144 (fun i => if i / 6 < 18 then bt (X (i / 6)) (i % 6) else !bt (X (i / 6)) (i % 6))
theorem hX_le (X : Nat → Int32) : hX X ≤ 144 := cnt_le _ _
theorem hX_mono (h : leX X Y) : hX X ≤ hX Y := by
  refine cnt_mono (fun s hs q => ?_)
  by_cases c : s / 6 < 18
  · rw [if_pos c] at q ⊢; exact h.1 _ _ c q
  · rw [if_neg c] at q ⊢
    cases e : bt (Y (s / 6)) (s % 6)
    · rfl
    · rw [h.2 _ _ (by omega) (by omega) e] at q; cases q
theorem bit6 {j t : Nat} (g : GX X) (hj : j < 24) (h : bt (X j) t = true) : t < 6 := by
  by_cases c : t < 6
  · exact c
  · by_cases c2 : j < 6
    · rw [g.1 j t c2 (by omega)] at h; cases h
    · rw [g.2.1 j t (by omega) hj (by omega)] at h; cases h
theorem hX_lt (gX : GX X) (gY : GX Y) (h : leX X Y) {j : Nat} (hj : j < 24) (ne : X j ≠ Y j) : hX X < hX Y := by
  obtain ⟨t, ht6, hb⟩ : ∃ t, t < 6 ∧ bt (X j) t ≠ bt (Y j) t := by
    apply Classical.byContradiction
    intro hn
    apply ne
    apply b_ext
    intro t ht
    by_cases c : t < 6
    · exact Classical.byContradiction (fun q => hn ⟨t, c, q⟩)
    · cases e1 : bt (X j) t
      · cases e2 : bt (Y j) t
        · rfl
        · exact absurd (bit6 gY hj e2) c
      · exact absurd (bit6 gX hj e1) c
  have e1 : (6 * j + t) / 6 = j := by omega
  have e2 : (6 * j + t) % 6 = t := by omega
  refine cnt_lt (t := 6 * j + t) (fun s hs q => ?_) (by omega) ?_ ?_
  · by_cases c : s / 6 < 18
    · rw [if_pos c] at q ⊢; exact h.1 _ _ c q
    · rw [if_neg c] at q ⊢
      cases e : bt (Y (s / 6)) (s % 6)
      · rfl
      · rw [h.2 _ _ (by omega) (by omega) e] at q; cases q
  · rw [e1, e2]
    by_cases c : j < 18
    · rw [if_pos c]
      cases q : bt (X j) t
      · rfl
      · rw [q, h.1 j t c q] at hb; exact absurd rfl hb
    · rw [if_neg c]
      cases q : bt (X j) t
      · cases q2 : bt (Y j) t
        · rw [q, q2] at hb; exact absurd rfl hb
        · rw [h.2 j t (by omega) hj q2] at q; cases q
      · rfl
  · rw [e1, e2]
    by_cases c : j < 18
    · rw [if_pos c]
      cases q : bt (X j) t
      · cases q2 : bt (Y j) t
        · rw [q, q2] at hb; exact absurd rfl hb
        · rfl
      · exact h.1 j t c q
    · rw [if_neg c]
      cases q2 : bt (Y j) t
      · rfl
      · rw [q2, h.2 j t (by omega) hj q2] at hb; exact absurd rfl hb
def hP : Option (Nat → Int32) → Nat
  | none => 0
  | some X => 1 + hX X
def hS (S : PS) : Nat := sm 41 (fun i => hP (S i))
theorem hS_le (S : PS) : hS S ≤ 41 * 145 := by
  refine sm_le (fun i _ => ?_)
  cases S i with
  | none => show 0 ≤ 145; omega
  | some X => have := hX_le X; show 1 + hX X ≤ 145; omega
theorem sm_lt {N : Nat} {f g : Nat → Nat} (h : ∀ i, i < N → f i ≤ g i) {t : Nat} (ht : t < N) (hl : f t < g t) : sm N f < sm N g := by
  induction N with
  | zero => omega
  | succ N ih =>
    have mono : ∀ M, M ≤ N → sm M f ≤ sm M g := by
      intro M
      induction M with
      | zero => intro _; exact Nat.le_refl _
      | succ M ihM => intro hM; have := ihM (by omega); have := h M (by omega); simp only [sm]; omega
    simp only [sm]
    by_cases c : t = N
    · subst c; have := mono t (Nat.le_refl _); omega
    · have := ih (fun i hi => h i (by omega)) (by omega)
      have := h N (by omega)
      omega
/-- Y has come to t -/
def stepped (S S' : PS) (t : Nat) (Y : Nat → Int32) : Prop := (∀ j, j ≠ t → S' j = S j) ∧ ((S t = none ∧ ∃ W, S' t = some W ∧ e24 W Y) ∨ ∃ Z W, S t = some Z ∧ S' t = some W ∧ e24 W (mrg Z Y))
theorem stepped_le {S S' : PS} {t : Nat} (h : stepped S S' t Y) : leS S S' := by
  intro i X q
  by_cases c : i = t
  · subst c
    rcases h.2 with ⟨n, -⟩ | ⟨Z, W, e1, e2, e3⟩
    · rw [n] at q; cases q
    · rw [e1] at q; cases q
      exact ⟨W, e2, leX_trans mrg_l (e24_le (e24_symm e3))⟩
  · exact ⟨X, by rw [h.1 i c]; exact q, leX_refl X⟩
theorem stepped_in {S S' : PS} {t : Nat} (h : stepped S S' t Y) : ∃ Z, S' t = some Z ∧ leX Y Z := by
  rcases h.2 with ⟨n, W, e, e2⟩ | ⟨Z, W, e1, e2, e3⟩
  · exact ⟨W, e, e24_le (e24_symm e2)⟩
  · exact ⟨W, e2, leX_trans mrg_r (e24_le (e24_symm e3))⟩
theorem RE_stepped {T : TS} {s0 i t : Nat} {S S' : PS} (ok : okT T) (h : RE T s0 S) (hi : S i = some X) (hT : T i t X Y) (hs : stepped S S' t Y) : RE T s0 S' := by
  have h2 := RE_step ok h hi hT
  have key : ∀ j W, S' j = some W → ∃ V, jnS S t Y j = some V ∧ e24 W V := by
    intro j W hj
    by_cases c : j = t
    · subst c
      rcases hs.2 with ⟨n, W', e, e2⟩ | ⟨Z, W', e1, e2, e3⟩
      · rw [e] at hj; cases hj
        rw [jnS_at, n]
        exact ⟨_, rfl, e2⟩
      · rw [e2] at hj; cases hj
        rw [jnS_at, e1]
        exact ⟨_, rfl, e3⟩
    · rw [hs.1 j c] at hj
      rw [jnS_ne c]
      exact ⟨W, hj, fun _ _ => rfl⟩
  constructor
  · intro j W hj
    obtain ⟨V, e, q⟩ := key j W hj
    exact e24_GX q (h2.1 j V e)
  · intro S'' hp j W hj
    obtain ⟨V, e, q⟩ := key j W hj
    obtain ⟨Z, e2, l⟩ := h2.2 S'' hp j V e
    exact ⟨Z, e2, leX_trans (e24_le q) l⟩
end Meas
