section Conf3
variable {P T M S X : Nat → Int32} {D : Nat → Nat} {a b v : Nat}
theorem ol1 : ∀ m : Int32, m = 2 ∨ m = 4 ∨ m = 8 → (m &&& 1 = 0) ∧ (m &&& 7 ||| 2 = if m = 8 then 2 else m ||| 2) := by rintro m (rfl | rfl | rfl) <;> decide
theorem CF_share (h : CF P T M S X) (la : a < nV P) (h6 : nV P ≤ 6) (hb : b < 6) (ne : a ≠ b) (ha1 : T a = -1) (hb1 : T b ≠ -1) (kk : vK P a = vK P b) : CF P (up T a (T b)) (up (up M a 4) b 4) (up S a (S b)) (goS 2 a b X) := by
  have ha : a < 6 := by omega
  have sb : (M b = 2 ∨ M b = 4 ∨ M b = 8) ∧ X b = M b := by
    rcases h.1 b hb with ⟨q, -⟩ | ⟨-, -, q1, q2, -⟩
    · exact absurd q hb1
    · exact ⟨q1, q2⟩
  have v4 : 4 ||| (X b &&& 1) = 4 := by rw [sb.2, (ol1 _ sb.1).1]; rfl
  rw [goS_2, v4]
  refine CF_e24 (CF_joi h la h6 hb ne ha1 hb1 kk (Ma := 4) (Mb := 4) (by simp) (by simp)) (fun j hj => ?_)
  by_cases c : j = a
  · rw [c, up_at, up_ne ne, up_at]
  · rw [up_ne c]
    by_cases c2 : j = b
    · rw [c2, up_at, up_at]
    · rw [up_ne c2, up_ne c2, up_ne c]
theorem CF_lend (h : CF P T M S X) (la : a < nV P) (h6 : nV P ≤ 6) (hb : b < 6) (ne : a ≠ b) (ha1 : T a = -1) (hb1 : T b ≠ -1) (kk : vK P a = vK P b) : CF P (up T a (T b)) (up (up M a 2) b (if M b = 8 then 2 else M b)) (up S a (S b)) (goS 3 a b X) := by
  have ha : a < 6 := by omega
  have sb : (M b = 2 ∨ M b = 4 ∨ M b = 8) ∧ X b = M b := by
    rcases h.1 b hb with ⟨q, -⟩ | ⟨-, -, q1, q2, -⟩
    · exact absurd q hb1
    · exact ⟨q1, q2⟩
  have v2 : 2 ||| (X b &&& 1) = 2 := by rw [sb.2, (ol1 _ sb.1).1]; rfl
  have vb : (if bt (X b) 3 = true then (X b &&& 7) ||| 2 else X b) = if M b = 8 then 2 else M b := by
    rw [sb.2]
    rcases sb.1 with q | q | q <;> rw [q] <;> decide
  have m2 : (if M b = 8 then (2 : Int32) else M b) = 2 ∨ (if M b = 8 then (2 : Int32) else M b) = 4 ∨ (if M b = 8 then (2 : Int32) else M b) = 8 := by
    rcases sb.1 with q | q | q <;> rw [q] <;> decide
  rw [goS_3, v2, vb]
  exact CF_joi h la h6 hb ne ha1 hb1 kk (by simp) m2
theorem CF_join (h : CF P T M S X) (ha : a < 6) (hb : b < 6) (ne : a ≠ b) (ha1 : T a ≠ -1) : ((∀ w, w < 6 → w ≠ a → up T b (-1) w ≠ T a) → CF P (up T b (-1)) (up (up M b 0) a 8) (up S b 0) (goS 4 a b X)) ∧ (¬ (∀ w, w < 6 → w ≠ a → up T b (-1) w ≠ T a) → CF P (up T b (-1)) (up M b 0) (up S b 0) (goS 4 a b X)) := by
  have h1 := CF_emp h hb
  have al := CF_alone h1 ha
  have ta : up T b (-1) a = T a := up_ne ne
  rw [ta] at al
  have mm : emp X b (12 + a) = emp X b (18 + a) := h1.2.1 a ha
  have sa : (M a = 2 ∨ M a = 4 ∨ M a = 8) ∧ X a = M a := by
    rcases h.1 a ha with ⟨q, -⟩ | ⟨-, -, q1, q2, -⟩
    · exact absurd q ha1
    · exact ⟨q1, q2⟩
  rw [goS_4, mm]
  constructor
  · intro q
    have z : emp X b (18 + a) = 0 := al.mpr (Or.inr q)
    rw [if_pos z]
    refine CF_of (fun u hu => ?_) (fun u t hu => ?_) (fun u t hu => ?_) h1.2.2.2.2
    · rw [up_ne (show 6 + u ≠ a by omega)]
      by_cases c : u = a
      · subst c
        rw [up_at, up_at]
        rcases h1.1 u hu with ⟨z, -⟩ | ⟨z1, z2, -, -, z3⟩
        · rw [ta] at z; exact absurd z ha1
        · exact Or.inr ⟨z1, z2, Or.inr (Or.inr rfl), rfl, z3⟩
      · rw [up_ne c, up_ne c]; exact h1.1 u hu
    · rw [up_ne (by omega), up_ne (by omega)]; exact CF_may h1 hu t
    · rw [up_ne (by omega)]; exact CF_must h1 hu t
  · intro q
    have z : ¬ emp X b (18 + a) = 0 := by
      intro z
      rcases al.mp z with z | z
      · exact ha1 z
      · exact q z
    rw [if_neg z, if_neg z]
    refine CF_e24 h1 (fun j hj => ?_)
    by_cases c : j = a
    · rw [c, up_at, emp_h ha, if_neg ne]
    · rw [up_ne c]
theorem CF_ask {k m : Nat} {z : Int32} {s t : Nat} (hA : WFA P D) (h : CF P T M S X) (ha : a < 6) (ha1 : T a ≠ -1) (kk : vK P a = k) (hm : m < nM P k) (hs : S a = nI s) (xs : X (6 + a) = b1 s) (ls : s < nS P k) (hy : pY P k m s ≠ -1) (ht : t < nS P k) (et : fol P k m s z = nI t) :
    im P k m z (X (6 + a)) ≠ 0 ∧ CF P T M (fun o => if o < 6 ∧ T o = T a then nI t else S o) (asS P k m a z X) := by
  have la := CF_lt h ha ha1
  have hk : k < nK P := by rw [← kk]; exact (hA.2.1 a la).2
  have h6 := (hA.1.2 k hk).1.2.2
  have imE : im P k m z (b1 s) = b1 t := by
    apply b_iff
    intro u hu
    rw [im_bt hA.1 hk hm hu, b_b1 (by omega), decide_eq_true_eq]
    constructor
    · rintro ⟨s', q1, q2, q3, q4⟩
      rw [b_b1 (by omega), decide_eq_true_eq] at q2
      subst q2
      rw [et] at q4
      exact (nI_inj (by omega) (by omega) q4).symm
    · rintro rfl
      exact ⟨s, ls, by rw [b_b1 (by omega)]; simp, hy, et⟩
  have nz : b1 t ≠ 0 := by
    intro q
    have := congrArg (fun x => bt x t) q
    simp only [b_0] at this
    rw [b_b1 (by omega)] at this
    simp at this
  rw [xs, imE]
  refine ⟨nz, ?_⟩
  have eo : ∀ j, j < 6 ∨ 12 ≤ j → asS P k m a z X j = X j := fun j hj => by unfold asS; rw [if_neg (by omega), if_neg (by omega)]
  have es : ∀ u, u < 6 → asS P k m a z X (6 + u) = if T u = T a then b1 t else X (6 + u) := by
    intro u hu
    unfold asS
    rw [xs, imE]
    by_cases c : u = a
    · subst c; rw [if_pos rfl, if_pos rfl]
    · rw [if_neg (by omega), if_pos (by omega), show 6 + u - 6 = u by omega]
      by_cases c2 : T u = T a
      · rw [if_pos c2, if_pos ((CF_must h ha u).mpr ⟨hu, c, ha1, c2⟩)]
      · have n1 : ¬ bt (X (18 + a)) u = true := fun q => c2 ((CF_must h ha u).mp q).2.2.2
        rw [if_neg c2, if_neg n1, CF_may h ha, if_neg n1]
  refine CF_of (fun u hu => ?_) (fun u w hu => ?_) (fun u w hu => ?_) (fun u w hu hw q1 q2 => ?_)
  · rw [eo u (by omega), es u hu]
    by_cases c : T u = T a
    · rw [if_pos ⟨hu, c⟩, if_pos c]
      rcases h.1 u hu with ⟨q, -⟩ | ⟨q1, q2, q3, q4, -⟩
      · rw [c] at q; exact absurd q ha1
      · refine Or.inr ⟨q1, q2, q3, q4, t, ?_, rfl, rfl⟩
        have := (h.2.2.2.2 a u ha hu ha1 c).2
        rw [this, kk]; exact ht
    · rw [if_neg (fun q => c q.2), if_neg c]; exact h.1 u hu
  · rw [eo _ (by omega), eo _ (by omega)]; exact CF_may h hu w
  · rw [eo _ (by omega)]; exact CF_must h hu w
  · have sm := h.2.2.2.2 u w hu hw q1 q2
    refine ⟨?_, sm.2⟩
    by_cases c : T u = T a
    · rw [if_pos ⟨hw, by rw [q2]; exact c⟩, if_pos ⟨hu, c⟩]
    · rw [if_neg (fun q => c (by rw [← q2]; exact q.2)), if_neg (fun q => c q.2)]; exact sm.1
end Conf3
