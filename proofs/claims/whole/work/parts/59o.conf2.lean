section Conf2
variable {P T M S X : Nat → Int32} {D : Nat → Nat} {a b v : Nat}
theorem b1_0 : b1 0 = 1 := rfl
theorem CF_new {fr : Int32} (hA : WFA P D) (h : CF P T M S X) (la : a < nV P) (ht : T a = -1) (f1 : fr ≠ -1) (f2 : ∀ v, v < 6 → T v ≠ fr) : CF P (up T a fr) (up M a 8) (up S a 0) (goS 0 a b X) := by
  have h6 := hA.1.1.2.1.2
  have ha : a < 6 := by omega
  have n1 := (hA.1.2 _ (hA.2.1 a la).2).1.2.1
  rw [goS_0]
  refine CF_of (fun u hu => ?_) (fun u t hu => ?_) (fun u t hu => ?_) (fun u w hu hw => ?_)
  · rw [up_ne (show u ≠ 6 + a by omega)]
    by_cases c : u = a
    · subst c
      rw [up_at, up_at, up_at, up_at, up_at]
      exact Or.inr ⟨f1, la, Or.inr (Or.inr rfl), rfl, 0, by omega, rfl, rfl⟩
    · rw [up_ne c, up_ne c, up_ne c, up_ne c, up_ne (by omega), up_ne (by omega), emp_h hu, if_neg c, emp_s hu ha, if_neg c]
      exact h.1 u hu
  · rw [up_ne (by omega), up_ne (by omega), up_ne (by omega), up_ne (by omega), emp_m ha hu, emp_u ha hu, CF_may h hu]
  · rw [up_ne (by omega), up_ne (by omega), emp_u ha hu]
    have := CF_must h hu t
    by_cases c : u = a
    · subst c
      rw [up_at]
      simp only [decide_true, Bool.not_true, Bool.and_false, Bool.false_eq_true, false_iff]
      rintro ⟨t6, q1, -, q3⟩
      rw [up_ne q1] at q3
      exact f2 t t6 q3
    · rw [up_ne c]
      by_cases c2 : t = a
      · rw [c2, up_at]
        simp only [decide_true, Bool.not_true, Bool.and_false, Bool.false_and, Bool.false_eq_true, false_iff]
        rintro ⟨-, -, -, q2⟩
        exact f2 u hu q2.symm
      · rw [up_ne c2, ← this]
        simp [c, c2]
  · by_cases c : u = a
    · subst c
      rw [up_at]
      by_cases c2 : w = u
      · rw [c2]; exact fun _ _ => ⟨rfl, rfl⟩
      · rw [up_ne c2]; exact fun _ q => absurd q (f2 w hw)
    · rw [up_ne c, up_ne c]
      by_cases c2 : w = a
      · rw [c2, up_at]; exact fun _ q => absurd q.symm (f2 u hu)
      · rw [up_ne c2, up_ne c2]; exact h.2.2.2.2 u w hu hw
theorem CF_lt (h : CF P T M S X) (hv : v < 6) (ht : T v ≠ -1) : v < nV P := by
  rcases h.1 v hv with ⟨q, -⟩ | ⟨-, q, -⟩
  · exact absurd q ht
  · exact q
/-- a comes to hold what b holds, with modes as they are given -/
theorem CF_joi {Ma Mb : Int32} (h : CF P T M S X) (la : a < nV P) (h6 : nV P ≤ 6) (hb : b < 6) (ne : a ≠ b) (ha1 : T a = -1) (hb1 : T b ≠ -1) (kk : vK P a = vK P b) (m1 : Ma = 2 ∨ Ma = 4 ∨ Ma = 8) (m2 : Mb = 2 ∨ Mb = 4 ∨ Mb = 8) :
    CF P (up T a (T b)) (up (up M a Ma) b Mb) (up S a (S b)) (up (up (joi X a b true) a Ma) b Mb) := by
  have ha : a < 6 := by omega
  have sb : ∃ s, s < nS P (vK P b) ∧ S b = nI s ∧ X (6 + b) = b1 s := by
    rcases h.1 b hb with ⟨q, -⟩ | ⟨-, -, -, -, q⟩
    · exact absurd q hb1
    · exact q
  obtain ⟨s, s1, s2, s3⟩ := sb
  refine CF_of (fun u hu => ?_) (fun u t hu => ?_) (fun u t hu => ?_) (fun u w hu hw => ?_)
  · rw [up_ne (show 6 + u ≠ b by omega), up_ne (show 6 + u ≠ a by omega), joi_s hu]
    by_cases c : u = a
    · subst c
      rw [up_at, up_at, up_ne ne, up_at, up_ne ne, up_at, if_pos rfl]
      exact Or.inr ⟨hb1, la, m1, rfl, s, by rw [kk]; exact s1, s2, s3⟩
    · rw [up_ne c, if_neg c, up_ne c]
      by_cases c2 : u = b
      · subst c2
        rw [up_at, up_at]
        exact Or.inr ⟨hb1, CF_lt h hu hb1, m2, rfl, s, s1, s2, s3⟩
      · rw [up_ne c2, up_ne c2, up_ne c, up_ne c, joi_h hu]; exact h.1 u hu
  · rw [up_ne (by omega), up_ne (by omega), up_ne (by omega), up_ne (by omega), joi_m ha hb hu ne, joi_u ha hb hu ne, CF_may h hb, CF_may h hu, CF_may h hb]
  · rw [up_ne (by omega), up_ne (by omega), joi_u ha hb hu ne]
    have q1 := CF_must h hu t
    have q2 := CF_must h hb t
    have q3 := CF_must h hb u
    have nb : ∀ x, bt (X (18 + b)) x = true → x ≠ a := by
      intro x hx e
      have := (CF_must h hb x).mp hx
      rw [e, ha1] at this
      exact hb1 this.2.2.2.symm
    by_cases c : u = a
    · subst c
      rw [if_pos rfl, up_at]
      simp only [Bool.or_eq_true, Bool.and_eq_true, Bool.not_eq_true', decide_eq_true_eq, decide_eq_false_iff_not, Bool.true_and]
      rw [q2]
      constructor
      · rintro (⟨⟨t6, x1, x2, x3⟩, x4⟩ | x)
        · exact ⟨t6, x4, hb1, by rw [up_ne x4]; exact x3⟩
        · subst x; exact ⟨hb, Ne.symm ne, hb1, by rw [up_ne (Ne.symm ne)]⟩
      · rintro ⟨t6, x1, -, x3⟩
        rw [up_ne x1] at x3
        by_cases c2 : t = b
        · exact Or.inr c2
        · exact Or.inl ⟨⟨t6, c2, hb1, x3⟩, x1⟩
    · rw [if_neg c, up_ne c]
      simp only [Bool.or_eq_true, Bool.and_eq_true, Bool.not_eq_true', decide_eq_true_eq, decide_eq_false_iff_not, Bool.true_and]
      rw [q1, q3]
      by_cases c2 : t = a
      · subst c2
        rw [up_at]
        constructor
        · rintro (⟨-, x⟩ | ⟨-, ⟨x1, x2, x3, x4⟩ | x⟩)
          · exact absurd rfl x
          · exact ⟨ha, Ne.symm c, by rw [x4]; exact hb1, x4.symm⟩
          · subst x; exact ⟨ha, Ne.symm c, hb1, rfl⟩
        · rintro ⟨-, x1, x2, x3⟩
          refine Or.inr ⟨rfl, ?_⟩
          by_cases c3 : u = b
          · exact Or.inr c3
          · exact Or.inl ⟨hu, c3, hb1, x3.symm⟩
      · rw [up_ne c2]
        constructor
        · rintro (⟨x, -⟩ | ⟨x, -⟩)
          · exact x
          · exact absurd x c2
        · exact fun x => Or.inl ⟨x, c2⟩
  · have sm := h.2.2.2.2
    by_cases c : u = a
    · subst c
      rw [up_at, up_at]
      by_cases c2 : w = u
      · rw [c2, up_at, up_at]; exact fun _ _ => ⟨rfl, rfl⟩
      · rw [up_ne c2, up_ne c2]
        intro q1 q2
        have := sm b w hb hw q1 q2
        exact ⟨this.1, by rw [this.2, kk]⟩
    · rw [up_ne c, up_ne c]
      by_cases c2 : w = a
      · subst c2
        rw [up_at, up_at]
        intro q1 q2
        have := sm u b hu hb q1 q2
        exact ⟨this.1, by rw [← this.2, kk]⟩
      · rw [up_ne c2, up_ne c2]; exact sm u w hu hw
theorem CF_move (h : CF P T M S X) (la : a < nV P) (h6 : nV P ≤ 6) (hb : b < 6) (ne : a ≠ b) (ha1 : T a = -1) (hb1 : T b ≠ -1) (kk : vK P a = vK P b) : CF P (up (up T a (T b)) b (-1)) (up (up M a (M b)) b 0) (up (up S a (S b)) b 0) (goS 1 a b X) := by
  have ha : a < 6 := by omega
  have sb : (M b = 2 ∨ M b = 4 ∨ M b = 8) ∧ X b = M b ∧ ∃ s, s < nS P (vK P b) ∧ S b = nI s ∧ X (6 + b) = b1 s := by
    rcases h.1 b hb with ⟨q, -⟩ | ⟨-, -, q1, q2, q3⟩
    · exact absurd q hb1
    · exact ⟨q1, q2, q3⟩
  obtain ⟨m1, x1, s, s1, s2, s3⟩ := sb
  rw [goS_1]
  have sm := h.2.2.2.2
  refine CF_of (fun u hu => ?_) (fun u t hu => ?_) (fun u t hu => ?_) (fun u w hu hw => ?_)
  · rw [emp_h hu, emp_s hu hb, up_ne (show 6 + u ≠ a by omega), joi_s hu]
    by_cases c : u = b
    · subst c; rw [up_at, up_at, up_at, if_pos rfl, if_pos rfl]; exact Or.inl ⟨rfl, rfl, rfl, rfl, rfl⟩
    · rw [up_ne c, up_ne c, up_ne c, if_neg c, if_neg c]
      by_cases c2 : u = a
      · subst c2
        rw [up_at, up_at, up_at, up_at, if_pos rfl]
        exact Or.inr ⟨hb1, la, m1, x1, s, by rw [kk]; exact s1, s2, s3⟩
      · rw [up_ne c2, up_ne c2, up_ne c2, up_ne c2, if_neg c2, joi_h hu]; exact h.1 u hu
  · rw [mov_m ha hb ne hu, mov_u ha hb ne hu, CF_may h hb, CF_may h hu, CF_may h hb]
  · rw [mov_u ha hb ne hu]
    have q1 := CF_must h hu t
    have q2 := CF_must h hb t
    have q3 := CF_must h hb u
    by_cases c : u = b
    · subst c; rw [up_at]; simp
    · by_cases d : t = b
      · subst d
        rw [up_at]
        simp only [decide_true, Bool.not_true, Bool.and_false, Bool.false_and, Bool.false_eq_true, false_iff]
        rintro ⟨-, -, z1, z2⟩
        exact z1 z2.symm
      · rw [up_ne c, up_ne d]
        simp only [c, d, decide_false, Bool.not_false, Bool.and_true]
        by_cases c2 : u = a
        · subst c2
          rw [if_pos rfl, up_at]
          simp only [Bool.and_eq_true, Bool.not_eq_true', decide_eq_false_iff_not]
          rw [q2]
          constructor
          · rintro ⟨⟨t6, y1, y2, y3⟩, y4⟩; exact ⟨t6, y4, hb1, by rw [up_ne y4]; exact y3⟩
          · rintro ⟨t6, y1, -, y3⟩; rw [up_ne y1] at y3; exact ⟨⟨t6, d, hb1, y3⟩, y1⟩
        · rw [if_neg c2, up_ne c2]
          simp only [Bool.or_eq_true, Bool.and_eq_true, Bool.not_eq_true', decide_eq_true_eq, decide_eq_false_iff_not]
          rw [q1, q3]
          by_cases c3 : t = a
          · subst c3
            rw [up_at]
            constructor
            · rintro (⟨-, y⟩ | ⟨-, y1, y2, y3, y4⟩)
              · exact absurd rfl y
              · exact ⟨ha, Ne.symm c2, by rw [y4]; exact hb1, y4.symm⟩
            · rintro ⟨-, y1, y2, y3⟩
              exact Or.inr ⟨rfl, hu, c, hb1, y3.symm⟩
          · rw [up_ne c3]
            constructor
            · rintro (⟨y, -⟩ | ⟨y, -⟩)
              · exact y
              · exact absurd y c3
            · exact fun y => Or.inl ⟨y, c3⟩
  · by_cases c : u = b
    · subst c; rw [up_at]; intro q; exact absurd rfl q
    · rw [up_ne c, up_ne c]
      by_cases d : w = b
      · subst d
        rw [up_at]
        intro q1 q2
        exact absurd q2.symm q1
      · rw [up_ne d, up_ne d]
        by_cases c2 : u = a
        · subst c2
          rw [up_at, up_at]
          by_cases c3 : w = u
          · rw [c3, up_at, up_at]; exact fun _ _ => ⟨rfl, rfl⟩
          · rw [up_ne c3, up_ne c3]
            intro q1 q2
            have := sm b w hb hw q1 q2
            exact ⟨this.1, by rw [this.2, kk]⟩
        · rw [up_ne c2, up_ne c2]
          by_cases c3 : w = a
          · subst c3
            rw [up_at, up_at]
            intro q1 q2
            have := sm u b hu hb q1 q2
            exact ⟨this.1, by rw [← this.2, kk]⟩
          · rw [up_ne c3, up_ne c3]; exact sm u w hu hw
end Conf2
