/-! CONFIGURATIONS: the reference's things T, modes M and states S of the variables, and the row X that says the same -/
def CF (P T M S X : Nat → Int32) : Prop :=
  (∀ v, v < 6 → (T v = -1 ∧ M v = 0 ∧ S v = 0 ∧ X v = 1 ∧ X (6 + v) = 0) ∨ (T v ≠ -1 ∧ v < nV P ∧ (M v = 2 ∨ M v = 4 ∨ M v = 8) ∧ X v = M v ∧ ∃ s, s < nS P (vK P v) ∧ S v = nI s ∧ X (6 + v) = b1 s)) ∧
  (∀ v, v < 6 → X (12 + v) = X (18 + v)) ∧ (∀ v w, v < 6 → w < 6 → (bt (X (18 + v)) w = true ↔ w ≠ v ∧ T v ≠ -1 ∧ T w = T v)) ∧ (∀ v t, v < 6 → 6 ≤ t → bt (X (18 + v)) t = false) ∧
  ∀ v w, v < 6 → w < 6 → T v ≠ -1 → T w = T v → S w = S v ∧ vK P w = vK P v
theorem hold_s : ∀ x : Int32, x = 1 ∨ x = 2 ∨ x = 4 ∨ x = 8 → (hold x = decide (x ≠ 1)) ∧ (bt x 0 = decide (x = 1)) ∧ (bt x 1 = decide (x = 2)) ∧ (bt x 3 = decide (x = 8)) := by
  rintro x (rfl | rfl | rfl | rfl) <;> decide
section Conf
variable {P T M S X : Nat → Int32} {D : Nat → Nat} {a b v : Nat}
theorem CF_how (h : CF P T M S X) (hv : v < 6) : X v = 1 ∨ X v = 2 ∨ X v = 4 ∨ X v = 8 := by
  rcases h.1 v hv with ⟨-, -, -, q, -⟩ | ⟨-, -, q, q2, -⟩
  · exact Or.inl q
  · rw [q2]; exact Or.inr q
theorem CF_none (h : CF P T M S X) (hv : v < 6) : X v = 1 ↔ T v = -1 := by
  rcases h.1 v hv with ⟨q, -, -, q2, -⟩ | ⟨q, -, q1, q2, -⟩
  · exact ⟨fun _ => q, fun _ => q2⟩
  · constructor
    · intro z; rw [q2] at z; rw [z] at q1; exact absurd q1 (by decide)
    · intro z; exact absurd z q
theorem CF_hold (h : CF P T M S X) (hv : v < 6) : hold (X v) = decide (T v ≠ -1) := by
  rw [(hold_s _ (CF_how h hv)).1]
  exact decide_eq_decide.mpr (not_congr (CF_none h hv))
theorem CF_lack (h : CF P T M S X) (hv : v < 6) : bt (X v) 0 = decide (T v = -1) := by
  rw [(hold_s _ (CF_how h hv)).2.1]
  exact decide_eq_decide.mpr (CF_none h hv)
theorem CF_look (h : CF P T M S X) (hv : v < 6) : bt (X v) 1 = decide (M v = 2) := by
  rw [(hold_s _ (CF_how h hv)).2.2.1]
  apply decide_eq_decide.mpr
  rcases h.1 v hv with ⟨-, q, -, q2, -⟩ | ⟨-, -, -, q2, -⟩
  · rw [q, q2]; decide
  · rw [q2]
theorem CF_alone (h : CF P T M S X) (hv : v < 6) : X (18 + v) = 0 ↔ T v = -1 ∨ ∀ w, w < 6 → w ≠ v → T w ≠ T v := by
  rw [z_bt]
  constructor
  · intro q
    by_cases c : T v = -1
    · exact Or.inl c
    · refine Or.inr (fun w hw ne e => ?_)
      have := (h.2.2.1 v w hv hw).mpr ⟨ne, c, e⟩
      rw [q w] at this; cases this
  · intro q t
    cases e : bt (X (18 + v)) t
    · rfl
    · have t6 : t < 6 := by
        by_cases c : t < 6
        · exact c
        · rw [h.2.2.2.1 v t hv (by omega)] at e; cases e
      obtain ⟨e1, e2, e3⟩ := (h.2.2.1 v t hv t6).mp e
      rcases q with q | q
      · exact absurd q e2
      · exact absurd e3 (q t t6 e1)
theorem CF_GX (hA : WFA P D) (h : CF P T M S X) : GX X := by
  obtain ⟨c1, c2, c3, c4, c5⟩ := h
  have hst : ∀ v, v < 6 → ∀ t, 6 ≤ t → bt (X (6 + v)) t = false := by
    intro v hv t ht
    rcases c1 v hv with ⟨-, -, -, -, q⟩ | ⟨-, lv, -, -, s, ls, -, q⟩
    · rw [q]; exact b_0 t
    · have := (hA.1.2 _ (hA.2.1 v lv).2).1.2.2
      rw [q, b_b1 (by omega)]
      exact decide_eq_false (by omega)
  refine ⟨fun v t hv ht => ?_, fun j t h6 hj ht => ?_, fun u v hu hv q => ?_, fun u v hu hv q => ?_, fun u v w hu hv hw ne q => ?_, fun v hv q1 q2 q3 => ?_⟩
  · have := CF_how ⟨c1, c2, c3, c4, c5⟩ hv
    exact low4 _ (by rcases this with z | z | z | z <;> rw [z] <;> simp) t ht
  · by_cases d1 : j < 12
    · have := hst (j - 6) (by omega) t ht
      rw [show 6 + (j - 6) = j by omega] at this
      exact this
    · by_cases d2 : j < 18
      · have := c4 (j - 12) t (by omega) ht
        rw [← c2 (j - 12) (by omega), show 12 + (j - 12) = j by omega] at this
        exact this
      · have := c4 (j - 18) t (by omega) ht
        rw [show 18 + (j - 18) = j by omega] at this
        exact this
  · obtain ⟨e1, e2, e3⟩ := (c3 u v hu hv).mp q
    refine ⟨by rw [c2 u hu]; exact q, (c3 v u hv hu).mpr ⟨Ne.symm e1, by rw [e3]; exact e2, e3.symm⟩, ?_⟩
    obtain ⟨e4, -⟩ := c5 u v hu hv e2 e3
    rcases c1 u hu with ⟨z, -⟩ | ⟨-, lu, -, -, s, ls, z1, z2⟩
    · exact absurd z e2
    · rcases c1 v hv with ⟨z, -⟩ | ⟨-, lv, -, -, s', ls', z1', z2'⟩
      · rw [e3] at z; exact absurd z e2
      · have k1 := (hA.1.2 _ (hA.2.1 u lu).2).1.2.2
        have k2 := (hA.1.2 _ (hA.2.1 v lv).2).1.2.2
        rw [z1, z1'] at e4
        have := nI_inj (by omega) (by omega) e4
        subst this
        rw [z2, z2']
  · rw [c2 u hu] at q
    rw [c2 v hv]
    obtain ⟨e1, e2, e3⟩ := (c3 u v hu hv).mp q
    exact (c3 v u hv hu).mpr ⟨Ne.symm e1, by rw [e3]; exact e2, e3.symm⟩
  · obtain ⟨e1, e2, e3⟩ := (c3 v w hv hw).mp q
    have key : bt (X (18 + u)) v = true → bt (X (18 + u)) w = true := by
      intro z
      obtain ⟨f1, f2, f3⟩ := (c3 u v hu hv).mp z
      exact (c3 u w hu hw).mpr ⟨Ne.symm ne, f2, by rw [e3, f3]⟩
    refine ⟨key, fun z => ?_⟩
    rw [c2 u hu] at z ⊢
    exact key z
  · rcases c1 v hv with ⟨-, -, -, -, q⟩ | ⟨z, -, -, -, -⟩
    · exact q
    · have := CF_hold ⟨c1, c2, c3, c4, c5⟩ hv
      unfold hold at this
      rw [q1, q2, q3, decide_eq_true z] at this
      cases this
/-- a row made of parts: what each variable has, and which are one -/
theorem CF_of {T' M' S' Y : Nat → Int32} (one : ∀ v, v < 6 → (T' v = -1 ∧ M' v = 0 ∧ S' v = 0 ∧ Y v = 1 ∧ Y (6 + v) = 0) ∨ (T' v ≠ -1 ∧ v < nV P ∧ (M' v = 2 ∨ M' v = 4 ∨ M' v = 8) ∧ Y v = M' v ∧ ∃ s, s < nS P (vK P v) ∧ S' v = nI s ∧ Y (6 + v) = b1 s))
    (may : ∀ v t, v < 6 → bt (Y (12 + v)) t = bt (Y (18 + v)) t) (must : ∀ v t, v < 6 → (bt (Y (18 + v)) t = true ↔ t < 6 ∧ t ≠ v ∧ T' v ≠ -1 ∧ T' t = T' v)) (same : ∀ v w, v < 6 → w < 6 → T' v ≠ -1 → T' w = T' v → S' w = S' v ∧ vK P w = vK P v) : CF P T' M' S' Y := by
  refine ⟨one, fun v hv => b_ext (fun t _ => may v t hv), fun v w hv hw => ?_, fun v t hv ht => ?_, same⟩
  · rw [must v w hv]
    exact ⟨fun q => q.2, fun q => ⟨hw, q⟩⟩
  · cases e : bt (Y (18 + v)) t
    · rfl
    · have := ((must v t hv).mp e).1; omega
theorem CF_must (h : CF P T M S X) (hv : v < 6) (t : Nat) : bt (X (18 + v)) t = true ↔ t < 6 ∧ t ≠ v ∧ T v ≠ -1 ∧ T t = T v := by
  constructor
  · intro q
    have t6 : t < 6 := by
      by_cases c : t < 6
      · exact c
      · rw [h.2.2.2.1 v t hv (by omega)] at q; cases q
    exact ⟨t6, (h.2.2.1 v t hv t6).mp q⟩
  · rintro ⟨t6, q⟩
    exact (h.2.2.1 v t hv t6).mpr q
theorem CF_may (h : CF P T M S X) (hv : v < 6) (t : Nat) : bt (X (12 + v)) t = bt (X (18 + v)) t := by rw [h.2.1 v hv]
theorem CF_e24 {Y : Nat → Int32} (h : CF P T M S X) (e : e24 Y X) : CF P T M S Y := by
  refine CF_of (fun v hv => ?_) (fun v t hv => ?_) (fun v t hv => ?_) h.2.2.2.2
  · rw [e v (by omega), e (6 + v) (by omega)]; exact h.1 v hv
  · rw [e (12 + v) (by omega), e (18 + v) (by omega)]; exact CF_may h hv t
  · rw [e (18 + v) (by omega)]; exact CF_must h hv t
/-- a variable lets go -/
theorem CF_emp (h : CF P T M S X) (hv : v < 6) : CF P (up T v (-1)) (up M v 0) (up S v 0) (emp X v) := by
  refine CF_of (fun u hu => ?_) (fun u t hu => ?_) (fun u t hu => ?_) (fun u w hu hw => ?_)
  · rw [emp_h hu, emp_s hu hv]
    by_cases c : u = v
    · rw [if_pos c, if_pos c, c, up_at, up_at, up_at]; exact Or.inl ⟨rfl, rfl, rfl, rfl, rfl⟩
    · rw [if_neg c, if_neg c, up_ne c, up_ne c, up_ne c]; exact h.1 u hu
  · rw [emp_m hv hu, emp_u hv hu, CF_may h hu]
  · rw [emp_u hv hu]
    have := CF_must h hu t
    by_cases c : u = v
    · rw [c, up_at]; simp
    · rw [up_ne c]
      by_cases c2 : t = v
      · rw [c2, up_at]
        simp only [decide_true, Bool.not_true, Bool.and_false, Bool.false_and, Bool.false_eq_true, false_iff]
        rintro ⟨-, -, q1, q2⟩
        exact q1 q2.symm
      · rw [up_ne c2, ← this]
        simp [c, c2]
  · by_cases c : u = v
    · rw [c, up_at]; intro q; exact absurd rfl q
    · rw [up_ne c, up_ne c]
      by_cases c2 : w = v
      · rw [c2, up_at]
        intro q1 q2
        exact absurd q2.symm q1
      · rw [up_ne c2, up_ne c2]; exact h.2.2.2.2 u w hu hw
end Conf
