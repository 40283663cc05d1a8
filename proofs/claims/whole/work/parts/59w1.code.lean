/-! SEARCH: how a configuration is written as a number -/
def lw6 (f : Nat → Bool) : Nat := if f 0 then 0 else if f 1 then 1 else if f 2 then 2 else if f 3 then 3 else if f 4 then 4 else if f 5 then 5 else 0
def hw (X : Nat → Int32) (v : Nat) : Nat := lw6 (bt (X v))
def ss (X : Nat → Int32) (v : Nat) : Nat := lw6 (bt (X (6 + v)))
/-- the first variable that holds what v holds -/
def fs (X : Nat → Int32) (v : Nat) : Nat := lw6 (fun w => bt (X (18 + v)) w || decide (w = v))
def cC (X : Nat → Int32) (v : Nat) : Nat := hw X v * 64 + ss X v * 8 + fs X v
def cR (X : Nat → Int32) (v : Nat) : Nat := if X v = 1 then 224 else fs X v * 32 + hw X v * 8 + ss X v
def pen (p : Nat) (c : Nat → Nat) : Nat → Nat
  | 0 => p
  | v + 1 => pen p c v * 256 + c v
def kC (p : Nat) (X : Nat → Int32) : Int64 := lN (pen p (cC X) 6)
def kR (p : Nat) (X : Nat → Int32) : Int64 := lN (pen p (cR X) 6)
def cT (X : Nat → Int32) (v : Nat) : Int32 := if X v = 1 then -1 else nI (fs X v)
def cM (X : Nat → Int32) (v : Nat) : Int32 := if X v = 1 then 0 else X v
def cS (X : Nat → Int32) (v : Nat) : Int32 := if X v = 1 then 0 else nI (ss X v)
/-- a row that is a configuration -/
def GC (P X : Nat → Int32) : Prop := CF P (cT X) (cM X) (cS X) X
theorem lw6_lt (f : Nat → Bool) : lw6 f < 6 := by
  unfold lw6
  repeat' split
  all_goals decide
theorem lw6_is {f : Nat → Bool} {w : Nat} (hw : w < 6) (h : f w = true) : f (lw6 f) = true ∧ lw6 f ≤ w ∧ ∀ u, u < lw6 f → f u = false := by
  have a : ∀ b : Bool, ¬ b = true → b = false := fun b h => by cases b; rfl; exact absurd rfl h
  unfold lw6
  by_cases c0 : f 0 = true
  · rw [if_pos c0]; exact ⟨c0, by omega, fun u hu => by omega⟩
  rw [if_neg c0]
  by_cases c1 : f 1 = true
  · rw [if_pos c1]
    refine ⟨c1, by rcases (show w = 0 ∨ 1 ≤ w by omega) with q | q; subst q; exact absurd h c0; exact q, fun u hu => ?_⟩
    obtain rfl : u = 0 := by omega
    exact a _ c0
  rw [if_neg c1]
  by_cases c2 : f 2 = true
  · rw [if_pos c2]
    refine ⟨c2, by rcases (show w = 0 ∨ w = 1 ∨ 2 ≤ w by omega) with q | q | q; subst q; exact absurd h c0; subst q; exact absurd h c1; exact q, fun u hu => ?_⟩
    rcases (show u = 0 ∨ u = 1 by omega) with q | q <;> subst q
    · exact a _ c0
    · exact a _ c1
  rw [if_neg c2]
  by_cases c3 : f 3 = true
  · rw [if_pos c3]
    refine ⟨c3, by rcases (show w = 0 ∨ w = 1 ∨ w = 2 ∨ 3 ≤ w by omega) with q | q | q | q; subst q; exact absurd h c0; subst q; exact absurd h c1; subst q; exact absurd h c2; exact q, fun u hu => ?_⟩
    rcases (show u = 0 ∨ u = 1 ∨ u = 2 by omega) with q | q | q <;> subst q
    · exact a _ c0
    · exact a _ c1
    · exact a _ c2
  rw [if_neg c3]
  by_cases c4 : f 4 = true
  · rw [if_pos c4]
    refine ⟨c4, by rcases (show w = 0 ∨ w = 1 ∨ w = 2 ∨ w = 3 ∨ 4 ≤ w by omega) with q | q | q | q | q; subst q; exact absurd h c0; subst q; exact absurd h c1; subst q; exact absurd h c2; subst q; exact absurd h c3; exact q, fun u hu => ?_⟩
    rcases (show u = 0 ∨ u = 1 ∨ u = 2 ∨ u = 3 by omega) with q | q | q | q <;> subst q
    · exact a _ c0
    · exact a _ c1
    · exact a _ c2
    · exact a _ c3
  rw [if_neg c4]
  obtain rfl : w = 5 := by
    rcases (show w = 0 ∨ w = 1 ∨ w = 2 ∨ w = 3 ∨ w = 4 ∨ w = 5 by omega) with q | q | q | q | q | q
    · subst q; exact absurd h c0
    · subst q; exact absurd h c1
    · subst q; exact absurd h c2
    · subst q; exact absurd h c3
    · subst q; exact absurd h c4
    · exact q
  rw [if_pos h]
  refine ⟨h, by omega, fun u hu => ?_⟩
  rcases (show u = 0 ∨ u = 1 ∨ u = 2 ∨ u = 3 ∨ u = 4 by omega) with q | q | q | q | q <;> subst q
  · exact a _ c0
  · exact a _ c1
  · exact a _ c2
  · exact a _ c3
  · exact a _ c4
theorem lw6_b1 {s : Nat} (h : s < 6) : lw6 (bt (b1 s)) = s := by
  obtain ⟨q, -, -⟩ := lw6_is (f := bt (b1 s)) h (by rw [b_b1 (by omega)]; exact decide_eq_true rfl)
  rw [b_b1 (by omega)] at q
  exact of_decide_eq_true q
theorem lw6_0 : lw6 (bt 0) = 0 := by decide
theorem hw_s : ∀ x : Int32, x = 1 ∨ x = 2 ∨ x = 4 ∨ x = 8 → x = b1 (lw6 (bt x)) ∧ lw6 (bt x) < 4 ∧ (lw6 (bt x) = 0 ↔ x = 1) ∧ (x ≠ 1 → x = if lw6 (bt x) = 3 then 8 else 2 * nI (lw6 (bt x))) := by
  rintro x (rfl | rfl | rfl | rfl) <;> decide
section Code
variable {P T M S X Y : Nat → Int32} {v w p p' : Nat} {c c' : Nat → Nat}
theorem CF_fs1 (h : CF P T M S X) (hv : v < 6) (t : T v = -1) : fs X v = v := by
  unfold fs
  obtain ⟨q, -, -⟩ := lw6_is (f := fun w => bt (X (18 + v)) w || decide (w = v)) hv (by simp)
  rcases Bool.or_eq_true_iff.mp q with q | q
  · have := (h.2.2.1 v _ hv (lw6_lt _)).mp q
    exact absurd t this.2.1
  · exact of_decide_eq_true q
theorem CF_fs2 (h : CF P T M S X) (hv : v < 6) (t : T v ≠ -1) : T (fs X v) = T v ∧ ∀ w, w < fs X v → T w ≠ T v := by
  obtain ⟨q, q2, q3⟩ := lw6_is (f := fun w => bt (X (18 + v)) w || decide (w = v)) hv (by simp)
  refine ⟨?_, fun w hw e => ?_⟩
  · rcases Bool.or_eq_true_iff.mp q with q | q
    · exact ((h.2.2.1 v _ hv (lw6_lt _)).mp q).2.2
    · have := of_decide_eq_true q
      unfold fs
      rw [this]
  · have z := q3 w hw
    have w6 : w < 6 := by have := lw6_lt (fun w => bt (X (18 + v)) w || decide (w = v)); unfold fs at hw; omega
    have ne : w ≠ v := by
      intro e2
      rw [e2] at z
      simp at z
    rw [(h.2.2.1 v w hv w6).mpr ⟨ne, t, e⟩] at z
    cases z
theorem fs_lt : fs X v < 6 := lw6_lt _
theorem CF_fse (h : CF P T M S X) (hv : v < 6) (hw : w < 6) : fs X w = fs X v ↔ w = v ∨ (T v ≠ -1 ∧ T w = T v) := by
  constructor
  · intro e
    by_cases t : T v = -1
    · rw [CF_fs1 h hv t] at e
      by_cases t2 : T w = -1
      · rw [CF_fs1 h hw t2] at e; exact Or.inl e
      · have := (CF_fs2 h hw t2).1
        rw [e, t] at this
        exact absurd this.symm t2
    · have a := (CF_fs2 h hv t).1
      by_cases t2 : T w = -1
      · rw [CF_fs1 h hw t2] at e
        rw [← e, t2] at a
        exact absurd a.symm t
      · have b := (CF_fs2 h hw t2).1
        rw [e, a] at b
        exact Or.inr ⟨t, b.symm⟩
  · rintro (e | ⟨t, e⟩)
    · rw [e]
    · have t2 : T w ≠ -1 := by rw [e]; exact t
      obtain ⟨a1, a2⟩ := CF_fs2 h hv t
      obtain ⟨b1, b2⟩ := CF_fs2 h hw t2
      rcases Nat.lt_trichotomy (fs X w) (fs X v) with q | q | q
      · exact absurd (by rw [b1, e]) (a2 _ q)
      · exact q
      · exact absurd (by rw [a1, e]) (b2 _ q)
theorem CF_18 (h : CF P T M S X) (hv : v < 6) (hw : w < 6) : bt (X (18 + v)) w = true ↔ w ≠ v ∧ fs X w = fs X v := by
  rw [h.2.2.1 v w hv hw, CF_fse h hv hw]
  constructor
  · rintro ⟨a, b, c⟩; exact ⟨a, Or.inr ⟨b, c⟩⟩
  · rintro ⟨a, b | b⟩
    · exact absurd b a
    · exact ⟨a, b.1, b.2⟩
theorem CF_ss {D : Nat → Nat} (hA : WFA P D) (h : CF P T M S X) (hv : v < 6) (t : T v ≠ -1) : S v = nI (ss X v) ∧ X (6 + v) = b1 (ss X v) := by
  rcases h.1 v hv with ⟨q, -⟩ | ⟨-, lv, -, -, s, ls, s2, s3⟩
  · exact absurd q t
  · have h6 := (hA.1.2 _ (hA.2.1 v lv).2).1.2.2
    have : ss X v = s := by unfold ss; rw [s3]; exact lw6_b1 (by omega)
    rw [this]
    exact ⟨s2, s3⟩
theorem CF_GC {D : Nat → Nat} (hA : WFA P D) (h : CF P T M S X) : GC P X ∧ ∀ v, v < 6 → M v = cM X v ∧ S v = cS X v := by
  have ms : ∀ v, v < 6 → M v = cM X v ∧ S v = cS X v := by
    intro v hv
    unfold cM cS
    rcases h.1 v hv with ⟨q, q1, q2, q3, -⟩ | ⟨q, lv, -, q2, -⟩
    · rw [if_pos q3, if_pos q3]; exact ⟨q1, q2⟩
    · have ne : X v ≠ 1 := fun z => q ((CF_none h hv).mp z)
      rw [if_neg ne, if_neg ne]
      exact ⟨q2.symm, (CF_ss hA h hv q).1⟩
  refine ⟨⟨fun v hv => ?_, h.2.1, fun v w hv hw => ?_, h.2.2.2.1, fun v w hv hw q1 q2 => ?_⟩, ms⟩
  · rcases h.1 v hv with ⟨q, q1, q2, q3, q4⟩ | ⟨q, lv, q1, q2, q3⟩
    · refine Or.inl ⟨by unfold cT; rw [if_pos q3], by rw [← (ms v hv).1, q1], by rw [← (ms v hv).2, q2], q3, q4⟩
    · have ne : X v ≠ 1 := fun z => q ((CF_none h hv).mp z)
      refine Or.inr ⟨by unfold cT; rw [if_neg ne]; have := fs_lt (X := X) (v := v); exact nI_ne_m1 (by omega), lv, by rw [← (ms v hv).1]; exact q1, by rw [← (ms v hv).1]; exact q2, ?_⟩
      rw [← (ms v hv).2]
      exact q3
  · have lt1 := fs_lt (X := X) (v := v)
    have lt2 := fs_lt (X := X) (v := w)
    have e1 : cT X v ≠ -1 ↔ T v ≠ -1 := by
      unfold cT
      rw [show (T v ≠ -1) = (X v ≠ 1) from propext (not_congr (CF_none h hv)).symm]
      split
      · rename_i q; exact ⟨fun z => absurd rfl z, fun z => absurd q z⟩
      · rename_i q; exact ⟨fun _ => q, fun _ => nI_ne_m1 (by omega)⟩
    rw [h.2.2.1 v w hv hw, e1]
    constructor
    · rintro ⟨a, b, c⟩
      refine ⟨a, b, ?_⟩
      have ne : X v ≠ 1 := fun z => b ((CF_none h hv).mp z)
      have ne2 : X w ≠ 1 := fun z => b (c ▸ ((CF_none h hw).mp z))
      unfold cT
      rw [if_neg ne, if_neg ne2, (CF_fse h hv hw).mpr (Or.inr ⟨b, c⟩)]
    · rintro ⟨a, b, c⟩
      refine ⟨a, b, ?_⟩
      have ne : X v ≠ 1 := fun z => b ((CF_none h hv).mp z)
      unfold cT at c
      rw [if_neg ne] at c
      by_cases q : X w = 1
      · rw [if_pos q] at c
        exact absurd c.symm (nI_ne_m1 (by omega))
      · rw [if_neg q] at c
        have := nI_inj (by omega) (by omega) c
        rcases (CF_fse h hv hw).mp this with z | z
        · exact absurd z a
        · exact z.2
  · have lt1 := fs_lt (X := X) (v := v)
    have lt2 := fs_lt (X := X) (v := w)
    rw [← (ms w hw).2, ← (ms v hv).2]
    unfold cT at q1 q2
    by_cases ne : X v = 1
    · rw [if_pos ne] at q1; exact absurd rfl q1
    · rw [if_neg ne] at q2
      have b : T v ≠ -1 := fun z => ne ((CF_none h hv).mpr z)
      by_cases q : X w = 1
      · rw [if_pos q] at q2
        exact absurd q2.symm (nI_ne_m1 (by omega))
      · rw [if_neg q] at q2
        have := nI_inj (by omega) (by omega) q2
        rcases (CF_fse h hv hw).mp this with z | z
        · rw [z]; exact ⟨rfl, rfl⟩
        · exact h.2.2.2.2 v w hv hw b z.2
theorem GC_cell {D : Nat → Nat} (hA : WFA P D) (h : GC P X) (hv : v < 6) : (X v = b1 (hw X v) ∧ hw X v < 4 ∧ (hw X v = 0 ↔ X v = 1)) ∧ X (6 + v) = (if X v = 1 then 0 else b1 (ss X v)) ∧ (X v = 1 → ss X v = 0 ∧ fs X v = v) := by
  obtain ⟨a, b, c, -⟩ := hw_s _ (CF_how h hv)
  refine ⟨⟨a, b, c⟩, ?_, fun q => ?_⟩
  · by_cases q : X v = 1
    · rw [if_pos q]
      rcases h.1 v hv with ⟨-, -, -, -, z⟩ | ⟨z, -⟩
      · exact z
      · unfold cT at z; rw [if_pos q] at z; exact absurd rfl z
    · rw [if_neg q]
      exact (CF_ss hA h hv (fun z => q ((CF_none h hv).mpr z))).2
  · have t := (CF_none h hv).mp q
    refine ⟨?_, CF_fs1 h hv t⟩
    rcases h.1 v hv with ⟨-, -, -, -, z⟩ | ⟨z, -⟩
    · unfold ss; rw [z]; exact lw6_0
    · exact absurd t z
theorem ss_lt : ss X v < 6 := lw6_lt _
theorem cC_lt {D : Nat → Nat} (hA : WFA P D) (h : GC P X) (hv : v < 6) : cC X v < 256 := by
  have a := (GC_cell hA h hv).1.2.1
  have b := ss_lt (X := X) (v := v)
  have c := fs_lt (X := X) (v := v)
  unfold cC
  omega
theorem cR_lt {D : Nat → Nat} (hA : WFA P D) (h : GC P X) (hv : v < 6) : cR X v < 256 := by
  have a := (GC_cell hA h hv).1.2.1
  have b := ss_lt (X := X) (v := v)
  have c := fs_lt (X := X) (v := v)
  unfold cR
  split <;> omega
theorem GC_ext {D : Nat → Nat} (hA : WFA P D) (h : GC P X) (g : GC P Y) (e : ∀ v, v < 6 → hw X v = hw Y v ∧ ss X v = ss Y v ∧ fs X v = fs Y v) : e24 X Y := by
  have e1 : ∀ v, v < 6 → X v = Y v := fun v hv => by rw [(GC_cell hA h hv).1.1, (GC_cell hA g hv).1.1, (e v hv).1]
  have e3 : ∀ v, v < 6 → X (18 + v) = Y (18 + v) := by
    intro v hv
    apply b_iff
    intro t _
    by_cases c : t < 6
    · rw [CF_18 h hv c, CF_18 g hv c, (e v hv).2.2, (e t c).2.2]
    · rw [h.2.2.2.1 v t hv (by omega), g.2.2.2.1 v t hv (by omega)]
  refine e24_of e1 (fun v hv => ?_) (fun v hv => by rw [h.2.1 v hv, g.2.1 v hv, e3 v hv]) e3
  rw [(GC_cell hA h hv).2.1, (GC_cell hA g hv).2.1, e1 v hv, (e v hv).2.1]
theorem cells_e24 (h : e24 X Y) (hv : v < 6) : hw X v = hw Y v ∧ ss X v = ss Y v ∧ fs X v = fs Y v := by
  unfold hw ss fs
  rw [h v (by omega), h (6 + v) (by omega), h (18 + v) (by omega)]
  exact ⟨rfl, rfl, rfl⟩
theorem cCR_e24 (h : e24 X Y) (hv : v < 6) : cC X v = cC Y v ∧ cR X v = cR Y v := by
  obtain ⟨a, b, c⟩ := cells_e24 h hv
  unfold cC cR
  rw [a, b, c, h v (by omega)]
  exact ⟨rfl, rfl⟩
theorem pen_eq (p : Nat) (c : Nat → Nat) : pen p c 6 = p * 281474976710656 + c 0 * 1099511627776 + c 1 * 4294967296 + c 2 * 16777216 + c 3 * 65536 + c 4 * 256 + c 5 := by
  show (((((p * 256 + c 0) * 256 + c 1) * 256 + c 2) * 256 + c 3) * 256 + c 4) * 256 + c 5 = _
  omega
theorem pen_inj (h : ∀ v, v < 6 → c v < 256) (h' : ∀ v, v < 6 → c' v < 256) (e : pen p c 6 = pen p' c' 6) : p = p' ∧ ∀ v, v < 6 → c v = c' v := by
  rw [pen_eq, pen_eq] at e
  have a0 := h 0 (by decide)
  have a1 := h 1 (by decide)
  have a2 := h 2 (by decide)
  have a3 := h 3 (by decide)
  have a4 := h 4 (by decide)
  have a5 := h 5 (by decide)
  have b0 := h' 0 (by decide)
  have b1 := h' 1 (by decide)
  have b2 := h' 2 (by decide)
  have b3 := h' 3 (by decide)
  have b4 := h' 4 (by decide)
  have b5 := h' 5 (by decide)
  refine ⟨by omega, fun v hv => ?_⟩
  rcases (show v = 0 ∨ v = 1 ∨ v = 2 ∨ v = 3 ∨ v = 4 ∨ v = 5 by omega) with q | q | q | q | q | q <;> subst q <;> omega
theorem pen_lt (hp : p ≤ 40) (h : ∀ v, v < 6 → c v < 256) : pen p c 6 < 2 ^ 62 := by
  rw [pen_eq]
  have a0 := h 0 (by decide)
  have a1 := h 1 (by decide)
  have a2 := h 2 (by decide)
  have a3 := h 3 (by decide)
  have a4 := h 4 (by decide)
  have a5 := h 5 (by decide)
  omega
theorem pen_get (h : ∀ v, v < 6 → c v < 256) (hv : v < 6) : pen p c 6 / 2 ^ (8 * (5 - v)) % 256 = c v := by
  rw [pen_eq]
  have a0 := h 0 (by decide)
  have a1 := h 1 (by decide)
  have a2 := h 2 (by decide)
  have a3 := h 3 (by decide)
  have a4 := h 4 (by decide)
  have a5 := h 5 (by decide)
  rcases (show v = 0 ∨ v = 1 ∨ v = 2 ∨ v = 3 ∨ v = 4 ∨ v = 5 by omega) with q | q | q | q | q | q <;> subst q <;> (simp only [Nat.reduceSub, Nat.reduceMul, Nat.reducePow]; omega)
theorem pen_pl (h : ∀ v, v < 6 → c v < 256) : pen p c 6 / 2 ^ 48 = p := by
  rw [pen_eq]
  have a0 := h 0 (by decide)
  have a1 := h 1 (by decide)
  have a2 := h 2 (by decide)
  have a3 := h 3 (by decide)
  have a4 := h 4 (by decide)
  have a5 := h 5 (by decide)
  simp only [Nat.reducePow]
  omega
theorem lN_inj {a b : Nat} (ha : a < 2 ^ 62) (hb : b < 2 ^ 62) (h : lN a = lN b) : a = b := by
  have := congrArg Int64.toInt h
  rw [pf_lI (by omega), pf_lI (by omega)] at this
  omega
theorem kC_inj {D : Nat → Nat} (hA : WFA P D) (hp : p ≤ 40) (hp' : p' ≤ 40) (h : GC P X) (g : GC P Y) : kC p X = kC p' Y ↔ p = p' ∧ e24 X Y := by
  constructor
  · intro e
    have e2 := lN_inj (pen_lt hp (fun v hv => cC_lt hA h hv)) (pen_lt hp' (fun v hv => cC_lt hA g hv)) e
    obtain ⟨e3, e4⟩ := pen_inj (fun v hv => cC_lt hA h hv) (fun v hv => cC_lt hA g hv) e2
    refine ⟨e3, GC_ext hA h g (fun v hv => ?_)⟩
    have := e4 v hv
    unfold cC at this
    have a1 := (GC_cell hA h hv).1.2.1
    have a2 := ss_lt (X := X) (v := v)
    have a3 := fs_lt (X := X) (v := v)
    have a4 := ss_lt (X := Y) (v := v)
    have a5 := fs_lt (X := Y) (v := v)
    omega
  · rintro ⟨rfl, e⟩
    unfold kC
    rw [pen_eq, pen_eq, (cCR_e24 e (show 0 < 6 by decide)).1, (cCR_e24 e (show 1 < 6 by decide)).1, (cCR_e24 e (show 2 < 6 by decide)).1, (cCR_e24 e (show 3 < 6 by decide)).1, (cCR_e24 e (show 4 < 6 by decide)).1, (cCR_e24 e (show 5 < 6 by decide)).1]
theorem kR_inj {D : Nat → Nat} (hA : WFA P D) (hp : p ≤ 40) (hp' : p' ≤ 40) (h : GC P X) (g : GC P Y) : kR p X = kR p' Y ↔ p = p' ∧ e24 X Y := by
  constructor
  · intro e
    have e2 := lN_inj (pen_lt hp (fun v hv => cR_lt hA h hv)) (pen_lt hp' (fun v hv => cR_lt hA g hv)) e
    obtain ⟨e3, e4⟩ := pen_inj (fun v hv => cR_lt hA h hv) (fun v hv => cR_lt hA g hv) e2
    refine ⟨e3, GC_ext hA h g (fun v hv => ?_)⟩
    have := e4 v hv
    obtain ⟨⟨-, x1, x2⟩, -, x3⟩ := GC_cell hA h hv
    obtain ⟨⟨-, y1, y2⟩, -, y3⟩ := GC_cell hA g hv
    have a2 := ss_lt (X := X) (v := v)
    have a3 := fs_lt (X := X) (v := v)
    have a4 := ss_lt (X := Y) (v := v)
    have a5 := fs_lt (X := Y) (v := v)
    unfold cR at this
    by_cases c1 : X v = 1
    · by_cases c2 : Y v = 1
      · obtain ⟨q1, q2⟩ := x3 c1
        obtain ⟨q3, q4⟩ := y3 c2
        rw [x2.mpr c1, y2.mpr c2, q1, q2, q3, q4]
        exact ⟨rfl, rfl, rfl⟩
      · rw [if_pos c1, if_neg c2] at this; omega
    · by_cases c2 : Y v = 1
      · rw [if_neg c1, if_pos c2] at this; omega
      · rw [if_neg c1, if_neg c2] at this; omega
  · rintro ⟨rfl, e⟩
    unfold kR
    rw [pen_eq, pen_eq, (cCR_e24 e (show 0 < 6 by decide)).2, (cCR_e24 e (show 1 < 6 by decide)).2, (cCR_e24 e (show 2 < 6 by decide)).2, (cCR_e24 e (show 3 < 6 by decide)).2, (cCR_e24 e (show 4 < 6 by decide)).2, (cCR_e24 e (show 5 < 6 by decide)).2]
theorem GC_e24 (h : GC P X) (e : e24 Y X) : GC P Y := by
  have := CF_e24 h e
  have q : ∀ v, v < 6 → cT Y v = cT X v ∧ cM Y v = cM X v ∧ cS Y v = cS X v := by
    intro v hv
    obtain ⟨a, b, c⟩ := cells_e24 e hv
    unfold cT cM cS
    rw [e v (by omega), b, c]
    exact ⟨rfl, rfl, rfl⟩
  refine ⟨fun v hv => ?_, this.2.1, fun v w hv hw => ?_, this.2.2.2.1, fun v w hv hw q1 q2 => ?_⟩
  · rw [(q v hv).1, (q v hv).2.1, (q v hv).2.2]; exact this.1 v hv
  · rw [(q v hv).1, (q w hw).1]; exact this.2.2.1 v w hv hw
  · rw [(q v hv).1] at q1 q2; rw [(q w hw).1] at q2; rw [(q v hv).2.2, (q w hw).2.2]; exact this.2.2.2.2 v w hv hw q1 q2
theorem lN_i32 (m : Nat) : (lN m).toInt32 = nI m := by
  apply Int32.toBitVec_inj.mp
  apply BitVec.eq_of_toNat_eq
  rw [Int64.toBitVec_toInt32, BitVec.signExtend_eq_setWidth_of_le _ (by decide)]
  show (BitVec.setWidth 32 (BitVec.ofNat 64 m)).toNat = (BitVec.ofNat 32 m).toNat
  rw [BitVec.toNat_setWidth, BitVec.toNat_ofNat, BitVec.toNat_ofNat]
  omega
theorem nI_and255 (m : Nat) : nI m &&& 255 = nI (m % 256) := by
  apply Int32.toBitVec_inj.mp
  apply BitVec.eq_of_toNat_eq
  show (BitVec.ofNat 32 m &&& 255#32).toNat = (BitVec.ofNat 32 (m % 256)).toNat
  rw [BitVec.toNat_and, BitVec.toNat_ofNat, BitVec.toNat_ofNat, BitVec.toNat_ofNat, show 255 % 2 ^ 32 = 2 ^ 8 - 1 from rfl, Nat.and_two_pow_sub_one_eq_mod]
  omega
end Code
