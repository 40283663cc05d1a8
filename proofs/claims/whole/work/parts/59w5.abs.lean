/-! THE SEARCH ITSELF: the configurations in their order -/
/-- how many things there are -/
def thg (X : Nat → Int32) : Nat := cnt 6 (fun v => decide (X v ≠ 1) && decide (fs X v = v))
def Sch : Type := Nat × (Nat → Nat) × (Nat → Nat → Int32) × (Nat → Int32) × Bool × (Nat → Int32) × Nat
def Sch.n (s : Sch) : Nat := s.1
def Sch.pl (s : Sch) : Nat → Nat := s.2.1
def Sch.xs (s : Sch) : Nat → Nat → Int32 := s.2.2.1
def Sch.fr (s : Sch) : Nat → Int32 := s.2.2.2.1
def Sch.mo (s : Sch) : Bool := s.2.2.2.2.1
def Sch.lf (s : Sch) : Nat → Int32 := s.2.2.2.2.2.1
def Sch.th (s : Sch) : Nat := s.2.2.2.2.2.2
def mkS (n : Nat) (pl : Nat → Nat) (xs : Nat → Nat → Int32) (fr : Nat → Int32) (mo : Bool) (lf : Nat → Int32) (th : Nat) : Sch := (n, pl, xs, fr, mo, lf, th)
/-- the search with one more -/
def appS (s : Sch) (t : Nat) (Y : Nat → Int32) (c : Int32) : Sch := mkS (s.n + 1) (up s.pl s.n t) (up s.xs s.n Y) (up s.fr s.n c) s.mo s.lf s.th
def morS (s : Sch) : Sch := mkS s.n s.pl s.xs s.fr true s.lf s.th
def hasS (s : Sch) (t : Nat) (Y : Nat → Int32) : Prop := ∃ j, j < s.n ∧ s.pl j = t ∧ e24 (s.xs j) Y
noncomputable def addS (s : Sch) (t : Nat) (Y : Nat → Int32) (c : Int32) : Sch := @ite Sch (hasS s t Y) (Classical.propDecidable _) s (if s.n = 1000 then morS s else appS s t Y c)
def lkZ (P : Nat → Int32) (i : Nat) (z : Int32) : Int32 := if z = 0 then lkN P no i else lkY P no i
noncomputable def folS (P : Nat → Int32) (s : Sch) (i : Nat) (X : Nat → Int32) (c : Nat) (z : Int32) : Sch := if lkZ P i z = -1 then s else match tr P i z X with | none => s | some Y => addS s (nN (lkZ P i z)) Y (nI c)
def lf1 (P : Nat → Int32) (i : Nat) (X l : Nat → Int32) : Nat → Int32 := if i = nT P then lfA P X l (nV P) else lft P i X l
def exp0 (P : Nat → Int32) (s : Sch) (c : Nat) : Sch := mkS s.n s.pl s.xs s.fr s.mo (lf1 P (s.pl c) (s.xs c) s.lf) (max s.th (thg (s.xs c)))
def rj (P : Nat → Int32) (s : Sch) (j : Nat) : Int32 := rsn P (s.pl j) (s.xs j)
noncomputable def expS (P : Nat → Int32) (s : Sch) (c : Nat) : Sch := if s.pl c = nT P ∨ rj P s c ≠ 0 then exp0 P s c else folS P (folS P (exp0 P s c) (s.pl c) (s.xs c) c 1) (s.pl c) (s.xs c) c 0
noncomputable def runS (P : Nat → Int32) : Nat → Nat → Sch → Sch
  | 0, _, s => s
  | f + 1, c, s => if c < s.n ∧ s.mo = false then runS P f (c + 1) (expS P s c) else s
def sch0 : Sch := mkS 1 (fun _ => 0) (fun _ => X0) (fun _ => -1) false (fun _ => 0) 0
noncomputable def finS (P : Nat → Int32) : Sch := runS P 1000 0 sch0
def GS (P : Nat → Int32) (s : Sch) : Prop := s.n ≤ 1000 ∧ s.th ≤ 6 ∧ ∀ j, j < s.n → s.pl j ≤ nT P ∧ GC P (s.xs j) ∧ (s.fr j = -1 ∨ ∃ q, q < j ∧ s.fr j = nI q)
section Abs
variable {J J' : Nat → Nat → Int32} {K : Nat → Nat → Int64} {fu v w p x i c t : Nat} {D : Nat → Nat} {X Y P l l' : Nat → Int32} {s : Sch} {z : Int32}
theorem GC_cT (h : GC P X) (hv : v < 6) : cT X v = -1 ∨ ∃ k, k < 6 ∧ cT X v = nI k := by
  unfold cT
  split
  · exact Or.inl rfl
  · exact Or.inr ⟨_, fs_lt, rfl⟩
theorem cT_7 (h : GC P X) (hv : v < 6) : cT X v ≠ 7 := by
  rcases GC_cT h hv with e | ⟨k, hk, e⟩
  · rw [e]; decide
  · rw [e]; intro q; have := nI_inj (b := 7) (by omega) (by omega) q; omega
def jOf (P T M S : Nat → Int32) (b : Nat) : Nat → Int32 := if b = 2 then P else if b = 19 then T else if b = 20 then M else if b = 21 then S else fun _ => 0
theorem tr_GC (hA : WFA P D) (g : GC P X) (hi : i < nT P) (r : rsn P i X = 0) (z : Int32) : ∃ Y, tr P i z X = some Y ∧ GC P Y := by
  by_cases h9 : nN (P (333 + i)) < 9
  · obtain ⟨r', J', -, r1, -, -, -, cc⟩ := m_does (J := jOf P (cT X) (cM X) (cS X)) (K := fun _ _ => 0) (fu := 7) (D := D) (i := i) (X := X) (z := z) (fr := 7) hA hi h9 g (fun _ => ⟨by decide, fun v hv => cT_7 g hv⟩) (by decide)
    obtain ⟨Y, y1, y2⟩ := cc (r1.trans r)
    exact ⟨Y, y1, (CF_GC hA y2).1⟩
  · refine ⟨X, ?_, g⟩
    unfold tr
    rw [if_neg (by omega), if_neg h9]
theorem thg_le : thg X ≤ 6 := cnt_le _ _
theorem add_has {y : Int32} (h : hasS s t Y) : addS s t Y y = s := by unfold addS; exact @if_pos _ (Classical.propDecidable _) h _ _ _
theorem add_new {y : Int32} (h : ¬ hasS s t Y) : addS s t Y y = if s.n = 1000 then morS s else appS s t Y y := by unfold addS; exact @if_neg _ (Classical.propDecidable _) h _ _ _
theorem add_cases {y : Int32} : (hasS s t Y ∧ addS s t Y y = s) ∨ (¬ hasS s t Y ∧ s.n = 1000 ∧ addS s t Y y = morS s) ∨ (¬ hasS s t Y ∧ s.n ≠ 1000 ∧ addS s t Y y = appS s t Y y) := by
  by_cases h : hasS s t Y
  · exact Or.inl ⟨h, add_has h⟩
  · by_cases e : s.n = 1000
    · exact Or.inr (Or.inl ⟨h, e, by rw [add_new h, if_pos e]⟩)
    · exact Or.inr (Or.inr ⟨h, e, by rw [add_new h, if_neg e]⟩)
theorem GS_add (h : GS P s) (ht : t ≤ nT P) (g : GC P Y) (hc : c < s.n) : GS P (addS s t Y (nI c)) := by
  rcases add_cases (s := s) (t := t) (Y := Y) (y := nI c) with ⟨-, e⟩ | ⟨-, -, e⟩ | ⟨-, n1, e⟩ <;> rw [e]
  · exact h
  · exact h
  · obtain ⟨h1, h2, h3⟩ := h
    refine ⟨by show s.n + 1 ≤ 1000; omega, h2, fun j hj => ?_⟩
    show up s.pl s.n t j ≤ nT P ∧ GC P (up s.xs s.n Y j) ∧ (up s.fr s.n (nI c) j = -1 ∨ ∃ q, q < j ∧ up s.fr s.n (nI c) j = nI q)
    by_cases e : j = s.n
    · subst e; rw [up_at, up_at, up_at]; exact ⟨ht, g, Or.inr ⟨c, hc, rfl⟩⟩
    · rw [up_ne e, up_ne e, up_ne e]; exact h3 j (by have : j < s.n + 1 := hj; omega)
/-- the rows that are there stay -/
def leH (s s' : Sch) : Prop := s.n ≤ s'.n ∧ ∀ j, j < s.n → s'.pl j = s.pl j ∧ s'.xs j = s.xs j ∧ s'.fr j = s.fr j
theorem leH_refl : leH s s := ⟨Nat.le_refl _, fun _ _ => ⟨rfl, rfl, rfl⟩⟩
theorem leH_trans {s1 s2 s3 : Sch} (a : leH s1 s2) (b : leH s2 s3) : leH s1 s3 := ⟨Nat.le_trans a.1 b.1, fun j hj => by
  obtain ⟨q1, q2, q3⟩ := a.2 j hj
  obtain ⟨r1, r2, r3⟩ := b.2 j (by have := a.1; omega)
  exact ⟨r1.trans q1, r2.trans q2, r3.trans q3⟩⟩
theorem leH_add {y : Int32} : leH s (addS s t Y y) := by
  rcases add_cases (s := s) (t := t) (Y := Y) (y := y) with ⟨-, e⟩ | ⟨-, -, e⟩ | ⟨-, n1, e⟩ <;> rw [e]
  · exact leH_refl
  · exact ⟨Nat.le_refl _, fun _ _ => ⟨rfl, rfl, rfl⟩⟩
  · refine ⟨Nat.le_succ _, fun j hj => ?_⟩
    show up s.pl s.n t j = s.pl j ∧ up s.xs s.n Y j = s.xs j ∧ up s.fr s.n y j = s.fr j
    rw [up_ne (by omega), up_ne (by omega), up_ne (by omega)]
    exact ⟨rfl, rfl, rfl⟩
theorem leH_fol : leH s (folS P s i X c z) := by
  unfold folS
  split
  · exact leH_refl
  · split
    · exact leH_refl
    · exact leH_add
theorem leH_0 : leH s (exp0 P s c) := ⟨Nat.le_refl _, fun _ _ => ⟨rfl, rfl, rfl⟩⟩
theorem leH_exp : leH s (expS P s c) := by
  unfold expS
  split
  · exact leH_0
  · exact leH_trans leH_0 (leH_trans leH_fol leH_fol)
theorem lk_pl (hA : WFA P D) (hi : i < nT P) (h : lkZ P i z ≠ -1) : ∃ t, t ≤ nT P ∧ lkZ P i z = nI t := by
  unfold lkZ at h ⊢
  by_cases c : z = 0
  · rw [if_pos c] at h ⊢; exact lkN_pl hA.1.1 hA.2.2 hi h
  · rw [if_neg c]; exact lkY_pl hA.1.1 hA.2.2 hi
theorem GS_fol (hA : WFA P D) (h : GS P s) (hi : i < nT P) (g : GC P X) (r : rsn P i X = 0) (hc : c < s.n) : GS P (folS P s i X c z) := by
  have h40 := hA.1.1.2.2.2
  unfold folS
  split
  · exact h
  · rename_i q
    obtain ⟨Y, y1, y2⟩ := tr_GC hA g hi r z
    obtain ⟨t, t1, t2⟩ := lk_pl hA hi q
    rw [y1, t2, nN_nI (by omega)]
    exact GS_add h t1 y2 hc
theorem GS_0 (h : GS P s) : GS P (exp0 P s c) := ⟨h.1, by have := thg_le (X := s.xs c); have := h.2.1; show max s.th (thg (s.xs c)) ≤ 6; omega, h.2.2⟩
theorem GS_exp (hA : WFA P D) (h : GS P s) (hc : c < s.n) : GS P (expS P s c) := by
  unfold expS
  split
  · exact GS_0 h
  · rename_i q
    obtain ⟨q1, q2, -⟩ := h.2.2 c hc
    have hi : s.pl c < nT P := by
      have : s.pl c ≠ nT P := fun z => q (Or.inl z)
      omega
    have hr : rsn P (s.pl c) (s.xs c) = 0 := by
      by_cases z : rj P s c = 0
      · exact z
      · exact absurd (Or.inr z) q
    have l1 := (leH_fol (P := P) (s := exp0 P s c) (i := s.pl c) (X := s.xs c) (c := c) (z := 1)).1
    exact GS_fol hA (GS_fol hA (GS_0 h) hi q2 hr hc) hi q2 hr (by have : (exp0 P s c).n = s.n := rfl; omega)
theorem GS_sch0 : GS P sch0 := ⟨by decide, by decide, fun j hj => ⟨Nat.zero_le _, by
  have := CF_X0 (P := P) (T := fun _ => -1) (M := fun _ => 0) (S := fun _ => 0) (fun _ _ => rfl) (fun _ _ => rfl) (fun _ _ => rfl)
  refine ⟨fun v hv => ?_, this.2.1, fun v w hv hw => ?_, this.2.2.2.1, fun v w hv hw q1 q2 => ?_⟩
  · have e : X0 v = 1 := by unfold X0; rw [if_pos hv]
    refine Or.inl ⟨by unfold cT; exact if_pos e, by unfold cM; exact if_pos e, by unfold cS; exact if_pos e, e, by show X0 (6 + v) = 0; unfold X0; rw [if_neg (by omega)]⟩
  · have e : X0 v = 1 := by unfold X0; rw [if_pos hv]
    have e2 : cT X0 v = -1 := by unfold cT; exact if_pos e
    have := this.2.2.1 v w hv hw
    show bt (X0 (18 + v)) w = true ↔ w ≠ v ∧ cT X0 v ≠ -1 ∧ cT X0 w = cT X0 v
    rw [this, e2]
    exact ⟨fun z => absurd rfl z.2.1, fun z => absurd rfl z.2.1⟩
  · have e : X0 v = 1 := by unfold X0; rw [if_pos hv]
    have e2 : cT X0 v = -1 := by unfold cT; exact if_pos e
    exact absurd e2 q1, Or.inl rfl⟩⟩
theorem lft_congr (h : ∀ k, k < 4 → l k = l' k) (h4 : nN (P (333 + i)) = 5 → vK P (nN (P (373 + i))) < 4) : ∀ k, k < 4 → lft P i X l k = lft P i X l' k := by
  intro k hk
  unfold lft
  split
  · rename_i q
    by_cases c : k = vK P (nN (P (373 + i)))
    · rw [c, up_at, up_at, h _ (h4 q.1)]
    · rw [up_ne c, up_ne c, h k hk]
  · exact h k hk
theorem lfA_congr (h : ∀ k, k < 4 → l k = l' k) : ∀ v, (∀ u, u < v → vK P u < 4) → ∀ k, k < 4 → lfA P X l v k = lfA P X l' v k := by
  intro v
  induction v with
  | zero => intro _; exact h
  | succ v ih =>
    intro h4 k hk
    have h5 := ih (fun u hu => h4 u (by omega))
    show up _ _ _ k = up _ _ _ k
    by_cases c : k = vK P v
    · rw [c, up_at, up_at, h5 _ (h4 v (by omega))]
    · rw [up_ne c, up_ne c, h5 k hk]
end Abs
