/-! LEAST FIXED POINTS over places: S says what comes at a place (none: it can't be come to); T i t X Y: from X at i comes Y at t -/
abbrev PS : Type := Nat → Option (Nat → Int32)
abbrev TS : Type := Nat → Nat → (Nat → Int32) → (Nat → Int32) → Prop
def X0 (j : Nat) : Int32 := if j < 6 then 1 else 0
theorem GX_0 : GX X0 := by
  have e : ∀ j, 6 ≤ j → X0 j = 0 := fun j hj => if_neg (by omega)
  refine ⟨fun v t hv ht => ?_, fun j t h6 hj ht => ?_, fun u v hu hv h => ?_, fun u v hu hv h => ?_, fun u v w hu hv hw ne h => ?_, fun v hv _ _ _ => e _ (by omega)⟩
  · rw [show X0 v = 1 from if_pos hv]; exact low4 1 (by simp) t ht
  · rw [e j h6]; exact b_0 t
  · rw [e _ (by omega), b_0] at h; cases h
  · rw [e _ (by omega), b_0] at h; cases h
  · rw [e _ (by omega), b_0] at h; cases h
def goodS (S : PS) : Prop := ∀ i X, S i = some X → GX X
def leS (S S' : PS) : Prop := ∀ i X, S i = some X → ∃ Z, S' i = some Z ∧ leX X Z
def okT (T : TS) : Prop := (∀ i t X Y, GX X → T i t X Y → GX Y) ∧ ∀ i t X X' Y, GX X → GX X' → leX X X' → T i t X Y → ∃ Y', T i t X' Y' ∧ leX Y Y'
def PF (T : TS) (s0 : Nat) (S : PS) : Prop := goodS S ∧ (∃ Z, S s0 = some Z ∧ leX X0 Z) ∧ ∀ i t X Y, S i = some X → T i t X Y → ∃ Z, S t = some Z ∧ leX Y Z
def RE (T : TS) (s0 : Nat) (S : PS) : Prop := goodS S ∧ ∀ S', PF T s0 S' → leS S S'
def LF (T : TS) (s0 : Nat) (S : PS) : Prop := PF T s0 S ∧ RE T s0 S
def jnS (S : PS) (t : Nat) (Y : Nat → Int32) : PS := fun j => if j = t then some (match S t with | none => Y | some Z => mrg Z Y) else S j
theorem jnS_at {S : PS} {t : Nat} {Y : Nat → Int32} : jnS S t Y t = some (match S t with | none => Y | some Z => mrg Z Y) := if_pos rfl
theorem jnS_ne {S : PS} {t j : Nat} {Y : Nat → Int32} (h : j ≠ t) : jnS S t Y j = S j := if_neg h
theorem jnS_le {S : PS} {t : Nat} {Y : Nat → Int32} : leS S (jnS S t Y) := by
  intro i X h
  by_cases c : i = t
  · subst c
    rw [jnS_at, h]
    exact ⟨_, rfl, mrg_l⟩
  · rw [jnS_ne c]
    exact ⟨X, h, leX_refl X⟩
theorem jnS_in {S : PS} {t : Nat} {Y : Nat → Int32} : ∃ Z, jnS S t Y t = some Z ∧ leX Y Z := by
  rw [jnS_at]
  cases S t with
  | none => exact ⟨_, rfl, leX_refl Y⟩
  | some Z => exact ⟨_, rfl, mrg_r⟩
theorem RE_0 {T : TS} {s0 : Nat} : RE T s0 (fun j => if j = s0 then some X0 else none) := by
  constructor
  · intro i X h
    by_cases c : i = s0
    · simp only [c, if_true] at h; cases h; exact GX_0
    · simp only [c, if_false] at h; cases h
  · intro S' hp i X h
    by_cases c : i = s0
    · simp only [c, if_true] at h; cases h; rw [c]; exact hp.2.1
    · simp only [c, if_false] at h; cases h
theorem RE_step {T : TS} {s0 i t : Nat} {S : PS} {X Y : Nat → Int32} (ok : okT T) (h : RE T s0 S) (hi : S i = some X) (hT : T i t X Y) : RE T s0 (jnS S t Y) := by
  have gY : GX Y := ok.1 i t X Y (h.1 i X hi) hT
  constructor
  · intro j W hj
    by_cases c : j = t
    · subst c
      rw [jnS_at] at hj
      cases hS : S j with
      | none => rw [hS] at hj; cases hj; exact gY
      | some Z => rw [hS] at hj; cases hj; exact mrg_GX (h.1 j Z hS) gY
    · rw [jnS_ne c] at hj; exact h.1 j W hj
  · intro S' hp j W hj
    by_cases c : j = t
    · subst c
      obtain ⟨X', e1, l1⟩ := h.2 S' hp i X hi
      obtain ⟨Y', t1, l2⟩ := ok.2 i j X X' Y (h.1 i X hi) (hp.1 i X' e1) l1 hT
      obtain ⟨Z', e2, l3⟩ := hp.2.2 i j X' Y' e1 t1
      refine ⟨Z', e2, ?_⟩
      rw [jnS_at] at hj
      cases hS : S j with
      | none => rw [hS] at hj; cases hj; exact leX_trans l2 l3
      | some Z =>
        rw [hS] at hj; cases hj
        obtain ⟨Z2, e3, l4⟩ := h.2 S' hp j Z hS
        rw [e2] at e3
        cases e3
        exact mrg_le l4 (leX_trans l2 l3)
    · rw [jnS_ne c] at hj; exact h.2 S' hp j W hj
theorem LF_unique {T : TS} {s0 : Nat} {S S' : PS} (h : LF T s0 S) (h' : LF T s0 S') (i : Nat) : (S i = none ∧ S' i = none) ∨ ∃ X X', S i = some X ∧ S' i = some X' ∧ ∀ j, j < 24 → X j = X' j := by
  cases e : S i with
  | none =>
    cases e' : S' i with
    | none => exact Or.inl ⟨rfl, rfl⟩
    | some X' =>
      obtain ⟨Z, z, -⟩ := h'.2.2 S h.1 i X' e'
      rw [e] at z; cases z
  | some X =>
    obtain ⟨X', e', l1⟩ := h.2.2 S' h'.1 i X e
    obtain ⟨Z, z, l2⟩ := h'.2.2 S h.1 i X' e'
    rw [e] at z
    cases z
    exact Or.inr ⟨X, X', rfl, e', leX_anti l1 l2⟩
/-- the same row -/
def e24 (X Y : Nat → Int32) : Prop := ∀ j, j < 24 → X j = Y j
theorem e24_le {X Y : Nat → Int32} (h : e24 X Y) : leX X Y := ⟨fun j t hj q => by rw [← h j (by omega)]; exact q, fun j t _ hj q => by rw [h j hj]; exact q⟩
theorem e24_symm {X Y : Nat → Int32} (h : e24 X Y) : e24 Y X := fun j hj => (h j hj).symm
theorem e24_trans {X Y Z : Nat → Int32} (h : e24 X Y) (h2 : e24 Y Z) : e24 X Z := fun j hj => (h j hj).trans (h2 j hj)
theorem e24_GX {X Y : Nat → Int32} (h : e24 X Y) (g : GX Y) : GX X := by
  obtain ⟨h1, h2, h3, h4, h5, h7⟩ := g
  have e6 : ∀ u, u < 6 → X (6 + u) = Y (6 + u) := fun u hu => h _ (by omega)
  have e12 : ∀ u, u < 6 → X (12 + u) = Y (12 + u) := fun u hu => h _ (by omega)
  have e18 : ∀ u, u < 6 → X (18 + u) = Y (18 + u) := fun u hu => h _ (by omega)
  refine ⟨fun v t hv ht => by rw [h v (by omega)]; exact h1 v t hv ht, fun j t h6 hj ht => by rw [h j hj]; exact h2 j t h6 hj ht, fun u v hu hv q => ?_, fun u v hu hv q => ?_, fun u v w hu hv hw ne q => ?_, fun v hv q1 q2 q3 => by rw [h v (by omega)] at q1 q2 q3; rw [e6 v hv]; exact h7 v hv q1 q2 q3⟩
  · rw [e18 u hu] at q
    rw [e12 u hu, e18 v hv, e6 u hu, e6 v hv]
    exact h3 u v hu hv q
  · rw [e12 u hu] at q
    rw [e12 v hv]
    exact h4 u v hu hv q
  · rw [e18 v hv] at q
    rw [e18 u hu, e12 u hu]
    exact h5 u v w hu hv hw ne q
def tq (P : Nat → Int32) (i : Nat) (z : Int32) (X Y : Nat → Int32) : Prop := ∃ Y0, tr P i z X = some Y0 ∧ e24 Y Y0
theorem tq_GX {P : Nat → Int32} {D : Nat → Nat} {X Y : Nat → Int32} {i : Nat} {z : Int32} (hW : WFK P) (hv : WFv P) (hS : WFs P D) (hi : i < nT P) (g : GX X) (h : tq P i z X Y) : GX Y := by
  obtain ⟨Y0, e, h⟩ := h
  exact e24_GX h (tr_GX hW hv hS hi g e)
theorem tq_mono {P : Nat → Int32} {D : Nat → Nat} {X X' Y : Nat → Int32} {i : Nat} {z : Int32} (hW : WFK P) (hv : WFv P) (hS : WFs P D) (hi : i < nT P) (g : GX X) (g' : GX X') (l : leX X X') (h : tq P i z X Y) : ∃ Y', tq P i z X' Y' ∧ leX Y Y' := by
  obtain ⟨Y0, e, h⟩ := h
  obtain ⟨Y', e', l'⟩ := tr_mono hW hv hS hi g g' l e
  exact ⟨Y', ⟨Y', e', fun _ _ => rfl⟩, leX_trans (e24_le h) l'⟩
/-- the places behind a statement, those that out names left out -/
def TR (P : Nat → Int32) (out : Nat → Bool) : TS := fun i t X Y => i < nT P ∧ ((t = nN (lkY P out i) ∧ tq P i 1 X Y) ∨ (lkN P out i ≠ -1 ∧ t = nN (lkN P out i) ∧ tq P i 0 X Y))
/-- the class's way: the statement lo is passed by -/
def TC (P : Nat → Int32) (lo : Nat) : TS := fun i t X Y => i < nT P ∧ ((i = lo ∧ t = nN (beh P no 8 i) ∧ e24 Y X) ∨ (i ≠ lo ∧ ((t = nN (lkY P no i) ∧ tq P i 1 X Y) ∨ (lkN P no i ≠ -1 ∧ t = nN (lkN P no i) ∧ tq P i 0 X Y))))
section Fixp
variable {P : Nat → Int32} {D : Nat → Nat} {out : Nat → Bool} {lo : Nat}
theorem okTR (hW : WFK P) (hv : WFv P) (hS : WFs P D) : okT (TR P out) := by
  constructor
  · rintro i t X Y g ⟨hi, h | h⟩
    · exact tq_GX hW hv hS hi g h.2
    · exact tq_GX hW hv hS hi g h.2.2
  · rintro i t X X' Y g g' l ⟨hi, h | h⟩
    · obtain ⟨Y', e, l'⟩ := tq_mono hW hv hS hi g g' l h.2
      exact ⟨Y', ⟨hi, Or.inl ⟨h.1, e⟩⟩, l'⟩
    · obtain ⟨Y', e, l'⟩ := tq_mono hW hv hS hi g g' l h.2.2
      exact ⟨Y', ⟨hi, Or.inr ⟨h.1, h.2.1, e⟩⟩, l'⟩
theorem okTC (hW : WFK P) (hv : WFv P) (hS : WFs P D) : okT (TC P lo) := by
  constructor
  · rintro i t X Y g ⟨hi, ⟨-, -, e⟩ | ⟨-, h | h⟩⟩
    · exact e24_GX e g
    · exact tq_GX hW hv hS hi g h.2
    · exact tq_GX hW hv hS hi g h.2.2
  · rintro i t X X' Y g g' l ⟨hi, ⟨h1, h2, e⟩ | ⟨hn, h | h⟩⟩
    · exact ⟨X', ⟨hi, Or.inl ⟨h1, h2, fun _ _ => rfl⟩⟩, leX_trans (e24_le e) l⟩
    · obtain ⟨Y', e, l'⟩ := tq_mono hW hv hS hi g g' l h.2
      exact ⟨Y', ⟨hi, Or.inr ⟨hn, Or.inl ⟨h.1, e⟩⟩⟩, l'⟩
    · obtain ⟨Y', e, l'⟩ := tq_mono hW hv hS hi g g' l h.2.2
      exact ⟨Y', ⟨hi, Or.inr ⟨hn, Or.inr ⟨h.1, h.2.1, e⟩⟩⟩, l'⟩
theorem TC_no (hlo : nT P ≤ lo) : TC P lo = TR P no := by
  funext i t X Y
  apply propext
  unfold TC TR
  constructor
  · rintro ⟨hi, ⟨h1, -⟩ | ⟨-, h⟩⟩
    · omega
    · exact ⟨hi, h⟩
  · rintro ⟨hi, h⟩
    exact ⟨hi, Or.inr ⟨by omega, h⟩⟩
end Fixp
