/-! LOOP RULES: I m x.. is the invariant, m what is left at most; from every state of the invariant the loop comes to R -/
theorem wh1_rule {α0 ρ : Type} {body : (α0 → Option ρ) → α0 → Option ρ} {R : Option ρ} (I : Nat → α0 → Prop) (hs : ∀ (m : Nat) (x0 : α0) (self : α0 → Option ρ), I m x0 → (∀ (m' : Nat) (y0 : α0), m' < m → I m' y0 → self y0 = R) → body self x0 = R) : ∀ (f m : Nat) (x0 : α0), m < f → I m x0 → wh1 body f x0 = R := by
  intro f
  induction f with
  | zero => intro m x0 h; omega
  | succ f ih =>
    intro m x0 h hI
    exact hs m x0 (wh1 body f) hI (fun m' y0 hm hI' => ih m' y0 (by omega) hI')
theorem wh2_rule {α0 α1 ρ : Type} {body : (α0 → α1 → Option ρ) → α0 → α1 → Option ρ} {R : Option ρ} (I : Nat → α0 → α1 → Prop) (hs : ∀ (m : Nat) (x0 : α0) (x1 : α1) (self : α0 → α1 → Option ρ), I m x0 x1 → (∀ (m' : Nat) (y0 : α0) (y1 : α1), m' < m → I m' y0 y1 → self y0 y1 = R) → body self x0 x1 = R) : ∀ (f m : Nat) (x0 : α0) (x1 : α1), m < f → I m x0 x1 → wh2 body f x0 x1 = R := by
  intro f
  induction f with
  | zero => intro m x0 x1 h; omega
  | succ f ih =>
    intro m x0 x1 h hI
    exact hs m x0 x1 (wh2 body f) hI (fun m' y0 y1 hm hI' => ih m' y0 y1 (by omega) hI')
theorem wh3_rule {α0 α1 α2 ρ : Type} {body : (α0 → α1 → α2 → Option ρ) → α0 → α1 → α2 → Option ρ} {R : Option ρ} (I : Nat → α0 → α1 → α2 → Prop) (hs : ∀ (m : Nat) (x0 : α0) (x1 : α1) (x2 : α2) (self : α0 → α1 → α2 → Option ρ), I m x0 x1 x2 → (∀ (m' : Nat) (y0 : α0) (y1 : α1) (y2 : α2), m' < m → I m' y0 y1 y2 → self y0 y1 y2 = R) → body self x0 x1 x2 = R) : ∀ (f m : Nat) (x0 : α0) (x1 : α1) (x2 : α2), m < f → I m x0 x1 x2 → wh3 body f x0 x1 x2 = R := by
  intro f
  induction f with
  | zero => intro m x0 x1 x2 h; omega
  | succ f ih =>
    intro m x0 x1 x2 h hI
    exact hs m x0 x1 x2 (wh3 body f) hI (fun m' y0 y1 y2 hm hI' => ih m' y0 y1 y2 (by omega) hI')
theorem wh4_rule {α0 α1 α2 α3 ρ : Type} {body : (α0 → α1 → α2 → α3 → Option ρ) → α0 → α1 → α2 → α3 → Option ρ} {R : Option ρ} (I : Nat → α0 → α1 → α2 → α3 → Prop) (hs : ∀ (m : Nat) (x0 : α0) (x1 : α1) (x2 : α2) (x3 : α3) (self : α0 → α1 → α2 → α3 → Option ρ), I m x0 x1 x2 x3 → (∀ (m' : Nat) (y0 : α0) (y1 : α1) (y2 : α2) (y3 : α3), m' < m → I m' y0 y1 y2 y3 → self y0 y1 y2 y3 = R) → body self x0 x1 x2 x3 = R) : ∀ (f m : Nat) (x0 : α0) (x1 : α1) (x2 : α2) (x3 : α3), m < f → I m x0 x1 x2 x3 → wh4 body f x0 x1 x2 x3 = R := by
  intro f
  induction f with
  | zero => intro m x0 x1 x2 x3 h; omega
  | succ f ih =>
    intro m x0 x1 x2 x3 h hI
    exact hs m x0 x1 x2 x3 (wh4 body f) hI (fun m' y0 y1 y2 y3 hm hI' => ih m' y0 y1 y2 y3 (by omega) hI')
theorem wh5_rule {α0 α1 α2 α3 α4 ρ : Type} {body : (α0 → α1 → α2 → α3 → α4 → Option ρ) → α0 → α1 → α2 → α3 → α4 → Option ρ} {R : Option ρ} (I : Nat → α0 → α1 → α2 → α3 → α4 → Prop) (hs : ∀ (m : Nat) (x0 : α0) (x1 : α1) (x2 : α2) (x3 : α3) (x4 : α4) (self : α0 → α1 → α2 → α3 → α4 → Option ρ), I m x0 x1 x2 x3 x4 → (∀ (m' : Nat) (y0 : α0) (y1 : α1) (y2 : α2) (y3 : α3) (y4 : α4), m' < m → I m' y0 y1 y2 y3 y4 → self y0 y1 y2 y3 y4 = R) → body self x0 x1 x2 x3 x4 = R) : ∀ (f m : Nat) (x0 : α0) (x1 : α1) (x2 : α2) (x3 : α3) (x4 : α4), m < f → I m x0 x1 x2 x3 x4 → wh5 body f x0 x1 x2 x3 x4 = R := by
  intro f
  induction f with
  | zero => intro m x0 x1 x2 x3 x4 h; omega
  | succ f ih =>
    intro m x0 x1 x2 x3 x4 h hI
    exact hs m x0 x1 x2 x3 x4 (wh5 body f) hI (fun m' y0 y1 y2 y3 y4 hm hI' => ih m' y0 y1 y2 y3 y4 (by omega) hI')
theorem wh6_rule {α0 α1 α2 α3 α4 α5 ρ : Type} {body : (α0 → α1 → α2 → α3 → α4 → α5 → Option ρ) → α0 → α1 → α2 → α3 → α4 → α5 → Option ρ} {R : Option ρ} (I : Nat → α0 → α1 → α2 → α3 → α4 → α5 → Prop) (hs : ∀ (m : Nat) (x0 : α0) (x1 : α1) (x2 : α2) (x3 : α3) (x4 : α4) (x5 : α5) (self : α0 → α1 → α2 → α3 → α4 → α5 → Option ρ), I m x0 x1 x2 x3 x4 x5 → (∀ (m' : Nat) (y0 : α0) (y1 : α1) (y2 : α2) (y3 : α3) (y4 : α4) (y5 : α5), m' < m → I m' y0 y1 y2 y3 y4 y5 → self y0 y1 y2 y3 y4 y5 = R) → body self x0 x1 x2 x3 x4 x5 = R) : ∀ (f m : Nat) (x0 : α0) (x1 : α1) (x2 : α2) (x3 : α3) (x4 : α4) (x5 : α5), m < f → I m x0 x1 x2 x3 x4 x5 → wh6 body f x0 x1 x2 x3 x4 x5 = R := by
  intro f
  induction f with
  | zero => intro m x0 x1 x2 x3 x4 x5 h; omega
  | succ f ih =>
    intro m x0 x1 x2 x3 x4 x5 h hI
    exact hs m x0 x1 x2 x3 x4 x5 (wh6 body f) hI (fun m' y0 y1 y2 y3 y4 y5 hm hI' => ih m' y0 y1 y2 y3 y4 y5 (by omega) hI')
theorem wh7_rule {α0 α1 α2 α3 α4 α5 α6 ρ : Type} {body : (α0 → α1 → α2 → α3 → α4 → α5 → α6 → Option ρ) → α0 → α1 → α2 → α3 → α4 → α5 → α6 → Option ρ} {R : Option ρ} (I : Nat → α0 → α1 → α2 → α3 → α4 → α5 → α6 → Prop) (hs : ∀ (m : Nat) (x0 : α0) (x1 : α1) (x2 : α2) (x3 : α3) (x4 : α4) (x5 : α5) (x6 : α6) (self : α0 → α1 → α2 → α3 → α4 → α5 → α6 → Option ρ), I m x0 x1 x2 x3 x4 x5 x6 → (∀ (m' : Nat) (y0 : α0) (y1 : α1) (y2 : α2) (y3 : α3) (y4 : α4) (y5 : α5) (y6 : α6), m' < m → I m' y0 y1 y2 y3 y4 y5 y6 → self y0 y1 y2 y3 y4 y5 y6 = R) → body self x0 x1 x2 x3 x4 x5 x6 = R) : ∀ (f m : Nat) (x0 : α0) (x1 : α1) (x2 : α2) (x3 : α3) (x4 : α4) (x5 : α5) (x6 : α6), m < f → I m x0 x1 x2 x3 x4 x5 x6 → wh7 body f x0 x1 x2 x3 x4 x5 x6 = R := by
  intro f
  induction f with
  | zero => intro m x0 x1 x2 x3 x4 x5 x6 h; omega
  | succ f ih =>
    intro m x0 x1 x2 x3 x4 x5 x6 h hI
    exact hs m x0 x1 x2 x3 x4 x5 x6 (wh7 body f) hI (fun m' y0 y1 y2 y3 y4 y5 y6 hm hI' => ih m' y0 y1 y2 y3 y4 y5 y6 (by omega) hI')
theorem wh8_rule {α0 α1 α2 α3 α4 α5 α6 α7 ρ : Type} {body : (α0 → α1 → α2 → α3 → α4 → α5 → α6 → α7 → Option ρ) → α0 → α1 → α2 → α3 → α4 → α5 → α6 → α7 → Option ρ} {R : Option ρ} (I : Nat → α0 → α1 → α2 → α3 → α4 → α5 → α6 → α7 → Prop) (hs : ∀ (m : Nat) (x0 : α0) (x1 : α1) (x2 : α2) (x3 : α3) (x4 : α4) (x5 : α5) (x6 : α6) (x7 : α7) (self : α0 → α1 → α2 → α3 → α4 → α5 → α6 → α7 → Option ρ), I m x0 x1 x2 x3 x4 x5 x6 x7 → (∀ (m' : Nat) (y0 : α0) (y1 : α1) (y2 : α2) (y3 : α3) (y4 : α4) (y5 : α5) (y6 : α6) (y7 : α7), m' < m → I m' y0 y1 y2 y3 y4 y5 y6 y7 → self y0 y1 y2 y3 y4 y5 y6 y7 = R) → body self x0 x1 x2 x3 x4 x5 x6 x7 = R) : ∀ (f m : Nat) (x0 : α0) (x1 : α1) (x2 : α2) (x3 : α3) (x4 : α4) (x5 : α5) (x6 : α6) (x7 : α7), m < f → I m x0 x1 x2 x3 x4 x5 x6 x7 → wh8 body f x0 x1 x2 x3 x4 x5 x6 x7 = R := by
  intro f
  induction f with
  | zero => intro m x0 x1 x2 x3 x4 x5 x6 x7 h; omega
  | succ f ih =>
    intro m x0 x1 x2 x3 x4 x5 x6 x7 h hI
    exact hs m x0 x1 x2 x3 x4 x5 x6 x7 (wh8 body f) hI (fun m' y0 y1 y2 y3 y4 y5 y6 y7 hm hI' => ih m' y0 y1 y2 y3 y4 y5 y6 y7 (by omega) hI')
theorem wh9_rule {α0 α1 α2 α3 α4 α5 α6 α7 α8 ρ : Type} {body : (α0 → α1 → α2 → α3 → α4 → α5 → α6 → α7 → α8 → Option ρ) → α0 → α1 → α2 → α3 → α4 → α5 → α6 → α7 → α8 → Option ρ} {R : Option ρ} (I : Nat → α0 → α1 → α2 → α3 → α4 → α5 → α6 → α7 → α8 → Prop) (hs : ∀ (m : Nat) (x0 : α0) (x1 : α1) (x2 : α2) (x3 : α3) (x4 : α4) (x5 : α5) (x6 : α6) (x7 : α7) (x8 : α8) (self : α0 → α1 → α2 → α3 → α4 → α5 → α6 → α7 → α8 → Option ρ), I m x0 x1 x2 x3 x4 x5 x6 x7 x8 → (∀ (m' : Nat) (y0 : α0) (y1 : α1) (y2 : α2) (y3 : α3) (y4 : α4) (y5 : α5) (y6 : α6) (y7 : α7) (y8 : α8), m' < m → I m' y0 y1 y2 y3 y4 y5 y6 y7 y8 → self y0 y1 y2 y3 y4 y5 y6 y7 y8 = R) → body self x0 x1 x2 x3 x4 x5 x6 x7 x8 = R) : ∀ (f m : Nat) (x0 : α0) (x1 : α1) (x2 : α2) (x3 : α3) (x4 : α4) (x5 : α5) (x6 : α6) (x7 : α7) (x8 : α8), m < f → I m x0 x1 x2 x3 x4 x5 x6 x7 x8 → wh9 body f x0 x1 x2 x3 x4 x5 x6 x7 x8 = R := by
  intro f
  induction f with
  | zero => intro m x0 x1 x2 x3 x4 x5 x6 x7 x8 h; omega
  | succ f ih =>
    intro m x0 x1 x2 x3 x4 x5 x6 x7 x8 h hI
    exact hs m x0 x1 x2 x3 x4 x5 x6 x7 x8 (wh9 body f) hI (fun m' y0 y1 y2 y3 y4 y5 y6 y7 y8 hm hI' => ih m' y0 y1 y2 y3 y4 y5 y6 y7 y8 (by omega) hI')
/-- x comes to an end, and Q holds of it -/
def WP {ρ : Type} (x : Option ρ) (Q : ρ → Prop) : Prop := ∃ r, x = some r ∧ Q r
theorem WP_some {ρ : Type} {r : ρ} {Q : ρ → Prop} (h : Q r) : WP (some r) Q := ⟨r, rfl, h⟩
theorem WP_bind {α ρ : Type} {x : Option α} {f : α → Option ρ} {P : α → Prop} {Q : ρ → Prop} (h : WP x P) (hf : ∀ a, P a → WP (f a) Q) : WP (x.bind f) Q := by
  obtain ⟨a, e, ha⟩ := h
  rw [e]
  exact hf a ha
theorem WP_mono {ρ : Type} {x : Option ρ} {P Q : ρ → Prop} (h : WP x P) (hf : ∀ a, P a → Q a) : WP x Q := by
  obtain ⟨a, e, ha⟩ := h
  exact ⟨a, e, hf a ha⟩
theorem WP_eq {ρ : Type} {x : Option ρ} {r : ρ} (h : x = some r) : WP x (fun a => a = r) := ⟨r, h, rfl⟩
theorem wh1_wp {α0 ρ : Type} {body : (α0 → Option ρ) → α0 → Option ρ} {Q : ρ → Prop} (I : Nat → α0 → Prop) (hs : ∀ (m : Nat) (x0 : α0) (self : α0 → Option ρ), I m x0 → (∀ (m' : Nat) (y0 : α0), m' < m → I m' y0 → WP (self y0) Q) → WP (body self x0) Q) : ∀ (f m : Nat) (x0 : α0), m < f → I m x0 → WP (wh1 body f x0) Q := by
  intro f
  induction f with
  | zero => intro m x0 h; omega
  | succ f ih =>
    intro m x0 h hI
    exact hs m x0 (wh1 body f) hI (fun m' y0 hm hI' => ih m' y0 (by omega) hI')
theorem wh2_wp {α0 α1 ρ : Type} {body : (α0 → α1 → Option ρ) → α0 → α1 → Option ρ} {Q : ρ → Prop} (I : Nat → α0 → α1 → Prop) (hs : ∀ (m : Nat) (x0 : α0) (x1 : α1) (self : α0 → α1 → Option ρ), I m x0 x1 → (∀ (m' : Nat) (y0 : α0) (y1 : α1), m' < m → I m' y0 y1 → WP (self y0 y1) Q) → WP (body self x0 x1) Q) : ∀ (f m : Nat) (x0 : α0) (x1 : α1), m < f → I m x0 x1 → WP (wh2 body f x0 x1) Q := by
  intro f
  induction f with
  | zero => intro m x0 x1 h; omega
  | succ f ih =>
    intro m x0 x1 h hI
    exact hs m x0 x1 (wh2 body f) hI (fun m' y0 y1 hm hI' => ih m' y0 y1 (by omega) hI')
theorem wh3_wp {α0 α1 α2 ρ : Type} {body : (α0 → α1 → α2 → Option ρ) → α0 → α1 → α2 → Option ρ} {Q : ρ → Prop} (I : Nat → α0 → α1 → α2 → Prop) (hs : ∀ (m : Nat) (x0 : α0) (x1 : α1) (x2 : α2) (self : α0 → α1 → α2 → Option ρ), I m x0 x1 x2 → (∀ (m' : Nat) (y0 : α0) (y1 : α1) (y2 : α2), m' < m → I m' y0 y1 y2 → WP (self y0 y1 y2) Q) → WP (body self x0 x1 x2) Q) : ∀ (f m : Nat) (x0 : α0) (x1 : α1) (x2 : α2), m < f → I m x0 x1 x2 → WP (wh3 body f x0 x1 x2) Q := by
  intro f
  induction f with
  | zero => intro m x0 x1 x2 h; omega
  | succ f ih =>
    intro m x0 x1 x2 h hI
    exact hs m x0 x1 x2 (wh3 body f) hI (fun m' y0 y1 y2 hm hI' => ih m' y0 y1 y2 (by omega) hI')
theorem wh4_wp {α0 α1 α2 α3 ρ : Type} {body : (α0 → α1 → α2 → α3 → Option ρ) → α0 → α1 → α2 → α3 → Option ρ} {Q : ρ → Prop} (I : Nat → α0 → α1 → α2 → α3 → Prop) (hs : ∀ (m : Nat) (x0 : α0) (x1 : α1) (x2 : α2) (x3 : α3) (self : α0 → α1 → α2 → α3 → Option ρ), I m x0 x1 x2 x3 → (∀ (m' : Nat) (y0 : α0) (y1 : α1) (y2 : α2) (y3 : α3), m' < m → I m' y0 y1 y2 y3 → WP (self y0 y1 y2 y3) Q) → WP (body self x0 x1 x2 x3) Q) : ∀ (f m : Nat) (x0 : α0) (x1 : α1) (x2 : α2) (x3 : α3), m < f → I m x0 x1 x2 x3 → WP (wh4 body f x0 x1 x2 x3) Q := by
  intro f
  induction f with
  | zero => intro m x0 x1 x2 x3 h; omega
  | succ f ih =>
    intro m x0 x1 x2 x3 h hI
    exact hs m x0 x1 x2 x3 (wh4 body f) hI (fun m' y0 y1 y2 y3 hm hI' => ih m' y0 y1 y2 y3 (by omega) hI')
theorem wh5_wp {α0 α1 α2 α3 α4 ρ : Type} {body : (α0 → α1 → α2 → α3 → α4 → Option ρ) → α0 → α1 → α2 → α3 → α4 → Option ρ} {Q : ρ → Prop} (I : Nat → α0 → α1 → α2 → α3 → α4 → Prop) (hs : ∀ (m : Nat) (x0 : α0) (x1 : α1) (x2 : α2) (x3 : α3) (x4 : α4) (self : α0 → α1 → α2 → α3 → α4 → Option ρ), I m x0 x1 x2 x3 x4 → (∀ (m' : Nat) (y0 : α0) (y1 : α1) (y2 : α2) (y3 : α3) (y4 : α4), m' < m → I m' y0 y1 y2 y3 y4 → WP (self y0 y1 y2 y3 y4) Q) → WP (body self x0 x1 x2 x3 x4) Q) : ∀ (f m : Nat) (x0 : α0) (x1 : α1) (x2 : α2) (x3 : α3) (x4 : α4), m < f → I m x0 x1 x2 x3 x4 → WP (wh5 body f x0 x1 x2 x3 x4) Q := by
  intro f
  induction f with
  | zero => intro m x0 x1 x2 x3 x4 h; omega
  | succ f ih =>
    intro m x0 x1 x2 x3 x4 h hI
    exact hs m x0 x1 x2 x3 x4 (wh5 body f) hI (fun m' y0 y1 y2 y3 y4 hm hI' => ih m' y0 y1 y2 y3 y4 (by omega) hI')
theorem wh6_wp {α0 α1 α2 α3 α4 α5 ρ : Type} {body : (α0 → α1 → α2 → α3 → α4 → α5 → Option ρ) → α0 → α1 → α2 → α3 → α4 → α5 → Option ρ} {Q : ρ → Prop} (I : Nat → α0 → α1 → α2 → α3 → α4 → α5 → Prop) (hs : ∀ (m : Nat) (x0 : α0) (x1 : α1) (x2 : α2) (x3 : α3) (x4 : α4) (x5 : α5) (self : α0 → α1 → α2 → α3 → α4 → α5 → Option ρ), I m x0 x1 x2 x3 x4 x5 → (∀ (m' : Nat) (y0 : α0) (y1 : α1) (y2 : α2) (y3 : α3) (y4 : α4) (y5 : α5), m' < m → I m' y0 y1 y2 y3 y4 y5 → WP (self y0 y1 y2 y3 y4 y5) Q) → WP (body self x0 x1 x2 x3 x4 x5) Q) : ∀ (f m : Nat) (x0 : α0) (x1 : α1) (x2 : α2) (x3 : α3) (x4 : α4) (x5 : α5), m < f → I m x0 x1 x2 x3 x4 x5 → WP (wh6 body f x0 x1 x2 x3 x4 x5) Q := by
  intro f
  induction f with
  | zero => intro m x0 x1 x2 x3 x4 x5 h; omega
  | succ f ih =>
    intro m x0 x1 x2 x3 x4 x5 h hI
    exact hs m x0 x1 x2 x3 x4 x5 (wh6 body f) hI (fun m' y0 y1 y2 y3 y4 y5 hm hI' => ih m' y0 y1 y2 y3 y4 y5 (by omega) hI')
theorem wh7_wp {α0 α1 α2 α3 α4 α5 α6 ρ : Type} {body : (α0 → α1 → α2 → α3 → α4 → α5 → α6 → Option ρ) → α0 → α1 → α2 → α3 → α4 → α5 → α6 → Option ρ} {Q : ρ → Prop} (I : Nat → α0 → α1 → α2 → α3 → α4 → α5 → α6 → Prop) (hs : ∀ (m : Nat) (x0 : α0) (x1 : α1) (x2 : α2) (x3 : α3) (x4 : α4) (x5 : α5) (x6 : α6) (self : α0 → α1 → α2 → α3 → α4 → α5 → α6 → Option ρ), I m x0 x1 x2 x3 x4 x5 x6 → (∀ (m' : Nat) (y0 : α0) (y1 : α1) (y2 : α2) (y3 : α3) (y4 : α4) (y5 : α5) (y6 : α6), m' < m → I m' y0 y1 y2 y3 y4 y5 y6 → WP (self y0 y1 y2 y3 y4 y5 y6) Q) → WP (body self x0 x1 x2 x3 x4 x5 x6) Q) : ∀ (f m : Nat) (x0 : α0) (x1 : α1) (x2 : α2) (x3 : α3) (x4 : α4) (x5 : α5) (x6 : α6), m < f → I m x0 x1 x2 x3 x4 x5 x6 → WP (wh7 body f x0 x1 x2 x3 x4 x5 x6) Q := by
  intro f
  induction f with
  | zero => intro m x0 x1 x2 x3 x4 x5 x6 h; omega
  | succ f ih =>
    intro m x0 x1 x2 x3 x4 x5 x6 h hI
    exact hs m x0 x1 x2 x3 x4 x5 x6 (wh7 body f) hI (fun m' y0 y1 y2 y3 y4 y5 y6 hm hI' => ih m' y0 y1 y2 y3 y4 y5 y6 (by omega) hI')
theorem wh8_wp {α0 α1 α2 α3 α4 α5 α6 α7 ρ : Type} {body : (α0 → α1 → α2 → α3 → α4 → α5 → α6 → α7 → Option ρ) → α0 → α1 → α2 → α3 → α4 → α5 → α6 → α7 → Option ρ} {Q : ρ → Prop} (I : Nat → α0 → α1 → α2 → α3 → α4 → α5 → α6 → α7 → Prop) (hs : ∀ (m : Nat) (x0 : α0) (x1 : α1) (x2 : α2) (x3 : α3) (x4 : α4) (x5 : α5) (x6 : α6) (x7 : α7) (self : α0 → α1 → α2 → α3 → α4 → α5 → α6 → α7 → Option ρ), I m x0 x1 x2 x3 x4 x5 x6 x7 → (∀ (m' : Nat) (y0 : α0) (y1 : α1) (y2 : α2) (y3 : α3) (y4 : α4) (y5 : α5) (y6 : α6) (y7 : α7), m' < m → I m' y0 y1 y2 y3 y4 y5 y6 y7 → WP (self y0 y1 y2 y3 y4 y5 y6 y7) Q) → WP (body self x0 x1 x2 x3 x4 x5 x6 x7) Q) : ∀ (f m : Nat) (x0 : α0) (x1 : α1) (x2 : α2) (x3 : α3) (x4 : α4) (x5 : α5) (x6 : α6) (x7 : α7), m < f → I m x0 x1 x2 x3 x4 x5 x6 x7 → WP (wh8 body f x0 x1 x2 x3 x4 x5 x6 x7) Q := by
  intro f
  induction f with
  | zero => intro m x0 x1 x2 x3 x4 x5 x6 x7 h; omega
  | succ f ih =>
    intro m x0 x1 x2 x3 x4 x5 x6 x7 h hI
    exact hs m x0 x1 x2 x3 x4 x5 x6 x7 (wh8 body f) hI (fun m' y0 y1 y2 y3 y4 y5 y6 y7 hm hI' => ih m' y0 y1 y2 y3 y4 y5 y6 y7 (by omega) hI')
theorem wh9_wp {α0 α1 α2 α3 α4 α5 α6 α7 α8 ρ : Type} {body : (α0 → α1 → α2 → α3 → α4 → α5 → α6 → α7 → α8 → Option ρ) → α0 → α1 → α2 → α3 → α4 → α5 → α6 → α7 → α8 → Option ρ} {Q : ρ → Prop} (I : Nat → α0 → α1 → α2 → α3 → α4 → α5 → α6 → α7 → α8 → Prop) (hs : ∀ (m : Nat) (x0 : α0) (x1 : α1) (x2 : α2) (x3 : α3) (x4 : α4) (x5 : α5) (x6 : α6) (x7 : α7) (x8 : α8) (self : α0 → α1 → α2 → α3 → α4 → α5 → α6 → α7 → α8 → Option ρ), I m x0 x1 x2 x3 x4 x5 x6 x7 x8 → (∀ (m' : Nat) (y0 : α0) (y1 : α1) (y2 : α2) (y3 : α3) (y4 : α4) (y5 : α5) (y6 : α6) (y7 : α7) (y8 : α8), m' < m → I m' y0 y1 y2 y3 y4 y5 y6 y7 y8 → WP (self y0 y1 y2 y3 y4 y5 y6 y7 y8) Q) → WP (body self x0 x1 x2 x3 x4 x5 x6 x7 x8) Q) : ∀ (f m : Nat) (x0 : α0) (x1 : α1) (x2 : α2) (x3 : α3) (x4 : α4) (x5 : α5) (x6 : α6) (x7 : α7) (x8 : α8), m < f → I m x0 x1 x2 x3 x4 x5 x6 x7 x8 → WP (wh9 body f x0 x1 x2 x3 x4 x5 x6 x7 x8) Q := by
  intro f
  induction f with
  | zero => intro m x0 x1 x2 x3 x4 x5 x6 x7 x8 h; omega
  | succ f ih =>
    intro m x0 x1 x2 x3 x4 x5 x6 x7 x8 h hI
    exact hs m x0 x1 x2 x3 x4 x5 x6 x7 x8 (wh9 body f) hI (fun m' y0 y1 y2 y3 y4 y5 y6 y7 y8 hm hI' => ih m' y0 y1 y2 y3 y4 y5 y6 y7 y8 (by omega) hI')
