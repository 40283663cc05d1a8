/-! HEAPS OF THE SHALLOW FUNCTIONS: an object has a number; shapes (kind, length), ints, longs, references by number and slot.
Kinds 0..9: classes (as vwCl has them), 10 int[], 11 boolean[], 12 byte[], 13 long[], 14 Hold[]; 20 and above: no object. -/
abbrev Hp : Type := (Nat → Nat × Nat) × (Nat → Nat → Int32) × (Nat → Nat → Int64) × (Nat → Nat → Option Nat)
def u2 {α : Type} (f : Nat → Nat → α) (a k : Nat) (x : α) : Nat → Nat → α := fun b => if b = a then (fun j => if j = k then x else f a j) else f b
def h_sI (h : Hp) (a k : Nat) (x : Int32) : Hp := (h.1, u2 h.2.1 a k x, h.2.2.1, h.2.2.2)
def h_sL (h : Hp) (a k : Nat) (x : Int64) : Hp := (h.1, h.2.1, u2 h.2.2.1 a k x, h.2.2.2)
def h_sR (h : Hp) (a k : Nat) (x : Nat) : Hp := (h.1, h.2.1, h.2.2.1, u2 h.2.2.2 a k (some x))
abbrev h_in (h : Hp) (t a : Nat) (i : Int32) : Prop := (h.1 a).1 = t ∧ ¬ (i < 0 ∨ (h.1 a).2 ≤ i.toNatClampNeg)
-- fields of an object of class c
def h_fI (c : Nat) (h : Hp) (o k : Nat) : Option Int32 := if (h.1 o).1 = c then some (h.2.1 o k) else none
def h_fL (c : Nat) (h : Hp) (o k : Nat) : Option Int64 := if (h.1 o).1 = c then some (h.2.2.1 o k) else none
def h_fR (c : Nat) (h : Hp) (o k : Nat) : Option Nat := if (h.1 o).1 = c then h.2.2.2 o k else none
def h_pI (c : Nat) (h : Hp) (o k : Nat) (x : Int32) : Option Hp := if (h.1 o).1 = c then some (h_sI h o k x) else none
def h_pZ (c : Nat) (h : Hp) (o k : Nat) (x : Int32) : Option Hp := if (h.1 o).1 = c ∧ (x = 0 ∨ x = 1) then some (h_sI h o k x) else none
def h_pL (c : Nat) (h : Hp) (o k : Nat) (x : Int64) : Option Hp := if (h.1 o).1 = c then some (h_sL h o k x) else none
def h_pR (c : Nat) (h : Hp) (o k : Nat) (x : Nat) : Option Hp := if (h.1 o).1 = c then some (h_sR h o k x) else none
-- arrays
def h_ldI (h : Hp) (a : Nat) (i : Int32) : Option Int32 := if h_in h 10 a i then some (h.2.1 a i.toNatClampNeg) else none
def h_ldZ (h : Hp) (a : Nat) (i : Int32) : Option Int32 := if h_in h 11 a i then some (h.2.1 a i.toNatClampNeg) else none
def h_ldB (h : Hp) (a : Nat) (i : Int32) : Option Int32 := if h_in h 12 a i then some (h.2.1 a i.toNatClampNeg) else none
def h_ldL (h : Hp) (a : Nat) (i : Int32) : Option Int64 := if h_in h 13 a i then some (h.2.2.1 a i.toNatClampNeg) else none
def h_ldR (h : Hp) (a : Nat) (i : Int32) : Option Nat := if h_in h 14 a i then h.2.2.2 a i.toNatClampNeg else none
def h_stI (h : Hp) (a : Nat) (i x : Int32) : Option Hp := if h_in h 10 a i then some (h_sI h a i.toNatClampNeg x) else none
def h_stZ (h : Hp) (a : Nat) (i x : Int32) : Option Hp := if h_in h 11 a i ∧ (x = 0 ∨ x = 1) then some (h_sI h a i.toNatClampNeg x) else none
def h_stB (h : Hp) (a : Nat) (i x : Int32) : Option Hp := if h_in h 12 a i then some (h_sI h a i.toNatClampNeg x.toInt8.toInt32) else none
def h_stL (h : Hp) (a : Nat) (i : Int32) (x : Int64) : Option Hp := if h_in h 13 a i then some (h_sL h a i.toNatClampNeg x) else none
def h_len (t : Nat) (h : Hp) (a : Nat) : Option Int32 := if (h.1 a).1 = t then some (Int32.ofNat (h.1 a).2) else none
/-- System.arraycopy of ints between two arrays -/
def h_cpI (h : Hp) (a : Nat) (i : Int32) (b : Nat) (j n : Int32) : Option Hp :=
  if ((h.1 a).1 = 10 ∧ (h.1 b).1 = 10) ∧ (¬ i < 0 ∧ ¬ j < 0 ∧ ¬ n < 0) ∧ i.toNatClampNeg + n.toNatClampNeg ≤ (h.1 a).2 ∧ j.toNatClampNeg + n.toNatClampNeg ≤ (h.1 b).2 then
    some (h.1, (fun c => if c = b then va_cpy (h.2.1 a) (h.2.1 b) i.toNatClampNeg j.toNatClampNeg n.toNatClampNeg else h.2.1 c), h.2.2.1, h.2.2.2)
  else none
/-- an answer of a method of type boolean -/
def h_z (x : Int32) : Option Int32 := if x = 0 ∨ x = 1 then some x else none
/-- a divisor isn't 0 -/
def h_rem (x y : Int32) : Option Int32 := if y = 0 then none else some (x - x / y * y)
def h_div (x y : Int32) : Option Int32 := if y = 0 then none else some (x / y)
def h_reml (x y : Int64) : Option Int64 := if y = 0 then none else some (x - x / y * y)
/-- where roads come together -/
def jn {α β : Type} (K : α) (F : α → β) : β := F K
theorem bs {α β : Type} {a : Option α} {f : α → Option β} {r : β} (e : a.bind f = some r) : ∃ x, a = some x ∧ f x = some r := by
  cases a with
  | none => simp at e
  | some x => exact ⟨x, rfl, e⟩
-- ===== generated: loops =====
/-- Math.max, Math.min -/
def jmax (x y : Int32) : Int32 := if x < y then y else x
def jmin (x y : Int32) : Int32 := if y < x then y else x
def h_g {α : Type} (c : Nat) (h : Hp) (o : Nat) (x : Option α) : Option α := if (h.1 o).1 = c then x else none
theorem h_g_inv {α : Type} {c : Nat} {h : Hp} {o : Nat} {x : Option α} {r : α} (e : h_g c h o x = some r) : (h.1 o).1 = c ∧ x = some r := by
  unfold h_g at e
  split at e
  · rename_i hc
    exact ⟨hc, e⟩
  · cases e
theorem h_g_pos {α : Type} {c : Nat} {h : Hp} {o : Nat} {x : Option α} (hc : (h.1 o).1 = c) : h_g c h o x = x := if_pos hc
theorem h_z_inv {x z : Int32} (e : h_z x = some z) : (x = 0 ∨ x = 1) ∧ z = x := by
  unfold h_z at e
  split at e
  · rename_i hc
    cases e
    exact ⟨hc, rfl⟩
  · cases e
theorem jn_elim {α ρ : Type} {K : α} {F : α → Option ρ} {res : ρ} {G : Prop} {P : α → Prop} (e : jn K F = some res) (hK : P K) (h : ∀ k, P k → F k = some res → G) : G := h K hK e
def wh1 {α0 ρ : Type} (body : (α0 → Option ρ) → α0 → Option ρ) : Nat → α0 → Option ρ
  | 0, _ => none
  | f + 1, x0 => body (wh1 body f) x0
theorem wh1_elim {α0 ρ : Type} {body : (α0 → Option ρ) → α0 → Option ρ} {res : ρ} {P : α0 → Prop} {f : Nat} {x00 : α0} (hs : ∀ (self : α0 → Option ρ) (x0 : α0), (∀ (x0 : α0), self x0 = some res → P x0) → body self x0 = some res → P x0) (e : wh1 body f x00 = some res) : P x00 := by
  have H : ∀ (f : Nat) (x0 : α0), wh1 body f x0 = some res → P x0 := by
    intro f
    induction f with
    | zero => intro x0 e; cases e
    | succ f ih => intro x0 e; exact hs (wh1 body f) x0 ih e
  exact H f x00 e
def wh2 {α0 α1 ρ : Type} (body : (α0 → α1 → Option ρ) → α0 → α1 → Option ρ) : Nat → α0 → α1 → Option ρ
  | 0, _, _ => none
  | f + 1, x0, x1 => body (wh2 body f) x0 x1
theorem wh2_elim {α0 α1 ρ : Type} {body : (α0 → α1 → Option ρ) → α0 → α1 → Option ρ} {res : ρ} {P : α0 → α1 → Prop} {f : Nat} {x00 : α0} {x10 : α1} (hs : ∀ (self : α0 → α1 → Option ρ) (x0 : α0) (x1 : α1), (∀ (x0 : α0) (x1 : α1), self x0 x1 = some res → P x0 x1) → body self x0 x1 = some res → P x0 x1) (e : wh2 body f x00 x10 = some res) : P x00 x10 := by
  have H : ∀ (f : Nat) (x0 : α0) (x1 : α1), wh2 body f x0 x1 = some res → P x0 x1 := by
    intro f
    induction f with
    | zero => intro x0 x1 e; cases e
    | succ f ih => intro x0 x1 e; exact hs (wh2 body f) x0 x1 ih e
  exact H f x00 x10 e
def wh3 {α0 α1 α2 ρ : Type} (body : (α0 → α1 → α2 → Option ρ) → α0 → α1 → α2 → Option ρ) : Nat → α0 → α1 → α2 → Option ρ
  | 0, _, _, _ => none
  | f + 1, x0, x1, x2 => body (wh3 body f) x0 x1 x2
theorem wh3_elim {α0 α1 α2 ρ : Type} {body : (α0 → α1 → α2 → Option ρ) → α0 → α1 → α2 → Option ρ} {res : ρ} {P : α0 → α1 → α2 → Prop} {f : Nat} {x00 : α0} {x10 : α1} {x20 : α2} (hs : ∀ (self : α0 → α1 → α2 → Option ρ) (x0 : α0) (x1 : α1) (x2 : α2), (∀ (x0 : α0) (x1 : α1) (x2 : α2), self x0 x1 x2 = some res → P x0 x1 x2) → body self x0 x1 x2 = some res → P x0 x1 x2) (e : wh3 body f x00 x10 x20 = some res) : P x00 x10 x20 := by
  have H : ∀ (f : Nat) (x0 : α0) (x1 : α1) (x2 : α2), wh3 body f x0 x1 x2 = some res → P x0 x1 x2 := by
    intro f
    induction f with
    | zero => intro x0 x1 x2 e; cases e
    | succ f ih => intro x0 x1 x2 e; exact hs (wh3 body f) x0 x1 x2 ih e
  exact H f x00 x10 x20 e
def wh4 {α0 α1 α2 α3 ρ : Type} (body : (α0 → α1 → α2 → α3 → Option ρ) → α0 → α1 → α2 → α3 → Option ρ) : Nat → α0 → α1 → α2 → α3 → Option ρ
  | 0, _, _, _, _ => none
  | f + 1, x0, x1, x2, x3 => body (wh4 body f) x0 x1 x2 x3
theorem wh4_elim {α0 α1 α2 α3 ρ : Type} {body : (α0 → α1 → α2 → α3 → Option ρ) → α0 → α1 → α2 → α3 → Option ρ} {res : ρ} {P : α0 → α1 → α2 → α3 → Prop} {f : Nat} {x00 : α0} {x10 : α1} {x20 : α2} {x30 : α3} (hs : ∀ (self : α0 → α1 → α2 → α3 → Option ρ) (x0 : α0) (x1 : α1) (x2 : α2) (x3 : α3), (∀ (x0 : α0) (x1 : α1) (x2 : α2) (x3 : α3), self x0 x1 x2 x3 = some res → P x0 x1 x2 x3) → body self x0 x1 x2 x3 = some res → P x0 x1 x2 x3) (e : wh4 body f x00 x10 x20 x30 = some res) : P x00 x10 x20 x30 := by
  have H : ∀ (f : Nat) (x0 : α0) (x1 : α1) (x2 : α2) (x3 : α3), wh4 body f x0 x1 x2 x3 = some res → P x0 x1 x2 x3 := by
    intro f
    induction f with
    | zero => intro x0 x1 x2 x3 e; cases e
    | succ f ih => intro x0 x1 x2 x3 e; exact hs (wh4 body f) x0 x1 x2 x3 ih e
  exact H f x00 x10 x20 x30 e
def wh5 {α0 α1 α2 α3 α4 ρ : Type} (body : (α0 → α1 → α2 → α3 → α4 → Option ρ) → α0 → α1 → α2 → α3 → α4 → Option ρ) : Nat → α0 → α1 → α2 → α3 → α4 → Option ρ
  | 0, _, _, _, _, _ => none
  | f + 1, x0, x1, x2, x3, x4 => body (wh5 body f) x0 x1 x2 x3 x4
theorem wh5_elim {α0 α1 α2 α3 α4 ρ : Type} {body : (α0 → α1 → α2 → α3 → α4 → Option ρ) → α0 → α1 → α2 → α3 → α4 → Option ρ} {res : ρ} {P : α0 → α1 → α2 → α3 → α4 → Prop} {f : Nat} {x00 : α0} {x10 : α1} {x20 : α2} {x30 : α3} {x40 : α4} (hs : ∀ (self : α0 → α1 → α2 → α3 → α4 → Option ρ) (x0 : α0) (x1 : α1) (x2 : α2) (x3 : α3) (x4 : α4), (∀ (x0 : α0) (x1 : α1) (x2 : α2) (x3 : α3) (x4 : α4), self x0 x1 x2 x3 x4 = some res → P x0 x1 x2 x3 x4) → body self x0 x1 x2 x3 x4 = some res → P x0 x1 x2 x3 x4) (e : wh5 body f x00 x10 x20 x30 x40 = some res) : P x00 x10 x20 x30 x40 := by
  have H : ∀ (f : Nat) (x0 : α0) (x1 : α1) (x2 : α2) (x3 : α3) (x4 : α4), wh5 body f x0 x1 x2 x3 x4 = some res → P x0 x1 x2 x3 x4 := by
    intro f
    induction f with
    | zero => intro x0 x1 x2 x3 x4 e; cases e
    | succ f ih => intro x0 x1 x2 x3 x4 e; exact hs (wh5 body f) x0 x1 x2 x3 x4 ih e
  exact H f x00 x10 x20 x30 x40 e
def wh6 {α0 α1 α2 α3 α4 α5 ρ : Type} (body : (α0 → α1 → α2 → α3 → α4 → α5 → Option ρ) → α0 → α1 → α2 → α3 → α4 → α5 → Option ρ) : Nat → α0 → α1 → α2 → α3 → α4 → α5 → Option ρ
  | 0, _, _, _, _, _, _ => none
  | f + 1, x0, x1, x2, x3, x4, x5 => body (wh6 body f) x0 x1 x2 x3 x4 x5
theorem wh6_elim {α0 α1 α2 α3 α4 α5 ρ : Type} {body : (α0 → α1 → α2 → α3 → α4 → α5 → Option ρ) → α0 → α1 → α2 → α3 → α4 → α5 → Option ρ} {res : ρ} {P : α0 → α1 → α2 → α3 → α4 → α5 → Prop} {f : Nat} {x00 : α0} {x10 : α1} {x20 : α2} {x30 : α3} {x40 : α4} {x50 : α5} (hs : ∀ (self : α0 → α1 → α2 → α3 → α4 → α5 → Option ρ) (x0 : α0) (x1 : α1) (x2 : α2) (x3 : α3) (x4 : α4) (x5 : α5), (∀ (x0 : α0) (x1 : α1) (x2 : α2) (x3 : α3) (x4 : α4) (x5 : α5), self x0 x1 x2 x3 x4 x5 = some res → P x0 x1 x2 x3 x4 x5) → body self x0 x1 x2 x3 x4 x5 = some res → P x0 x1 x2 x3 x4 x5) (e : wh6 body f x00 x10 x20 x30 x40 x50 = some res) : P x00 x10 x20 x30 x40 x50 := by
  have H : ∀ (f : Nat) (x0 : α0) (x1 : α1) (x2 : α2) (x3 : α3) (x4 : α4) (x5 : α5), wh6 body f x0 x1 x2 x3 x4 x5 = some res → P x0 x1 x2 x3 x4 x5 := by
    intro f
    induction f with
    | zero => intro x0 x1 x2 x3 x4 x5 e; cases e
    | succ f ih => intro x0 x1 x2 x3 x4 x5 e; exact hs (wh6 body f) x0 x1 x2 x3 x4 x5 ih e
  exact H f x00 x10 x20 x30 x40 x50 e
def wh7 {α0 α1 α2 α3 α4 α5 α6 ρ : Type} (body : (α0 → α1 → α2 → α3 → α4 → α5 → α6 → Option ρ) → α0 → α1 → α2 → α3 → α4 → α5 → α6 → Option ρ) : Nat → α0 → α1 → α2 → α3 → α4 → α5 → α6 → Option ρ
  | 0, _, _, _, _, _, _, _ => none
  | f + 1, x0, x1, x2, x3, x4, x5, x6 => body (wh7 body f) x0 x1 x2 x3 x4 x5 x6
theorem wh7_elim {α0 α1 α2 α3 α4 α5 α6 ρ : Type} {body : (α0 → α1 → α2 → α3 → α4 → α5 → α6 → Option ρ) → α0 → α1 → α2 → α3 → α4 → α5 → α6 → Option ρ} {res : ρ} {P : α0 → α1 → α2 → α3 → α4 → α5 → α6 → Prop} {f : Nat} {x00 : α0} {x10 : α1} {x20 : α2} {x30 : α3} {x40 : α4} {x50 : α5} {x60 : α6} (hs : ∀ (self : α0 → α1 → α2 → α3 → α4 → α5 → α6 → Option ρ) (x0 : α0) (x1 : α1) (x2 : α2) (x3 : α3) (x4 : α4) (x5 : α5) (x6 : α6), (∀ (x0 : α0) (x1 : α1) (x2 : α2) (x3 : α3) (x4 : α4) (x5 : α5) (x6 : α6), self x0 x1 x2 x3 x4 x5 x6 = some res → P x0 x1 x2 x3 x4 x5 x6) → body self x0 x1 x2 x3 x4 x5 x6 = some res → P x0 x1 x2 x3 x4 x5 x6) (e : wh7 body f x00 x10 x20 x30 x40 x50 x60 = some res) : P x00 x10 x20 x30 x40 x50 x60 := by
  have H : ∀ (f : Nat) (x0 : α0) (x1 : α1) (x2 : α2) (x3 : α3) (x4 : α4) (x5 : α5) (x6 : α6), wh7 body f x0 x1 x2 x3 x4 x5 x6 = some res → P x0 x1 x2 x3 x4 x5 x6 := by
    intro f
    induction f with
    | zero => intro x0 x1 x2 x3 x4 x5 x6 e; cases e
    | succ f ih => intro x0 x1 x2 x3 x4 x5 x6 e; exact hs (wh7 body f) x0 x1 x2 x3 x4 x5 x6 ih e
  exact H f x00 x10 x20 x30 x40 x50 x60 e
def wh8 {α0 α1 α2 α3 α4 α5 α6 α7 ρ : Type} (body : (α0 → α1 → α2 → α3 → α4 → α5 → α6 → α7 → Option ρ) → α0 → α1 → α2 → α3 → α4 → α5 → α6 → α7 → Option ρ) : Nat → α0 → α1 → α2 → α3 → α4 → α5 → α6 → α7 → Option ρ
  | 0, _, _, _, _, _, _, _, _ => none
  | f + 1, x0, x1, x2, x3, x4, x5, x6, x7 => body (wh8 body f) x0 x1 x2 x3 x4 x5 x6 x7
theorem wh8_elim {α0 α1 α2 α3 α4 α5 α6 α7 ρ : Type} {body : (α0 → α1 → α2 → α3 → α4 → α5 → α6 → α7 → Option ρ) → α0 → α1 → α2 → α3 → α4 → α5 → α6 → α7 → Option ρ} {res : ρ} {P : α0 → α1 → α2 → α3 → α4 → α5 → α6 → α7 → Prop} {f : Nat} {x00 : α0} {x10 : α1} {x20 : α2} {x30 : α3} {x40 : α4} {x50 : α5} {x60 : α6} {x70 : α7} (hs : ∀ (self : α0 → α1 → α2 → α3 → α4 → α5 → α6 → α7 → Option ρ) (x0 : α0) (x1 : α1) (x2 : α2) (x3 : α3) (x4 : α4) (x5 : α5) (x6 : α6) (x7 : α7), (∀ (x0 : α0) (x1 : α1) (x2 : α2) (x3 : α3) (x4 : α4) (x5 : α5) (x6 : α6) (x7 : α7), self x0 x1 x2 x3 x4 x5 x6 x7 = some res → P x0 x1 x2 x3 x4 x5 x6 x7) → body self x0 x1 x2 x3 x4 x5 x6 x7 = some res → P x0 x1 x2 x3 x4 x5 x6 x7) (e : wh8 body f x00 x10 x20 x30 x40 x50 x60 x70 = some res) : P x00 x10 x20 x30 x40 x50 x60 x70 := by
  have H : ∀ (f : Nat) (x0 : α0) (x1 : α1) (x2 : α2) (x3 : α3) (x4 : α4) (x5 : α5) (x6 : α6) (x7 : α7), wh8 body f x0 x1 x2 x3 x4 x5 x6 x7 = some res → P x0 x1 x2 x3 x4 x5 x6 x7 := by
    intro f
    induction f with
    | zero => intro x0 x1 x2 x3 x4 x5 x6 x7 e; cases e
    | succ f ih => intro x0 x1 x2 x3 x4 x5 x6 x7 e; exact hs (wh8 body f) x0 x1 x2 x3 x4 x5 x6 x7 ih e
  exact H f x00 x10 x20 x30 x40 x50 x60 x70 e
def wh9 {α0 α1 α2 α3 α4 α5 α6 α7 α8 ρ : Type} (body : (α0 → α1 → α2 → α3 → α4 → α5 → α6 → α7 → α8 → Option ρ) → α0 → α1 → α2 → α3 → α4 → α5 → α6 → α7 → α8 → Option ρ) : Nat → α0 → α1 → α2 → α3 → α4 → α5 → α6 → α7 → α8 → Option ρ
  | 0, _, _, _, _, _, _, _, _, _ => none
  | f + 1, x0, x1, x2, x3, x4, x5, x6, x7, x8 => body (wh9 body f) x0 x1 x2 x3 x4 x5 x6 x7 x8
theorem wh9_elim {α0 α1 α2 α3 α4 α5 α6 α7 α8 ρ : Type} {body : (α0 → α1 → α2 → α3 → α4 → α5 → α6 → α7 → α8 → Option ρ) → α0 → α1 → α2 → α3 → α4 → α5 → α6 → α7 → α8 → Option ρ} {res : ρ} {P : α0 → α1 → α2 → α3 → α4 → α5 → α6 → α7 → α8 → Prop} {f : Nat} {x00 : α0} {x10 : α1} {x20 : α2} {x30 : α3} {x40 : α4} {x50 : α5} {x60 : α6} {x70 : α7} {x80 : α8} (hs : ∀ (self : α0 → α1 → α2 → α3 → α4 → α5 → α6 → α7 → α8 → Option ρ) (x0 : α0) (x1 : α1) (x2 : α2) (x3 : α3) (x4 : α4) (x5 : α5) (x6 : α6) (x7 : α7) (x8 : α8), (∀ (x0 : α0) (x1 : α1) (x2 : α2) (x3 : α3) (x4 : α4) (x5 : α5) (x6 : α6) (x7 : α7) (x8 : α8), self x0 x1 x2 x3 x4 x5 x6 x7 x8 = some res → P x0 x1 x2 x3 x4 x5 x6 x7 x8) → body self x0 x1 x2 x3 x4 x5 x6 x7 x8 = some res → P x0 x1 x2 x3 x4 x5 x6 x7 x8) (e : wh9 body f x00 x10 x20 x30 x40 x50 x60 x70 x80 = some res) : P x00 x10 x20 x30 x40 x50 x60 x70 x80 := by
  have H : ∀ (f : Nat) (x0 : α0) (x1 : α1) (x2 : α2) (x3 : α3) (x4 : α4) (x5 : α5) (x6 : α6) (x7 : α7) (x8 : α8), wh9 body f x0 x1 x2 x3 x4 x5 x6 x7 x8 = some res → P x0 x1 x2 x3 x4 x5 x6 x7 x8 := by
    intro f
    induction f with
    | zero => intro x0 x1 x2 x3 x4 x5 x6 x7 x8 e; cases e
    | succ f ih => intro x0 x1 x2 x3 x4 x5 x6 x7 x8 e; exact hs (wh9 body f) x0 x1 x2 x3 x4 x5 x6 x7 x8 ih e
  exact H f x00 x10 x20 x30 x40 x50 x60 x70 x80 e
