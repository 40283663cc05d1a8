/-! HEAPS OF THE SHALLOW FUNCTIONS: an object has a number; shapes (kind, length), ints, longs, references by number and slot.
Kinds 0..9: classes (as vwCl has them), 10 int[], 11 boolean[], 12 byte[], 13 long[], 14 Hold[]; 20 and above: no object. -/
abbrev Hp : Type := (Nat → Nat × Nat) × (Nat → Nat → Int32) × (Nat → Nat → Int64) × (Nat → Nat → Option Nat)
def u2 {α : Type} (f : Nat → Nat → α) (a k : Nat) (x : α) : Nat → Nat → α := fun b => if b = a then (fun j => if j = k then x else f a j) else f b
def h_sI (h : Hp) (a k : Nat) (x : Int32) : Hp := (h.1, u2 h.2.1 a k x, h.2.2.1, h.2.2.2)
def h_sL (h : Hp) (a k : Nat) (x : Int64) : Hp := (h.1, h.2.1, u2 h.2.2.1 a k x, h.2.2.2)
def h_sR (h : Hp) (a k : Nat) (x : Nat) : Hp := (h.1, h.2.1, h.2.2.1, u2 h.2.2.2 a k (some x))
abbrev h_in (h : Hp) (t a : Nat) (i : Int32) : Prop := (h.1 a).1 = t ∧ ¬ (i < 0 ∨ (h.1 a).2 ≤ i.toNatClampNeg)
-- fields of an object of class c
def h_fI (c : Nat) (h : Hp) (o k : Nat) : Option Int32 := if (h.1 o).1 = c then some (h.2.1 o k) else none
def h_fL (c : Nat) (h : Hp) (o k : Nat) : Option Int64 := if (h.1 o).1 = c then some (h.2.2.1 o k) else none
def h_fR (c : Nat) (h : Hp) (o k : Nat) : Option Nat := if (h.1 o).1 = c then h.2.2.2 o k else none
def h_pI (c : Nat) (h : Hp) (o k : Nat) (x : Int32) : Option Hp := if (h.1 o).1 = c then some (h_sI h o k x) else none
def h_pZ (c : Nat) (h : Hp) (o k : Nat) (x : Int32) : Option Hp := if (h.1 o).1 = c ∧ (x = 0 ∨ x = 1) then some (h_sI h o k x) else none
def h_pL (c : Nat) (h : Hp) (o k : Nat) (x : Int64) : Option Hp := if (h.1 o).1 = c then some (h_sL h o k x) else none
def h_pR (c : Nat) (h : Hp) (o k : Nat) (x : Nat) : Option Hp := if (h.1 o).1 = c then some (h_sR h o k x) else none
-- arrays
def h_ldI (h : Hp) (a : Nat) (i : Int32) : Option Int32 := if h_in h 10 a i then some (h.2.1 a i.toNatClampNeg) else none
def h_ldZ (h : Hp) (a : Nat) (i : Int32) : Option Int32 := if h_in h 11 a i then some (h.2.1 a i.toNatClampNeg) else none
def h_ldB (h : Hp) (a : Nat) (i : Int32) : Option Int32 := if h_in h 12 a i then some (h.2.1 a i.toNatClampNeg) else none
def h_ldL (h : Hp) (a : Nat) (i : Int32) : Option Int64 := if h_in h 13 a i then some (h.2.2.1 a i.toNatClampNeg) else none
def h_ldR (h : Hp) (a : Nat) (i : Int32) : Option Nat := if h_in h 14 a i then h.2.2.2 a i.toNatClampNeg else none
def h_stI (h : Hp) (a : Nat) (i x : Int32) : Option Hp := if h_in h 10 a i then some (h_sI h a i.toNatClampNeg x) else none
def h_stZ (h : Hp) (a : Nat) (i x : Int32) : Option Hp := if h_in h 11 a i ∧ (x = 0 ∨ x = 1) then some (h_sI h a i.toNatClampNeg x) else none
def h_stB (h : Hp) (a : Nat) (i x : Int32) : Option Hp := if h_in h 12 a i then some (h_sI h a i.toNatClampNeg x.toInt8.toInt32) else none
def h_stL (h : Hp) (a : Nat) (i : Int32) (x : Int64) : Option Hp := if h_in h 13 a i then some (h_sL h a i.toNatClampNeg x) else none
def h_len (t : Nat) (h : Hp) (a : Nat) : Option Int32 := if (h.1 a).1 = t then some (Int32.ofNat (h.1 a).2) else none
/-- System.arraycopy of ints between two arrays -/
def h_cpI (h : Hp) (a : Nat) (i : Int32) (b : Nat) (j n : Int32) : Option Hp :=
  if ((h.1 a).1 = 10 ∧ (h.1 b).1 = 10) ∧ (¬ i < 0 ∧ ¬ j < 0 ∧ ¬ n < 0) ∧ i.toNatClampNeg + n.toNatClampNeg ≤ (h.1 a).2 ∧ j.toNatClampNeg + n.toNatClampNeg ≤ (h.1 b).2 then
    some (h.1, (fun c => if c = b then va_cpy (h.2.1 a) (h.2.1 b) i.toNatClampNeg j.toNatClampNeg n.toNatClampNeg else h.2.1 c), h.2.2.1, h.2.2.2)
  else none
/-- an answer of a method of type boolean -/
def h_z (x : Int32) : Option Int32 := if x = 0 ∨ x = 1 then some x else none
/-- a divisor isn't 0 -/
def h_rem (x y : Int32) : Option Int32 := if y = 0 then none else some (x - x / y * y)
def h_div (x y : Int32) : Option Int32 := if y = 0 then none else some (x / y)
def h_reml (x y : Int64) : Option Int64 := if y = 0 then none else some (x - x / y * y)
/-- where roads come together -/
def jn {α β : Type} (K : α) (F : α → β) : β := F K
theorem bs {α β : Type} {a : Option α} {f : α → Option β} {r : β} (e : a.bind f = some r) : ∃ x, a = some x ∧ f x = some r := by
  cases a with
  | none => simp at e
  | some x => exact ⟨x, rfl, e⟩
