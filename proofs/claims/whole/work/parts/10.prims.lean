/-! PURE ROWS over the heaps of the shallow functions (by hand) -/
def h_rowI (h : Hp) (a : Nat) (f : Nat → Int32) : Hp := (h.1, (fun b => if b = a then f else h.2.1 b), h.2.2.1, h.2.2.2)
def h_rowL (h : Hp) (a : Nat) (f : Nat → Int64) : Hp := (h.1, h.2.1, (fun b => if b = a then f else h.2.2.1 b), h.2.2.2)
def up {α : Type} (f : Nat → α) (k : Nat) (x : α) : Nat → α := fun j => if j = k then x else f j
theorem sI_row {h : Hp} {a k : Nat} {x : Int32} : h_sI h a k x = h_rowI h a (up (h.2.1 a) k x) := rfl
theorem sL_row {h : Hp} {a k : Nat} {x : Int64} : h_sL h a k x = h_rowL h a (up (h.2.2.1 a) k x) := rfl
theorem rowI_1 {h : Hp} {a : Nat} {f : Nat → Int32} : (h_rowI h a f).1 = h.1 := rfl
theorem rowI_L {h : Hp} {a : Nat} {f : Nat → Int32} : (h_rowI h a f).2.2 = h.2.2 := rfl
theorem rowI_at {h : Hp} {a : Nat} {f : Nat → Int32} : (h_rowI h a f).2.1 a = f := by simp [h_rowI]
theorem rowI_ne {h : Hp} {a b : Nat} {f : Nat → Int32} (hb : b ≠ a) : (h_rowI h a f).2.1 b = h.2.1 b := by simp [h_rowI, hb]
theorem rowL_1 {h : Hp} {a : Nat} {f : Nat → Int64} : (h_rowL h a f).1 = h.1 := rfl
theorem rowL_I {h : Hp} {a : Nat} {f : Nat → Int64} : (h_rowL h a f).2.1 = h.2.1 := rfl
theorem rowL_R {h : Hp} {a : Nat} {f : Nat → Int64} : (h_rowL h a f).2.2.2 = h.2.2.2 := rfl
theorem rowL_at {h : Hp} {a : Nat} {f : Nat → Int64} : (h_rowL h a f).2.2.1 a = f := by simp [h_rowL]
theorem rowL_ne {h : Hp} {a b : Nat} {f : Nat → Int64} (hb : b ≠ a) : (h_rowL h a f).2.2.1 b = h.2.2.1 b := by simp [h_rowL, hb]
theorem rowI_rowI {h : Hp} {a : Nat} {f g : Nat → Int32} : h_rowI (h_rowI h a f) a g = h_rowI h a g := by
  unfold h_rowI
  congr 2
  funext b
  by_cases hb : b = a <;> simp [hb]
theorem rowI_self {h : Hp} {a : Nat} : h_rowI h a (h.2.1 a) = h := by
  obtain ⟨h1, h2, h3, h4⟩ := h
  unfold h_rowI
  congr 2
  funext b
  by_cases hb : b = a <;> simp [hb]
theorem rowL_rowL {h : Hp} {a : Nat} {f g : Nat → Int64} : h_rowL (h_rowL h a f) a g = h_rowL h a g := by
  unfold h_rowL
  congr 3
  funext b
  by_cases hb : b = a <;> simp [hb]
theorem rowL_self {h : Hp} {a : Nat} : h_rowL h a (h.2.2.1 a) = h := by
  obtain ⟨h1, h2, h3, h4⟩ := h
  unfold h_rowL
  congr 3
  funext b
  by_cases hb : b = a <;> simp [hb]
theorem up_at {α : Type} {f : Nat → α} {k : Nat} {x : α} : up f k x k = x := by simp [up]
theorem up_ne {α : Type} {f : Nat → α} {k j : Nat} {x : α} (hj : j ≠ k) : up f k x j = f j := by simp [up, hj]
-- arrays at an index that is a number
theorem ldI_n {h : Hp} {a n k : Nat} (hk : h.1 a = (10, n)) (h1 : k < n) (h2 : n < 2 ^ 31) : h_ldI h a (nI k) = some (h.2.1 a k) := by
  unfold h_ldI
  rw [if_pos ⟨by rw [hk], by rw [hk]; exact nI_in h1 h2⟩, nI_clamp (by omega)]
theorem ldZ_n {h : Hp} {a n k : Nat} (hk : h.1 a = (11, n)) (h1 : k < n) (h2 : n < 2 ^ 31) : h_ldZ h a (nI k) = some (h.2.1 a k) := by
  unfold h_ldZ
  rw [if_pos ⟨by rw [hk], by rw [hk]; exact nI_in h1 h2⟩, nI_clamp (by omega)]
theorem ldB_n {h : Hp} {a n k : Nat} (hk : h.1 a = (12, n)) (h1 : k < n) (h2 : n < 2 ^ 31) : h_ldB h a (nI k) = some (h.2.1 a k) := by
  unfold h_ldB
  rw [if_pos ⟨by rw [hk], by rw [hk]; exact nI_in h1 h2⟩, nI_clamp (by omega)]
theorem ldL_n {h : Hp} {a n k : Nat} (hk : h.1 a = (13, n)) (h1 : k < n) (h2 : n < 2 ^ 31) : h_ldL h a (nI k) = some (h.2.2.1 a k) := by
  unfold h_ldL
  rw [if_pos ⟨by rw [hk], by rw [hk]; exact nI_in h1 h2⟩, nI_clamp (by omega)]
theorem ldR_n {h : Hp} {a n k : Nat} (hk : h.1 a = (14, n)) (h1 : k < n) (h2 : n < 2 ^ 31) : h_ldR h a (nI k) = h.2.2.2 a k := by
  unfold h_ldR
  rw [if_pos ⟨by rw [hk], by rw [hk]; exact nI_in h1 h2⟩, nI_clamp (by omega)]
theorem stI_n {h : Hp} {a n k : Nat} {x : Int32} (hk : h.1 a = (10, n)) (h1 : k < n) (h2 : n < 2 ^ 31) : h_stI h a (nI k) x = some (h_rowI h a (up (h.2.1 a) k x)) := by
  unfold h_stI
  rw [if_pos ⟨by rw [hk], by rw [hk]; exact nI_in h1 h2⟩, nI_clamp (by omega), sI_row]
theorem stZ_n {h : Hp} {a n k : Nat} {x : Int32} (hk : h.1 a = (11, n)) (h1 : k < n) (h2 : n < 2 ^ 31) (hx : x = 0 ∨ x = 1) : h_stZ h a (nI k) x = some (h_rowI h a (up (h.2.1 a) k x)) := by
  unfold h_stZ
  rw [if_pos ⟨⟨by rw [hk], by rw [hk]; exact nI_in h1 h2⟩, hx⟩, nI_clamp (by omega), sI_row]
theorem stB_n {h : Hp} {a n k : Nat} {x : Int32} (hk : h.1 a = (12, n)) (h1 : k < n) (h2 : n < 2 ^ 31) : h_stB h a (nI k) x = some (h_rowI h a (up (h.2.1 a) k x.toInt8.toInt32)) := by
  unfold h_stB
  rw [if_pos ⟨by rw [hk], by rw [hk]; exact nI_in h1 h2⟩, nI_clamp (by omega), sI_row]
theorem stL_n {h : Hp} {a n k : Nat} {x : Int64} (hk : h.1 a = (13, n)) (h1 : k < n) (h2 : n < 2 ^ 31) : h_stL h a (nI k) x = some (h_rowL h a (up (h.2.2.1 a) k x)) := by
  unfold h_stL
  rw [if_pos ⟨by rw [hk], by rw [hk]; exact nI_in h1 h2⟩, nI_clamp (by omega), sL_row]
-- Arrays.fill
theorem up_lt {α : Type} {f : Nat → α} {k : Nat} {x : α} : up (fun j => if j < k then x else f j) k x = (fun j => if j < k + 1 then x else f j) := by
  funext j
  unfold up
  by_cases hj : j = k
  · simp [hj]
  · simp only [hj, if_false]
    by_cases hj2 : j < k
    · rw [if_pos hj2, if_pos (by omega)]
    · rw [if_neg hj2, if_neg (by omega)]
theorem fillI {fu : Nat} {h : Hp} {a N : Nat} {x : Int32} (hk : h.1 a = (10, N)) (hN : N < 2 ^ 31) (hf : N < fu) : MJ7_fill_53178 fu a x h = some (h_rowI h a (fun j => if j < N then x else h.2.1 a j)) := by
  unfold MJ7_fill_53178 h_len
  rw [if_pos (by rw [hk]), Option.bind_some, hk]
  refine wh2_rule (fun m v h' => ∃ k, k + m = N ∧ v = nI k ∧ h' = h_rowI h a (fun j => if j < k then x else h.2.1 a j)) ?_ fu N _ _ hf ⟨0, by omega, rfl, ?_⟩
  · rintro m v h' self ⟨k, rfl, rfl, rfl⟩ ih
    show MJ7_fill_53178_B5 (nI (k + m)) a x self _ _ = _
    unfold MJ7_fill_53178_B5
    by_cases hm : m = 0
    · subst hm
      rw [if_pos (show nI (k + 0) ≤ nI k from nI_le (Nat.le_refl _) hN)]
      rfl
    · rw [if_neg (nI_ge (by omega) hN), stI_n (h := h_rowI h a _) (k := k) (n := k + m) hk (by omega) hN, Option.bind_some, rowI_rowI, rowI_at, nI_1, up_lt]
      exact ih (m - 1) _ _ (by omega) ⟨k + 1, by omega, rfl, rfl⟩
  · rw [show (fun j => if j < 0 then x else h.2.1 a j) = h.2.1 a from by funext j; simp, rowI_self]
theorem fillL {fu : Nat} {h : Hp} {a N : Nat} {x : Int64} (hk : h.1 a = (13, N)) (hN : N < 2 ^ 31) (hf : N < fu) : MJ7_fill_d0a16 fu a x h = some (h_rowL h a (fun j => if j < N then x else h.2.2.1 a j)) := by
  unfold MJ7_fill_d0a16 h_len
  rw [if_pos (by rw [hk]), Option.bind_some, hk]
  refine wh2_rule (fun m v h' => ∃ k, k + m = N ∧ v = nI k ∧ h' = h_rowL h a (fun j => if j < k then x else h.2.2.1 a j)) ?_ fu N _ _ hf ⟨0, by omega, rfl, ?_⟩
  · rintro m v h' self ⟨k, rfl, rfl, rfl⟩ ih
    show MJ7_fill_d0a16_B6 (nI (k + m)) a x self _ _ = _
    unfold MJ7_fill_d0a16_B6
    by_cases hm : m = 0
    · subst hm
      rw [if_pos (show nI (k + 0) ≤ nI k from nI_le (Nat.le_refl _) hN)]
      rfl
    · rw [if_neg (nI_ge (by omega) hN), stL_n (h := h_rowL h a _) (k := k) (n := k + m) hk (by omega) hN, Option.bind_some, rowL_rowL, rowL_at, nI_1, up_lt]
      exact ih (m - 1) _ _ (by omega) ⟨k + 1, by omega, rfl, rfl⟩
  · rw [show (fun j => if j < 0 then x else h.2.2.1 a j) = h.2.2.1 a from by funext j; simp, rowL_self]
