/-! LOAD: the text b of n bytes, as both read it -/
def blk (c : Nat) : Bool := decide (c = 32) || decide (c = 10)
def ltr (c : Nat) : Bool := decide (97 ≤ c) && decide (c ≤ 122)
/-- the first place from q on that is no blank -/
def bkF (b : Nat → Nat) (n : Nat) : Nat → Nat → Nat
  | 0, q => q
  | f + 1, q => if q < n ∧ blk (b q) = true then bkF b n f (q + 1) else q
def lexP (b : Nat → Nat) (n q : Nat) : Nat := bkF b n (n - q) q
/-- the first place from q on that is no letter -/
def wEF (b : Nat → Nat) (n : Nat) : Nat → Nat → Nat
  | 0, q => q
  | f + 1, q => if q < n ∧ ltr (b q) = true then wEF b n f (q + 1) else q
def wE (b : Nat → Nat) (n q : Nat) : Nat := wEF b n (n - q) q
/-- the number of a word of k letters from p on, to a base -/
def wv (B : Nat) (b : Nat → Nat) (p : Nat) : Nat → Nat
  | 0 => 0
  | k + 1 => wv B b p k * B + (b (p + k) - 96)
def sgT (c : Nat) : Nat := if c = 59 then 19 else if c = 123 then 20 else if c = 125 then 21 else 23
def rsU (x : Nat) : Nat → Nat → Nat
  | 0, _ => 18
  | f + 1, i => if rsv i = x then i else rsU x f (i + 1)
def rsT (x : Nat) : Nat := rsU x 18 0
/-- the token at p: 0 to 17 a word that is no name, 18 a name, 19 to 21 signs, 22 the end, 23 none -/
def tk (b : Nat → Nat) (n p : Nat) : Nat := if n ≤ p then 22 else if wE b n p = p then sgT (b p) else if 8 < wE b n p - p then 23 else rsT (wv 32 b p (wE b n p - p))
def qk (b : Nat → Nat) (n p : Nat) : Nat := if n ≤ p then p else if wE b n p = p then p + 1 else wE b n p
/-- where the next token begins -/
def nx (b : Nat → Nat) (n p : Nat) : Nat := lexP b n (qk b n p)
section Lex
variable {b : Nat → Nat} {n p q k x i : Nat}
theorem lexP_s (h : q < n) (h2 : blk (b q) = true) : lexP b n q = lexP b n (q + 1) := by
  unfold lexP
  rw [show n - q = (n - (q + 1)) + 1 by omega]
  show (if _ then _ else _) = _
  rw [if_pos ⟨h, h2⟩]
theorem lexP_e (h : ¬ (q < n ∧ blk (b q) = true)) : lexP b n q = q := by
  unfold lexP
  cases n - q with
  | zero => rfl
  | succ f => show (if _ then _ else _) = _; rw [if_neg h]
theorem wE_s (h : q < n) (h2 : ltr (b q) = true) : wE b n q = wE b n (q + 1) := by
  unfold wE
  rw [show n - q = (n - (q + 1)) + 1 by omega]
  show (if _ then _ else _) = _
  rw [if_pos ⟨h, h2⟩]
theorem wE_e (h : ¬ (q < n ∧ ltr (b q) = true)) : wE b n q = q := by
  unfold wE
  cases n - q with
  | zero => rfl
  | succ f => show (if _ then _ else _) = _; rw [if_neg h]
theorem lexP_le : ∀ r q, n - q ≤ r → q ≤ n → q ≤ lexP b n q ∧ lexP b n q ≤ n := by
  intro r
  induction r with
  | zero => intro q h1 h2; rw [lexP_e (fun z => by omega)]; omega
  | succ r ih =>
    intro q h1 h2
    by_cases c : q < n ∧ blk (b q) = true
    · rw [lexP_s c.1 c.2]
      have := ih (q + 1) (by omega) (by omega)
      omega
    · rw [lexP_e c]; omega
theorem wE_le : ∀ r q, n - q ≤ r → q ≤ n → q ≤ wE b n q ∧ wE b n q ≤ n ∧ ∀ j, q ≤ j → j < wE b n q → ltr (b j) = true := by
  intro r
  induction r with
  | zero => intro q h1 h2; rw [wE_e (fun z => by omega)]; exact ⟨by omega, by omega, fun j h3 h4 => by omega⟩
  | succ r ih =>
    intro q h1 h2
    by_cases c : q < n ∧ ltr (b q) = true
    · rw [wE_s c.1 c.2]
      obtain ⟨a1, a2, a3⟩ := ih (q + 1) (by omega) (by omega)
      refine ⟨by omega, a2, fun j h3 h4 => ?_⟩
      by_cases e : j = q
      · rw [e]; exact c.2
      · exact a3 j (by omega) h4
    · rw [wE_e c]; exact ⟨by omega, by omega, fun j h3 h4 => by omega⟩
theorem qk_le (h : p ≤ n) : p ≤ qk b n p ∧ qk b n p ≤ n ∧ (p < n → p < qk b n p) := by
  unfold qk
  obtain ⟨a1, a2, -⟩ := wE_le (b := b) (n := n) (n - p) p (Nat.le_refl _) h
  by_cases c : n ≤ p
  · rw [if_pos c]; omega
  · rw [if_neg c]
    by_cases d : wE b n p = p
    · rw [if_pos d]; omega
    · rw [if_neg d]; omega
theorem nx_le (h : p ≤ n) : p ≤ nx b n p ∧ nx b n p ≤ n ∧ (p < n → p < nx b n p) := by
  obtain ⟨a1, a2, a3⟩ := qk_le (b := b) h
  have := lexP_le (b := b) (n := n) (n - qk b n p) (qk b n p) (Nat.le_refl _) a2
  unfold nx
  omega
theorem rsU_le : ∀ f i, i + f = 18 → rsU x f i ≤ 18 := by
  intro f
  induction f with
  | zero => intro i _; exact Nat.le_refl _
  | succ f ih =>
    intro i hi
    show (if _ then _ else _) ≤ 18
    split
    · omega
    · exact ih (i + 1) (by omega)
theorem rsT_le : rsT x ≤ 18 := rsU_le 18 0 rfl
theorem rsU_is : ∀ f i, i + f = 18 → (rsU x f i = 18 ∧ ∀ j, i ≤ j → j < 18 → rsv j ≠ x) ∨ (i ≤ rsU x f i ∧ rsU x f i < 18 ∧ rsv (rsU x f i) = x) := by
  intro f
  induction f with
  | zero => intro i hi; exact Or.inl ⟨rfl, fun j h1 h2 => by omega⟩
  | succ f ih =>
    intro i hi
    have e : rsU x (f + 1) i = if rsv i = x then i else rsU x f (i + 1) := rfl
    by_cases c : rsv i = x
    · rw [e, if_pos c]; exact Or.inr ⟨Nat.le_refl _, by omega, c⟩
    · rw [e, if_neg c]
      rcases ih (i + 1) (by omega) with ⟨h1, h2⟩ | ⟨h1, h2, h3⟩
      · refine Or.inl ⟨h1, fun j j1 j2 => ?_⟩
        by_cases d : j = i
        · rw [d]; exact c
        · exact h2 j (by omega) j2
      · exact Or.inr ⟨by omega, h2, h3⟩
theorem rsT_is : (rsT x = 18 ∧ ∀ j, j < 18 → rsv j ≠ x) ∨ (rsT x < 18 ∧ rsv (rsT x) = x) := by
  rcases rsU_is (x := x) 18 0 rfl with ⟨h1, h2⟩ | ⟨-, h2, h3⟩
  · exact Or.inl ⟨h1, fun j hj => h2 j (Nat.zero_le _) hj⟩
  · exact Or.inr ⟨h2, h3⟩
theorem sgT_is {c : Nat} : (sgT c = 19 ∧ c = 59) ∨ (sgT c = 20 ∧ c = 123) ∨ (sgT c = 21 ∧ c = 125) ∨ (sgT c = 23 ∧ c ≠ 59 ∧ c ≠ 123 ∧ c ≠ 125) := by
  unfold sgT
  by_cases c1 : c = 59
  · rw [if_pos c1]; exact Or.inl ⟨rfl, c1⟩
  rw [if_neg c1]
  by_cases c2 : c = 123
  · rw [if_pos c2]; exact Or.inr (Or.inl ⟨rfl, c2⟩)
  rw [if_neg c2]
  by_cases c3 : c = 125
  · rw [if_pos c3]; exact Or.inr (Or.inr (Or.inl ⟨rfl, c3⟩))
  rw [if_neg c3]; exact Or.inr (Or.inr (Or.inr ⟨rfl, c1, c2, c3⟩))
theorem tk_end : tk b n p = 22 ↔ n ≤ p := by
  unfold tk
  by_cases c : n ≤ p
  · rw [if_pos c]; exact ⟨fun _ => c, fun _ => rfl⟩
  · rw [if_neg c]
    refine ⟨fun z => ?_, fun z => absurd z c⟩
    exfalso
    split at z
    · rcases sgT_is (c := b p) with ⟨e, -⟩ | ⟨e, -⟩ | ⟨e, -⟩ | ⟨e, -⟩ <;> omega
    · split at z
      · omega
      · have := rsT_le (x := wv 32 b p (wE b n p - p)); omega
/-- a word stands at p -/
theorem tk_word (h : tk b n p ≤ 18) (hp : p ≤ n) : p < n ∧ qk b n p = wE b n p ∧ p < wE b n p ∧ wE b n p - p ≤ 8 ∧ tk b n p = rsT (wv 32 b p (wE b n p - p)) ∧ ∀ j, j < wE b n p - p → 97 ≤ b (p + j) ∧ b (p + j) ≤ 122 := by
  obtain ⟨a1, a2, a3⟩ := wE_le (b := b) (n := n) (n - p) p (Nat.le_refl _) hp
  unfold tk at h ⊢
  unfold qk
  by_cases c : n ≤ p
  · rw [if_pos c] at h; omega
  · rw [if_neg c] at h ⊢
    rw [if_neg c]
    by_cases d : wE b n p = p
    · rw [if_pos d] at h
      rcases sgT_is (c := b p) with ⟨e, -⟩ | ⟨e, -⟩ | ⟨e, -⟩ | ⟨e, -⟩ <;> omega
    · rw [if_neg d] at h ⊢
      rw [if_neg d]
      by_cases e : 8 < wE b n p - p
      · rw [if_pos e] at h; omega
      · rw [if_neg e]
        refine ⟨by omega, rfl, by omega, by omega, rfl, fun j hj => ?_⟩
        have := a3 (p + j) (by omega) (by omega)
        unfold ltr at this
        rw [Bool.and_eq_true, decide_eq_true_eq, decide_eq_true_eq] at this
        exact this
end Lex
/-- the same word, written to the base 32 and to the base 27 -/
def WR (x y : Int64) : Prop := ∃ (b : Nat → Nat) (p k : Nat), k ≤ 8 ∧ (∀ j, j < k → 97 ≤ b (p + j) ∧ b (p + j) ≤ 122) ∧ x = lN (wv 32 b p k) ∧ y = lN (wv 27 b p k)
theorem wv_lt {B : Nat} {b : Nat → Nat} {p : Nat} (hB : 27 ≤ B) : ∀ k, (∀ j, j < k → 97 ≤ b (p + j) ∧ b (p + j) ≤ 122) → wv B b p k < B ^ k := by
  intro k
  induction k with
  | zero => intro _; exact Nat.one_pos
  | succ k ih =>
    intro h
    have := ih (fun j hj => h j (by omega))
    have d := h k (by omega)
    show wv B b p k * B + (b (p + k) - 96) < B ^ (k + 1)
    rw [Nat.pow_succ]
    have : (wv B b p k + 1) * B ≤ B ^ k * B := Nat.mul_le_mul_right _ this
    rw [Nat.add_mul] at this
    omega
theorem wv_small {B : Nat} {b : Nat → Nat} {p k : Nat} (hB : 27 ≤ B) (hB2 : B ≤ 32) (hk : k ≤ 8) (h : ∀ j, j < k → 97 ≤ b (p + j) ∧ b (p + j) ≤ 122) : wv B b p k < 2 ^ 62 := by
  have a := wv_lt hB k h
  have c1 : B ^ k ≤ 32 ^ k := Nat.pow_le_pow_left hB2 k
  have c2 : 32 ^ k ≤ 32 ^ 8 := Nat.pow_le_pow_right (by decide) hk
  have c3 : (32 : Nat) ^ 8 < 2 ^ 62 := by decide
  omega
theorem wv_pos {B : Nat} {b : Nat → Nat} {p k : Nat} (h : ∀ j, j < k + 1 → 97 ≤ b (p + j) ∧ b (p + j) ≤ 122) : 1 ≤ wv B b p (k + 1) := by
  have := h k (by omega)
  show 1 ≤ wv B b p k * B + (b (p + k) - 96)
  omega
theorem wv_dig {B x y d e : Nat} (hd : d < B) (he : e < B) : x * B + d = y * B + e ↔ x = y ∧ d = e := by
  constructor
  · intro h
    have m := congrArg (· % B) h
    simp only [Nat.mul_add_mod_self_right, Nat.mod_eq_of_lt hd, Nat.mod_eq_of_lt he] at m
    subst m
    have : x * B = y * B := by omega
    exact ⟨Nat.eq_of_mul_eq_mul_right (by omega) this, rfl⟩
  · rintro ⟨rfl, rfl⟩; rfl
theorem wv_iff {b b' : Nat → Nat} {p p' : Nat} : ∀ k k', (∀ j, j < k → 97 ≤ b (p + j) ∧ b (p + j) ≤ 122) → (∀ j, j < k' → 97 ≤ b' (p' + j) ∧ b' (p' + j) ≤ 122) → (wv 32 b p k = wv 32 b' p' k' ↔ wv 27 b p k = wv 27 b' p' k') := by
  intro k
  induction k with
  | zero =>
    intro k' _ h'
    cases k' with
    | zero => exact ⟨fun _ => rfl, fun _ => rfl⟩
    | succ k' =>
      have a := wv_pos (B := 32) h'
      have c := wv_pos (B := 27) h'
      show 0 = _ ↔ 0 = _
      omega
  | succ k ih =>
    intro k' h h'
    cases k' with
    | zero =>
      have a := wv_pos (B := 32) h
      have c := wv_pos (B := 27) h
      show _ = 0 ↔ _ = 0
      omega
    | succ k' =>
      have d := h k (by omega)
      have d' := h' k' (by omega)
      show wv 32 b p k * 32 + (b (p + k) - 96) = wv 32 b' p' k' * 32 + (b' (p' + k') - 96) ↔ wv 27 b p k * 27 + (b (p + k) - 96) = wv 27 b' p' k' * 27 + (b' (p' + k') - 96)
      rw [wv_dig (by omega) (by omega), wv_dig (by omega) (by omega), ih k' (fun j hj => h j (by omega)) (fun j hj => h' j (by omega))]
theorem WR_iff {x y x' y' : Int64} (h : WR x y) (h' : WR x' y') : x = x' ↔ y = y' := by
  obtain ⟨b, p, k, h1, h2, rfl, rfl⟩ := h
  obtain ⟨b', p', k', g1, g2, rfl, rfl⟩ := h'
  have e : ∀ {a c : Nat}, a < 2 ^ 62 → c < 2 ^ 62 → (lN a = lN c ↔ a = c) := fun ha hc => ⟨lN_inj ha hc, fun z => by rw [z]⟩
  rw [e (wv_small (by decide) (by decide) h1 h2) (wv_small (by decide) (by decide) g1 g2), e (wv_small (by decide) (by decide) h1 h2) (wv_small (by decide) (by decide) g1 g2)]
  exact wv_iff k k' h2 g2
/-- the words that are no names, letter by letter -/
def rsL (i : Nat) : List Nat := [[107, 105, 110, 100], [101, 110, 100], [99, 97, 108, 108], [116, 101, 115, 116], [108, 111, 111, 107], [118, 97, 114], [101, 108, 115, 101], [110, 101, 119], [109, 111, 118, 101], [115, 104, 97, 114, 101], [108, 101, 110, 100], [106, 111, 105, 110], [100, 114, 111, 112], [100, 111], [105, 102], [119, 104, 105, 108, 101], [109, 97, 121, 98, 101], [108, 111, 111, 112]].getD i []
/-- the number that the reference has of it -/
def mpW (i : Nat) : Nat := if i < 6 then i else if i = 6 then 21 else i + 3
theorem rs_all : ∀ i, i < 18 → (rsL i).length ≤ 8 ∧ (∀ j, j < (rsL i).length → 97 ≤ (rsL i).getD (0 + j) 0 ∧ (rsL i).getD (0 + j) 0 ≤ 122) ∧ rsv i = wv 32 (fun j => (rsL i).getD j 0) 0 (rsL i).length ∧ MX9_wordOf (nI (mpW i)) = some (lN (wv 27 (fun j => (rsL i).getD j 0) 0 (rsL i).length)) := by decide +kernel
theorem rs_WR {i : Nat} (hi : i < 18) : ∃ y, MX9_wordOf (nI (mpW i)) = some y ∧ WR (lN (rsv i)) y := by
  obtain ⟨h1, h2, h3, h4⟩ := rs_all i hi
  exact ⟨_, h4, _, 0, _, h1, h2, by rw [h3], rfl⟩
theorem wo_none : ∀ k, k < 22 → (∃ i, i < 18 ∧ mpW i = k) ∨ MX9_wordOf (nI k) = some (-1) := by decide +kernel
theorem mp_inj : ∀ i, i < 18 → ∀ j, j < 18 → mpW i = mpW j → i = j := by decide +kernel
theorem rsv_inj : ∀ i, i < 18 → ∀ j, j < 18 → rsv i = rsv j → i = j := by decide +kernel
theorem rsv_small : ∀ i, i < 18 → rsv i < 2 ^ 62 := by decide +kernel
