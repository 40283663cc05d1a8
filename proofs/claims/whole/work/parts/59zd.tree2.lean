/-! LOAD: what a row of statements says of next ones -/
section Tree2
variable {P : Nat → Int32} {sp cl : Nat → Nat}
def tA (P : Nat → Int32) (q e : Int32) (i0 i1 : Nat) : Prop := ∀ x, i0 ≤ x → x < i1 → (P (493 + x) = q ∧ P (533 + x) = e) ∨ ∃ y, i0 ≤ y ∧ y < x ∧ P (493 + x) = nI y
def tD (P : Nat → Int32) (sp cl : Nat → Nat) (i0 i1 : Nat) : Prop := ∀ x y, i0 ≤ x → x < i1 → i0 ≤ y → y < 40 → P (493 + x) = nI y → y < x ∧ x < cl y ∧ cl y ≤ i1 ∧ ((P (533 + x) = 0 ∧ x < sp y) ∨ (P (533 + x) = 1 ∧ sp y ≤ x))
def tE1 (P : Nat → Int32) (sp cl : Nat → Nat) (i1 j : Nat) : Prop := (j < sp j ∧ sp j ≤ cl j ∧ cl j ≤ i1) ∧ (∀ x, j < x → x < cl j → ∃ y, j ≤ y ∧ y < x ∧ P (493 + x) = nI y) ∧ (j + 1 < sp j → P (493 + (j + 1)) = nI j ∧ P (533 + (j + 1)) = 0) ∧ (sp j < cl j → P (493 + sp j) = nI j ∧ P (533 + sp j) = 1)
def tE2 (P : Nat → Int32) (sp cl : Nat → Nat) (q e : Int32) (i0 i1 j : Nat) : Prop := (P (493 + j) = q ∧ P (533 + j) = e ∧ (cl j < i1 → P (493 + cl j) = q ∧ P (533 + cl j) = e)) ∨ ∃ y, i0 ≤ y ∧ y < j ∧ P (493 + j) = nI y ∧ ((P (533 + j) = 0 ∧ j < sp y ∧ cl j ≤ sp y ∧ (cl j < sp y → P (493 + cl j) = nI y ∧ P (533 + cl j) = 0)) ∨ (P (533 + j) = 1 ∧ sp y ≤ j ∧ cl j ≤ cl y ∧ (cl j < cl y → P (493 + cl j) = nI y ∧ P (533 + cl j) = 1)))
theorem WB_head {f : Nat} {q e : Int32} {a c : Nat} (h : WB P sp cl f q e a c) (hac : a < c) : P (493 + a) = q ∧ P (533 + a) = e := by
  cases f with
  | zero => have : a = c := h; omega
  | succ f => rcases h with h | ⟨-, h, -⟩; omega; exact h
theorem WB_facts : ∀ f q e i0 i1, WB P sp cl f q e i0 i1 → i1 ≤ 40 → (q = -1 ∨ ∃ z, q = nI z ∧ z < i0) → tA P q e i0 i1 ∧ tD P sp cl i0 i1 ∧ ∀ j, i0 ≤ j → j < i1 → tE1 P sp cl i1 j ∧ tE2 P sp cl q e i0 i1 j := by
  intro f
  induction f with
  | zero =>
    intro q e i0 i1 h _ _
    have : i0 = i1 := h
    exact ⟨fun x x1 x2 => by omega, fun x y x1 x2 => by omega, fun j j1 j2 => by omega⟩
  | succ f ih =>
    intro q e i0 i1 h h40 hq
    rcases h with h | ⟨hi, ⟨c1, c2⟩, ⟨d1, d2, d3⟩, S0, S1, S2⟩
    · exact ⟨fun x x1 x2 => by omega, fun x y x1 x2 => by omega, fun j j1 j2 => by omega⟩
    · obtain ⟨A0, D0, E0⟩ := ih _ _ _ _ S0 (by omega) (Or.inr ⟨i0, rfl, by omega⟩)
      obtain ⟨A1, D1, E1⟩ := ih _ _ _ _ S1 (by omega) (Or.inr ⟨i0, rfl, by omega⟩)
      obtain ⟨A2, D2, E2⟩ := ih _ _ _ _ S2 (by omega) (by rcases hq with z | ⟨z, z1, z2⟩; exact Or.inl z; exact Or.inr ⟨z, z1, by omega⟩)
      have nq : ∀ y, i0 ≤ y → y < 40 → q ≠ nI y := by
        intro y y1 y2 z
        rcases hq with u | ⟨u, u1, u2⟩
        · rw [u] at z; exact nI_ne_m1 (by omega) z.symm
        · rw [u1] at z; have := nI_inj (by omega) (by omega) z; omega
      refine ⟨fun x x1 x2 => ?_, fun x y x1 x2 y1 y2 hy => ?_, fun j j1 j2 => ?_⟩
      · by_cases z0 : x = i0
        · rw [z0]; exact Or.inl ⟨c1, c2⟩
        · by_cases z1 : x < sp i0
          · rcases A0 x (by omega) z1 with ⟨a, -⟩ | ⟨y, y1, y2, y3⟩
            · exact Or.inr ⟨i0, Nat.le_refl _, by omega, a⟩
            · exact Or.inr ⟨y, by omega, y2, y3⟩
          · by_cases z2 : x < cl i0
            · rcases A1 x (by omega) z2 with ⟨a, -⟩ | ⟨y, y1, y2, y3⟩
              · exact Or.inr ⟨i0, Nat.le_refl _, by omega, a⟩
              · exact Or.inr ⟨y, by omega, y2, y3⟩
            · rcases A2 x (by omega) x2 with a | ⟨y, y1, y2, y3⟩
              · exact Or.inl a
              · exact Or.inr ⟨y, by omega, y2, y3⟩
      · by_cases z0 : x = i0
        · rw [z0, c1] at hy; exact absurd hy (nq y y1 y2)
        · by_cases z1 : x < sp i0
          · rcases A0 x (by omega) z1 with ⟨a, a2⟩ | ⟨y', u1, u2, u3⟩
            · rw [a] at hy
              have : i0 = y := nI_inj (by omega) (by omega) hy
              subst this
              exact ⟨by omega, by omega, d3, Or.inl ⟨a2, z1⟩⟩
            · rw [u3] at hy
              have : y' = y := nI_inj (by omega) (by omega) hy
              subst this
              obtain ⟨e1, e2, e3, e4⟩ := D0 x y' (by omega) z1 u1 y2 u3
              exact ⟨e1, e2, by omega, e4⟩
          · by_cases z2 : x < cl i0
            · rcases A1 x (by omega) z2 with ⟨a, a2⟩ | ⟨y', u1, u2, u3⟩
              · rw [a] at hy
                have : i0 = y := nI_inj (by omega) (by omega) hy
                subst this
                exact ⟨by omega, z2, d3, Or.inr ⟨a2, by omega⟩⟩
              · rw [u3] at hy
                have : y' = y := nI_inj (by omega) (by omega) hy
                subst this
                obtain ⟨e1, e2, e3, e4⟩ := D1 x y' (by omega) z2 u1 y2 u3
                exact ⟨e1, e2, by omega, e4⟩
            · rcases A2 x (by omega) x2 with ⟨a, -⟩ | ⟨y', u1, u2, u3⟩
              · rw [a] at hy; exact absurd hy (nq y y1 y2)
              · rw [u3] at hy
                have : y' = y := nI_inj (by omega) (by omega) hy
                subst this
                exact D2 x y' (by omega) x2 u1 y2 u3
      · by_cases z0 : j = i0
        · subst z0
          refine ⟨⟨⟨d1, d2, d3⟩, fun x x1 x2 => ?_, fun z => WB_head S0 z, fun z => WB_head S1 z⟩, Or.inl ⟨c1, c2, fun z => WB_head S2 z⟩⟩
          by_cases z1 : x < sp j
          · rcases A0 x (by omega) z1 with ⟨a, -⟩ | ⟨y, y1, y2, y3⟩
            · exact ⟨j, Nat.le_refl _, by omega, a⟩
            · exact ⟨y, by omega, y2, y3⟩
          · rcases A1 x (by omega) x2 with ⟨a, -⟩ | ⟨y, y1, y2, y3⟩
            · exact ⟨j, Nat.le_refl _, by omega, a⟩
            · exact ⟨y, by omega, y2, y3⟩
        · by_cases z1 : j < sp i0
          · obtain ⟨⟨⟨e1, e2, e3⟩, e4⟩, e5⟩ := E0 j (by omega) z1
            refine ⟨⟨⟨e1, e2, by omega⟩, e4⟩, ?_⟩
            rcases e5 with ⟨g1, g2, g3⟩ | ⟨y, y1, y2⟩
            · exact Or.inr ⟨i0, Nat.le_refl _, by omega, g1, Or.inl ⟨g2, z1, e3, g3⟩⟩
            · exact Or.inr ⟨y, by omega, y2⟩
          · by_cases z2 : j < cl i0
            · obtain ⟨⟨⟨e1, e2, e3⟩, e4⟩, e5⟩ := E1 j (by omega) z2
              refine ⟨⟨⟨e1, e2, by omega⟩, e4⟩, ?_⟩
              rcases e5 with ⟨g1, g2, g3⟩ | ⟨y, y1, y2⟩
              · exact Or.inr ⟨i0, Nat.le_refl _, by omega, g1, Or.inr ⟨g2, by omega, e3, g3⟩⟩
              · exact Or.inr ⟨y, by omega, y2⟩
            · obtain ⟨e1, e5⟩ := E2 j (by omega) j2
              refine ⟨e1, ?_⟩
              rcases e5 with g | ⟨y, y1, y2⟩
              · exact Or.inl g
              · exact Or.inr ⟨y, by omega, y2⟩
theorem nxt_at {a c : Int32} : ∀ r j x, j ≤ x → x < j + r → P (493 + x) = a → P (533 + x) = c → (∀ y, j ≤ y → y < x → ¬ (P (493 + y) = a ∧ P (533 + y) = c)) → nxt P no a c r j = nI x := by
  intro r
  induction r with
  | zero => intro j x h1 h2; omega
  | succ r ih =>
    intro j x h1 h2 h3 h4 h5
    unfold nxt
    by_cases e : x = j
    · subst e; rw [if_pos ⟨rfl, h3, h4⟩]
    · rw [if_neg (fun z => h5 j (Nat.le_refl _) (by omega) z.2)]
      exact ih (j + 1) x (by omega) (by omega) h3 h4 (fun y y1 y2 => h5 y (by omega) y2)
theorem nxt_no {a c : Int32} : ∀ r j, (∀ y, j ≤ y → y < j + r → ¬ (P (493 + y) = a ∧ P (533 + y) = c)) → nxt P no a c r j = -1 := by
  intro r
  induction r with
  | zero => intro j _; rfl
  | succ r ih =>
    intro j h
    unfold nxt
    rw [if_neg (fun z => h j (Nat.le_refl _) (by omega) z.2)]
    exact ih (j + 1) (fun y y1 y2 => h y (by omega) (by omega))
/-- where the block ends in which j stands -/
def bEn (P : Nat → Int32) (sp cl : Nat → Nat) (N j : Nat) : Nat := if P (493 + j) = -1 then N else if j < sp (nN (P (493 + j))) then sp (nN (P (493 + j))) else cl (nN (P (493 + j)))
theorem nx_sib {f N j : Nat} (wb : WB P sp cl f (-1) 0 0 N) (hN : N ≤ 40) (hj : j < N) : nxt P no (P (493 + j)) (P (533 + j)) (N - (j + 1)) (j + 1) = (if cl j < bEn P sp cl N j then nI (cl j) else -1) ∧ cl j ≤ bEn P sp cl N j ∧ bEn P sp cl N j ≤ N := by
  obtain ⟨A, D, E⟩ := WB_facts f _ _ _ _ wb hN (Or.inl rfl)
  obtain ⟨⟨⟨e1, e2, e3⟩, e4, -⟩, e5⟩ := E j (Nat.zero_le _) hj
  have inn : ∀ x a, j < x → x < cl j → (a = -1 ∨ ∃ y, a = nI y ∧ y < j) → P (493 + x) ≠ a := by
    intro x a x1 x2 ha z
    obtain ⟨y, y1, y2, y3⟩ := e4 x x1 x2
    rw [y3] at z
    rcases ha with u | ⟨u, u1, u2⟩
    · rw [u] at z; exact nI_ne_m1 (by omega) z
    · rw [u1] at z; have := nI_inj (by omega) (by omega) z; omega
  unfold bEn
  rcases e5 with ⟨g1, g2, g3⟩ | ⟨y, y1, y2, g1, g2⟩
  · rw [if_pos g1, g1, g2]
    refine ⟨?_, e3, Nat.le_refl _⟩
    by_cases c : cl j < N
    · rw [if_pos c]
      obtain ⟨k1, k2⟩ := g3 c
      exact nxt_at _ _ _ (by omega) (by omega) k1 k2 (fun y y1 y2 z => inn y (-1) (by omega) y2 (Or.inl rfl) z.1)
    · rw [if_neg c]
      exact nxt_no _ _ (fun y y1 y2 z => inn y (-1) (by omega) (by omega) (Or.inl rfl) z.1)
  · have ny : nN (P (493 + j)) = y := by rw [g1, nN_nI (by omega)]
    have dy : ∀ x, j < x → x < N → P (493 + x) = nI y → x < cl y ∧ ((P (533 + x) = 0 ∧ x < sp y) ∨ (P (533 + x) = 1 ∧ sp y ≤ x)) := fun x x1 x2 x3 => by
      obtain ⟨-, k2, -, k4⟩ := D x y (Nat.zero_le _) x2 (Nat.zero_le _) (by omega) x3
      exact ⟨k2, k4⟩
    have dj := D j y (Nat.zero_le _) hj (Nat.zero_le _) (by omega) g1
    have ey := (E y (Nat.zero_le _) (by omega)).1.1
    have nm : ¬ P (493 + j) = -1 := by rw [g1]; exact nI_ne_m1 (a := y) (by omega)
    simp only [if_neg nm, ny]
    rw [g1]
    rcases g2 with ⟨k1, k2, k3, k4⟩ | ⟨k1, k2, k3, k4⟩
    · rw [if_pos k2, k1]
      refine ⟨?_, k3, by omega⟩
      by_cases c : cl j < sp y
      · rw [if_pos c]
        obtain ⟨u1, u2⟩ := k4 c
        exact nxt_at _ _ _ (by omega) (by omega) u1 u2 (fun x x1 x2 z => inn x (nI y) (by omega) x2 (Or.inr ⟨y, rfl, y2⟩) z.1)
      · rw [if_neg c]
        refine nxt_no _ _ (fun x x1 x2 z => ?_)
        by_cases w : x < cl j
        · exact inn x (nI y) (by omega) w (Or.inr ⟨y, rfl, y2⟩) z.1
        · rcases (dy x (by omega) (by omega) z.1).2 with ⟨-, v⟩ | ⟨v, -⟩
          · omega
          · rw [z.2] at v; exact absurd v (by decide)
    · rw [if_neg (show ¬ j < sp y by omega), k1]
      refine ⟨?_, k3, by omega⟩
      by_cases c : cl j < cl y
      · rw [if_pos c]
        obtain ⟨u1, u2⟩ := k4 c
        exact nxt_at _ _ _ (by omega) (by omega) u1 u2 (fun x x1 x2 z => inn x (nI y) (by omega) x2 (Or.inr ⟨y, rfl, y2⟩) z.1)
      · rw [if_neg c]
        refine nxt_no _ _ (fun x x1 x2 z => ?_)
        by_cases w : x < cl j
        · exact inn x (nI y) (by omega) w (Or.inr ⟨y, rfl, y2⟩) z.1
        · have := (dy x (by omega) (by omega) z.1).1
          omega
theorem nx_blk {f N i : Nat} (wb : WB P sp cl f (-1) 0 0 N) (hN : N ≤ 40) (hi : i < N) : nxt P no (nI i) 0 (N - (i + 1)) (i + 1) = (if i + 1 < sp i then nI (i + 1) else -1) ∧ nxt P no (nI i) 1 (N - (i + 1)) (i + 1) = (if sp i < cl i then nI (sp i) else -1) ∧ i < sp i ∧ sp i ≤ cl i ∧ cl i ≤ N ∧ (sp i < cl i → P (493 + sp i) = nI i ∧ P (533 + sp i) = 1) := by
  obtain ⟨A, D, E⟩ := WB_facts f _ _ _ _ wb hN (Or.inl rfl)
  obtain ⟨⟨⟨e1, e2, e3⟩, e4, e5, e6⟩, -⟩ := E i (Nat.zero_le _) hi
  have dy : ∀ x, i < x → x < N → P (493 + x) = nI i → x < cl i ∧ ((P (533 + x) = 0 ∧ x < sp i) ∨ (P (533 + x) = 1 ∧ sp i ≤ x)) := fun x x1 x2 x3 => by
    obtain ⟨-, k2, -, k4⟩ := D x i (Nat.zero_le _) x2 (Nat.zero_le _) (by omega) x3
    exact ⟨k2, k4⟩
  refine ⟨?_, ?_, e1, e2, e3, e6⟩
  · by_cases c : i + 1 < sp i
    · rw [if_pos c]
      obtain ⟨u1, u2⟩ := e5 c
      exact nxt_at _ _ _ (by omega) (by omega) u1 u2 (fun x x1 x2 z => by omega)
    · rw [if_neg c]
      refine nxt_no _ _ (fun x x1 x2 z => ?_)
      rcases (dy x (by omega) (by omega) z.1).2 with ⟨-, v⟩ | ⟨v, -⟩
      · omega
      · rw [z.2] at v; exact absurd v (by decide)
  · by_cases c : sp i < cl i
    · rw [if_pos c]
      obtain ⟨u1, u2⟩ := e6 c
      refine nxt_at _ _ _ (by omega) (by omega) u1 u2 (fun x x1 x2 z => ?_)
      rcases (dy x (by omega) (by omega) z.1).2 with ⟨v, -⟩ | ⟨-, v⟩
      · rw [z.2] at v; exact absurd v (by decide)
      · omega
    · rw [if_neg c]
      refine nxt_no _ _ (fun x x1 x2 z => ?_)
      obtain ⟨w1, w2⟩ := dy x (by omega) (by omega) z.1
      rcases w2 with ⟨v, -⟩ | ⟨-, v⟩
      · rw [z.2] at v; exact absurd v (by decide)
      · omega
end Tree2
