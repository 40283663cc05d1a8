/-! A STATEMENT LEFT OUT: the class passes it by, the reference leaves it out with all within it -/
def SubT (P : Nat → Int32) (lo : Nat) (out : Nat → Bool) : Prop := ∀ j, j < nT P → (j < lo → out j = false) ∧ (j = lo → out j = true) ∧ (lo < j → (out j = true ↔ ∃ q, q < j ∧ P (493 + j) = nI q ∧ out q = true))
section Without
variable {P : Nat → Int32} {D : Nat → Nat} {lo : Nat} {out : Nat → Bool}
theorem ST_up (h : SubT P lo out) {j : Nat} (hj : j < nT P) (ho : out j = true) (ne : j ≠ lo) : ∃ q, q < j ∧ P (493 + j) = nI q ∧ out q = true := by
  obtain ⟨h1, -, h3⟩ := h j hj
  by_cases c : j < lo
  · rw [h1 c] at ho; cases ho
  · exact (h3 (by omega)).mp ho
theorem ST_dn (h : SubT P lo out) {j q : Nat} (hj : j < nT P) (hq : q < j) (e : P (493 + j) = nI q) (ho : out q = true) : out j = true := by
  obtain ⟨h1, -, -⟩ := h q (by omega)
  have : ¬ q < lo := fun c => by rw [h1 c] at ho; cases ho
  exact ((h j hj).2.2 (by omega)).mpr ⟨q, hq, e, ho⟩
/-- a parent that isn't left out: its children that are, are lo -/
def inn (P : Nat → Int32) (out : Nat → Bool) (a : Int32) : Prop := a = -1 ∨ ∃ q, q < nT P ∧ a = nI q ∧ out q = false
theorem inn_lo (h40 : nT P ≤ 40) (h : SubT P lo out) {a : Int32} (ha : inn P out a) {j : Nat} (hj : j < nT P) (e : P (493 + j) = a) (ho : out j = true) : j = lo := by
  apply Classical.byContradiction
  intro ne
  obtain ⟨q, q1, q2, q3⟩ := ST_up h hj ho ne
  rw [e] at q2
  rcases ha with rfl | ⟨q', l, rfl, o⟩
  · exact nI_ne_m1 (by omega) q2.symm
  · have := nI_inj (by omega) (by omega) q2
    subst this
    rw [o] at q3; cases q3
theorem nxt_hi (h40 : nT P ≤ 40) (h : SubT P lo out) {a b : Int32} (ha : inn P out a) : ∀ r j, j + r ≤ nT P → lo < j → nxt P out a b r j = nxt P no a b r j := by
  intro r
  induction r with
  | zero => intro j _ _; rfl
  | succ r ih =>
    intro j hj hl
    unfold nxt
    rw [ih (j + 1) (by omega) (by omega)]
    by_cases c : P (493 + j) = a ∧ P (533 + j) = b
    · have o : out j = false := by
        cases q : out j
        · rfl
        · have := inn_lo h40 h ha (by omega) c.1 q; omega
      rw [if_pos ⟨o, c⟩, if_pos ⟨rfl, c⟩]
    · rw [if_neg (fun q => c q.2), if_neg (fun q => c q.2)]
theorem nxt_out (h40 : nT P ≤ 40) (h : SubT P lo out) (hlo : lo < nT P) {a b : Int32} (ha : inn P out a) : ∀ r j, j + r = nT P → nxt P out a b r j = if nxt P no a b r j = nI lo then nxt P no a b (nT P - (lo + 1)) (lo + 1) else nxt P no a b r j := by
  intro r
  induction r with
  | zero =>
    intro j _
    show -1 = if (-1 : Int32) = nI lo then _ else (-1 : Int32)
    rw [if_neg (fun q => nI_ne_m1 (by omega) q.symm)]
  | succ r ih =>
    intro j hj
    show (if _ then _ else _) = if (if _ then _ else _) = nI lo then _ else (if _ then _ else _)
    by_cases c : P (493 + j) = a ∧ P (533 + j) = b
    · rw [if_pos (show no j = false ∧ P (493 + j) = a ∧ P (533 + j) = b from ⟨rfl, c⟩)]
      cases o : out j
      · rw [if_pos ⟨rfl, c⟩]
        have : j ≠ lo := by rintro rfl; rw [(h j hlo).2.1 rfl] at o; cases o
        rw [if_neg (fun q => this (nI_inj (by omega) (by omega) q))]
      · have := inn_lo h40 h ha (by omega) c.1 o
        subst this
        rw [if_neg (fun q => by cases q.1), if_pos rfl, nxt_hi h40 h ha r (j + 1) (by omega) (by omega), show nT P - (j + 1) = r by omega]
    · have c1 : ¬ (out j = false ∧ P (493 + j) = a ∧ P (533 + j) = b) := fun q => c q.2
      have c2 : ¬ (no j = false ∧ P (493 + j) = a ∧ P (533 + j) = b) := fun q => c q.2
      rw [if_neg c1, if_neg c2]
      exact ih (j + 1) (by omega)
theorem beh_fuel (h40 : nT P ≤ 40) (hS : WFs P D) : ∀ f f' i, i < nT P → D i < f → D i < f' → beh P out f i = beh P out f' i := by
  intro f
  induction f with
  | zero => intro f' i _ h; omega
  | succ f ih =>
    intro f' i hi h1 h2
    obtain ⟨g, rfl⟩ : ∃ g, f' = g + 1 := ⟨f' - 1, by omega⟩
    unfold beh
    rcases (hS i hi).2.2 with ⟨e, -⟩ | ⟨q, q1, q2, q3, -⟩
    · rw [if_pos e, if_pos e]
    · rw [q2, nN_nI (by omega), ih g q (by omega) (by omega) (by omega)]
theorem beh_par (hn : WFn P) (hS : WFs P D) : ∀ f q t, q < nT P → D q < f → t < nT P → beh P out f q = nI t → t < q ∨ P (493 + t) = -1 ∨ ∃ q', q' < q ∧ P (493 + t) = nI q' := by
  have h40 := hn.2.2.2
  intro f
  induction f with
  | zero => intro q t _ h; omega
  | succ f ih =>
    intro q t hq hd ht e
    unfold beh at e
    by_cases c : nxt P out (P (493 + q)) (P (533 + q)) (nT P - (q + 1)) (q + 1) = -1
    · rw [if_pos c] at e
      rcases (hS q hq).2.2 with ⟨h1, -⟩ | ⟨q', h1, h2, h3, -⟩
      · rw [if_pos h1, hn.2.2.1] at e
        have := nI_inj (by omega) (by omega) e
        omega
      · rw [h2, if_neg (nI_ne_m1 (by omega)), nN_nI (by omega)] at e
        split at e
        · have := nI_inj (by omega) (by omega) e
          exact Or.inl (by omega)
        · rcases ih q' t (by omega) (by omega) ht e with z | z | ⟨q'', z1, z2⟩
          · exact Or.inl (by omega)
          · exact Or.inr (Or.inl z)
          · exact Or.inr (Or.inr ⟨q'', by omega, z2⟩)
    · rw [if_neg c] at e
      rcases nxt_of (P := P) (out := out) (a := P (493 + q)) (b := P (533 + q)) (nT P - (q + 1)) (q + 1) with z | ⟨j, j1, j2, j3, -, j5, -⟩
      · exact absurd z c
      · rw [j3] at e
        have := nI_inj (by omega) (by omega) e
        subst this
        rcases (hS q hq).2.2 with ⟨h1, -⟩ | ⟨q', h1, h2, -⟩
        · exact Or.inr (Or.inl (by rw [j5, h1]))
        · exact Or.inr (Or.inr ⟨q', h1, by rw [j5, h2]⟩)
/-- where a link leads when lo is left out -/
def rd (P : Nat → Int32) (lo : Nat) (x : Int32) : Int32 := if x = nI lo then beh P no 8 lo else x
theorem inn_of (hS : WFs P D) (h : SubT P lo out) {i : Nat} (hi : i < nT P) (ho : out i = false) : inn P out (P (493 + i)) := by
  rcases (hS i hi).2.2 with ⟨e, -⟩ | ⟨q, q1, q2, -⟩
  · exact Or.inl e
  · refine Or.inr ⟨q, by omega, q2, ?_⟩
    cases o : out q
    · rfl
    · rw [ST_dn h hi q1 q2 o] at ho; cases ho
theorem beh_out (hn : WFn P) (hS : WFs P D) (h : SubT P lo out) (hlo : lo < nT P) : ∀ f i, i < nT P → out i = false → D i < f → f ≤ 8 → beh P out f i = rd P lo (beh P no f i) := by
  have h40 := hn.2.2.2
  intro f
  induction f with
  | zero => intro i _ _ h; omega
  | succ f ih =>
    intro i hi ho hd hf
    have hin := inn_of hS h hi ho
    have nx := nxt_out h40 h hlo (b := P (533 + i)) hin (nT P - (i + 1)) (i + 1) (by omega)
    have ne_nT : ¬ P 2 = nI lo := fun q => by rw [hn.2.2.1] at q; have := nI_inj (by omega) (by omega) q; omega
    have up : (if P (493 + i) = -1 then P 2 else if rnd (P (333 + nN (P (493 + i)))) = true then P (493 + i) else beh P out f (nN (P (493 + i)))) = rd P lo (if P (493 + i) = -1 then P 2 else if rnd (P (333 + nN (P (493 + i)))) = true then P (493 + i) else beh P no f (nN (P (493 + i)))) := by
      rcases (hS i hi).2.2 with ⟨e, -⟩ | ⟨q, q1, q2, q3, -⟩
      · rw [if_pos e, if_pos e]
        unfold rd
        rw [if_neg ne_nT]
      · have oq : out q = false := by
          cases o : out q
          · rfl
          · rw [ST_dn h hi q1 q2 o] at ho; cases ho
        have nq : q ≠ lo := by rintro rfl; rw [(h q hlo).2.1 rfl] at oq; cases oq
        rw [q2, if_neg (nI_ne_m1 (by omega)), if_neg (nI_ne_m1 (by omega)), nN_nI (by omega)]
        by_cases c : rnd (P (333 + q)) = true
        · rw [if_pos c, if_pos c]
          unfold rd
          rw [if_neg (fun z => nq (nI_inj (by omega) (by omega) z))]
        · rw [if_neg c, if_neg c]
          exact ih q (by omega) oq (by omega) (by omega)
    show (if _ then _ else _) = rd P lo (if _ then _ else _)
    by_cases c : nxt P no (P (493 + i)) (P (533 + i)) (nT P - (i + 1)) (i + 1) = nI lo
    · have c1 : ¬ nxt P no (P (493 + i)) (P (533 + i)) (nT P - (i + 1)) (i + 1) = -1 := by rw [c]; exact nI_ne_m1 (by omega)
      rw [if_pos c] at nx
      rw [if_neg c1, c]
      unfold rd
      rw [if_pos rfl, nx]
      -- lo stands beside i
      obtain ⟨z5, z6⟩ : P (493 + lo) = P (493 + i) ∧ P (533 + lo) = P (533 + i) := by
        rcases nxt_of (P := P) (out := no) (a := P (493 + i)) (b := P (533 + i)) (nT P - (i + 1)) (i + 1) with z | ⟨j, j1, j2, j3, -, j5, j6⟩
        · exact absurd z c1
        · rw [c] at j3
          have := nI_inj (by omega) (by omega) j3
          subst this
          exact ⟨j5, j6⟩
      show _ = if nxt P no (P (493 + lo)) (P (533 + lo)) (nT P - (lo + 1)) (lo + 1) = -1 then (if P (493 + lo) = -1 then P 2 else if rnd (P (333 + nN (P (493 + lo)))) = true then P (493 + lo) else beh P no 7 (nN (P (493 + lo)))) else nxt P no (P (493 + lo)) (P (533 + lo)) (nT P - (lo + 1)) (lo + 1)
      rw [z5, z6]
      by_cases c2 : nxt P no (P (493 + i)) (P (533 + i)) (nT P - (lo + 1)) (lo + 1) = -1
      · rw [if_pos c2, if_pos c2, up]
        rcases (hS i hi).2.2 with ⟨e, -⟩ | ⟨q, q1, q2, q3, -⟩
        · rw [if_pos e, if_pos e]
          unfold rd
          rw [if_neg ne_nT]
        · have dq : D q < 5 := by have := (hS i hi).2.1; omega
          rw [q2, if_neg (nI_ne_m1 (by omega)), if_neg (nI_ne_m1 (by omega)), nN_nI (by omega)]
          have oq : out q = false := by
            cases o : out q
            · rfl
            · rw [ST_dn h hi q1 q2 o] at ho; cases ho
          have nq : q ≠ lo := by rintro rfl; rw [(h q hlo).2.1 rfl] at oq; cases oq
          by_cases cr : rnd (P (333 + q)) = true
          · rw [if_pos cr, if_pos cr]
            unfold rd
            rw [if_neg (fun z => nq (nI_inj (by omega) (by omega) z))]
          · rw [if_neg cr, if_neg cr]
            unfold rd
            rw [if_neg]
            · exact beh_fuel h40 hS f 7 q (by omega) (by omega) (by omega)
            · intro z
              have lq : q < lo := by
                rcases (hS lo hlo).2.2 with ⟨e, -⟩ | ⟨q', z1, z2, -⟩
                · rw [z5, q2] at e; exact absurd e (nI_ne_m1 (by omega))
                · rw [z5, q2] at z2
                  have := nI_inj (by omega) (by omega) z2
                  omega
              rcases beh_par hn hS f q lo (by omega) (by omega) hlo z with y | y | ⟨q', y1, y2⟩
              · omega
              · rw [z5, q2] at y; exact absurd y (nI_ne_m1 (by omega))
              · rw [z5, q2] at y2
                have := nI_inj (by omega) (by omega) y2
                omega
      · rw [if_neg c2, if_neg c2]
    · rw [if_neg c] at nx
      rw [nx]
      by_cases c2 : nxt P no (P (493 + i)) (P (533 + i)) (nT P - (i + 1)) (i + 1) = -1
      · rw [if_pos c2, if_pos c2]
        exact up
      · rw [if_neg c2, if_neg c2]
        unfold rd
        rw [if_neg c]
end Without
