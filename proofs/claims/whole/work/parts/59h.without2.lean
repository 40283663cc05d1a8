section Without2
variable {P : Nat → Int32} {D : Nat → Nat} {lo : Nat} {out : Nat → Bool}
theorem inn_i (h40 : nT P ≤ 40) {i : Nat} (hi : i < nT P) (ho : out i = false) : inn P out (nI i) := Or.inr ⟨i, hi, rfl, ho⟩
/-- a child of i is left out: what comes behind it -/
theorem beh_child (hn : WFn P) (hS : WFs P D) (hlo : lo < nT P) {i : Nat} (hi : i < nT P) {b : Int32} (z5 : P (493 + lo) = nI i) (z6 : P (533 + lo) = b) : beh P no 8 lo = if nxt P no (nI i) b (nT P - (lo + 1)) (lo + 1) = -1 then (if rnd (P (333 + i)) = true then nI i else beh P no 8 i) else nxt P no (nI i) b (nT P - (lo + 1)) (lo + 1) := by
  have h40 := hn.2.2.2
  show (if nxt P no (P (493 + lo)) (P (533 + lo)) (nT P - (lo + 1)) (lo + 1) = -1 then (if P (493 + lo) = -1 then P 2 else if rnd (P (333 + nN (P (493 + lo)))) = true then P (493 + lo) else beh P no 7 (nN (P (493 + lo)))) else nxt P no (P (493 + lo)) (P (533 + lo)) (nT P - (lo + 1)) (lo + 1)) = _
  rw [z5, z6, if_neg (show ¬ nI i = -1 from nI_ne_m1 (by omega)), nN_nI (by omega), beh_fuel h40 hS 7 8 i hi (by have := (hS i hi).2.1; omega) (by have := (hS i hi).2.1; omega)]
theorem beh_nlo (hn : WFn P) (hS : WFs P D) (hlo : lo < nT P) {i : Nat} (hi : i < nT P) (z5 : P (493 + lo) = nI i) : beh P no 8 i ≠ nI lo := by
  have h40 := hn.2.2.2
  intro z
  have li : i < lo := by
    rcases (hS lo hlo).2.2 with ⟨e, -⟩ | ⟨q', z1, z2, -⟩
    · rw [z5] at e; exact absurd e (nI_ne_m1 (by omega))
    · rw [z5] at z2
      have := nI_inj (by omega) (by omega) z2
      omega
  rcases beh_par hn hS 8 i lo hi (by have := (hS i hi).2.1; omega) hlo z with y | y | ⟨q', y1, y2⟩
  · omega
  · rw [z5] at y; exact absurd y (nI_ne_m1 (by omega))
  · rw [z5] at y2
    have := nI_inj (by omega) (by omega) y2
    omega
theorem beh_out8 (hn : WFn P) (hS : WFs P D) (h : SubT P lo out) (hlo : lo < nT P) {i : Nat} (hi : i < nT P) (ho : out i = false) : beh P out 8 i = rd P lo (beh P no 8 i) :=
  beh_out hn hS h hlo 8 i hi ho (by have := (hS i hi).2.1; omega) (by omega)
theorem lkY_out (hn : WFn P) (hS : WFs P D) (h : SubT P lo out) (hlo : lo < nT P) {i : Nat} (hi : i < nT P) (ho : out i = false) : lkY P out i = rd P lo (lkY P no i) := by
  have h40 := hn.2.2.2
  have bo := beh_out8 hn hS h hlo hi ho
  have nx := nxt_out h40 h hlo (b := 0) (inn_i h40 hi ho) (nT P - (i + 1)) (i + 1) (by omega)
  have ni : i ≠ lo := by rintro rfl; rw [(h i hlo).2.1 rfl] at ho; cases ho
  have nil : ¬ nI i = nI lo := fun z => ni (nI_inj (by omega) (by omega) z)
  unfold lkY
  by_cases c7 : P (333 + i) < 7
  · rw [if_pos c7, if_pos c7]; exact bo
  · rw [if_neg c7, if_neg c7]
    by_cases c : nxt P no (nI i) 0 (nT P - (i + 1)) (i + 1) = nI lo
    · have c1 : ¬ nxt P no (nI i) 0 (nT P - (i + 1)) (i + 1) = -1 := by rw [c]; exact nI_ne_m1 (by omega)
      obtain ⟨z5, z6⟩ : P (493 + lo) = nI i ∧ P (533 + lo) = 0 := by
        rcases nxt_of (P := P) (out := no) (a := nI i) (b := 0) (nT P - (i + 1)) (i + 1) with z | ⟨j, j1, j2, j3, -, j5, j6⟩
        · exact absurd z c1
        · rw [c] at j3
          have := nI_inj (by omega) (by omega) j3
          subst this
          exact ⟨j5, j6⟩
      rw [if_pos c] at nx
      rw [nx, if_neg c1, c]
      unfold rd
      rw [if_pos rfl, beh_child hn hS hlo hi z5 z6, bo]
      unfold rd
      rw [if_neg (beh_nlo hn hS hlo hi z5)]
    · rw [if_neg c] at nx
      rw [nx]
      by_cases c2 : nxt P no (nI i) 0 (nT P - (i + 1)) (i + 1) = -1
      · rw [if_pos c2, if_pos c2]
        by_cases cr : rnd (P (333 + i)) = true
        · rw [if_pos cr, if_pos cr]
          unfold rd
          rw [if_neg nil]
        · rw [if_neg cr, if_neg cr]; exact bo
      · rw [if_neg c2, if_neg c2]
        unfold rd
        rw [if_neg c]
theorem lkN_out (hn : WFn P) (hS : WFs P D) (h : SubT P lo out) (hlo : lo < nT P) {i : Nat} (hi : i < nT P) (ho : out i = false) : lkN P out i = rd P lo (lkN P no i) := by
  have h40 := hn.2.2.2
  have bo := beh_out8 hn hS h hlo hi ho
  have nx := nxt_out h40 h hlo (b := 1) (inn_i h40 hi ho) (nT P - (i + 1)) (i + 1) (by omega)
  unfold lkN
  by_cases c7 : P (333 + i) < 7
  · rw [if_pos c7, if_pos c7]
    unfold rd
    rw [if_neg (fun q => nI_ne_m1 (by omega) q.symm)]
  · rw [if_neg c7, if_neg c7]
    by_cases cr : rnd (P (333 + i)) = true
    · rw [if_pos cr, if_pos cr]; exact bo
    · rw [if_neg cr, if_neg cr]
      by_cases c : nxt P no (nI i) 1 (nT P - (i + 1)) (i + 1) = nI lo
      · have c1 : ¬ nxt P no (nI i) 1 (nT P - (i + 1)) (i + 1) = -1 := by rw [c]; exact nI_ne_m1 (by omega)
        obtain ⟨z5, z6⟩ : P (493 + lo) = nI i ∧ P (533 + lo) = 1 := by
          rcases nxt_of (P := P) (out := no) (a := nI i) (b := 1) (nT P - (i + 1)) (i + 1) with z | ⟨j, j1, j2, j3, -, j5, j6⟩
          · exact absurd z c1
          · rw [c] at j3
            have := nI_inj (by omega) (by omega) j3
            subst this
            exact ⟨j5, j6⟩
        rw [if_pos c] at nx
        rw [nx, if_neg c1, c]
        unfold rd
        rw [if_pos rfl, beh_child hn hS hlo hi z5 z6, bo, if_neg cr]
        unfold rd
        rw [if_neg (beh_nlo hn hS hlo hi z5)]
      · rw [if_neg c] at nx
        rw [nx]
        by_cases c2 : nxt P no (nI i) 1 (nT P - (i + 1)) (i + 1) = -1
        · rw [if_pos c2, if_pos c2]; exact bo
        · rw [if_neg c2, if_neg c2]
          unfold rd
          rw [if_neg c]
theorem fst_no (hn : WFn P) (hS : WFs P D) : fst0 P no = nI 0 := by
  have h40 := hn.2.2.2
  unfold fst0
  by_cases c : nT P = 0
  · rw [c]
    show (if (-1 : Int32) = -1 then _ else _) = _
    rw [if_pos rfl, hn.2.2.1, c]
  · obtain ⟨r, hr⟩ : ∃ r, nT P = r + 1 := ⟨nT P - 1, by omega⟩
    have : nxt P no (-1) 0 (nT P) 0 = nI 0 := by
      rw [hr]
      show (if _ then _ else _) = _
      rw [if_pos]
      rcases (hS 0 (by omega)).2.2 with ⟨e, -, e2⟩ | ⟨q, q1, -⟩
      · exact ⟨rfl, e, e2⟩
      · omega
    rw [this, if_neg (nI_ne_m1 (by omega))]
theorem fst_out (hn : WFn P) (hS : WFs P D) (h : SubT P lo out) (hlo : lo < nT P) : fst0 P out = rd P lo (nI 0) := by
  have h40 := hn.2.2.2
  have f0 := fst_no hn hS
  have nx := nxt_out h40 h hlo (a := -1) (b := 0) (Or.inl rfl) (nT P) 0 (by omega)
  have n0 : nxt P no (-1) 0 (nT P) 0 = nI 0 := by
    obtain ⟨r, hr⟩ : ∃ r, nT P = r + 1 := ⟨nT P - 1, by omega⟩
    rw [hr]
    show (if _ then _ else _) = _
    rw [if_pos]
    rcases (hS 0 (by omega)).2.2 with ⟨e, -, e2⟩ | ⟨q, q1, -⟩
    · exact ⟨rfl, e, e2⟩
    · omega
  unfold fst0
  rw [nx, n0]
  unfold rd
  by_cases c : nI 0 = nI lo
  · have e0 : 0 = lo := nI_inj (by omega) (by omega) c
    subst e0
    rw [if_pos rfl, if_pos rfl]
    have e1 : P (493 + 0) = -1 ∧ P (533 + 0) = 0 := by
      rcases (hS 0 hlo).2.2 with ⟨e, -, e2⟩ | ⟨q, q1, -⟩
      · exact ⟨e, e2⟩
      · omega
    show _ = if nxt P no (P (493 + 0)) (P (533 + 0)) (nT P - (0 + 1)) (0 + 1) = -1 then (if P (493 + 0) = -1 then P 2 else _) else nxt P no (P (493 + 0)) (P (533 + 0)) (nT P - (0 + 1)) (0 + 1)
    rw [e1.1, e1.2, if_pos (show (-1 : Int32) = -1 from rfl)]
  · rw [if_neg c, if_neg c, if_neg (nI_ne_m1 (by omega))]
/-- the places that are left out -/
abbrev gone (P : Nat → Int32) (out : Nat → Bool) (j : Nat) : Prop := j < nT P ∧ out j = true
theorem beh_in (hn : WFn P) (hS : WFs P D) (h : SubT P lo out) : ∀ f i t, i < nT P → out i = false → D i < f → beh P out f i = nI t → t ≤ nT P → ¬ gone P out t := by
  have h40 := hn.2.2.2
  intro f
  induction f with
  | zero => intro i t _ _ hd; omega
  | succ f ih =>
    intro i t hi ho hd e ht
    unfold beh at e
    by_cases c : nxt P out (P (493 + i)) (P (533 + i)) (nT P - (i + 1)) (i + 1) = -1
    · rw [if_pos c] at e
      rcases (hS i hi).2.2 with ⟨h1, -⟩ | ⟨q, q1, q2, q3, -⟩
      · rw [if_pos h1, hn.2.2.1] at e
        have := nI_inj (by omega) (by omega) e
        rintro ⟨g, -⟩; omega
      · have oq : out q = false := by
          cases o : out q
          · rfl
          · rw [ST_dn h hi q1 q2 o] at ho; cases ho
        rw [q2, if_neg (nI_ne_m1 (by omega)), nN_nI (by omega)] at e
        split at e
        · have := nI_inj (by omega) (by omega) e
          subst this
          rintro ⟨-, g⟩; rw [oq] at g; cases g
        · exact ih q t (by omega) oq (by omega) e ht
    · rw [if_neg c] at e
      rcases nxt_of (P := P) (out := out) (a := P (493 + i)) (b := P (533 + i)) (nT P - (i + 1)) (i + 1) with z | ⟨j, j1, j2, j3, j4, -⟩
      · exact absurd z c
      · rw [j3] at e
        have := nI_inj (by omega) (by omega) e
        subst this
        rintro ⟨-, g⟩; rw [j4] at g; cases g
theorem nxt_in {a b : Int32} (h40 : nT P ≤ 40) {r j t : Nat} (hj : j + r ≤ nT P) (ht : t ≤ nT P) (c : ¬ nxt P out a b r j = -1) (e : nxt P out a b r j = nI t) : ¬ gone P out t := by
  rcases nxt_of (P := P) (out := out) (a := a) (b := b) r j with z | ⟨q, j1, j2, j3, j4, -⟩
  · exact absurd z c
  · rw [j3] at e
    have := nI_inj (by omega) (by omega) e
    subst this
    rintro ⟨-, g⟩; rw [j4] at g; cases g
theorem lkY_in (hn : WFn P) (hS : WFs P D) (h : SubT P lo out) {i t : Nat} (hi : i < nT P) (ho : out i = false) (e : lkY P out i = nI t) (ht : t ≤ nT P) : ¬ gone P out t := by
  have h40 := hn.2.2.2
  have b := beh_in hn hS h 8 i t hi ho (by have := (hS i hi).2.1; omega)
  unfold lkY at e
  split at e
  · exact b e ht
  · split at e
    · split at e
      · have := nI_inj (by omega) (by omega) e
        subst this
        rintro ⟨-, g⟩; rw [ho] at g; cases g
      · exact b e ht
    · rename_i c
      exact nxt_in h40 (by omega) ht c e
theorem lkN_in (hn : WFn P) (hS : WFs P D) (h : SubT P lo out) {i t : Nat} (hi : i < nT P) (ho : out i = false) (e : lkN P out i = nI t) (ht : t ≤ nT P) : ¬ gone P out t := by
  have h40 := hn.2.2.2
  have b := beh_in hn hS h 8 i t hi ho (by have := (hS i hi).2.1; omega)
  unfold lkN at e
  split at e
  · exact absurd e.symm (nI_ne_m1 (by omega))
  · split at e
    · exact b e ht
    · split at e
      · exact b e ht
      · rename_i c
        exact nxt_in h40 (by omega) ht c e
theorem fst_in (hn : WFn P) {t : Nat} (e : fst0 P out = nI t) (ht : t ≤ nT P) : ¬ gone P out t := by
  have h40 := hn.2.2.2
  unfold fst0 at e
  split at e
  · rw [hn.2.2.1] at e
    have := nI_inj (by omega) (by omega) e
    rintro ⟨g, -⟩; omega
  · rename_i c
    exact nxt_in h40 (by omega) ht c e
end Without2
