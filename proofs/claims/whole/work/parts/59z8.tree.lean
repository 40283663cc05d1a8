/-! LOAD: rows of statements, and what reading some leaves -/
/-- the statements from i0 up to i1 are those of parent q and block e, one behind the other, each with its blocks -/
def WB (P : Nat → Int32) (sp cl : Nat → Nat) : Nat → Int32 → Int32 → Nat → Nat → Prop
  | 0, _, _, i0, i1 => i0 = i1
  | f + 1, q, e, i0, i1 => i0 = i1 ∨ (i0 < i1 ∧ (P (493 + i0) = q ∧ P (533 + i0) = e) ∧ (i0 < sp i0 ∧ sp i0 ≤ cl i0 ∧ cl i0 ≤ i1) ∧ WB P sp cl f (nI i0) 0 (i0 + 1) (sp i0) ∧ WB P sp cl f (nI i0) 1 (sp i0) (cl i0) ∧ WB P sp cl f q e (cl i0) i1)
section Tree
variable {P P' : Nat → Int32} {sp sp' cl cl' : Nat → Nat} {q e : Int32} {i0 i1 i2 : Nat}
theorem WB_refl {f : Nat} : WB P sp cl f q e i0 i0 := by cases f; exact rfl; exact Or.inl rfl
theorem WB_up : ∀ f q e i0 i1, WB P sp cl f q e i0 i1 → WB P sp cl (f + 1) q e i0 i1 := by
  intro f
  induction f with
  | zero => intro q e i0 i1 h; exact Or.inl h
  | succ f ih =>
    intro q e i0 i1 h
    rcases h with h | ⟨a, c, d, x, y, z⟩
    · exact Or.inl h
    · exact Or.inr ⟨a, c, d, ih _ _ _ _ x, ih _ _ _ _ y, ih _ _ _ _ z⟩
theorem WB_ups {f : Nat} : ∀ k, WB P sp cl f q e i0 i1 → WB P sp cl (f + k) q e i0 i1 := by
  intro k
  induction k with
  | zero => exact fun h => h
  | succ k ih => exact fun h => WB_up _ _ _ _ _ (ih h)
theorem WB_cong : ∀ f q e i0 i1, (∀ x, i0 ≤ x → x < i1 → P' (493 + x) = P (493 + x) ∧ P' (533 + x) = P (533 + x) ∧ sp' x = sp x ∧ cl' x = cl x) → WB P sp cl f q e i0 i1 → WB P' sp' cl' f q e i0 i1 := by
  intro f
  induction f with
  | zero => intro q e i0 i1 _ h; exact h
  | succ f ih =>
    intro q e i0 i1 hx h
    rcases h with h | ⟨a, ⟨c1, c2⟩, ⟨d1, d2, d3⟩, x, y, z⟩
    · exact Or.inl h
    · obtain ⟨e1, e2, e3, e4⟩ := hx i0 (Nat.le_refl _) a
      refine Or.inr ⟨a, ⟨by rw [e1]; exact c1, by rw [e2]; exact c2⟩, by rw [e3, e4]; exact ⟨d1, d2, d3⟩, ?_, ?_, ?_⟩
      · rw [e3]; exact ih _ _ _ _ (fun x x1 x2 => hx x (by omega) (by omega)) x
      · rw [e3, e4]; exact ih _ _ _ _ (fun x x1 x2 => hx x (by omega) (by omega)) y
      · rw [e4]; exact ih _ _ _ _ (fun x x1 x2 => hx x (by omega) (by omega)) z
theorem WB_le : ∀ f q e i0 i1, WB P sp cl f q e i0 i1 → i0 ≤ i1 := by
  intro f q e i0 i1 h
  cases f with
  | zero => exact Nat.le_of_eq h
  | succ f => rcases h with h | ⟨a, -⟩; exact Nat.le_of_eq h; omega
theorem WB_app : ∀ f i0 i1, WB P sp cl f q e i0 i1 → ∀ g, WB P sp cl g q e i1 i2 → WB P sp cl (f + g) q e i0 i2 := by
  intro f
  induction f with
  | zero => intro i0 i1 h g h2; rw [show i0 = i1 from h, Nat.zero_add]; exact h2
  | succ f ih =>
    intro i0 i1 h g h2
    rcases h with h | ⟨a, c, ⟨d1, d2, d3⟩, x, y, z⟩
    · rw [h, show f + 1 + g = g + (f + 1) by omega]; exact WB_ups _ h2
    · have l := WB_le _ _ _ _ _ h2
      rw [show f + 1 + g = (f + g) + 1 by omega]
      exact Or.inr ⟨by omega, c, ⟨d1, d2, by omega⟩, WB_ups g x, WB_ups g y, ih _ _ z g h2⟩
end Tree
/-- a statement's row, as both have it -/
def SRr (d : Nat) (P : Nat → Int32) (I : Nat → Nat → Int32) (D sp cl : Nat → Nat) (i : Nat) : Prop := I (d + 14) i = P (333 + i) ∧ I (d + 15) i = P (373 + i) ∧ I (d + 16) i = P (413 + i) ∧ I (d + 17) i = P (453 + i) ∧ I (d + 18) i = nI (D i) ∧ I (d + 19) i = P (493 + i) ∧ I (d + 20) i = nI (sp i) ∧ I (d + 21) i = nI (cl i)
/-- the statements from N0 up to N1 have been read, nothing else has changed -/
def PO (d N0 : Nat) (P : Nat → Int32) (I : Nat → Nat → Int32) (D sp cl : Nat → Nat) (N1 : Nat) (P' : Nat → Int32) (I' : Nat → Nat → Int32) (D' sp' cl' : Nat → Nat) : Prop :=
  ((N0 ≤ N1 ∧ N1 ≤ 40) ∧ P' 2 = nI N1 ∧ I' d 3 = nI N1) ∧ (∀ j, j < 333 → j ≠ 2 → P' j = P j) ∧
  (∀ i, i < N0 → (∀ c, c = 333 ∨ c = 373 ∨ c = 413 ∨ c = 453 ∨ c = 493 ∨ c = 533 → P' (c + i) = P (c + i)) ∧ (D' i = D i ∧ sp' i = sp i ∧ cl' i = cl i) ∧ ∀ r, 14 ≤ r → r ≤ 21 → I' (d + r) i = I (d + r) i) ∧
  ∀ i, N0 ≤ i → i < N1 → SRr d P' I' D' sp' cl' i ∧ WFo P' i ∧ WFp P' D' i
section Post
variable {d N0 N1 N2 : Nat} {P P1 P2 : Nat → Int32} {I I1 I2 : Nat → Nat → Int32} {L K : Nat → Nat → Int64} {D D1 D2 sp sp1 sp2 cl cl1 cl2 : Nat → Nat}
theorem WFo_fr {i : Nat} (cx : CTX d P I L K) (h : WFo P i) (e : ∀ j, j < 333 → j ≠ 2 → P1 j = P j) (c : ∀ c, c = 333 ∨ c = 373 ∨ c = 413 ∨ c = 453 ∨ c = 493 ∨ c = 533 → P1 (c + i) = P (c + i)) : WFo P1 i := by
  have h4 := cx.1.1.2
  have h6 := cx.1.2.2
  obtain ⟨so, s1, s2, s3⟩ := h
  have qV : nV P1 = nV P := congrArg nN (e 1 (by decide) (by decide))
  refine ⟨so, s1, by rw [c 333 (by omega)]; exact s2, fun h9 => ?_⟩
  obtain ⟨v, v1, v2, v3, v4⟩ := s3 h9
  have k4 := (cx.2.2.2 v v1).1.2
  have m6 := (cx.2.2.1 _ k4).1.2.2.1.2
  have qK : vK P1 v = vK P v := congrArg nN (e (327 + v) (by omega) (by omega))
  refine ⟨v, by rw [qV]; exact v1, by rw [c 373 (by omega)]; exact v2, fun z1 z2 => ?_, fun z1 z2 => ?_⟩
  · obtain ⟨w, w1, w2, w3, w4⟩ := v3 z1 z2
    exact ⟨w, by rw [qV]; exact w1, w2, by rw [c 413 (by omega)]; exact w3, by rw [e (327 + w) (by omega) (by omega), e (327 + v) (by omega) (by omega)]; exact w4⟩
  · obtain ⟨m, m1, m2, m3⟩ := v4 z1 z2
    have qM : nM P1 (vK P v) = nM P (vK P v) := congrArg nN (e _ (by omega) (by omega))
    have qS : pSo P1 (vK P v) m = pSo P (vK P v) m := e _ (by omega) (by omega)
    exact ⟨m, by rw [qK, qM]; exact m1, by rw [c 453 (by omega)]; exact m2, by rw [qK, qS]; exact m3⟩
theorem WFp_fr {i : Nat} (h : WFp P D i) (c : ∀ x, x ≤ i → P1 (333 + x) = P (333 + x) ∧ P1 (493 + x) = P (493 + x) ∧ P1 (533 + x) = P (533 + x) ∧ D1 x = D x) : WFp P1 D1 i := by
  obtain ⟨h1, h2⟩ := h
  obtain ⟨e1, e2, e3, e4⟩ := c i (Nat.le_refl _)
  refine ⟨by rw [e4]; exact h1, ?_⟩
  rcases h2 with ⟨a1, a2, a3⟩ | ⟨q, q1, q2, q3, q4, q5⟩
  · exact Or.inl ⟨by rw [e2]; exact a1, by rw [e4]; exact a2, by rw [e3]; exact a3⟩
  · obtain ⟨f1, f2, f3, f4⟩ := c q (by omega)
    exact Or.inr ⟨q, q1, by rw [e2]; exact q2, by rw [e4, f4]; exact q3, by rw [f1]; exact q4, by rw [e3, f1]; exact q5⟩
theorem PO_refl (h : N0 ≤ 40) (h1 : P 2 = nI N0) (h2 : I d 3 = nI N0) : PO d N0 P I D sp cl N0 P I D sp cl :=
  ⟨⟨⟨Nat.le_refl _, h⟩, h1, h2⟩, fun _ _ _ => rfl, fun _ _ => ⟨fun _ _ => rfl, ⟨rfl, rfl, rfl⟩, fun _ _ _ => rfl⟩, fun i a c => by omega⟩
/-- the rows stay where the class's rows of statements do -/
theorem PO_fr {I3 : Nat → Nat → Int32} (h : PO d N0 P I D sp cl N1 P1 I1 D1 sp1 cl1) (e : ∀ x, d ≤ x → x ≤ d + 21 → I3 x = I1 x) : PO d N0 P I D sp cl N1 P1 I3 D1 sp1 cl1 := by
  obtain ⟨⟨a1, a2, a3⟩, a4, a5, a6⟩ := h
  refine ⟨⟨a1, a2, by rw [e d (by omega) (by omega)]; exact a3⟩, a4, fun i hi => ⟨(a5 i hi).1, (a5 i hi).2.1, fun r r1 r2 => by rw [e (d + r) (by omega) (by omega)]; exact (a5 i hi).2.2 r r1 r2⟩, fun i i1 i2 => ?_⟩
  obtain ⟨b1, b2, b3⟩ := a6 i i1 i2
  unfold SRr
  rw [e (d + 14) (by omega) (by omega), e (d + 15) (by omega) (by omega), e (d + 16) (by omega) (by omega), e (d + 17) (by omega) (by omega), e (d + 18) (by omega) (by omega), e (d + 19) (by omega) (by omega), e (d + 20) (by omega) (by omega), e (d + 21) (by omega) (by omega)]
  exact ⟨b1, b2, b3⟩
theorem PO_trans (cx : CTX d P1 I1 L K) (h : PO d N0 P I D sp cl N1 P1 I1 D1 sp1 cl1) (g : PO d N1 P1 I1 D1 sp1 cl1 N2 P2 I2 D2 sp2 cl2) : PO d N0 P I D sp cl N2 P2 I2 D2 sp2 cl2 := by
  obtain ⟨⟨⟨a1, a1'⟩, a2, a3⟩, a4, a5, a6⟩ := h
  obtain ⟨⟨⟨b1, b1'⟩, b2, b3⟩, b4, b5, b6⟩ := g
  refine ⟨⟨⟨by omega, b1'⟩, b2, b3⟩, fun j j1 j2 => by rw [b4 j j1 j2, a4 j j1 j2], fun i hi => ?_, fun i i1 i2 => ?_⟩
  · obtain ⟨c1, ⟨c2, c3, c4⟩, c5⟩ := a5 i hi
    obtain ⟨e1, ⟨e2, e3, e4⟩, e5⟩ := b5 i (by omega)
    exact ⟨fun c hc => by rw [e1 c hc, c1 c hc], ⟨by rw [e2, c2], by rw [e3, c3], by rw [e4, c4]⟩, fun r r1 r2 => by rw [e5 r r1 r2, c5 r r1 r2]⟩
  · by_cases z : i < N1
    · obtain ⟨⟨s1, s2, s3, s4, s5, s6, s7, s8⟩, w1, w2⟩ := a6 i i1 z
      obtain ⟨e1, ⟨e2, e3, e4⟩, e5⟩ := b5 i z
      refine ⟨?_, WFo_fr cx w1 b4 e1, WFp_fr w2 (fun x hx => ?_)⟩
      · unfold SRr
        rw [e5 14 (by decide) (by decide), e5 15 (by decide) (by decide), e5 16 (by decide) (by decide), e5 17 (by decide) (by decide), e5 18 (by decide) (by decide), e5 19 (by decide) (by decide), e5 20 (by decide) (by decide), e5 21 (by decide) (by decide), e1 333 (by omega), e1 373 (by omega), e1 413 (by omega), e1 453 (by omega), e1 493 (by omega), e2, e3, e4]
        exact ⟨s1, s2, s3, s4, s5, s6, s7, s8⟩
      · obtain ⟨f1, ⟨f2, -, -⟩, -⟩ := b5 x (by omega)
        exact ⟨f1 333 (by omega), f1 493 (by omega), f1 533 (by omega), f2⟩
    · exact b6 i (by omega) i2
theorem PO_WB {f : Nat} {q e : Int32} (g : PO d N1 P1 I1 D1 sp1 cl1 N2 P2 I2 D2 sp2 cl2) (h : WB P1 sp1 cl1 f q e N0 N1) : WB P2 sp2 cl2 f q e N0 N1 :=
  WB_cong f q e N0 N1 (fun x _ x2 => by
    obtain ⟨f1, ⟨-, f3, f4⟩, -⟩ := g.2.2.1 x x2
    exact ⟨f1 493 (by omega), f1 533 (by omega), f3, f4⟩) h
end Post
