section Rec2
variable {b : Nat → Nat} {n : Nat} {sw : Bool} {I0 : Nat → Nat → Int32} {L0 : Nat → Nat → Int64} {J0 : Nat → Nat → Int32} {Z : Nat → Int32} {fu d : Nat}
/-- the statement N with all within it, once its split a and its close c are written -/
theorem asm {N N2 so deep a c : Nat} {par blk : Int32} {P P1 P2 : Nat → Int32} {I I1 I2 I3 : Nat → Nat → Int32} {L1 K1 : Nat → Nat → Int64} {D D2 sp sp2 cl cl2 : Nat → Nat} (ad : AD d N so deep par blk P I P1 I1) (wo : WFo P1 N) (cx : CTX d P1 I1 L1 K1) (sh : SH d deep par blk N P I D) (h5 : deep < 5) (hN : N < 40)
    (po : PO d (N + 1) P1 I1 (up D N deep) sp cl N2 P2 I2 D2 sp2 cl2) (r20 : I3 (d + 20) = up (I2 (d + 20)) N (nI a)) (r21 : I3 (d + 21) = up (I2 (d + 21)) N (nI c)) (rO : ∀ x, d ≤ x → x ≤ d + 19 → I3 x = I2 x) : PO d N P I D sp cl N2 P2 I3 D2 (up sp2 N a) (up cl2 N c) := by
  obtain ⟨⟨a1, a2, a3, a4, a5⟩, ⟨b1, b2, b3, b4, b5, b6, b7, b8, b9⟩, h3, -, -⟩ := ad
  obtain ⟨⟨⟨q1, q1'⟩, q2, q3⟩, q4, q5, q6⟩ := po
  have row : ∀ r i, 14 ≤ r → r ≤ 21 → i ≠ N → I3 (d + r) i = I2 (d + r) i := by
    intro r i r1 r2 hi
    by_cases z : r = 20
    · rw [z, r20, up_ne hi]
    · by_cases z2 : r = 21
      · rw [z2, r21, up_ne hi]
      · rw [rO (d + r) (by omega) (by omega)]
  have rowN : ∀ r, 14 ≤ r → r ≤ 19 → I3 (d + r) N = I1 (d + r) N := fun r r1 r2 => by rw [rO (d + r) (by omega) (by omega), (q5 N (by omega)).2.2 r r1 (by omega)]
  have cell : ∀ c', c' = 333 ∨ c' = 373 ∨ c' = 413 ∨ c' = 453 ∨ c' = 493 ∨ c' = 533 → P2 (c' + N) = P1 (c' + N) := (q5 N (by omega)).1
  have old : ∀ i, i < N → ∀ c', c' = 333 ∨ c' = 373 ∨ c' = 413 ∨ c' = 453 ∨ c' = 493 ∨ c' = 533 → P2 (c' + i) = P (c' + i) := fun i hi c' hc => by rw [(q5 i (by omega)).1 c' hc, a5 (c' + i) (by omega) (by omega) (by omega) (by omega) (by omega) (by omega) (by omega)]
  have oldD : ∀ i, i < N → D2 i = D i := fun i hi => by rw [(q5 i (by omega)).2.1.1, up_ne (by omega)]
  have DN : D2 N = deep := by rw [(q5 N (by omega)).2.1.1, up_at]
  refine ⟨⟨⟨by omega, q1'⟩, q2, by rw [rO d (by omega) (by omega)]; exact q3⟩, fun j j1 j2 => by rw [q4 j j1 j2, a5 j j2 (by omega) (by omega) (by omega) (by omega) (by omega) (by omega)], fun i hi => ⟨old i hi, ⟨oldD i hi, by rw [up_ne (by omega), (q5 i (by omega)).2.1.2.1], by rw [up_ne (by omega), (q5 i (by omega)).2.1.2.2]⟩, fun r r1 r2 => by rw [row r i r1 r2 (by omega), (q5 i (by omega)).2.2 r r1 r2, h3 r i r1 r2 (by omega)]⟩, fun i i1 i2 => ?_⟩
  by_cases z : i = N
  · subst z
    refine ⟨⟨by rw [rowN 14 (by decide) (by decide), cell 333 (by omega), b2, a2], by rw [rowN 15 (by decide) (by decide), cell 373 (by omega), b3], by rw [rowN 16 (by decide) (by decide), cell 413 (by omega), b4], by rw [rowN 17 (by decide) (by decide), cell 453 (by omega), b5], by rw [rowN 18 (by decide) (by decide), b6, DN], by rw [rowN 19 (by decide) (by decide), cell 493 (by omega), b7, a3], by rw [r20, up_at, up_at], by rw [r21, up_at, up_at]⟩, WFo_fr cx wo q4 cell, by rw [DN]; omega, ?_⟩
    rcases sh.2 with ⟨z1, z2, z3⟩ | ⟨q, sq, ⟨e1, e2, e3⟩, ⟨f1, f2, f3⟩, g, ⟨k1, k2, k3⟩, l, m⟩
    · exact Or.inl ⟨by rw [cell 493 (by omega), a3, z2], by rw [DN, z1], by rw [cell 533 (by omega), a4, z3]⟩
    · have s7 : ¬ nI sq < 7 := nI_nlt (b := 7) k2 (by omega)
      refine Or.inr ⟨q, e2, by rw [cell 493 (by omega), a3, e3], by rw [DN, oldD q e2]; omega, by rw [old q e2 333 (by omega), k1]; exact s7, ?_⟩
      rw [cell 533 (by omega), a4, old q e2 333 (by omega), k1]
      rcases f3 with y | y
      · exact Or.inl y
      · refine Or.inr ⟨y, ?_⟩
        rcases m y with u | u <;> subst u <;> rfl
  · obtain ⟨⟨s1, s2, s3, s4, s5, s6, s7, s8⟩, w1, w2⟩ := q6 i (by omega) i2
    refine ⟨?_, w1, w2⟩
    unfold SRr
    rw [row 14 i (by decide) (by decide) z, row 15 i (by decide) (by decide) z, row 16 i (by decide) (by decide) z, row 17 i (by decide) (by decide) z, row 18 i (by decide) (by decide) z, row 19 i (by decide) (by decide) z, row 20 i (by decide) (by decide) z, row 21 i (by decide) (by decide) z, up_ne z, up_ne z]
    exact ⟨s1, s2, s3, s4, s5, s6, s7, s8⟩
theorem asm_WB {N N2 so deep a f g : Nat} {par blk : Int32} {P P1 P2 : Nat → Int32} {I I1 I2 : Nat → Nat → Int32} {D1 D2 sp sp2 cl cl2 : Nat → Nat} (ad : AD d N so deep par blk P I P1 I1) (po : PO d (N + 1) P1 I1 D1 sp cl N2 P2 I2 D2 sp2 cl2) (h0 : WB P2 sp2 cl2 f (nI N) 0 (N + 1) a) (h1 : WB P2 sp2 cl2 g (nI N) 1 a N2) : WB P2 (up sp2 N a) (up cl2 N N2) (f + g + 1) par blk N N2 := by
  have l0 := WB_le _ _ _ _ _ h0
  have l1 := WB_le _ _ _ _ _ h1
  have cell := (po.2.2.1 N (by omega)).1
  have cg : ∀ x, N + 1 ≤ x → P2 (493 + x) = P2 (493 + x) ∧ P2 (533 + x) = P2 (533 + x) ∧ up sp2 N a x = sp2 x ∧ up cl2 N N2 x = cl2 x := fun x hx => ⟨rfl, rfl, up_ne (by omega), up_ne (by omega)⟩
  refine Or.inr ⟨by omega, ⟨by rw [cell 493 (by omega)]; exact ad.1.2.2.1, by rw [cell 533 (by omega)]; exact ad.1.2.2.2.1⟩, ⟨by rw [up_at]; omega, by rw [up_at, up_at]; exact l1, by rw [up_at]; omega⟩, ?_, ?_, ?_⟩
  · rw [up_at]
    exact WB_ups g (WB_cong f _ _ _ _ (fun x x1 _ => cg x x1) h0)
  · rw [up_at, up_at, show f + g = g + f by omega]
    exact WB_ups f (WB_cong g _ _ _ _ (fun x x1 _ => cg x (by omega)) h1)
  · rw [up_at]; exact WB_refl
end Rec2
