section GoOn
variable {sw : Bool} {I I0 I' : Nat → Nat → Int32} {L : Nat → Nat → Int64} {p fu f x y : Nat} {P : Nat → Int32} {D : Nat → Nat} {lo i ex k t : Nat} {out : Nat → Bool}
theorem nxt_pl {a b : Int32} (h40 : nT P ≤ 40) {r j : Nat} (hj : j + r ≤ nT P) (h : nxt P out a b r j ≠ -1) : ∃ t, t < nT P ∧ nxt P out a b r j = nI t := by
  rcases nxt_of (P := P) (out := out) (a := a) (b := b) r j with q | ⟨t, h1, h2, h3, -⟩
  · exact absurd q h
  · exact ⟨t, by omega, h3⟩
theorem beh_pl (hn : WFn P) (hS : WFs P D) : ∀ fl i, i < nT P → ∃ t, t ≤ nT P ∧ beh P out fl i = nI t := by
  have h40 := hn.2.2.2
  intro fl
  induction fl with
  | zero => intro i _; exact ⟨nT P, Nat.le_refl _, hn.2.2.1⟩
  | succ fl ih =>
    intro i hi
    unfold beh
    by_cases c : nxt P out (P (493 + i)) (P (533 + i)) (nT P - (i + 1)) (i + 1) = -1
    · rw [if_pos c]
      rcases (hS i hi).2.2 with ⟨h, -⟩ | ⟨q, h1, h2, -⟩
      · rw [if_pos h]; exact ⟨nT P, Nat.le_refl _, hn.2.2.1⟩
      · rw [h2, if_neg (nI_ne_m1 (by omega)), nN_nI (by omega)]
        split
        · exact ⟨q, by omega, rfl⟩
        · exact ih q (by omega)
    · rw [if_neg c]
      obtain ⟨t, h1, h2⟩ := nxt_pl h40 (by omega) c
      exact ⟨t, by omega, h2⟩
theorem lkY_pl (hn : WFn P) (hS : WFs P D) (hi : i < nT P) : ∃ t, t ≤ nT P ∧ lkY P out i = nI t := by
  have h40 := hn.2.2.2
  unfold lkY
  split
  · exact beh_pl hn hS 8 i hi
  · split
    · split
      · exact ⟨i, by omega, rfl⟩
      · exact beh_pl hn hS 8 i hi
    · rename_i c
      obtain ⟨t, h1, h2⟩ := nxt_pl h40 (by omega) c
      exact ⟨t, by omega, h2⟩
theorem lkN_pl (hn : WFn P) (hS : WFs P D) (hi : i < nT P) (h : lkN P out i ≠ -1) : ∃ t, t ≤ nT P ∧ lkN P out i = nI t := by
  have h40 := hn.2.2.2
  unfold lkN at h ⊢
  by_cases c1 : P (333 + i) < 7
  · rw [if_pos c1] at h; exact absurd rfl h
  · rw [if_neg c1]
    split
    · exact beh_pl hn hS 8 i hi
    · split
      · exact beh_pl hn hS 8 i hi
      · rename_i c
        obtain ⟨t, h1, h2⟩ := nxt_pl h40 (by omega) c
        exact ⟨t, by omega, h2⟩
/-- the flow as it goes on: k for the rounds gone, ex the statement in hand -/
def FI (P : Nat → Int32) (lo f : Nat) (I0 I : Nat → Nat → Int32) (ex k : Nat) : Prop :=
  (FS f I ∧ ∃ Z, sC f I 0 = some Z ∧ leX X0 Z) ∧ RE (TC P lo) 0 (sC f I) ∧ (∀ i, i < nT P → i ≠ ex → I (f + 4) i = 0 → ∀ X t Y, sC f I i = some X → TC P lo i t X Y → ∃ Z, sC f I t = some Z ∧ leX Y Z) ∧ k + fc f I ≤ hS (sC f I) ∧ ∀ b, b < f + 2 ∨ f + 88 < b ∨ b = f + 3 → I b = I0 b
theorem sC_now {g : Nat → Int32} : sC f (ur I (f + 6) g) = sC f I := by
  funext j
  unfold sC
  rw [ur_ne (by omega), ur_ne (by omega)]
theorem FI_now {g : Nat → Int32} (h : FI P lo f I0 I ex k) : FI P lo f I0 (ur I (f + 6) g) ex k := by
  obtain ⟨h1, h2, h3, h4, h5⟩ := h
  have e4 : ur I (f + 6) g (f + 4) = I (f + 4) := ur_ne (by omega)
  have e2 : ur I (f + 6) g (f + 2) = I (f + 2) := ur_ne (by omega)
  refine ⟨⟨fun i hi => by rw [e2, e4]; exact h1.1 i hi, by rw [sC_now]; exact h1.2⟩, by rw [sC_now]; exact h2, ?_, ?_, fun b hb => by rw [ur_ne (by omega)]; exact h5 b hb⟩
  · rw [sC_now, e4]; exact h3
  · unfold fc; rw [sC_now, e4]; exact h4
theorem FI_close (h : FI P lo f I0 I i k) (hc : I (f + 4) i = 0 → ∀ X t Y, sC f I i = some X → TC P lo i t X Y → ∃ Z, sC f I t = some Z ∧ leX Y Z) : FI P lo f I0 I 99 k := by
  obtain ⟨h1, h2, h3, h4, h5⟩ := h
  refine ⟨h1, h2, fun j hj _ hf => ?_, h4, h5⟩
  by_cases c : j = i
  · subst c; exact hc hf
  · exact h3 j hj c hf
theorem FI_half {X Y : Nat → Int32} (ok : okT (TC P lo)) (ht : t < 41) (h : FI P lo f I0 I i k) (hi : sC f I i = some X) (hT : TC P lo i t X (I (f + 6)))
    (d : (I' = I ∧ ∃ Z, sC f I t = some Z ∧ leX (I (f + 6)) Z) ∨ (I' (f + 4) = up (I (f + 4)) t 1 ∧ stepped (sC f I) (sC f I') t (I (f + 6)) ∧ hS (sC f I) < hS (sC f I') ∧ FS f I' ∧ ∀ b, b ≠ f + 2 → b ≠ f + 4 → b ≠ f + 8 + 2 * t → I' b = I b)) :
    FI P lo f I0 I' i k ∧ (I' (f + 4) i = 0 → sC f I' i = sC f I i ∧ I (f + 4) i = 0) ∧ (∃ Z, sC f I' t = some Z ∧ leX (I (f + 6)) Z) ∧ leS (sC f I) (sC f I') := by
  rcases d with ⟨rfl, hz⟩ | ⟨r4, st, hm, hF, ro⟩
  · exact ⟨h, fun q => ⟨rfl, q⟩, hz, fun i X q => ⟨X, q, leX_refl X⟩⟩
  · obtain ⟨h1, h2, h3, h4, h5⟩ := h
    have le := stepped_le st
    have st0 : ∃ Z, sC f I' 0 = some Z ∧ leX X0 Z := by
      obtain ⟨Z, z1, z2⟩ := h1.2
      obtain ⟨W, w1, w2⟩ := le 0 Z z1
      exact ⟨W, w1, leX_trans z2 w2⟩
    refine ⟨⟨⟨hF, st0⟩, RE_stepped ok h2 hi hT st, fun j hj nj hf X' t' Y' q1 q2 => ?_, ?_, fun b hb => ?_⟩, fun q => ?_, stepped_in st, le⟩
    · have c : j ≠ t := by rintro rfl; rw [r4, up_at] at hf; exact absurd hf (by decide)
      rw [r4, up_ne c] at hf
      rw [st.1 j c] at q1
      obtain ⟨Z, z1, z2⟩ := h3 j hj nj hf X' t' Y' q1 q2
      obtain ⟨W, w1, w2⟩ := le t' Z z1
      exact ⟨W, w1, leX_trans z2 w2⟩
    · have : fc f I' ≤ fc f I + 1 := by unfold fc; rw [r4]; exact cnt_up
      omega
    · rw [ro b (by omega) (by omega) (by omega)]; exact h5 b hb
    · have c : i ≠ t := by rintro rfl; rw [r4, up_at] at q; exact absurd q (by decide)
      rw [r4, up_ne c] at q
      exact ⟨st.1 i c, q⟩
/-- what the class has of the program, whatever a flow changes -/
def CR (p : Nat) (I : Nat → Nat → Int32) (P : Nat → Int32) (D : Nat → Nat) : Prop := CRk p I P ∧ CRv p I P ∧ CRs p I P D
theorem CR_fr (hp : isP p) (h : CR p I P D) (e : ∀ b, p ≤ b → b ≤ p + 24 → I' b = I b) : CR p I' P D := by
  unfold CR CRk CRm CRv CRs at *
  rw [e p (by omega) (by omega), e (p + 1) (by omega) (by omega), e (p + 2) (by omega) (by omega), e (p + 3) (by omega) (by omega), e (p + 4) (by omega) (by omega), e (p + 5) (by omega) (by omega), e (p + 6) (by omega) (by omega), e (p + 7) (by omega) (by omega), e (p + 8) (by omega) (by omega), e (p + 13) (by omega) (by omega), e (p + 14) (by omega) (by omega), e (p + 15) (by omega) (by omega), e (p + 16) (by omega) (by omega), e (p + 17) (by omega) (by omega), e (p + 18) (by omega) (by omega), e (p + 22) (by omega) (by omega), e (p + 23) (by omega) (by omega), e (p + 24) (by omega) (by omega)]
  exact h
theorem isF_P (hf : isF f) (hp : isP p) : p + 24 < f ∨ f + 88 < p := by
  rcases hf with rfl | rfl <;> rcases hp with rfl | rfl <;> omega
def WFA (P : Nat → Int32) (D : Nat → Nat) : Prop := WFK P ∧ WFv P ∧ WFs P D
theorem c_goOn {w : Int32} (hf : isF f) (hp : isP p) (hC : CR p I0 P D) (hA : WFA P D) (hi : i < nT P) (hw : (w = 1 ∧ i = lo) ∨ (w = 0 ∧ i ≠ lo)) (h : FI P lo f I0 I i k) (hc : I (f + 2) i ≠ 0) (hfu : 24 < fu) :
    WP (MX0_goOn fu f p (nI i) w (mkC sw I L)) (fun h => ∃ I', h = mkC sw I' L ∧ FI P lo f I0 I' 99 k) := by
  obtain ⟨hW, hv, hS⟩ := hA
  have h40 := hW.1.2.2.2
  have ok := okTC (lo := lo) hW hv hS
  have hN := isF_now hf
  have hH := isF_H (j := i) hf (by omega)
  have e81 : f + 7 + 2 * i + 1 = f + 8 + 2 * i := by omega
  have fp := isF_P hf hp
  have crr : ∀ {I ex k}, FI P lo f I0 I ex k → CR p I P D := fun h => CR_fr hp hC (fun b b1 b2 => h.2.2.2.2 b (by omega))
  have Si : sC f I i = some (I (f + 8 + 2 * i)) := by unfold sC; rw [if_pos ⟨by omega, hc⟩]
  obtain ⟨d1, d2, d3, d4, d5, d6, d7, d8⟩ := hC.2.2.2 i hi
  simp only [MX0_goOn, c0_g hf, c0_r7 hf, c0_r0 hf, Option.bind_some, jn]
  rw [c0_hold hf (by omega), Option.bind_some]
  obtain ⟨g, e1, hg⟩ := c_copyFrom (sw := sw) (I := I) (L := L) hN hH
  rw [e1, Option.bind_some]
  rw [e81] at hg
  have h1 : FI P lo f I0 (ur I (f + 6) g) i k := FI_now h
  have row : ∀ {I ex k} (q : Nat), 22 ≤ q → q ≤ 24 → FI P lo f I0 I ex k → I (p + q) = I0 (p + q) := fun q _ _ h => h.2.2.2.2 _ (by omega)
  rcases hw with ⟨rfl, hl⟩ | ⟨rfl, hl⟩
  · rw [if_neg (by decide), c4_r12 hp, Option.bind_some, c4_ld12 hp (by omega), Option.bind_some, row 22 (by decide) (by decide) h1, d6]
    obtain ⟨t, ht, et⟩ := beh_pl (out := no) hW.1 hS 8 i hi
    rw [et]
    have gS : goodS (sC f (ur I (f + 6) g)) := h1.2.1.1
    have gg : GX g := e24_GX hg (h.2.1.1 i _ Si)
    obtain ⟨_, e2, I', rfl, d⟩ := c_arrive (sw := sw) (I := ur I (f + 6) g) (L := L) (fu := fu) (t := t) hf (by omega) (by rw [ur_at]; exact gg) gS h1.1.1 hfu
    rw [show f + 5 + 1 = f + 6 from rfl, e2, Option.bind_some]
    have hT : TC P lo i t (I (f + 8 + 2 * i)) (ur I (f + 6) g (f + 6)) := ⟨hi, Or.inl ⟨hl, by rw [et, nN_nI (by omega)], by rw [ur_at]; exact hg⟩⟩
    obtain ⟨q1, q2, ⟨Z, z1, z2⟩, -⟩ := FI_half (X := I (f + 8 + 2 * i)) (Y := g) ok (by omega) h1 (by rw [sC_now]; exact Si) hT d
    refine WP_some ⟨I', rfl, FI_close q1 (fun q X t' Y w1 w2 => ?_)⟩
    obtain ⟨s1, -⟩ := q2 q
    rw [s1, sC_now, Si] at w1
    cases w1
    obtain ⟨-, ⟨-, t1, t2⟩ | ⟨n, -⟩⟩ := w2
    · rw [et, nN_nI (by omega)] at t1
      subst t1
      rw [ur_at] at z2
      exact ⟨Z, z1, leX_trans (e24_le (e24_trans t2 (e24_symm hg))) z2⟩
    · exact absurd hl n
  · rw [if_pos rfl]
    -- the second half, from a flow in which the first is done
    have second : ∀ I1, FI P lo f I0 I1 i k → leS (sC f I) (sC f I1) → (I1 (f + 4) i = 0 → sC f I1 i = sC f I i ∧ ∀ Y, tq P i 1 (I (f + 8 + 2 * i)) Y → ∃ Z, sC f I1 (nN (lkY P no i)) = some Z ∧ leX Y Z) →
        WP ((h_fR 4 (mkC sw I1 L) p 14).bind fun x9 => (h_ldI (mkC sw I1 L) x9 (nI i)).bind fun x10 => if x10 = -1 then some (mkC sw I1 L) else (h_fR 0 (mkC sw I1 L) f 7).bind fun x11 => (h_fR 0 (mkC sw I1 L) f 0).bind fun x12 => (h_ldR (mkC sw I1 L) x12 (nI i)).bind fun x13 => (MX1_copyFrom x11 x13 (mkC sw I1 L)).bind fun h14 => (h_fR 0 h14 f 7).bind fun x15 => (MX1_pass fu x15 p (nI i) 0 h14).bind fun p16 => if p16.1 = 0 then some p16.2 else (h_fR 4 p16.2 p 14).bind fun x17 => (h_ldI p16.2 x17 (nI i)).bind fun x18 => (MX0_arrive fu f x18 p16.2).bind fun h19 => some h19) (fun h => ∃ I', h = mkC sw I' L ∧ FI P lo f I0 I' 99 k) := by
      intro I1 h1 l1 dn
      obtain ⟨X1, S1, -⟩ := l1 i _ Si
      have S1' : sC f I1 i = some (I1 (f + 8 + 2 * i)) := by
        unfold sC at S1 ⊢
        split at S1
        · rename_i c; rw [if_pos c]
        · cases S1
      rw [c4_r14 hp, Option.bind_some, c4_ld14 hp (by omega), Option.bind_some, row 24 (by decide) (by decide) h1, d8]
      by_cases cn : lkN P no i = -1
      · rw [if_pos cn]
        refine WP_some ⟨I1, rfl, FI_close h1 (fun q X t' Y w1 w2 => ?_)⟩
        obtain ⟨s1, s2⟩ := dn q
        rw [s1, Si] at w1
        cases w1
        obtain ⟨-, ⟨n, -⟩ | ⟨-, ⟨t1, t2⟩ | ⟨n, -⟩⟩⟩ := w2
        · exact absurd n hl
        · rw [t1]; exact s2 Y t2
        · exact absurd cn n
      · obtain ⟨t, ht, et⟩ := lkN_pl hW.1 hS hi cn
        rw [if_neg cn, c0_r7 hf, Option.bind_some, c0_r0 hf, Option.bind_some, c0_hold hf (by omega), Option.bind_some]
        obtain ⟨g2, e3, hg2⟩ := c_copyFrom (sw := sw) (I := I1) (L := L) hN hH
        rw [e3, Option.bind_some, c0_r7 hf, Option.bind_some]
        rw [e81] at hg2
        have h2 : FI P lo f I0 (ur I1 (f + 6) g2) i k := FI_now h1
        have gg2 : GX g2 := e24_GX hg2 (h1.2.1.1 i _ S1')
        obtain ⟨c1, c2, c3⟩ := crr h2
        obtain ⟨⟨r1, _⟩, e4, g3, rfl, hp3⟩ := c_pass (sw := sw) (I := ur I1 (f + 6) g2) (L := L) (fu := fu) (z := 0) (x := f + 5) hN hp c1 c2 c3 hW hv hS hi (by rw [show f + 5 + 1 = f + 6 from rfl, ur_at]; exact gg2) (by omega)
        rw [show f + 5 + 1 = f + 6 from rfl] at e4 hp3 ⊢
        rw [e4, Option.bind_some]
        rw [ur_at, ] at hp3
        have fin : ∀ I' : Nat → Nat → Int32, FI P lo f I0 I' i k → leS (sC f I1) (sC f I') → (I' (f + 4) i = 0 → sC f I' i = sC f I1 i ∧ I1 (f + 4) i = 0) → (I' (f + 4) i = 0 → ∀ Y, tq P i 0 (I (f + 8 + 2 * i)) Y → ∃ Z, sC f I' t = some Z ∧ leX Y Z) → FI P lo f I0 I' 99 k := by
          intro I' f1 f2 f3 f4
          refine FI_close f1 (fun q X t' Y w1 w2 => ?_)
          obtain ⟨a1, a2⟩ := f3 q
          obtain ⟨s1, s2⟩ := dn a2
          rw [a1, s1, Si] at w1
          cases w1
          obtain ⟨-, ⟨n, -⟩ | ⟨-, ⟨t1, t2⟩ | ⟨-, t1, t2⟩⟩⟩ := w2
          · exact absurd n hl
          · rw [t1]
            obtain ⟨Z, z1, z2⟩ := s2 Y t2
            obtain ⟨W, w3, w4⟩ := f2 _ Z z1
            exact ⟨W, w3, leX_trans z2 w4⟩
          · rw [t1, et, nN_nI (by omega)]; exact f4 q Y t2
        have same : I1 (f + 4) i = 0 → I1 (f + 8 + 2 * i) = I (f + 8 + 2 * i) := by
          intro q
          have := (dn q).1
          rw [S1', Si] at this
          exact Option.some.inj this
        rcases hp3 with ⟨q, hn⟩ | ⟨q, hq⟩
        · obtain rfl : r1 = 0 := q
          rw [if_pos rfl]
          refine WP_some ⟨_, rfl, fin _ (FI_now h2) (by rw [sC_now, sC_now]; exact fun i X q => ⟨X, q, leX_refl X⟩) (fun q => ?_) (fun q Y w => ?_)⟩
          · rw [ur_ne (by omega), ur_ne (by omega)] at q
            exact ⟨by rw [sC_now, sC_now], q⟩
          · rw [ur_ne (by omega), ur_ne (by omega)] at q
            obtain ⟨Y0, y1, -⟩ := w
            rw [← same q] at y1
            rcases tr_e24 (z := 0) hW hv hS hi hg2 with ⟨-, n⟩ | ⟨_, _, n, -⟩
            · rw [n] at y1; cases y1
            · rw [hn] at n; cases n
        · obtain rfl : r1 = 1 := q
          rw [if_neg (show ¬ (1 : Int32) = 0 by decide)]
          have h3 : FI P lo f I0 (ur (ur I1 (f + 6) g2) (f + 6) g3) i k := FI_now h2
          have gg3 : GX g3 := tq_GX hW hv hS hi gg2 hq
          show WP ((h_fR 4 (mkC sw (ur (ur I1 (f + 6) g2) (f + 6) g3) L) p 14).bind fun x17 => (h_ldI (mkC sw (ur (ur I1 (f + 6) g2) (f + 6) g3) L) x17 (nI i)).bind fun x18 => (MX0_arrive fu f x18 (mkC sw (ur (ur I1 (f + 6) g2) (f + 6) g3) L)).bind fun h19 => some h19) _
          rw [c4_r14 hp, Option.bind_some, c4_ld14 hp (by omega), Option.bind_some, row 24 (by decide) (by decide) h3, d8, et]
          obtain ⟨_, e5, I', rfl, d⟩ := c_arrive (sw := sw) (I := ur (ur I1 (f + 6) g2) (f + 6) g3) (L := L) (fu := fu) (t := t) hf (by omega) (by rw [ur_at]; exact gg3) h3.2.1.1 h3.1.1 hfu
          rw [e5, Option.bind_some]
          have hq2 : tq P i 0 (I1 (f + 8 + 2 * i)) g3 := tq_e24 hW hv hS hi hg2 hq
          have hT : TC P lo i t (I1 (f + 8 + 2 * i)) (ur (ur I1 (f + 6) g2) (f + 6) g3 (f + 6)) := ⟨hi, Or.inr ⟨hl, Or.inr ⟨cn, by rw [et, nN_nI (by omega)], by rw [ur_at]; exact hq2⟩⟩⟩
          obtain ⟨q1, q2, ⟨Z, z1, z2⟩, q4⟩ := FI_half (X := I1 (f + 8 + 2 * i)) (Y := g3) ok (by omega) h3 (by rw [sC_now, sC_now]; exact S1') hT d
          rw [sC_now, sC_now] at q2 q4
          rw [ur_at] at z2
          refine WP_some ⟨I', rfl, fin I' q1 q4 (fun q => ?_) (fun q Y w => ?_)⟩
          · obtain ⟨a1, a2⟩ := q2 q
            rw [ur_ne (by omega), ur_ne (by omega)] at a2
            exact ⟨a1, a2⟩
          · obtain ⟨a1, a2⟩ := q2 q
            rw [ur_ne (by omega), ur_ne (by omega)] at a2
            rw [← same a2] at w
            exact ⟨Z, z1, leX_trans (e24_le (tq_fun w hq2)) z2⟩
    rw [c0_r7 hf, Option.bind_some]
    have gg : GX g := e24_GX hg (h.2.1.1 i _ Si)
    obtain ⟨c1, c2, c3⟩ := crr h1
    obtain ⟨⟨r1, _⟩, e4, g3, rfl, hp3⟩ := c_pass (sw := sw) (I := ur I (f + 6) g) (L := L) (fu := fu) (z := 1) (x := f + 5) hN hp c1 c2 c3 hW hv hS hi (by rw [show f + 5 + 1 = f + 6 from rfl, ur_at]; exact gg) (by omega)
    rw [show f + 5 + 1 = f + 6 from rfl] at e4 hp3 ⊢
    rw [e4, Option.bind_some]
    rw [ur_at] at hp3
    rcases hp3 with ⟨q, hn⟩ | ⟨q, hq⟩
    · obtain rfl : r1 = 0 := q
      rw [if_pos rfl]
      refine second _ (FI_now h1) (by rw [sC_now, sC_now]; exact fun i X q => ⟨X, q, leX_refl X⟩) (fun q => ⟨by rw [sC_now, sC_now], fun Y w => ?_⟩)
      obtain ⟨Y0, y1, -⟩ := w
      rcases tr_e24 (z := 1) hW hv hS hi hg with ⟨-, n⟩ | ⟨_, _, n, -⟩
      · rw [n] at y1; cases y1
      · rw [hn] at n; cases n
    · obtain rfl : r1 = 1 := q
      rw [if_neg (show ¬ (1 : Int32) = 0 by decide)]
      have h3 : FI P lo f I0 (ur (ur I (f + 6) g) (f + 6) g3) i k := FI_now h1
      have gg3 : GX g3 := tq_GX hW hv hS hi gg hq
      obtain ⟨t, ht, et⟩ := lkY_pl (out := no) hW.1 hS hi
      have hld : h_ldI (mkC sw (ur (ur I (f + 6) g) (f + 6) g3) L) (p + 23) (nI i) = some (nI t) := by rw [c4_ld13 hp (by omega), row 23 (by decide) (by decide) h3, d7, et]
      obtain ⟨_, e5, I', rfl, d⟩ := c_arrive (sw := sw) (I := ur (ur I (f + 6) g) (f + 6) g3) (L := L) (fu := fu) (t := t) hf (by omega) (by rw [ur_at]; exact gg3) h3.2.1.1 h3.1.1 hfu
      have hq2 : tq P i 1 (I (f + 8 + 2 * i)) g3 := tq_e24 hW hv hS hi hg hq
      have hT : TC P lo i t (I (f + 8 + 2 * i)) (ur (ur I (f + 6) g) (f + 6) g3 (f + 6)) := ⟨hi, Or.inr ⟨hl, Or.inl ⟨by rw [et, nN_nI (by omega)], by rw [ur_at]; exact hq2⟩⟩⟩
      obtain ⟨q1, q2, ⟨Z, z1, z2⟩, q4⟩ := FI_half (X := I (f + 8 + 2 * i)) (Y := g3) ok (by omega) h3 (by rw [sC_now, sC_now]; exact Si) hT d
      rw [sC_now, sC_now] at q2 q4
      rw [ur_at] at z2
      show WP ((h_fR 4 (mkC sw (ur (ur I (f + 6) g) (f + 6) g3) L) p 13).bind fun x20 => (h_ldI (mkC sw (ur (ur I (f + 6) g) (f + 6) g3) L) x20 (nI i)).bind fun x21 => (MX0_arrive fu f x21 (mkC sw (ur (ur I (f + 6) g) (f + 6) g3) L)).bind fun h22 => _) _
      rw [c4_r13 hp, Option.bind_some, hld, Option.bind_some, e5, Option.bind_some]
      refine second I' q1 q4 (fun q => ⟨(q2 q).1, fun Y w => ?_⟩)
      rw [et, nN_nI (by omega)]
      exact ⟨Z, z1, leX_trans (e24_le (tq_fun w hq2)) z2⟩
end GoOn
