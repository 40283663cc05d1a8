section Solve
variable {sw : Bool} {I I0 I' : Nat → Nat → Int32} {L : Nat → Nat → Int64} {p fu f : Nat} {P : Nat → Int32} {D : Nat → Nat} {lo k : Nat}
theorem cnt_dn {N t : Nat} {f g : Nat → Bool} (h : ∀ i, i < N → i ≠ t → f i = g i) (ht : t < N) (h1 : f t = false) (h2 : g t = true) : cnt N f + 1 ≤ cnt N g :=
  cnt_lt (t := t) (fun s hs q => by by_cases c : s = t; rw [c, h1] at q; cases q; rw [← h s hs c]; exact q) ht h1 h2
theorem c_round {a2 : Int32} {Q : Hp → Prop} {j17 : Int32 → Hp → Option Hp} (hf : isF f) (hp : isP p) (hC : CR p I0 P D) (hA : WFA P D) (ha : ∀ i, i < nT P → (nI i = a2 ↔ i = lo)) (hfu : 41 < fu) (h : FI P lo f I0 I 99 k)
    (hj : ∀ I' z, (z = 1 ∧ FI P lo f I0 I' 99 (k + 1)) ∨ (z = 0 ∧ FI P lo f I0 I' 99 k ∧ ∀ j, j < nT P → I' (f + 4) j = 0) → WP (j17 z (mkC sw I' L)) Q) :
    WP (wh3 (MX0_solve_B70 fu p j17 f a2) fu (0 : Int32) (0 : Int32) (mkC sw I L)) Q := by
  have h40 := hA.1.1.2.2.2
  have fp := isF_P hf hp
  refine wh3_wp (fun r z n hh => ∃ i I', i + r = nT P ∧ n = nI i ∧ hh = mkC sw I' L ∧ ((z = 1 ∧ FI P lo f I0 I' 99 (k + 1)) ∨ (z = 0 ∧ FI P lo f I0 I' 99 k ∧ ∀ j, j < i → I' (f + 4) j = 0))) ?_ fu (nT P) _ _ _ (by omega) ⟨0, I, by omega, rfl, rfl, Or.inr ⟨rfl, h, fun j hj => by omega⟩⟩
  rintro r z n hh self ⟨i, I', hi, rfl, rfl, g⟩ ih
  have gk : ∃ k', FI P lo f I0 I' 99 k' := by rcases g with ⟨-, q⟩ | ⟨-, q, -⟩; exact ⟨_, q⟩; exact ⟨_, q⟩
  obtain ⟨k0, gk⟩ := gk
  have ep : I' p = I0 p := gk.2.2.2.2 p (by omega)
  simp only [MX0_solve_B70, c4_fI hp, c0_r6 hf, Option.bind_some, jn]
  rw [ep, hC.2.2.1, hA.1.1.2.2.1]
  by_cases hr : r = 0
  · subst hr
    rw [if_pos (nI_le (by omega) (by omega))]
    refine hj I' z ?_
    rcases g with q | ⟨q, q2, q3⟩
    · exact Or.inl q
    · exact Or.inr ⟨q, q2, fun j hj => q3 j (by omega)⟩
  · rw [if_neg (nI_ge (by omega) (by omega)), c0_ld6 hf (by omega), Option.bind_some]
    by_cases c0 : I' (f + 4) i = 0
    · rw [if_pos c0]
      refine ih (r - 1) _ _ _ (by omega) ⟨i + 1, I', by omega, nI_1 i, rfl, ?_⟩
      rcases g with q | ⟨q, q2, q3⟩
      · exact Or.inl q
      · refine Or.inr ⟨q, q2, fun j hj => ?_⟩
        by_cases e : j = i
        · rw [e]; exact c0
        · exact q3 j (by omega)
    · rw [if_neg c0, c0_st6 hf (by omega) (Or.inl rfl), Option.bind_some]
      have hc : I' (f + 2) i ≠ 0 := (gk.1.1 i (by omega)).2.2 c0
      have sI : sC f (ur I' (f + 4) (up (I' (f + 4)) i 0)) = sC f I' := by
        funext j
        unfold sC
        rw [ur_ne (by omega), ur_ne (by omega)]
      have e4 : ur I' (f + 4) (up (I' (f + 4)) i 0) (f + 4) = up (I' (f + 4)) i 0 := ur_at
      have e2 : ur I' (f + 4) (up (I' (f + 4)) i 0) (f + 2) = I' (f + 2) := ur_ne (by omega)
      have dn : fc f (ur I' (f + 4) (up (I' (f + 4)) i 0)) + 1 ≤ fc f I' := by
        unfold fc
        rw [e4]
        exact cnt_dn (t := i) (fun j _ hn => by simp only [up_ne hn]) (by omega) (by simp [up_at]) (by simp [c0])
      have hF : FI P lo f I0 (ur I' (f + 4) (up (I' (f + 4)) i 0)) i (k + 1) := by
        obtain ⟨⟨h1, h1'⟩, h2, h3, -, h5⟩ := gk
        refine ⟨⟨fun j hj => ?_, by rw [sI]; exact h1'⟩, by rw [sI]; exact h2, ?_, ?_, fun b hb => by rw [ur_ne (by omega)]; exact h5 b hb⟩
        · rw [e2, e4]
          by_cases e : j = i
          · rw [e, up_at]; exact ⟨(h1 i (by omega)).1, Or.inl rfl, fun q => absurd rfl q⟩
          · rw [up_ne e]; exact h1 j hj
        · rw [sI, e4]
          intro j hj nj q
          rw [up_ne nj] at q
          exact h3 j hj (by omega) q
        · rw [sI]
          rcases g with ⟨-, q⟩ | ⟨-, q, -⟩
          · have := q.2.2.2.1; omega
          · have := q.2.2.2.1; omega
      have go : ∀ w : Int32, (w = 1 ∧ i = lo) ∨ (w = 0 ∧ i ≠ lo) → WP ((MX0_goOn fu f p (nI i) w (mkC sw (ur I' (f + 4) (up (I' (f + 4)) i 0)) L)).bind fun h31 => self 1 (nI i + 1) h31) Q := by
        intro w hw
        obtain ⟨_, e1, I2, rfl, h2⟩ := c_goOn (sw := sw) (L := L) (fu := fu) hf hp hC hA (show i < nT P by omega) hw hF (by rw [e2]; exact hc) (by omega)
        rw [e1, Option.bind_some]
        exact ih (r - 1) _ _ _ (by omega) ⟨i + 1, I2, by omega, nI_1 i, rfl, Or.inl ⟨rfl, h2⟩⟩
      by_cases cl : nI i = a2
      · rw [if_pos cl]
        exact go 1 (Or.inl ⟨rfl, (ha i (by omega)).mp cl⟩)
      · rw [if_neg cl]
        exact go 0 (Or.inr ⟨rfl, fun q => cl ((ha i (by omega)).mpr q)⟩)
theorem c_rounds {a2 : Int32} {Q : Hp → Prop} {j9 : Hp → Option Hp} (hf : isF f) (hp : isP p) (hC : CR p I0 P D) (hA : WFA P D) (ha : ∀ i, i < nT P → (nI i = a2 ↔ i = lo)) (hfu : 6000 < fu) (h : FI P lo f I0 I 99 0)
    (hj : ∀ I', FI P lo f I0 I' 99 0 → LF (TC P lo) 0 (sC f I') → WP (j9 (mkC sw I' L)) Q) :
    WP (wh3 (MX0_solve_B53 fu j9 p f a2) fu (1 : Int32) (0 : Int32) (mkC sw I L)) Q := by
  have h40 := hA.1.1.2.2.2
  refine wh3_wp (fun r z v hh => ∃ n I', v = nI n ∧ hh = mkC sw I' L ∧ n + r = 5947 ∧ ((z = 1 ∧ FI P lo f I0 I' 99 n) ∨ (z = 0 ∧ FI P lo f I0 I' 99 0 ∧ ∀ j, j < nT P → I' (f + 4) j = 0))) ?_ fu 5947 _ _ _ (by omega) ⟨0, I, rfl, rfl, by omega, Or.inl ⟨rfl, h⟩⟩
  rintro r z v hh self ⟨n, I', rfl, rfl, hn, g⟩ ih
  simp only [MX0_solve_B53, jn]
  rcases g with ⟨rfl, g⟩ | ⟨rfl, g, g2⟩
  · have b1 := g.2.2.2.1
    have b2 := hS_le (sC f I')
    rw [if_neg (by decide), show (10000 : Int32) = nI 10000 from rfl, if_neg (nI_ge (by omega) (by omega))]
    refine c_round hf hp hC hA ha (by omega) g (fun I2 z2 q => ?_)
    refine ih (r - 1) _ _ _ (by omega) ⟨n + 1, I2, nI_1 n, rfl, by omega, ?_⟩
    rcases q with q | ⟨q, q2, q3⟩
    · exact Or.inl q
    · refine Or.inr ⟨q, ⟨q2.1, q2.2.1, q2.2.2.1, by have := q2.2.2.2.1; omega, q2.2.2.2.2⟩, q3⟩
  · rw [if_pos rfl]
    refine hj I' g ⟨⟨g.2.1.1, g.1.2, fun i t X Y q1 q2 => ?_⟩, g.2.1⟩
    have hi : i < nT P := q2.1
    exact g.2.2.1 i hi (by omega) (g2 i hi) X t Y q1 q2
theorem c_flow {a2 : Int32} {Q : Hp → Prop} {F : Hp → Option Hp} (hf : isF f) (hp : isP p) (hC : CR p I P D) (hA : WFA P D) (ha : ∀ i, i < nT P → (nI i = a2 ↔ i = lo)) (hfu : 6000 < fu)
    (hj : ∀ I', LF (TC P lo) 0 (sC f I') → FS f I' → (∀ j, j < 41 → I' (f + 3) j = 0) → (∀ b, b < f + 2 ∨ f + 88 < b → I' b = I b) → WP (F (mkC sw I' L)) Q) :
    WP ((h_fR 0 (mkC sw I L) f 2).bind fun x1 => (MJ7_fill_53178 fu x1 (0 : Int32) (mkC sw I L)).bind fun h2 => wh2 (MX0_solve_B10 (fun h3 => (h_fR 0 h3 f 7).bind fun x5 => (MX1_begin fu x5 h3).bind fun h6 => (MX0_arrive fu f (0 : Int32) h6).bind fun h7 => wh3 (MX0_solve_B53 fu F p f a2) fu (1 : Int32) (0 : Int32) h7) f) fu (0 : Int32) h2) Q := by
  have fp := isF_P hf hp
  have hN := isF_now hf
  rw [c0_r2 hf, Option.bind_some, fillI (N := 41) (by rcases hf with rfl | rfl <;> rfl) (by decide) (by omega), Option.bind_some, rowI_C]
  generalize hI3 : ur I (f + 3) (fun j => if j < 41 then 0 else (mkC sw I L).2.1 (f + 3) j) = I3
  have r3 : ∀ j, j < 41 → I3 (f + 3) j = 0 := fun j hj => by rw [← hI3, ur_at, if_pos hj]
  have ro : ∀ b, b ≠ f + 3 → I3 b = I b := fun b hb => by rw [← hI3, ur_ne hb]
  clear hI3
  refine wh2_wp (fun r n h => ∃ w I4, w + r = 41 ∧ n = nI w ∧ h = mkC sw I4 L ∧ (∀ j, j < w → I4 (f + 2) j = 0 ∧ I4 (f + 4) j = 0) ∧ ∀ b, b ≠ f + 2 → b ≠ f + 4 → I4 b = I3 b) ?_ fu 41 _ _ (by omega) ⟨0, I3, by omega, rfl, rfl, fun j hj => by omega, fun _ _ _ => rfl⟩
  rintro r n h self ⟨w, I4, hw, rfl, rfl, q1, q2⟩ ih
  simp only [MX0_solve_B10, c0_r1 hf, c0_r6 hf, c0_r7 hf, Option.bind_some]
  rw [show (41 : Int32) = nI 41 from rfl]
  by_cases hr : r = 0
  · subst hr
    rw [if_pos (nI_le (by omega) (by omega))]
    clear ih
    obtain ⟨_, e1, g, rfl, hg⟩ := c_begin (sw := sw) (I := I4) (L := L) (fu := fu) hN (by omega)
    rw [show f + 5 + 1 = f + 6 from rfl] at e1
    rw [e1, Option.bind_some]
    have S0 : sC f (ur I4 (f + 6) g) = fun _ => none := by
      rw [sC_now]
      funext j
      unfold sC
      by_cases c : j < 41
      · rw [if_neg (fun q => q.2 (q1 j (by omega)).1)]
      · rw [if_neg (fun q => c q.1)]
    have F0 : FS f (ur I4 (f + 6) g) := by
      intro j hj
      rw [ur_ne (by omega), ur_ne (by omega)]
      have := q1 j (by omega)
      exact ⟨Or.inl this.1, Or.inl this.2, fun q => absurd this.2 q⟩
    obtain ⟨_, e2, I5, rfl, d⟩ := c_arrive (sw := sw) (I := ur I4 (f + 6) g) (L := L) (fu := fu) (t := 0) hf (by decide) (by rw [ur_at]; exact e24_GX hg GX_0) (by rw [S0]; intro i X q; cases q) F0 (by omega)
    rw [show nI 0 = 0 from rfl] at e2
    rw [e2, Option.bind_some]
    rcases d with ⟨-, Z, z, -⟩ | ⟨d1, d2, d3, d4, d5⟩
    · rw [S0] at z; cases z
    · rw [ur_at] at d2
      obtain ⟨W, w1, w2⟩ : ∃ W, sC f I5 0 = some W ∧ e24 W g := by
        rcases d2.2 with ⟨-, q⟩ | ⟨Z, W, q, -⟩
        · exact q
        · rw [S0] at q; cases q
      have none : ∀ j, j ≠ 0 → sC f I5 j = none := fun j hj => by rw [d2.1 j hj, S0]
      have wx : e24 W X0 := e24_trans w2 hg
      have start : FI P lo f I5 I5 99 0 := by
        refine ⟨⟨d4, W, w1, e24_le (e24_symm wx)⟩, ⟨fun i X q => ?_, fun S' hp i X q => ?_⟩, fun i hi _ q X t Y s1 s2 => ?_, ?_, fun b _ => rfl⟩
        · by_cases c : i = 0
          · subst c; rw [w1] at q; cases q; exact e24_GX wx GX_0
          · rw [none i c] at q; cases q
        · by_cases c : i = 0
          · subst c; rw [w1] at q; cases q
            obtain ⟨Z, z1, z2⟩ := hp.2.1
            exact ⟨Z, z1, leX_trans (e24_le wx) z2⟩
          · rw [none i c] at q; cases q
        · by_cases c : i = 0
          · subst c; rw [d1, up_at] at q; exact absurd q (by decide)
          · rw [none i c] at s1; cases s1
        · have h1 : fc f I5 ≤ fc f (ur I4 (f + 6) g) + 1 := by unfold fc; rw [d1]; exact cnt_up
          have h2 : fc f (ur I4 (f + 6) g) = 0 := by
            unfold fc
            rw [ur_ne (by omega), cnt_eq (g := fun _ => false) (fun i hi => by rw [(q1 i (by omega)).2]; rfl)]
            rfl
          rw [S0] at d3
          omega
      have C5 : CR p I5 P D := CR_fr hp hC (fun b b1 b2 => by rw [d5 b (by omega) (by omega) (by omega), ur_ne (by omega), q2 b (by omega) (by omega), ro b (by omega)])
      refine c_rounds hf hp C5 hA ha hfu start (fun I' g1 g2 => hj I' g2 g1.1.1 (fun j hj => ?_) (fun b hb => ?_))
      · rw [g1.2.2.2.2 (f + 3) (by omega), d5 (f + 3) (by omega) (by omega) (by omega), ur_ne (by omega), q2 _ (by omega) (by omega), r3 j hj]
      · rw [g1.2.2.2.2 b (by omega), d5 b (by omega) (by omega) (by omega), ur_ne (by omega), q2 b (by omega) (by omega), ro b (by omega)]
  · rw [if_neg (nI_ge (by omega) (by omega)), c0_st1 hf (by omega) (Or.inl rfl), Option.bind_some, c0_r6 hf, Option.bind_some, c0_st6 hf (by omega) (Or.inl rfl), Option.bind_some]
    refine ih (r - 1) _ _ (by omega) ⟨w + 1, _, by omega, nI_1 w, rfl, fun j hj => ?_, fun b b1 b2 => by rw [ur_ne b2, ur_ne b1]; exact q2 b b1 b2⟩
    rw [ur_ne (show f + 2 ≠ f + 4 by omega), ur_at, ur_at, ur_ne (show f + 4 ≠ f + 2 by omega)]
    by_cases e : j = w
    · rw [e, up_at, up_at]; exact ⟨rfl, rfl⟩
    · rw [up_ne e, up_ne e]; exact q1 j (by omega)
end Solve
