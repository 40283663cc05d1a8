/-! TRULY -/
def orP (s : Sch) (p w v : Nat) : Nat → Int32
  | 0 => 0
  | c + 1 => if s.pl c = p then orP s p w v c ||| s.xs c (6 * w + v) else orP s p w v c
def anP (s : Sch) (p w v : Nat) : Nat → Int32
  | 0 => 63
  | c + 1 => if s.pl c = p ∧ s.xs c v ≠ 1 then anP s p w v c &&& s.xs c (6 * w + v) else anP s p w v c
def hlP (s : Sch) (p v : Nat) : Nat → Int32
  | 0 => 0
  | c + 1 => if s.pl c = p ∧ s.xs c v ≠ 1 then 1 else hlP s p v c
section Truly
variable {sw : Bool} {I I' : Nat → Nat → Int32} {L L' : Nat → Nat → Int64} {J J' : Nat → Nat → Int32} {K K' : Nat → Nat → Int64} {fu p v w : Nat} {D : Nat → Nat} {P X : Nat → Int32} {s : Sch}
theorem b1_ne0 {t : Nat} (ht : t < 32) : b1 t ≠ 0 := fun z => by
  have := b_b1 ht t
  rw [z, b_0] at this
  simp at this
theorem GC_6 (hA : WFA P D) (g : GC P X) (hv : v < 6) : X (6 + v) = 0 ↔ X v = 1 := by
  have e := (GC_cell hA g hv).2.1
  have l := ss_lt (X := X) (v := v)
  by_cases c : X v = 1
  · rw [e, if_pos c]; exact ⟨fun _ => c, fun _ => rfl⟩
  · rw [e, if_neg c]; exact ⟨fun z => absurd z (b1_ne0 (by omega)), fun z => absurd z c⟩
theorem GC_18 (g : GC P X) (hv : v < 6) (h : X v = 1) : X (18 + v) = 0 ∧ X (12 + v) = 0 := by
  have t := (CF_none g hv).mp h
  have a := (CF_alone g hv).mpr (Or.inl t)
  exact ⟨a, by rw [g.2.1 v hv, a]⟩
theorem c_gather (hA : WFA P D) (h : SCc s I L) (g : GS P s) (hp : p ≤ 40) (hv : v < 6) (hw : w < 4) (hfu : 1001 < fu) : ∃ f, MX6_gather fu 214 (nI p) (nI v) (nI w) (mkC sw I L) = some ((if w = 3 then (if hlP s p v s.n = 0 then 0 else anP s p w v s.n) else orP s p w v s.n), mkC sw (ur I 221 f) L) := by
  have h40 := hA.1.1.2.2.2
  have n1 := g.1
  have main : WP (MX6_gather fu 214 (nI p) (nI v) (nI w) (mkC sw I L)) (fun r => ∃ f, r = ((if w = 3 then (if hlP s p v s.n = 0 then 0 else anP s p w v s.n) else orP s p w v s.n), mkC sw (ur I 221 f) L)) := by
    simp only [MX6_gather, c6_g, jn]
    refine wh5_wp (fun r a b e n hh => ∃ c f, c + r = s.n ∧ n = nI c ∧ hh = mkC sw (ur I 221 f) L ∧ a = orP s p w v c ∧ b = anP s p w v c ∧ e = hlP s p v c) ?_ fu s.n _ _ _ _ _ (by omega) ⟨0, I 221, by omega, rfl, by rw [ur_self], rfl, rfl, rfl⟩
    rintro r a b e n hh self ⟨c, f, hc, rfl, rfl, rfl, rfl, rfl⟩ ih
    have k214 : ∀ f : Nat → Int32, ur I 221 f 214 = I 214 := fun f => ur_ne (by decide)
    simp only [MX6_gather_B13, c6_fI, c6_r10, c6_r13, Option.bind_some, jn]
    rw [k214, h.1]
    by_cases hr : r = 0
    · rw [if_pos (nI_le (by omega) (by omega)), show c = s.n by omega]
      by_cases w3 : w = 3
      · rw [if_pos (show nI w = 3 by rw [w3]; rfl), if_pos w3]
        split
        · exact WP_some ⟨f, rfl⟩
        · exact WP_some ⟨f, rfl⟩
      · rw [if_neg (show ¬ nI w = 3 from fun z => w3 (nI_inj (b := 3) (by omega) (by decide) z)), if_neg w3]
        exact WP_some ⟨f, rfl⟩
    · obtain ⟨gp, gc, -⟩ := g.2.2 c (by omega)
      have oE : orP s p w v (c + 1) = if s.pl c = p then orP s p w v c ||| s.xs c (6 * w + v) else orP s p w v c := rfl
      have aE : anP s p w v (c + 1) = if s.pl c = p ∧ s.xs c v ≠ 1 then anP s p w v c &&& s.xs c (6 * w + v) else anP s p w v c := rfl
      have hE : hlP s p v (c + 1) = if s.pl c = p ∧ s.xs c v ≠ 1 then 1 else hlP s p v c := rfl
      rw [if_neg (nI_ge (by omega) (by omega)), c6_ld10 (by omega), Option.bind_some, (h.2.2.1 c (by omega)).1, c_placeOf hA gc (by omega), Option.bind_some]
      by_cases ce : s.pl c = p
      · rw [if_pos (by rw [ce])]
        obtain ⟨_, e1, f2, rfl, e2⟩ := c_setFrom (sw := sw) (I := ur I 221 f) (L := L) (fu := fu) (p := s.pl c) hA isH220 gc (by omega) (by omega)
        rw [e1, Option.bind_some]
        simp only [c6_r13, Option.bind_some]
        rw [show ur (ur I 221 f) (220 + 1) f2 = ur I 221 f2 from ur_ur]
        have pt : MX1_part 220 (nI w) (nI v) (mkC sw (ur I 221 f2) L) = some (s.xs c (6 * w + v)) := by
          simp only [MX1_part, c1_g isH220, c1_r0 isH220, Option.bind_some, ix_met]
          rw [c1_ld isH220 (by omega), Option.bind_some, show ur I 221 f2 (220 + 1) = f2 from ur_at, e2 _ (by omega)]
        rw [pt, Option.bind_some, c_states isH220 hv, Option.bind_some, show ur I 221 f2 (220 + 1) = f2 from ur_at, e2 _ (by omega)]
        by_cases c6 : s.xs c (6 + v) = 0
        · have x1 := (GC_6 hA gc hv).mp c6
          rw [if_pos c6]
          exact ih (r - 1) _ _ _ _ _ (by omega) ⟨c + 1, f2, by omega, nI_1 c, rfl, by rw [oE, if_pos ce], by rw [aE, if_neg (fun z => z.2 x1)], by rw [hE, if_neg (fun z => z.2 x1)]⟩
        · have x1 : s.xs c v ≠ 1 := fun z => c6 ((GC_6 hA gc hv).mpr z)
          rw [if_neg c6]
          exact ih (r - 1) _ _ _ _ _ (by omega) ⟨c + 1, f2, by omega, nI_1 c, rfl, by rw [oE, if_pos ce], by rw [aE, if_pos ⟨ce, x1⟩], by rw [hE, if_pos ⟨ce, x1⟩]⟩
      · rw [if_neg (fun z => ce (nI_inj (by omega) (by omega) z))]
        exact ih (r - 1) _ _ _ _ _ (by omega) ⟨c + 1, f, by omega, nI_1 c, rfl, by rw [oE, if_neg ce], by rw [aE, if_neg (fun z => ce z.1)], by rw [hE, if_neg (fun z => ce z.1)]⟩
  obtain ⟨_, e, f, rfl⟩ := main
  exact ⟨f, e⟩
theorem m_onesWith (h : CF P (J 19) (J 20) (J 21) X) (hv : v < 6) (ht : J 19 v ≠ -1) (hfu : 6 < fu) : MX9_onesWith fu 0 (nI v) (mkM J K) = some (X (18 + v)) := by
  simp only [MX9_onesWith, m_g]
  refine wh2_rule (fun r a n => ∃ o, o + r = 6 ∧ n = nI o ∧ ∀ t, t < 32 → (bt a t = true ↔ t < o ∧ bt (X (18 + v)) t = true)) ?_ fu 6 _ _ (by omega) ⟨0, rfl, rfl, fun t _ => by rw [b_0]; exact ⟨fun z => absurd z (by decide), fun z => by omega⟩⟩
  rintro r a n self ⟨o, ho, rfl, hb⟩ ih
  simp only [MX9_onesWith_B4, m_r35, Option.bind_some, jn]
  rw [show (6 : Int32) = nI 6 from rfl]
  by_cases hr : r = 0
  · rw [if_pos (nI_le (by omega) (by omega))]
    congr 1
    apply b_iff
    intro t h32
    rw [hb t h32]
    constructor
    · exact fun z => z.2
    · intro z
      refine ⟨?_, z⟩
      rcases Nat.lt_or_ge t 6 with q | q
      · omega
      · rw [h.2.2.2.1 v t hv q] at z; cases z
  · have o6 : o < 6 := by omega
    rw [if_neg (nI_ge (by omega) (by omega)), m_ld19 hv, Option.bind_some, m_ld19 o6, Option.bind_some]
    have go : ∀ w : Int32, (∀ t, t < 32 → (bt w t = true ↔ t = o ∧ bt (X (18 + v)) o = true)) → self (a ||| w) (nI o + 1) = some (X (18 + v)) := by
      intro w hw
      refine ih (r - 1) _ _ (by omega) ⟨o + 1, by omega, nI_1 o, fun t h32 => ?_⟩
      rw [b_or, Bool.or_eq_true, hb t h32, hw t h32]
      constructor
      · rintro (⟨z1, z2⟩ | ⟨z1, z2⟩)
        · exact ⟨by omega, z2⟩
        · exact ⟨by omega, by rw [z1]; exact z2⟩
      · rintro ⟨z1, z2⟩
        rcases Nat.lt_or_ge t o with z3 | z3
        · exact Or.inl ⟨z3, z2⟩
        · have : t = o := by omega
          exact Or.inr ⟨this, by rw [← this]; exact z2⟩
    have go0 : bt (X (18 + v)) o ≠ true → self (a ||| 0) (nI o + 1) = some (X (18 + v)) := fun z => go 0 (fun t _ => by rw [b_0]; exact ⟨fun q => absurd q (by decide), fun q => absurd q.2 z⟩)
    by_cases co : o = v
    · rw [if_pos (by rw [co])]
      refine go0 (fun z => ?_)
      have := (h.2.2.1 v o hv o6).mp z
      exact this.1 co
    · rw [if_neg (fun z => co (nI_inj (by omega) (by omega) z)), if_neg ht]
      by_cases ce : J 19 o = J 19 v
      · rw [if_pos ce]
        refine go _ (fun t h32 => ?_)
        rw [b_one (by omega) h32, decide_eq_true_eq]
        exact ⟨fun z => ⟨z, (h.2.2.1 v o hv o6).mpr ⟨co, ht, ce⟩⟩, fun z => z.1⟩
      · rw [if_neg ce]
        exact go0 (fun z => ce ((h.2.2.1 v o hv o6).mp z).2.2)
/-- only the laid things differ -/
def fr19 (J J' : Nat → Nat → Int32) : Prop := ∀ b, b < 19 ∨ 21 < b → J' b = J b
theorem m_gathers (eP : J 2 = P) (hA : WFA P D) (h : SMr s J K) (g : GS P s) (hp : p ≤ 40) (hv : v < 6) {j15 : Int32 → Int32 → Int32 → Int32 → Int32 → Int32 → Hp → Option (Int32 × Hp)} {Q : Int32 × Hp → Prop} (hfu : 1001 < fu)
    (fin : ∀ J', fr19 J J' → WP (j15 (if cnt s.n (isAt s p) = 0 then 0 else 1) (hlP s p v s.n) (orP s p 0 v s.n) (orP s p 1 v s.n) (orP s p 2 v s.n) (anP s p 3 v s.n) (mkM J' K)) Q) : WP (wh8 (MX9_truly_B77 fu 0 j15 (nI p) (nI v)) fu (0 : Int32) (0 : Int32) (0 : Int32) (0 : Int32) (0 : Int32) (63 : Int32) (0 : Int32) (mkM J K)) Q := by
  have h40 := hA.1.1.2.2.2
  have n1 := g.1
  refine wh8_wp (fun r a0 a1 a2 a3 a4 a5 n hh => ∃ c J', c + r = s.n ∧ n = nI c ∧ hh = mkM J' K ∧ fr19 J J' ∧ a0 = (if cnt c (isAt s p) = 0 then 0 else 1) ∧ a1 = hlP s p v c ∧ a2 = orP s p 0 v c ∧ a3 = orP s p 1 v c ∧ a4 = orP s p 2 v c ∧ a5 = anP s p 3 v c) ?_ fu s.n _ _ _ _ _ _ _ _ (by omega) ⟨0, J, by omega, rfl, rfl, fun _ _ => rfl, rfl, rfl, rfl, rfl, rfl, rfl⟩
  rintro r a0 a1 a2 a3 a4 a5 n hh self ⟨c, J', hc, rfl, rfl, f1, rfl, rfl, rfl, rfl, rfl, rfl⟩ ih
  have h' : SMr s J' K := by
    unfold SMr
    rw [f1 0 (by decide), f1 24 (by decide)]
    exact h
  have cs : cnt (c + 1) (isAt s p) = cnt c (isAt s p) + if isAt s p c then 1 else 0 := rfl
  simp only [MX9_truly_B77, m_fI, m_r39, Option.bind_some, jn]
  rw [h'.1]
  by_cases hr : r = 0
  · rw [if_pos (nI_le (by omega) (by omega)), show c = s.n by omega]
    exact fin J' f1
  · obtain ⟨gp, gc, -⟩ := g.2.2 c (by omega)
    have oE : ∀ w, orP s p w v (c + 1) = if s.pl c = p then orP s p w v c ||| s.xs c (6 * w + v) else orP s p w v c := fun _ => rfl
    have aE : anP s p 3 v (c + 1) = if s.pl c = p ∧ s.xs c v ≠ 1 then anP s p 3 v c &&& s.xs c (6 * 3 + v) else anP s p 3 v c := rfl
    have hE : hlP s p v (c + 1) = if s.pl c = p ∧ s.xs c v ≠ 1 then 1 else hlP s p v c := rfl
    rw [if_neg (nI_ge (by omega) (by omega)), m_placeOf hA h' g (by omega), Option.bind_some]
    by_cases ce : s.pl c = p
    · have i1 : (1 : Int32) = if cnt (c + 1) (isAt s p) = 0 then 0 else 1 := by rw [cs, show isAt s p c = true from decide_eq_true ce, if_neg (by simp)]
      rw [if_pos (by rw [ce]), m_ld23 (by omega), Option.bind_some, (h'.2.2 c (by omega)).1]
      obtain ⟨J2, e2, f2, t2⟩ := m_laysC (J := J') (K := K) (fu := fu) hA gc (show s.pl c ≤ 40 by omega) (by omega)
      rw [e2, Option.bind_some]
      simp only [m_r35, m_r36, m_r37, Option.bind_some]
      have f3 : fr19 J J2 := fun b hb => by rw [f2 b hb, f1 b hb]
      have cf : CF P (J2 19) (J2 20) (J2 21) (s.xs c) := CF_cong gc t2
      rw [m_ld19 hv, Option.bind_some]
      by_cases ct : J2 19 v = -1
      · have x1 := (CF_none cf hv).mpr ct
        rw [if_pos ct, if_pos ct]
        obtain ⟨y1, y2⟩ := GC_18 gc hv x1
        have y3 := (GC_6 hA gc hv).mpr x1
        refine ih (r - 1) _ _ _ _ _ _ _ _ (by omega) ⟨c + 1, J2, by omega, nI_1 c, rfl, f3, i1, by rw [hE, if_neg (fun z => z.2 x1)], ?_, ?_, ?_, by rw [aE, if_neg (fun z => z.2 x1)]⟩
        · rw [oE, if_pos ce, show 6 * 0 + v = v by omega, x1]
        · rw [oE, if_pos ce, show 6 * 1 + v = 6 + v by omega, y3, Int32.or_zero]
        · rw [oE, if_pos ce, show 6 * 2 + v = 12 + v by omega, y2, Int32.or_zero]
      · have x1 : s.xs c v ≠ 1 := fun z => ct ((CF_none cf hv).mp z)
        obtain ⟨mm, ss1, y3⟩ : J2 20 v = s.xs c v ∧ ∃ t, t < 6 ∧ J2 21 v = nI t ∧ s.xs c (6 + v) = b1 t := by
          rcases cf.1 v hv with ⟨z, -⟩ | ⟨-, lv, -, z2, t, lt, t1, t3⟩
          · exact absurd z ct
          · have := (hA.1.2 _ (hA.2.1 v lv).2).1.2.2
            exact ⟨z2.symm, t, by omega, t1, t3⟩
        obtain ⟨lt, t1, t3⟩ := y3
        rw [if_neg ct, m_ld20 hv, Option.bind_some, if_neg ct, m_ld21 hv, Option.bind_some, m_onesWith cf hv ct (by omega), Option.bind_some, t1, mm]
        refine ih (r - 1) _ _ _ _ _ _ _ _ (by omega) ⟨c + 1, J2, by omega, nI_1 c, rfl, f3, i1, by rw [hE, if_pos ⟨ce, x1⟩], ?_, ?_, ?_, ?_⟩
        · rw [oE, if_pos ce, show 6 * 0 + v = v by omega]
        · rw [oE, if_pos ce, show 6 * 1 + v = 6 + v by omega, t3]
        · rw [oE, if_pos ce, show 6 * 2 + v = 12 + v by omega, cf.2.1 v hv]
        · rw [aE, if_pos ⟨ce, x1⟩]
    · rw [if_neg (fun z => ce (nI_inj (by omega) (by omega) z))]
      refine ih (r - 1) _ _ _ _ _ _ _ _ (by omega) ⟨c + 1, J', by omega, nI_1 c, rfl, f1, ?_, by rw [hE, if_neg (fun z => ce z.1)], by rw [oE, if_neg ce], by rw [oE, if_neg ce], by rw [oE, if_neg ce], by rw [aE, if_neg (fun z => ce z.1)]⟩
      rw [cs, show isAt s p c = false from decide_eq_false ce]
      rfl
theorem op_truly {a b d : Int32} (h : REL kSo sw I L J) (hfu : 2048 < fu) : OPR kSo (MX8_truly fu 0 a b d (mkC sw I L)) (MX9_truly fu 0 a b d (mkM J K)) := by
  obtain ⟨D, hA, hC⟩ := h.2.2.1
  have h40 := hA.1.1.2.2.2
  have h6 := hA.1.1.2.1.2
  simp only [MX8_truly, MX9_truly, c8_g, m_g, Option.bind_some, c_refuse, m_refuse, jn, c8_pg]
  rw [isFrom_c (y := 3) (n := 3) rfl (by decide), Option.bind_some, rng_le (y := 3) (n := 3) rfl (by decide)]
  rw [c_hasPlace pid_P (hC.2.2.1.trans hA.1.1.2.2.1) (by omega), m_isPlace hA.1.1, Option.bind_some, Option.bind_some, c_hasVariable pid_P (hC.2.1.1.trans hA.1.1.2.1.1) (by omega), m_isVariable hA.1.1, Option.bind_some, Option.bind_some]
  simp only [ite0]
  by_cases hc : inR d 4 = true
  · simp only [hc, if_true, Bool.true_eq_false, if_false]
    by_cases hp : inR a (nT (J 2) + 1) = true
    · simp only [hp, Bool.true_eq_false, if_false]
      by_cases hv : inR b (nV (J 2)) = true
      · simp only [hv, Bool.true_eq_false, if_false]
        obtain ⟨w, w1, rfl⟩ := inR_of (by decide) hc
        obtain ⟨p, p1, rfl⟩ := inR_of (by omega) hp
        obtain ⟨v, v1, rfl⟩ := inR_of (by omega) hv
        obtain ⟨I1, L1, J1, K1, e1, e2, R, o1, o2, eP⟩ := both_search (K := K) (fu := fu) h hfu
        obtain ⟨m1, m2, m3⟩ := o2
        rw [e1, Option.bind_some, e2, Option.bind_some]
        simp only [c6_fI, m_fI, c6_r7, Option.bind_some, c_refuse, m_refuse]
        rw [o1.1.2.1, m1.2.1]
        cases m : (finS (J 2)).mo
        · simp only [Bool.false_eq_true, if_false, if_true]
          have rch := (o1.2 m).1.2.2.2.2.2.1 p (by omega)
          rw [c6_ld7 (by omega), Option.bind_some, rch]
          obtain ⟨f, ef⟩ := c_gather (sw := sw) (fu := fu) (p := p) (v := v) (w := w) hA o1.1 m2 (by omega) (by omega) w1 (by omega)
          rw [ef, Option.bind_some]
          simp only [c_answer, Option.bind_some]
          have key : ∀ (x : Option (Int32 × Hp)) (y : Option (Int32 × Hp)), (WP y (fun r => OPR kSo x (some r))) → OPR kSo x y := by
            rintro x y ⟨r, rfl, q⟩
            exact q
          apply key
          refine m_gathers (fu := fu) (p := p) (v := v) eP hA m1 m2 (by omega) (by omega) (by omega) (fun J2 f2 => ?_)
          have fl : frL J1 J2 := ⟨fun q _ _ hq => f2 q (by omega), fun k hk => congrFun (f2 0 (by decide)) k⟩
          have R2 : REL kSo sw (ur I1 221 f) L1 J2 := by
            refine REL_keep okS_o (REL_lays R fl) (fun q q0 q1 q2 => ur_ne (fun z => q2 (by rw [z]; unfold scD; omega))) (fun k _ => by rw [ur_ne (by decide)]) ?_ ⟨rfl, rfl⟩ ⟨rfl, rfl⟩ (fun _ _ _ => rfl) (REL_lays R fl).2.2.2.1
            rw [ur_ne (by decide)]
            exact (REL_lays R fl).2.1.1
          by_cases c0 : cnt (finS (J 2)).n (isAt (finS (J 2)) p) = 0
          · simp only [if_pos c0, if_true]
            refine WP_some ?_
            exact OPR_fin okS_o (REL_lays R fl)
          · simp only [if_neg c0, if_neg (show ¬ (1 : Int32) = 0 by decide), m_gives, Option.bind_some]
            rcases (show w = 0 ∨ w = 1 ∨ w = 2 ∨ w = 3 by omega) with e | e | e | e
            · subst e
              rw [if_pos (show nI 0 = 0 from rfl), if_neg (by decide)]
              exact WP_some (OPR_fin okS_o R2)
            · subst e
              rw [if_neg (show ¬ nI 1 = 0 by decide), if_pos (show nI 1 = 1 from rfl), if_neg (by decide)]
              exact WP_some (OPR_fin okS_o R2)
            · subst e
              rw [if_neg (show ¬ nI 2 = 0 by decide), if_neg (show ¬ nI 2 = 1 by decide), if_pos (show nI 2 = 2 from rfl), if_neg (by decide)]
              exact WP_some (OPR_fin okS_o R2)
            · subst e
              rw [if_neg (show ¬ nI 3 = 0 by decide), if_neg (show ¬ nI 3 = 1 by decide), if_neg (show ¬ nI 3 = 2 by decide), if_pos rfl]
              by_cases z : hlP (finS (J 2)) p v (finS (J 2)).n = 0
              · rw [if_pos z, if_pos z]
                exact WP_some (OPR_fin okS_o R2)
              · rw [if_neg z, if_neg z]
                exact WP_some (OPR_fin okS_o R2)
        · simp only [if_true, if_neg (show ¬ (1 : Int32) = 0 by decide)]
          exact OPR_fin okS_o R
      · have hv : inR b (nV (J 2)) = false := by simpa using hv
        simp only [hv, if_true]
        exact OPR_fin okS_o h
    · have hp : inR a (nT (J 2) + 1) = false := by simpa using hp
      simp only [hp, if_true]
      exact OPR_fin okS_o h
  · have hc : inR d 4 = false := by simpa using hc
    simp only [hc, if_true, Bool.false_eq_true, if_false]
    exact OPR_fin okS_o h
end Truly
