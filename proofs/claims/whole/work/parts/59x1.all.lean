/-! THE CLASS'S SEARCH, WHOLE -/
/-- how many steps back to the beginning -/
def lenB (fr : Nat → Int32) : Nat → Int32 → Nat
  | 0, _ => 0
  | f + 1, e => if e = -1 then 0 else lenB fr f (fr (nN e)) + 1
def SchOK (P : Nat → Int32) (I : Nat → Nat → Int32) (L : Nat → Nat → Int64) : Prop := SCc (finS P) I L ∧ ((finS P).mo = false → SCx P (finS P) (finS P).n I ∧ I 214 3 = nI (lenB (finS P).fr 1001 (fwj P (finS P) (finS P).n)))
/-- what the search knows between calls -/
def kSo : KS := fun P I L => I 0 8 = 0 ∨ (I 0 8 = 1 ∧ SchOK P I L)
theorem SCc_fr {s : Sch} {I I' : Nat → Nat → Int32} {L L' : Nat → Nat → Int64} (h : SCc s I L) (e1 : I' 214 0 = I 214 0 ∧ I' 214 1 = I 214 1) (e2 : I' 218 = I 218) (e3 : I' 219 = I 219) (e4 : L' 217 = L 217) : SCc s I' L' := by
  unfold SCc
  rw [e1.1, e1.2, e2, e3, e4]
  exact h
theorem okS_o : okS kSo := by
  intro P I I' L L' h1 h2 h3 h4
  unfold kSo at *
  rw [h2]
  rcases h4 with q | ⟨q, q1, q2⟩
  · exact Or.inl q
  · refine Or.inr ⟨q, SCc_fr q1 ⟨by rw [h1 214 (by decide) (by decide)], by rw [h1 214 (by decide) (by decide)]⟩ (h1 218 (by decide) (by decide)) (h1 219 (by decide) (by decide)) h3, fun m => ?_⟩
    obtain ⟨q3, q4⟩ := q2 m
    unfold SCx
    rw [h1 214 (by decide) (by decide), h1 215 (by decide) (by decide), h1 216 (by decide) (by decide)]
    exact ⟨q3, q4⟩
theorem fwj_of {P : Nat → Int32} {s : Sch} : ∀ c, c ≤ 1000 → (fwj P s c = -1 ∧ wrj P s c = 0 ∧ cnt c (bad P s) = 0 ∧ ∀ j, j < c → rj P s j = 0) ∨ ∃ j, j < c ∧ fwj P s c = nI j ∧ rj P s j ≠ 0 ∧ wrj P s c = rj P s j ∧ cnt c (bad P s) ≠ 0 ∧ ∀ i, i < j → rj P s i = 0 := by
  intro c
  induction c with
  | zero => intro _; exact Or.inl ⟨rfl, rfl, rfl, fun j hj => by omega⟩
  | succ c ih =>
    intro hc
    have fE : fwj P s (c + 1) = if fwj P s c = -1 then (if rj P s c = 0 then -1 else nI c) else fwj P s c := rfl
    have wE : wrj P s (c + 1) = if wrj P s c = 0 then rj P s c else wrj P s c := rfl
    have cb : cnt (c + 1) (bad P s) = cnt c (bad P s) + if bad P s c then 1 else 0 := rfl
    rcases ih (by omega) with ⟨h1, h2, h3, h4⟩ | ⟨j, j1, j2, j3, j4, j5, j6⟩
    · by_cases q : rj P s c = 0
      · have b0 : bad P s c = false := decide_eq_false (fun z => z q)
        refine Or.inl ⟨by rw [fE, if_pos h1, if_pos q], by rw [wE, if_pos h2, q], by rw [cb, h3, b0]; rfl, fun j hj => ?_⟩
        rcases Nat.lt_or_ge j c with z | z
        · exact h4 j z
        · rw [show j = c by omega]; exact q
      · have b0 : bad P s c = true := decide_eq_true q
        exact Or.inr ⟨c, by omega, by rw [fE, if_pos h1, if_neg q], q, by rw [wE, if_pos h2], by rw [cb, b0]; simp, h4⟩
    · refine Or.inr ⟨j, by omega, ?_, j3, ?_, by rw [cb]; omega, j6⟩
      · rw [fE, if_neg (by rw [j2]; exact nI_ne_m1 (by omega)), j2]
      · rw [wE, if_neg (by rw [j4]; exact j3), j4]
section All
variable {sw : Bool} {I I' : Nat → Nat → Int32} {L L' : Nat → Nat → Int64} {fu v w p t i c x : Nat} {D : Nat → Nat} {X Y P l : Nat → Int32} {s s' : Sch} {y z : Int32}
theorem lenB_le {fr : Nat → Int32} {n : Nat} (h : ∀ j, j < n → fr j = -1 ∨ ∃ q, q < j ∧ fr j = nI q) (hn : n ≤ 1000) : ∀ f q, q < n → lenB fr f (nI q) ≤ q + 1 := by
  intro f
  induction f with
  | zero => intro q _; exact Nat.zero_le _
  | succ f ih =>
    intro q hq
    show (if nI q = -1 then 0 else lenB fr f (fr (nN (nI q))) + 1) ≤ q + 1
    rw [if_neg (nI_ne_m1 (by omega)), nN_nI (by omega)]
    rcases h q hq with e | ⟨q', h1, e⟩
    · rw [e]
      have : lenB fr f (-1) = 0 := by cases f <;> rfl
      omega
    · rw [e]
      have := ih q' (by omega)
      omega
theorem lenB_1 {fr : Nat → Int32} {f : Nat} : lenB fr f (-1) = 0 := by cases f <;> rfl
/-- one more of fuel does nothing, where it is enough -/
theorem lenB_s {fr : Nat → Int32} {n : Nat} (h : ∀ j, j < n → fr j = -1 ∨ ∃ q, q < j ∧ fr j = nI q) (hn : n ≤ 1000) : ∀ f q, q < n → q < f → lenB fr (f + 1) (nI q) = lenB fr f (nI q) := by
  intro f
  induction f with
  | zero => intro q _ h; omega
  | succ f ih =>
    intro q hq hf
    show (if nI q = -1 then 0 else lenB fr (f + 1) (fr (nN (nI q))) + 1) = if nI q = -1 then 0 else lenB fr f (fr (nN (nI q))) + 1
    rw [if_neg (nI_ne_m1 (by omega)), if_neg (nI_ne_m1 (by omega)), nN_nI (by omega)]
    rcases h q hq with e | ⟨q', h1, e⟩
    · rw [e, lenB_1, lenB_1]
    · rw [e, ih q' (by omega) (by omega)]
theorem lenB_n {fr : Nat → Int32} {n : Nat} (h : ∀ j, j < n → fr j = -1 ∨ ∃ q, q < j ∧ fr j = nI q) (hn : n ≤ 1000) {q : Nat} (hq : q < n) : lenB fr 1001 (nI q) = lenB fr 1001 (fr q) + 1 := by
  show (if nI q = -1 then 0 else lenB fr 1000 (fr (nN (nI q))) + 1) = _
  rw [if_neg (nI_ne_m1 (by omega)), nN_nI (by omega)]
  rcases h q hq with e | ⟨q', h1, e⟩
  · rw [e, lenB_1, lenB_1]
  · rw [e, lenB_s h hn 1000 q' (by omega) (by omega)]
theorem c_lengthTo {e : Int32} (h : SCc s I L) (g : GS P s) (he : e = -1 ∨ ∃ q, q < s.n ∧ e = nI q) (hfu : 1001 < fu) : MX6_lengthTo fu 214 e (mkC sw I L) = some (nI (lenB s.fr 1001 e)) := by
  have n1 := g.1
  have hf : ∀ j, j < s.n → s.fr j = -1 ∨ ∃ q, q < j ∧ s.fr j = nI q := fun j hj => (g.2.2 j hj).2.2
  simp only [MX6_lengthTo, c6_g]
  refine wh2_rule (fun r v1 v2 => ∃ d, v1 = nI d ∧ d + lenB s.fr 1001 v2 = lenB s.fr 1001 e ∧ (v2 = -1 ∨ ∃ q, q < s.n ∧ v2 = nI q ∧ q + d + 1 ≤ 1000) ∧ r = lenB s.fr 1001 v2) ?_ fu (lenB s.fr 1001 e) _ _ (by rcases he with q | ⟨q, hq, q2⟩; rw [q, lenB_1]; omega; rw [q2]; have := lenB_le hf n1 1001 q hq; omega) ⟨0, rfl, by omega, by rcases he with q | ⟨q, hq, q2⟩; exact Or.inl q; exact Or.inr ⟨q, hq, q2, by omega⟩, rfl⟩
  rintro r v1 v2 self ⟨d, rfl, hd, h2, hr⟩ ih
  simp only [MX6_lengthTo_B4, c6_r11, Option.bind_some]
  rcases h2 with e2 | ⟨q, q1, e2, q3⟩
  · rw [if_pos e2]
    rw [e2, lenB_1] at hd
    rw [← hd]
    rfl
  · rw [e2] at hr hd ⊢
    rw [lenB_n hf n1 q1] at hr hd
    rw [if_neg (nI_ne_m1 (by omega)), show (1000 : Int32) = nI 1000 from rfl, if_neg (nI_ge (by omega) (by decide)), c6_ld11 (by omega), Option.bind_some, (h.2.2.1 q q1).2]
    refine ih (r - 1) _ _ (by omega) ⟨d + 1, nI_1 d, by omega, ?_, by omega⟩
    rcases hf q q1 with e3 | ⟨q', h1, e3⟩
    · exact Or.inl e3
    · exact Or.inr ⟨q', by omega, e3, by omega⟩
/-- what the search changes of the class's rows -/
def frX (I I' : Nat → Nat → Int32) (L L' : Nat → Nat → Int64) : Prop := (∀ b, b < 214 ∨ 223 < b → I' b = I b) ∧ ∀ b, b ≠ 217 → L' b = L b
theorem frX_refl : frX I I L L := ⟨fun _ _ => rfl, fun _ _ => rfl⟩
theorem frX_trans {I2 : Nat → Nat → Int32} {L2 : Nat → Nat → Int64} (a : frX I I' L L') (b : frX I' I2 L' L2) : frX I I2 L L2 := ⟨fun q hq => by rw [b.1 q hq, a.1 q hq], fun q hq => by rw [b.2 q hq, a.2 q hq]⟩
theorem frX_S (a : frS I I' L L') : frX I I' L L' := ⟨fun b hb => a.1 b (by omega) (by omega) (by omega) (by omega), a.2.1⟩
theorem s_round (hp : isP p) (hC : CR p I P D) (hA : WFA P D) (h : SCc s I L) (q : SCx P s c I) (g : GS P s) (hc : c < s.n) (hfu : 2048 < fu) {self : Int32 → Hp → Option Hp} {j8 : Hp → Option Hp} (mo : s.mo = false) :
    ∃ I' L', MX6_explore_B26 fu j8 214 p self (nI c) (mkC sw I L) = self (nI c + 1) (mkC sw I' L') ∧ SCc (expS P s c) I' L' ∧ SCx P (expS P s c) (c + 1) I' ∧ frX I I' L L' := by
  have h40 := hA.1.1.2.2.2
  have n1 := g.1
  obtain ⟨gp, gc, -⟩ := g.2.2 c hc
  simp only [MX6_explore_B26, c6_fI, c6_r10, c6_r13, Option.bind_some, jn]
  rw [show (1000 : Int32) = nI 1000 from rfl, if_neg (nI_ge (by omega) (by decide)), h.1, if_neg (nI_ge (by omega) (by omega)), h.2.1, mo, if_pos (by rfl), c6_ld10 (by omega), Option.bind_some, (h.2.2.1 c hc).1, c_placeOf hA gc (by omega), Option.bind_some]
  obtain ⟨_, e1, f, rfl, e2⟩ := c_setFrom (sw := sw) (I := I) (L := L) (fu := fu) (p := s.pl c) hA isH220 gc (by omega) (by omega)
  rw [e1, Option.bind_some]
  have f1 : frX I (ur I 221 f) L L := ⟨fun b hb => ur_ne (by omega), fun _ _ => rfl⟩
  have h1 : SCc s (ur I 221 f) L := SCc_fr h ⟨by rw [ur_ne (by decide)], by rw [ur_ne (by decide)]⟩ (ur_ne (by decide)) (ur_ne (by decide)) rfl
  have q1 : SCx P s c (ur I 221 f) := SCx_le leH_refl (by omega) rfl rfl q ⟨fun m _ _ => by rw [ur_ne (by decide)], ur_ne (by decide), ur_ne (by decide)⟩
  obtain ⟨r, I2, e3, er, h2, q2, f2⟩ := c_goesOn (sw := sw) (L := L) (fu := fu) hp (frG hp hC f1.1) hA h1 q1 g hc (by rw [ur_at]; exact e2) (by omega)
  have f2' : frX I I2 L L := frX_trans f1 ⟨fun b hb => f2 b (by omega) (by omega) (by omega), fun _ _ => rfl⟩
  rw [show ur I (220 + 1) f = ur I 221 f from rfl, e3, Option.bind_some]
  simp only []
  by_cases ce : s.pl c = nT P ∨ rj P s c ≠ 0
  · rw [if_pos ce] at er
    rw [if_pos er]
    refine ⟨I2, L, rfl, ?_, ?_, f2'⟩
    · unfold expS; rw [if_pos ce]; exact h2
    · unfold expS; rw [if_pos ce]; exact q2
  · rw [if_neg ce] at er
    rw [if_neg (by rw [er]; decide)]
    have hi : s.pl c < nT P := by
      have : s.pl c ≠ nT P := fun z => ce (Or.inl z)
      omega
    have hr : rsn P (s.pl c) (s.xs c) = 0 := by
      by_cases z : rj P s c = 0
      · exact z
      · exact absurd (Or.inr z) ce
    have e221 : e24 (I2 221) (s.xs c) := by
      rw [f2 221 (by decide) (by decide) (by decide), ur_at]; exact e2
    have g0 : GS P (exp0 P s c) := GS_0 g
    have l0 : leH s (exp0 P s c) := leH_0
    obtain ⟨I3, L3, e4, h3, f3⟩ := c_follow (sw := sw) (fu := fu) (c := c) (z := 1) hp (frG hp hC f2'.1) hA h2 g0 hi gc e221 hr (Or.inr rfl) hfu
    have l1 : leH (exp0 P s c) (folS P (exp0 P s c) (s.pl c) (s.xs c) c 1) := leH_fol
    have k1 := fol_keep (P := P) (s := exp0 P s c) (i := s.pl c) (X := s.xs c) (c := c) (z := 1)
    have f3' := frX_trans f2' (frX_S f3)
    have g1 : GS P (folS P (exp0 P s c) (s.pl c) (s.xs c) c 1) := GS_fol hA g0 hi gc hr hc
    obtain ⟨I4, L4, e5, h4, f4⟩ := c_follow (sw := sw) (fu := fu) (c := c) (z := 0) hp (frG hp hC f3'.1) hA h3 g1 hi gc (by rw [f3.1 221 (by decide) (by decide) (by decide) (by decide)]; exact e221) hr (Or.inl rfl) hfu
    have l2 : leH (folS P (exp0 P s c) (s.pl c) (s.xs c) c 1) (folS P (folS P (exp0 P s c) (s.pl c) (s.xs c) c 1) (s.pl c) (s.xs c) c 0) := leH_fol
    have k2 := fol_keep (P := P) (s := folS P (exp0 P s c) (s.pl c) (s.xs c) c 1) (i := s.pl c) (X := s.xs c) (c := c) (z := 0)
    have ns : (exp0 P s c).n = s.n := rfl
    have q3 : SCx P _ (c + 1) I3 := SCx_le l1 (by omega) k1.1 k1.2 q2 ⟨f3.2.2, f3.1 215 (by decide) (by decide) (by decide) (by decide), f3.1 216 (by decide) (by decide) (by decide) (by decide)⟩
    have q4 : SCx P _ (c + 1) I4 := SCx_le l2 (by have := l1.1; omega) k2.1 k2.2 q3 ⟨f4.2.2, f4.1 215 (by decide) (by decide) (by decide) (by decide), f4.1 216 (by decide) (by decide) (by decide) (by decide)⟩
    rw [e4, Option.bind_some, e5, Option.bind_some]
    have xe : expS P s c = folS P (folS P (exp0 P s c) (s.pl c) (s.xs c) c 1) (s.pl c) (s.xs c) c 0 := by unfold expS; rw [if_neg ce]
    refine ⟨I4, L4, rfl, ?_, ?_, frX_trans f3' (frX_S f4)⟩
    · rw [xe]; exact h4
    · rw [xe]; exact q4
theorem runS_0 {f : Nat} (h : ¬ (c < s.n ∧ s.mo = false)) : runS P f c s = s := by
  cases f with
  | zero => rfl
  | succ f => show (if _ then _ else _) = _; rw [if_neg h]
theorem runS_1 {f : Nat} (h : c < s.n ∧ s.mo = false) : runS P (f + 1) c s = runS P f (c + 1) (expS P s c) := by
  show (if _ then _ else _) = _
  rw [if_pos h]
/-- all rounds, and what is done behind them -/
theorem s_rounds (hp : isP p) (hC : CR p I P D) (hA : WFA P D) (h : SCc sch0 I L) (q : SCx P sch0 0 I) (hfu : 2048 < fu) {j8 : Hp → Option Hp} {Q : Hp → Prop}
    (fin : ∀ I' L', SCc (finS P) I' L' → GS P (finS P) → ((finS P).mo = false → SCx P (finS P) (finS P).n I') → (∃ c, c ≤ (finS P).n ∧ SCx P (finS P) c I') → frX I I' L L' → WP (j8 (mkC sw I' L')) Q) : WP (wh2 (MX6_explore_B26 fu j8 214 p) fu (0 : Int32) (mkC sw I L)) Q := by
  refine wh2_wp (fun r v h => ∃ c s I' L', c + r = 1000 ∧ v = nI c ∧ h = mkC sw I' L' ∧ SCc s I' L' ∧ SCx P s c I' ∧ GS P s ∧ c ≤ s.n ∧ runS P r c s = finS P ∧ frX I I' L L') ?_ fu 1000 _ _ (by omega) ⟨0, sch0, I, L, rfl, rfl, rfl, h, q, GS_sch0, Nat.zero_le _, rfl, frX_refl⟩
  rintro r v h' self ⟨c, s, I1, L1, hr, rfl, rfl, h1, q1, g1, c1, e1, f1⟩ ih
  have n1 := g1.1
  by_cases cc : c < s.n ∧ s.mo = false
  · obtain ⟨r, rfl⟩ : ∃ r', r = r' + 1 := ⟨r - 1, by omega⟩
    rw [runS_1 cc] at e1
    obtain ⟨I', L', x4, x1, x2, x3⟩ := s_round (sw := sw) (fu := fu) (self := self) (j8 := j8) hp (frG hp hC f1.1) hA h1 q1 g1 cc.1 hfu cc.2
    rw [x4]
    exact ih r _ _ (by omega) ⟨c + 1, _, I', L', by omega, nI_1 c, rfl, x1, x2, GS_exp hA g1 cc.1, by have := (leH_exp (P := P) (s := s) (c := c)).1; omega, e1, frX_trans f1 x3⟩
  · rw [runS_0 cc] at e1
    subst e1
    have F := fin I1 L1 h1 g1 (fun m => by
      have : c = (finS P).n := by
        rcases Nat.lt_or_ge c (finS P).n with z | z
        · exact absurd ⟨z, m⟩ cc
        · omega
      rw [← this]; exact q1) ⟨c, c1, q1⟩ f1
    simp only [MX6_explore_B26, c6_fI, c6_r10, c6_r13, Option.bind_some, jn]
    rw [h1.1, h1.2.1]
    by_cases z1 : (1000 : Int32) ≤ nI c
    · rw [if_pos z1]; exact F
    · rw [if_neg z1]
      by_cases z2 : nI (finS P).n ≤ nI c
      · rw [if_pos z2]; exact F
      · rw [if_neg z2]
        have m : (finS P).mo = true := by
          have : c < (finS P).n := by
            rcases Nat.lt_or_ge c (finS P).n with z | z
            · exact z
            · exact absurd (nI_le z (by omega)) z2
          cases e : (finS P).mo
          · exact absurd ⟨this, e⟩ cc
          · rfl
        rw [m, if_pos rfl, if_neg (by decide)]
        exact F
theorem c_forgetS (hfu : 2048 < fu) : WP (MX6_forget fu 214 (mkC sw I L)) (fun h => ∃ I', h = mkC sw I' L ∧ (∀ b, b < 214 ∨ 219 < b ∨ b = 218 → I' b = I b) ∧ I' 214 0 = 0 ∧ I' 214 1 = 0 ∧ I' 214 2 = 0 ∧ I' 214 9 = -1 ∧ I' 214 4 = 0 ∧ I' 214 5 = 0 ∧ I' 214 6 = 0 ∧ (∀ q, q < 2048 → I' 219 q = 0) ∧ (∀ k, k < 4 → I' 216 k = 0) ∧ ∀ p, p < 41 → I' 215 p = 0) := by
  simp only [MX6_forget, c6_g, c6_pI, c6_pZ (Or.inl rfl), Option.bind_some, c6_r12, ur_ur, ur_at]
  rw [fillI (h := mkC sw _ L) (a := 219) (N := 2048) rfl (by decide) hfu, Option.bind_some]
  rw [show ∀ (I : Nat → Nat → Int32) f, h_rowI (mkC sw I L) 219 f = mkC sw (ur I 219 f) L from fun _ _ => rfl, c6_r8, Option.bind_some]
  rw [fillI (h := mkC sw _ L) (a := 216) (N := 4) rfl (by decide) (by omega), Option.bind_some]
  rw [show ∀ (I : Nat → Nat → Int32) f, h_rowI (mkC sw I L) 216 f = mkC sw (ur I 216 f) L from fun _ _ => rfl]
  generalize hG : (ur (ur (ur I 214 _) 219 _) 216 _) = G
  have g216 : ∀ k, k < 4 → G 216 k = 0 := fun k hk => by rw [← hG, ur_at]; exact if_pos hk
  have g219 : ∀ k, k < 2048 → G 219 k = 0 := fun k hk => by rw [← hG, ur_ne (by decide), ur_at]; exact if_pos hk
  have g214 : G 214 = up (up (up (up (up (up (up (I 214) 0 0) 1 0) 2 0) 9 (-1)) 4 0) 5 0) 6 0 := by rw [← hG, ur_ne (by decide), ur_ne (by decide), ur_at]
  have gO : ∀ b, b < 214 ∨ 219 < b ∨ b = 218 ∨ b = 215 → G b = I b := fun b hb => by rw [← hG, ur_ne (by omega), ur_ne (by omega), ur_ne (by omega)]
  refine wh2_wp (fun r n h => ∃ v g, v + r = 41 ∧ n = nI v ∧ h = mkC sw (ur G 215 g) L ∧ ∀ p, p < v → g p = 0) ?_ fu 41 _ _ (by omega) ⟨0, G 215, rfl, rfl, by rw [ur_self], fun p hp => by omega⟩
  rintro r n h self ⟨v, g, hv, rfl, rfl, hg⟩ ih
  simp only [MX6_forget_B53, c6_r7, Option.bind_some]
  rw [show (41 : Int32) = nI 41 from rfl]
  by_cases hr : r = 0
  · subst hr
    rw [if_pos (nI_le (by omega) (by omega))]
    refine WP_some ⟨_, rfl, fun b hb => by rw [ur_ne (by omega), gO b (by omega)], ?_, ?_, ?_, ?_, ?_, ?_, ?_, fun k hk => by rw [ur_ne (by decide)]; exact g219 k hk, fun k hk => by rw [ur_ne (by decide)]; exact g216 k hk, fun p hp => by rw [ur_at]; exact hg p (by omega)⟩
    all_goals (rw [ur_ne (by decide), g214]; rfl)
  · rw [if_neg (nI_ge (by omega) (by omega)), c6_st7 (by omega) (Or.inl rfl), Option.bind_some]
    refine ih (r - 1) _ _ (by omega) ⟨v + 1, _, by omega, nI_1 v, by rw [ur_ur], fun p hp => ?_⟩
    rw [ur_at]
    by_cases e : p = v
    · rw [e, up_at]
    · rw [up_ne e]; exact hg p (by omega)
theorem hasS_no {s : Sch} {Y : Nat → Int32} (h : s.n = 0) : ¬ hasS s t Y := fun ⟨j, hj, _⟩ => by omega
theorem c_explore (hp : isP p) (hC : CR p I P D) (hA : WFA P D) (hfu : 2048 < fu) : WP (MX6_explore fu 214 p (mkC sw I L)) (fun h => ∃ I' L', h = mkC sw I' L' ∧ SchOK P I' L' ∧ frX I I' L L') := by
  simp only [MX6_explore, c6_g]
  obtain ⟨_, e1, I1, rfl, f1, z0, z1, z2, z9, z4, z5, z6, zs, zl, zr⟩ := c_forgetS (sw := sw) (I := I) (L := L) hfu
  obtain ⟨_, e2, f, rfl, e3⟩ := c_begin (sw := sw) (I := I1) (L := L) (fu := fu) isH220 (by omega)
  have gX : GC P X0 := (GS_sch0 (P := P)).2.2 0 (by decide) |>.2.1
  have gf : GC P f := GC_e24 gX e3
  rw [e1, Option.bind_some, c6_r13, Option.bind_some, e2, Option.bind_some, c6_r13, Option.bind_some]
  have ek : MX1_key fu 220 (0 : Int32) (mkC sw (ur I1 (220 + 1) f) L) = some (kC 0 X0) := by
    have := c_key (sw := sw) (I := ur I1 (220 + 1) f) (L := L) (fu := fu) (p := 0) hA isH220 (by rw [ur_at]; exact gf) (by decide) (by omega)
    rw [ur_at] at this
    rw [show (0 : Int32) = nI 0 from rfl, this, (kC_inj hA (by decide) (by decide) gf gX).mpr ⟨rfl, e3⟩]
  rw [ek, Option.bind_some]
  let s0 : Sch := mkS 0 (fun _ => 0) (fun _ => X0) (fun _ => -1) false (fun _ => 0) 0
  have h0 : SCc s0 (ur I1 221 f) L := by
    refine ⟨by rw [ur_ne (by decide), z0]; rfl, by rw [ur_ne (by decide), z1]; rfl, fun j hj => absurd hj (Nat.not_lt_zero _), ?_⟩
    rw [ur_ne (by decide)]
    refine ⟨fun q hq => Or.inl (zs q hq), fun q q' hq _ _ ne => absurd (zs q hq) ne, fun j hj => absurd hj (Nat.not_lt_zero _)⟩
  have g0 : GS P s0 := ⟨by decide, by decide, fun j hj => absurd hj (Nat.not_lt_zero _)⟩
  obtain ⟨I2, L2, e4, h2, f2⟩ := c_addS (sw := sw) (fu := fu) (t := 0) (Y := X0) (y := -1) hA h0 g0 (Nat.zero_le _) gX hfu
  have ea : addS s0 0 X0 (-1) = sch0 := by
    rw [add_new (hasS_no rfl), if_neg (by decide)]
    show mkS _ _ _ _ _ _ _ = mkS _ _ _ _ _ _ _
    have u1 : up (fun _ : Nat => (0 : Nat)) 0 0 = fun _ => 0 := up_self (f := fun _ : Nat => (0 : Nat)) (k := 0)
    have u2 : up (fun _ : Nat => X0) 0 X0 = fun _ => X0 := up_self (f := fun _ : Nat => X0) (k := 0)
    have u3 : up (fun _ : Nat => (-1 : Int32)) 0 (-1) = fun _ => -1 := up_self (f := fun _ : Nat => (-1 : Int32)) (k := 0)
    show mkS _ (up (fun _ : Nat => (0 : Nat)) 0 0) (up (fun _ : Nat => X0) 0 X0) (up (fun _ : Nat => (-1 : Int32)) 0 (-1)) _ _ _ = _
    rw [u1, u2, u3]
    rfl
  rw [ea] at h2
  rw [show ur I1 (220 + 1) f = ur I1 221 f from rfl, e4, Option.bind_some]
  simp only [jn]
  have F2 : frX I I2 L L2 := frX_trans (frX_trans ⟨fun b hb => f1 b (by omega), fun _ _ => rfl⟩ ⟨fun b hb => ur_ne (by omega), fun _ _ => rfl⟩) (frX_S f2)
  have q2 : SCx P sch0 0 I2 := by
    have k : ∀ b, b = 215 ∨ b = 216 → I2 b = I1 b := fun b hb => by rw [f2.1 b (by omega) (by omega) (by omega) (by omega), ur_ne (by omega)]
    have k2 : ∀ m, m ≠ 0 → m ≠ 1 → I2 214 m = I1 214 m := fun m m0 m1 => by rw [f2.2.2 m m0 m1, ur_ne (by decide)]
    refine ⟨by rw [k2 2 (by decide) (by decide), z2]; rfl, by rw [k2 9 (by decide) (by decide), z9]; rfl, by rw [k2 4 (by decide) (by decide), z4]; rfl, by rw [k2 5 (by decide) (by decide), z5]; rfl, by rw [k2 6 (by decide) (by decide), z6]; rfl, fun p hp => ?_, fun m hm => ?_⟩
    · rw [k 215 (Or.inl rfl), zr p (by omega)]; rfl
    · rw [k 216 (Or.inr rfl), zl m hm]; rfl
  refine s_rounds (sw := sw) (fu := fu) hp (frG hp hC F2.1) hA h2 q2 hfu (fun I3 L3 h3 g3 q3 q4 f3 => ?_)
  obtain ⟨c, c1, q4⟩ := q4
  have n1 := g3.1
  rw [c6_fI, Option.bind_some]
  have he : I3 214 9 = -1 ∨ ∃ q, q < (finS P).n ∧ I3 214 9 = nI q := by
    rw [q4.2.1]
    rcases fwj_of (P := P) (s := finS P) c (by omega) with ⟨a, -⟩ | ⟨j, j1, j2, -⟩
    · exact Or.inl a
    · exact Or.inr ⟨j, by omega, j2⟩
  rw [c_lengthTo h3 g3 he (by omega), Option.bind_some, c6_pI, Option.bind_some]
  refine WP_some ⟨_, L3, rfl, ⟨SCc_fr h3 ⟨by rw [ur_at, up_ne (by decide)], by rw [ur_at, up_ne (by decide)]⟩ (ur_ne (by decide)) (ur_ne (by decide)) rfl, fun m => ⟨?_, ?_⟩⟩, frX_trans F2 (frX_trans f3 ⟨fun b hb => ur_ne (by omega), fun _ _ => rfl⟩)⟩
  · obtain ⟨w1, w2, w3, w4, w5, w6, w7⟩ := q3 m
    unfold SCx
    rw [ur_at, up_ne (by decide), up_ne (by decide), up_ne (by decide), up_ne (by decide), up_ne (by decide), ur_ne (by decide), ur_ne (by decide)]
    exact ⟨w1, w2, w3, w4, w5, w6, w7⟩
  · rw [ur_at, up_at, (q3 m).2.1]
end All
