/-! THE CLASS'S SEARCH: all configurations looked at -/
def fwj (P : Nat → Int32) (s : Sch) : Nat → Int32
  | 0 => -1
  | c + 1 => if fwj P s c = -1 then (if rj P s c = 0 then -1 else nI c) else fwj P s c
def wrj (P : Nat → Int32) (s : Sch) : Nat → Int32
  | 0 => 0
  | c + 1 => if wrj P s c = 0 then rj P s c else wrj P s c
def bad (P : Nat → Int32) (s : Sch) (j : Nat) : Bool := decide (rj P s j ≠ 0)
def goE (P : Nat → Int32) (s : Sch) (j : Nat) : Bool := decide (s.pl j = nT P) && decide (rj P s j = 0)
def isAt (s : Sch) (p j : Nat) : Bool := decide (s.pl j = p)
/-- what the class has noted of the first c configurations -/
def SCx (P : Nat → Int32) (s : Sch) (c : Nat) (I : Nat → Nat → Int32) : Prop :=
  I 214 2 = nI (cnt c (bad P s)) ∧ I 214 9 = fwj P s c ∧ I 214 4 = wrj P s c ∧ I 214 5 = nI s.th ∧ I 214 6 = nI (cnt c (goE P s)) ∧ (∀ p, p ≤ 40 → I 215 p = if cnt c (isAt s p) = 0 then 0 else 1) ∧ ∀ k, k < 4 → I 216 k = s.lf k
section Explore
variable {sw : Bool} {I I' : Nat → Nat → Int32} {L L' : Nat → Nat → Int64} {fu v w p t i c x : Nat} {D : Nat → Nat} {X Y P l : Nat → Int32} {s s' : Sch} {y z : Int32}
theorem rj_le (h : leH s s') {j : Nat} (hj : j < s.n) : rj P s' j = rj P s j := by
  obtain ⟨a, b, -⟩ := h.2 j hj
  unfold rj
  rw [a, b]
theorem fwj_le (h : leH s s') : ∀ c, c ≤ s.n → fwj P s' c = fwj P s c := by
  intro c
  induction c with
  | zero => intro _; rfl
  | succ c ih => intro hc; show (if _ then _ else _) = if _ then _ else _; rw [ih (by omega), rj_le h (by omega)]
theorem wrj_le (h : leH s s') : ∀ c, c ≤ s.n → wrj P s' c = wrj P s c := by
  intro c
  induction c with
  | zero => intro _; rfl
  | succ c ih => intro hc; show (if _ then _ else _) = if _ then _ else _; rw [ih (by omega), rj_le h (by omega)]
theorem cnt_leH (h : leH s s') (hc : c ≤ s.n) : cnt c (bad P s') = cnt c (bad P s) ∧ cnt c (goE P s') = cnt c (goE P s) ∧ ∀ p, cnt c (isAt s' p) = cnt c (isAt s p) := by
  refine ⟨cnt_eq (fun j hj => ?_), cnt_eq (fun j hj => ?_), fun p => cnt_eq (fun j hj => ?_)⟩
  · unfold bad; rw [rj_le h (by omega)]
  · unfold goE; rw [rj_le h (by omega), (h.2 j (by omega)).1]
  · unfold isAt; rw [(h.2 j (by omega)).1]
theorem SCx_le (h : leH s s') (hc : c ≤ s.n) (ht : s'.th = s.th) (hl : s'.lf = s.lf) (q : SCx P s c I) (e : (∀ m, m ≠ 0 → m ≠ 1 → I' 214 m = I 214 m) ∧ I' 215 = I 215 ∧ I' 216 = I 216) : SCx P s' c I' := by
  obtain ⟨c1, c2, c3⟩ := cnt_leH (P := P) h hc
  obtain ⟨e1, e2, e3⟩ := e
  unfold SCx
  rw [c1, c2, fwj_le h c hc, wrj_le h c hc, ht, hl, e2, e3, e1 2 (by decide) (by decide), e1 9 (by decide) (by decide), e1 4 (by decide) (by decide), e1 5 (by decide) (by decide), e1 6 (by decide) (by decide)]
  refine ⟨q.1, q.2.1, q.2.2.1, q.2.2.2.1, q.2.2.2.2.1, fun p hp => ?_, q.2.2.2.2.2.2⟩
  rw [c3 p]
  exact q.2.2.2.2.2.1 p hp
theorem fol_keep : (folS P s i X c z).th = s.th ∧ (folS P s i X c z).lf = s.lf := by
  unfold folS
  split
  · exact ⟨rfl, rfl⟩
  · split
    · exact ⟨rfl, rfl⟩
    · rename_i Y _
      rcases add_cases (s := s) (t := nN (lkZ P i z)) (Y := Y) (y := nI c) with ⟨-, e⟩ | ⟨-, -, e⟩ | ⟨-, -, e⟩ <;> rw [e] <;> exact ⟨rfl, rfl⟩
theorem jmax_n {a b : Nat} (ha : a < 2 ^ 31) (hb : b < 2 ^ 31) : jmax (nI a) (nI b) = nI (max a b) := by
  unfold jmax
  by_cases c : a < b
  · rw [if_pos (nI_lt c hb), Nat.max_eq_right (by omega)]
  · rw [if_neg (nI_nlt (by omega) ha), Nat.max_eq_left (by omega)]
theorem lf1_e24 (hA : WFA P D) (hi : i ≤ nT P) (h : e24 X Y) : ∀ k, lf1 P i X l k = lf1 P i Y l k := by
  have h6 := hA.1.1.2.1.2
  intro k
  unfold lf1
  split
  · have : ∀ v, v ≤ nV P → lfA P X l v = lfA P Y l v := by
      intro v
      induction v with
      | zero => intro _; rfl
      | succ v ih => intro hv; show up _ _ _ = up _ _ _; rw [ih (by omega), h (6 + v) (by omega)]
    rw [this _ (Nat.le_refl _)]
  · rename_i c
    obtain ⟨so, h10, eso, es, o1, -, -⟩ := op_of hA.1 hA.2.1 hA.2.2 (show i < nT P by omega)
    unfold lft
    rw [es]
    by_cases e5 : so = 5
    · obtain ⟨la, -⟩ := o1 (by omega)
      rw [h (18 + _) (by omega), h (6 + _) (by omega)]
    · rw [if_neg (fun q => e5 q.1), if_neg (fun q => e5 q.1)]
theorem lf1_congr {l' : Nat → Int32} (hA : WFA P D) (hi : i ≤ nT P) (h : ∀ k, k < 4 → l k = l' k) : ∀ k, k < 4 → lf1 P i X l k = lf1 P i X l' k := by
  have h4 := hA.1.1.1.2
  intro k hk
  unfold lf1
  split
  · exact lfA_congr h _ (fun u hu => by have := (hA.2.1 u hu).2; omega) k hk
  · rename_i c
    obtain ⟨so, h10, eso, es, o1, -, -⟩ := op_of hA.1 hA.2.1 hA.2.2 (show i < nT P by omega)
    exact lft_congr h (fun q => by have := (hA.2.1 _ (o1 (by omega)).1).2; omega) k hk
theorem frG (hp : isP p) (hC : CR p I P D) (e : ∀ b, b < 214 ∨ 223 < b → I' b = I b) : CR p I' P D := CR_fr2 hC (fun d hd => e _ (by rcases hp with q | q <;> rw [q] <;> omega))
theorem c_goesOn (hp : isP p) (hC : CR p I P D) (hA : WFA P D) (h : SCc s I L) (q : SCx P s c I) (g : GS P s) (hc : c < s.n) (ee : e24 (I 221) (s.xs c)) (hfu : 6 < fu) :
    ∃ r I', MX6_goesOnFrom fu 214 p (nI c) (nI (s.pl c)) (mkC sw I L) = some (r, mkC sw I' L) ∧ (r = if s.pl c = nT P ∨ rj P s c ≠ 0 then 0 else 1) ∧ SCc (exp0 P s c) I' L ∧ SCx P (exp0 P s c) (c + 1) I' ∧ ∀ b, b ≠ 214 → b ≠ 215 → b ≠ 216 → I' b = I b := by
  have h40 := hA.1.1.2.2.2
  obtain ⟨gp, gc, -⟩ := g.2.2 c hc
  have n1 := g.1
  obtain ⟨q1, q2, q3, q4, q5, q6, q7⟩ := q
  have G : GC P (I 221) := GC_e24 gc ee
  -- the rows as they stand after reached, mostThings, left
  let I1 := ur I 215 (up (I 215) (s.pl c) 1)
  let I2 := ur I1 214 (up (I1 214) 5 (nI (max s.th (thg (s.xs c)))))
  have C1 : CR p I1 P D := frG hp hC (fun b hb => ur_ne (by omega))
  have C2 : CR p I2 P D := frG hp C1 (fun b hb => ur_ne (by omega))
  obtain ⟨_, e3, l, rfl, l1⟩ := c_noteLeft (sw := sw) (L := L) (fu := fu) hp C2 hA gp hfu
  let I3 := ur I2 216 l
  have C3 : CR p I3 P D := frG hp C2 (fun b hb => ur_ne (by omega))
  have e221 : I3 221 = I 221 := by show ur (ur (ur I 215 _) 214 _) 216 _ 221 = I 221; rw [ur_ne (by decide), ur_ne (by decide), ur_ne (by decide)]
  have e220 : I1 (220 + 1) = I 221 := ur_ne (by decide)
  have e214 : ∀ m, m ≠ 5 → I3 214 m = I 214 m := fun m hm => by
    show ur (ur (ur I 215 _) 214 _) 216 _ 214 m = I 214 m
    rw [ur_ne (by decide), ur_at, up_ne hm]
    show ur I 215 _ 214 m = _
    rw [ur_ne (by decide)]
  have e5 : I3 214 5 = nI (max s.th (thg (s.xs c))) := by
    show ur (ur (ur I 215 _) 214 _) 216 _ 214 5 = _
    rw [ur_ne (by decide), ur_at, up_at]
  have e215 : I3 215 = up (I 215) (s.pl c) 1 := by
    show ur (ur (ur I 215 _) 214 _) 216 _ 215 = _
    rw [ur_ne (by decide), ur_ne (by decide), ur_at]
  have e216 : ∀ k, k < 4 → I3 216 k = (exp0 P s c).lf k := by
    intro k hk
    show ur I2 216 l 216 k = lf1 P (s.pl c) (s.xs c) s.lf k
    rw [ur_at, l1 k hk]
    have a1 : I2 221 = I 221 := by show ur (ur I 215 _) 214 _ 221 = _; rw [ur_ne (by decide), ur_ne (by decide)]
    have a2 : I2 216 = I 216 := by show ur (ur I 215 _) 214 _ 216 = _; rw [ur_ne (by decide), ur_ne (by decide)]
    rw [a1, a2, lf1_e24 hA gp ee k]
    exact lf1_congr hA gp q7 k hk
  have eo : ∀ b, b ≠ 214 → b ≠ 215 → b ≠ 216 → I3 b = I b := fun b b1 b2 b3 => by
    show ur (ur (ur I 215 _) 214 _) 216 _ b = I b
    rw [ur_ne b3, ur_ne b1, ur_ne b2]
  have er : MX1_reasonAt fu 220 p (nI (s.pl c)) (mkC sw I3 L) = some (rj P s c) := by
    have gx := CF_GX hA G
    rw [c_reasonAt (x := 220) isH220 hp C3 hA gp (by show ∀ v t, v < 6 → 4 ≤ t → bt (I3 221 v) t = false; rw [e221]; exact fun v t hv ht => gx.1 v t hv ht) hfu]
    show some (rsn P (s.pl c) (I3 221)) = _
    rw [e221]
    unfold rj
    rw [rsn_e24 hA gp ee]
  have et : MX1_things fu 220 (I1 p 1) (mkC sw I1 L) = some (nI (thg (s.xs c))) := by
    rw [C1.2.1.1, hA.1.1.2.1.1, c_things hA isH220 (by rw [e220]; exact G) hfu, e220, thg_e24 ee]
  have t6 := thg_le (X := s.xs c)
  have em : jmax (I1 214 5) (nI (thg (s.xs c))) = nI (max s.th (thg (s.xs c))) := by
    rw [show I1 214 5 = I 214 5 by show ur I 215 _ 214 5 = _; rw [ur_ne (by decide)], q4, jmax_n (by have := g.2.1; omega) (by omega)]
  have cb : cnt (c + 1) (bad P s) = cnt c (bad P s) + if bad P s c then 1 else 0 := rfl
  have cg : cnt (c + 1) (goE P s) = cnt c (goE P s) + if goE P s c then 1 else 0 := rfl
  have cr : ∀ p, cnt (c + 1) (isAt s p) = cnt c (isAt s p) + if isAt s p c then 1 else 0 := fun _ => rfl
  have fE : fwj P s (c + 1) = if fwj P s c = -1 then (if rj P s c = 0 then -1 else nI c) else fwj P s c := rfl
  have wE : wrj P s (c + 1) = if wrj P s c = 0 then rj P s c else wrj P s c := rfl
  -- whatever is written last, the rest holds
  have fin : ∀ I4 : Nat → Nat → Int32, (∀ b, b ≠ 214 → I4 b = I3 b) → I4 214 0 = I3 214 0 → I4 214 1 = I3 214 1 → I4 214 5 = I3 214 5 → I4 214 2 = nI (cnt (c + 1) (bad P s)) → I4 214 9 = fwj P s (c + 1) → I4 214 4 = wrj P s (c + 1) → I4 214 6 = nI (cnt (c + 1) (goE P s)) → SCc (exp0 P s c) I4 L ∧ SCx P (exp0 P s c) (c + 1) I4 ∧ ∀ b, b ≠ 214 → b ≠ 215 → b ≠ 216 → I4 b = I b := by
    intro I4 k0 k1 k2 k3 k4 k5 k6 k7
    have x0 : cnt (c + 1) (bad P (exp0 P s c)) = cnt (c + 1) (bad P s) := cnt_eq (fun _ _ => rfl)
    have lh : leH s (exp0 P s c) := leH_0
    obtain ⟨y1, y2, y3⟩ := cnt_leH (P := P) lh (c := c + 1) hc
    refine ⟨⟨?_, ?_, ?_, ?_⟩, ⟨by rw [y1, k4], by rw [fwj_le lh _ hc, k5], by rw [wrj_le lh _ hc, k6], by rw [k3, e5]; rfl, by rw [y2, k7], fun p hp => ?_, fun k hk => ?_⟩, fun b b1 b2 b3 => by rw [k0 b b1, eo b b1 b2 b3]⟩
    · rw [k1, e214 0 (by decide)]; exact h.1
    · rw [k2, e214 1 (by decide)]; exact h.2.1
    · intro j hj
      rw [k0 218 (by decide), eo 218 (by decide) (by decide) (by decide)]
      exact h.2.2.1 j hj
    · rw [k0 219 (by decide), eo 219 (by decide) (by decide) (by decide)]
      exact h.2.2.2
    · rw [k0 215 (by decide), e215, y3 p, cr p]
      by_cases d : p = s.pl c
      · rw [d, up_at, show isAt s (s.pl c) c = true from decide_eq_true rfl, if_neg (by simp)]
      · rw [up_ne d, show isAt s p c = false from decide_eq_false (fun z => d z.symm), q6 p hp]
        rfl
    · rw [k0 216 (by decide)]; exact e216 k hk
  simp only [MX6_goesOnFrom, c6_g, c6_r7, Option.bind_some]
  rw [c6_st7 (by omega) (Or.inr rfl), Option.bind_some, c6_fI, Option.bind_some, c6_r13, Option.bind_some, c4_fI hp, Option.bind_some]
  rw [show MX1_things fu 220 (ur I 215 (up (I 215) (s.pl c) 1) p 1) (mkC sw (ur I 215 (up (I 215) (s.pl c) 1)) L) = some (nI (thg (s.xs c))) from et, Option.bind_some, c6_pI, Option.bind_some]
  rw [show jmax (ur I 215 (up (I 215) (s.pl c) 1) 214 5) (nI (thg (s.xs c))) = nI (max s.th (thg (s.xs c))) from em]
  rw [show MX6_noteLeft fu 214 p (nI (s.pl c)) (mkC sw (ur (ur I 215 (up (I 215) (s.pl c) 1)) 214 (up (ur I 215 (up (I 215) (s.pl c) 1) 214) 5 (nI (max s.th (thg (s.xs c)))))) L) = some (mkC sw I3 L) from e3, Option.bind_some, c6_r13, Option.bind_some, er, Option.bind_some]
  by_cases cr0 : rj P s c = 0
  · have b0 : bad P s c = false := decide_eq_false (fun z => z cr0)
    rw [if_pos cr0, c4_fI hp, Option.bind_some, C3.2.2.1, hA.1.1.2.2.1]
    by_cases ce : s.pl c = nT P
    · have g0 : goE P s c = true := by unfold goE; rw [decide_eq_true ce, decide_eq_true cr0]; rfl
      rw [if_neg (nI_nlt (by omega) (by omega)), c6_fI, Option.bind_some, c6_pI, Option.bind_some]
      refine ⟨0, _, rfl, by rw [if_pos (Or.inl ce)], fin _ (fun b b1 => ur_ne b1) (by rw [ur_at, up_ne (by decide)]) (by rw [ur_at, up_ne (by decide)]) (by rw [ur_at, up_ne (by decide)]) ?_ ?_ ?_ ?_⟩
      · rw [ur_at, up_ne (by decide), e214 2 (by decide), q1, cb, b0]; rfl
      · rw [ur_at, up_ne (by decide), e214 9 (by decide), q2, fE, cr0]
        split
        · rename_i z; rw [z]; rfl
        · rfl
      · rw [ur_at, up_ne (by decide), e214 4 (by decide), q3, wE, cr0]
        split
        · rename_i z; exact z
        · rfl
      · rw [ur_at, up_at, e214 6 (by decide), q5, cg, g0, nI_1]; rfl
    · have g0 : goE P s c = false := by unfold goE; rw [decide_eq_false ce]; rfl
      rw [if_pos (nI_lt (by omega) (by omega))]
      refine ⟨1, _, rfl, by rw [if_neg (by rintro (z | z); exact ce z; exact z cr0)], fin _ (fun b b1 => rfl) rfl rfl rfl ?_ ?_ ?_ ?_⟩
      · rw [e214 2 (by decide), q1, cb, b0]; rfl
      · rw [e214 9 (by decide), q2, fE, cr0]
        split
        · rename_i z; rw [z]; rfl
        · rfl
      · rw [e214 4 (by decide), q3, wE, cr0]
        split
        · rename_i z; exact z
        · rfl
      · rw [e214 6 (by decide), q5, cg, g0]; rfl
  · have b0 : bad P s c = true := decide_eq_true cr0
    have g0 : goE P s c = false := by unfold goE; rw [decide_eq_false cr0, Bool.and_false]
    rw [if_neg cr0]
    simp only [c6_fI, c6_pI, Option.bind_some, jn, ur_ur, ur_at]
    rw [up_ne (show (9 : Nat) ≠ 2 by decide), e214 9 (by decide), q2]
    by_cases cf : fwj P s c = -1
    · rw [if_pos cf]
      rw [up_ne (show (4 : Nat) ≠ 9 by decide), up_ne (show (4 : Nat) ≠ 2 by decide), e214 4 (by decide), q3]
      by_cases cw : wrj P s c = 0
      · rw [if_pos cw]
        refine ⟨0, _, rfl, by rw [if_pos (Or.inr cr0)], fin _ (fun b b1 => ur_ne b1) ?_ ?_ ?_ ?_ ?_ ?_ ?_⟩
        · rw [ur_at, up_ne (by decide), up_ne (by decide), up_ne (by decide)]
        · rw [ur_at, up_ne (by decide), up_ne (by decide), up_ne (by decide)]
        · rw [ur_at, up_ne (by decide), up_ne (by decide), up_ne (by decide)]
        · rw [ur_at, up_ne (by decide), up_ne (by decide), up_at, e214 2 (by decide), q1, cb, b0, nI_1]; rfl
        · rw [ur_at, up_ne (by decide), up_at, fE, if_pos cf, if_neg cr0]
        · rw [ur_at, up_at, wE, if_pos cw]
        · rw [ur_at, up_ne (by decide), up_ne (by decide), up_ne (by decide), e214 6 (by decide), q5, cg, g0]; rfl
      · rw [if_neg cw]
        refine ⟨0, _, rfl, by rw [if_pos (Or.inr cr0)], fin _ (fun b b1 => ur_ne b1) ?_ ?_ ?_ ?_ ?_ ?_ ?_⟩
        · rw [ur_at, up_ne (by decide), up_ne (by decide), up_ne (by decide)]
        · rw [ur_at, up_ne (by decide), up_ne (by decide), up_ne (by decide)]
        · rw [ur_at, up_ne (by decide), up_ne (by decide), up_ne (by decide)]
        · rw [ur_at, up_ne (by decide), up_ne (by decide), up_at, e214 2 (by decide), q1, cb, b0, nI_1]; rfl
        · rw [ur_at, up_ne (by decide), up_at, fE, if_pos cf, if_neg cr0]
        · rw [ur_at, up_at, wE, if_neg cw]
        · rw [ur_at, up_ne (by decide), up_ne (by decide), up_ne (by decide), e214 6 (by decide), q5, cg, g0]; rfl
    · rw [if_neg cf]
      rw [up_ne (show (4 : Nat) ≠ 9 by decide), up_ne (show (4 : Nat) ≠ 2 by decide), e214 4 (by decide), q3]
      by_cases cw : wrj P s c = 0
      · rw [if_pos cw]
        refine ⟨0, _, rfl, by rw [if_pos (Or.inr cr0)], fin _ (fun b b1 => ur_ne b1) ?_ ?_ ?_ ?_ ?_ ?_ ?_⟩
        · rw [ur_at, up_ne (by decide), up_ne (by decide), up_ne (by decide)]
        · rw [ur_at, up_ne (by decide), up_ne (by decide), up_ne (by decide)]
        · rw [ur_at, up_ne (by decide), up_ne (by decide), up_ne (by decide)]
        · rw [ur_at, up_ne (by decide), up_ne (by decide), up_at, e214 2 (by decide), q1, cb, b0, nI_1]; rfl
        · rw [ur_at, up_ne (by decide), up_at, fE, if_neg cf]
        · rw [ur_at, up_at, wE, if_pos cw]
        · rw [ur_at, up_ne (by decide), up_ne (by decide), up_ne (by decide), e214 6 (by decide), q5, cg, g0]; rfl
      · rw [if_neg cw]
        refine ⟨0, _, rfl, by rw [if_pos (Or.inr cr0)], fin _ (fun b b1 => ur_ne b1) ?_ ?_ ?_ ?_ ?_ ?_ ?_⟩
        · rw [ur_at, up_ne (by decide), up_ne (by decide), up_ne (by decide)]
        · rw [ur_at, up_ne (by decide), up_ne (by decide), up_ne (by decide)]
        · rw [ur_at, up_ne (by decide), up_ne (by decide), up_ne (by decide)]
        · rw [ur_at, up_ne (by decide), up_ne (by decide), up_at, e214 2 (by decide), q1, cb, b0, nI_1]; rfl
        · rw [ur_at, up_ne (by decide), up_at, fE, if_neg cf]
        · rw [ur_at, up_at, wE, if_neg cw]
        · rw [ur_at, up_ne (by decide), up_ne (by decide), up_ne (by decide), e214 6 (by decide), q5, cg, g0]; rfl
end Explore
