/-! LOAD: the class's tokens -/
def tapC (b : Nat → Nat) (n : Nat) (I : Nat → Nat → Int32) (L : Nat → Nat → Int64) : Prop := I 2 4 = nI n ∧ (∀ j, j < n → I 3 j = (nI (b j)).toInt8.toInt32) ∧ ∀ i, i < 18 → L 4 i = lN (rsv i)
/-- the class stands at the token at p -/
def LC (b : Nat → Nat) (n p : Nat) (I : Nat → Nat → Int32) (L : Nat → Nat → Int64) : Prop := tapC b n I L ∧ I 2 1 = nI p ∧ I 2 2 = nI (tk b n p) ∧ I 2 5 = nI (qk b n p) ∧ (tk b n p ≤ 18 → L 2 3 = lN (wv 32 b p (wE b n p - p)))
theorem i8_t : ∀ c, c < 256 → (ltr c = true → ¬ (nI c).toInt8.toInt32 < 97 ∧ ¬ 122 < (nI c).toInt8.toInt32 ∧ (((nI c).toInt8.toInt32 - 97) + 1).toInt64 = lN (c - 96)) ∧ (ltr c = false → (nI c).toInt8.toInt32 < 97 ∨ 122 < (nI c).toInt8.toInt32) := by decide +kernel
theorem i8_e : ∀ c, c < 256 → ((nI c).toInt8.toInt32 = 32 ↔ c = 32) ∧ ((nI c).toInt8.toInt32 = 10 ↔ c = 10) ∧ MX7_signSort (nI c).toInt8.toInt32 = some (nI (sgT c)) := by decide +kernel
section LexC
variable {sw : Bool} {I : Nat → Nat → Int32} {L : Nat → Nat → Int64} {fu n p q : Nat} {b : Nat → Nat}
theorem c_reserved {g : Nat → Int32} {l : Nat → Int64} {x : Nat} (hL : ∀ i, i < 18 → L 4 i = lN (rsv i)) (hx : x < 2 ^ 62) (h2 : g 2 = 18) (hl : l 3 = lN x) (hfu : 100 < fu) :
    ∃ g', wh2 (MX7_takeWord_B126 2) fu (0 : Int32) (mkC sw (ur I 2 g) (ur L 2 l)) = some (mkC sw (ur I 2 g') (ur L 2 l)) ∧ g' 2 = nI (rsT x) ∧ ∀ k, k ≠ 2 → g' k = g k := by
  have main : WP (wh2 (MX7_takeWord_B126 2) fu (0 : Int32) (mkC sw (ur I 2 g) (ur L 2 l))) (fun h => ∃ g', h = mkC sw (ur I 2 g') (ur L 2 l) ∧ g' 2 = nI (rsT x) ∧ ∀ k, k ≠ 2 → g' k = g k) := by
    refine wh2_wp (fun r v h => ∃ i g', i + r = 19 ∧ v = nI i ∧ h = mkC sw (ur I 2 g') (ur L 2 l) ∧ (∀ k, k ≠ 2 → g' k = g k) ∧ ((g' 2 = 18 ∧ i ≤ 18 ∧ rsU x (18 - i) i = rsT x) ∨ (g' 2 ≠ 18 ∧ g' 2 = nI (rsT x)))) ?_ fu 19 _ _ (by omega) ⟨0, g, rfl, rfl, rfl, fun _ _ => rfl, Or.inl ⟨h2, by omega, rfl⟩⟩
    rintro r v h self ⟨i, g', hi, rfl, rfl, hk, hg⟩ ih
    simp only [MX7_takeWord_B126, c7_fI, c7_fL, c7_r7, Option.bind_some, jn]
    rw [ur_at, ur_at]
    rcases hg with ⟨g1, g2, g3⟩ | ⟨g1, g2⟩
    · by_cases ci : i = 18
      · subst ci
        rw [if_pos (show (18 : Int32) ≤ nI 18 by decide)]
        refine WP_some ⟨g', rfl, ?_, hk⟩
        rw [g1, ← g3]
        rfl
      · rw [show (18 : Int32) = nI 18 from rfl] at g1 ⊢
        rw [if_neg (nI_ge (by omega) (by decide)), if_pos g1, c7_ld7 (by omega), Option.bind_some, ur_ne (by decide), hL i (by omega), hl]
        have e : rsU x (18 - i) i = if rsv i = x then i else rsU x (18 - (i + 1)) (i + 1) := by
          rw [show 18 - i = (18 - (i + 1)) + 1 by omega]
          rfl
        rw [e] at g3
        by_cases cx : rsv i = x
        · rw [if_pos cx] at g3
          rw [if_pos (cmp_0.mpr (by rw [cx])), c7_pI, Option.bind_some, ur_ur, ur_at]
          refine ih (r - 1) _ _ (by omega) ⟨i + 1, _, by omega, nI_1 i, rfl, fun k k2 => by rw [up_ne k2]; exact hk k k2, Or.inr ⟨?_, ?_⟩⟩
          · rw [up_at]; exact fun z => by have := nI_inj (b := 18) (by omega) (by decide) z; omega
          · rw [up_at, g3]
        · rw [if_neg cx] at g3
          rw [if_neg (fun z => cx (lN_inj (rsv_small i (by omega)) hx (cmp_0.mp z)))]
          exact ih (r - 1) _ _ (by omega) ⟨i + 1, g', by omega, nI_1 i, rfl, hk, Or.inl ⟨g1, by omega, g3⟩⟩
    · rw [if_neg g1]
      split
      · exact WP_some ⟨g', rfl, g2, hk⟩
      · exact WP_some ⟨g', rfl, g2, hk⟩
  obtain ⟨_, e, g', rfl, h1, h3⟩ := main
  exact ⟨g', e, h1, h3⟩
theorem wv_min {B : Nat} {e : Nat} (h : p ≤ e) : (e - p < 8 → wv B b p (min 8 (e + 1 - p)) = wv B b p (min 8 (e - p)) * B + (b e - 96)) ∧ (8 ≤ e - p → min 8 (e + 1 - p) = min 8 (e - p)) := by
  constructor
  · intro c
    rw [show min 8 (e + 1 - p) = (e - p) + 1 by omega, show min 8 (e - p) = e - p by omega]
    show wv B b p (e - p) * B + (b (p + (e - p)) - 96) = _
    rw [show p + (e - p) = e by omega]
  · intro c; omega
theorem c_takeWord {g : Nat → Int32} (hn : n ≤ 900) (hb : ∀ j, j < n → b j < 256) (hT : ∀ j, j < n → I 3 j = (nI (b j)).toInt8.toInt32) (hL : ∀ i, i < 18 → L 4 i = lN (rsv i)) (hp : p < n) (g1 : g 1 = nI p) (g4 : g 4 = nI n) (g5 : g 5 = nI p) (hfu : 1000 < fu) :
    WP (MX7_takeWord fu 2 (mkC sw (ur I 2 g) L)) (fun h => ∃ g' l, h = mkC sw (ur I 2 g') (ur L 2 l) ∧ g' 5 = nI (wE b n p) ∧ g' 2 = nI (if 8 < wE b n p - p then 23 else rsT (wv 32 b p (wE b n p - p))) ∧ (wE b n p - p ≤ 8 → l 3 = lN (wv 32 b p (wE b n p - p))) ∧ (∀ k, k ≠ 2 → k ≠ 5 → g' k = g k) ∧ ∀ k, k ≠ 3 → l k = L 2 k) := by
  obtain ⟨w1, w2, w3⟩ := wE_le (b := b) (n := n) (n - p) p (Nat.le_refl _) (by omega)
  simp only [MX7_takeWord, c7_g, c7_pL, Option.bind_some, jn]
  refine wh1_wp (fun r h => ∃ e g' l, e + r = n ∧ p ≤ e ∧ h = mkC sw (ur I 2 g') (ur L 2 l) ∧ g' 5 = nI e ∧ (∀ k, k ≠ 5 → g' k = g k) ∧ l 3 = lN (wv 32 b p (min 8 (e - p))) ∧ (∀ k, k ≠ 3 → l k = L 2 k) ∧ wE b n e = wE b n p) ?_ fu (n - p) _ (by omega) ⟨p, g, _, by omega, by omega, rfl, g5, fun _ _ => rfl, by rw [up_at, show min 8 (p - p) = 0 by omega]; rfl, fun k hk => up_ne hk, rfl⟩
  rintro r h self ⟨e, g', l, he, pe, rfl, k5, kg, kl, kL, kw⟩ ih
  have fin : wE b n p = e → WP (if nI e - g' 1 ≤ (8 : Int32) then (h_pI 7 (mkC sw (ur I 2 g') (ur L 2 l)) 2 2 18).bind fun h8 => wh2 (MX7_takeWord_B126 2) fu 0 h8 else (h_pI 7 (mkC sw (ur I 2 g') (ur L 2 l)) 2 2 23).bind fun h8 => wh2 (MX7_takeWord_B126 2) fu 0 h8) (fun h => ∃ g' l, h = mkC sw (ur I 2 g') (ur L 2 l) ∧ g' 5 = nI (wE b n p) ∧ g' 2 = nI (if 8 < wE b n p - p then 23 else rsT (wv 32 b p (wE b n p - p))) ∧ (wE b n p - p ≤ 8 → l 3 = lN (wv 32 b p (wE b n p - p))) ∧ (∀ k, k ≠ 2 → k ≠ 5 → g' k = g k) ∧ ∀ k, k ≠ 3 → l k = L 2 k) := by
    intro ew
    simp only [c7_pI, Option.bind_some, ur_at, ur_ur]
    rw [kg 1 (by decide), g1, nI_sub pe, show (8 : Int32) = nI 8 from rfl, ew]
    by_cases c8 : e - p ≤ 8
    · rw [if_pos (nI_le c8 (by decide)), if_neg (by omega)]
      rw [show min 8 (e - p) = e - p by omega] at kl
      have lt : ∀ j, j < e - p → 97 ≤ b (p + j) ∧ b (p + j) ≤ 122 := fun j hj => by
        have := w3 (p + j) (by omega) (by omega)
        unfold ltr at this
        rw [Bool.and_eq_true, decide_eq_true_eq, decide_eq_true_eq] at this
        exact this
      obtain ⟨g2, e2, h2, h3⟩ := c_reserved (sw := sw) (I := I) (L := L) (g := up g' 2 18) (l := l) (fu := fu) hL (wv_small (by decide) (by decide) c8 lt) up_at kl (by omega)
      rw [e2]
      exact WP_some ⟨g2, l, rfl, by rw [h3 5 (by decide), up_ne (by decide), k5], h2, fun _ => kl, fun k k2 k5 => by rw [h3 k k2, up_ne k2, kg k k5], kL⟩
    · rw [if_neg (nI_ge (by omega) (by omega)), if_pos (by omega)]
      have e2 : wh2 (MX7_takeWord_B126 2) fu (0 : Int32) (mkC sw (ur I 2 (up g' 2 23)) (ur L 2 l)) = some (mkC sw (ur I 2 (up g' 2 23)) (ur L 2 l)) := by
        obtain ⟨f, rfl⟩ : ∃ f, fu = f + 1 := ⟨fu - 1, by omega⟩
        show MX7_takeWord_B126 _ _ _ _ = _
        simp only [MX7_takeWord_B126, c7_fI, Option.bind_some, ur_at]
        rw [if_neg (by decide), up_at, if_neg (by decide)]
      rw [e2]
      exact WP_some ⟨_, l, rfl, by rw [up_ne (by decide), k5], by rw [up_at]; rfl, fun z => absurd z c8, fun k k2 k5 => by rw [up_ne k2, kg k k5], kL⟩
  simp only [MX7_takeWord_B5, c7_fI, c7_r6, Option.bind_some, jn]
  rw [ur_at, k5, kg 4 (by decide), g4]
  by_cases hr : r = 0
  · rw [if_pos (nI_le (by omega) (by omega))]
    have : e = n := by omega
    refine fin ?_
    rw [← kw, wE_e (fun z => by omega)]
  · have en : e < n := by omega
    rw [if_neg (nI_ge (by omega) (by omega)), c7_ld6 (by omega), Option.bind_some, ur_ne (by decide), hT e en]
    obtain ⟨t1, t2⟩ := i8_t (b e) (hb e en)
    cases cl : ltr (b e)
    · have ew : wE b n p = e := by rw [← kw, wE_e (fun z => by rw [cl] at z; exact absurd z.2 (by decide))]
      rcases t2 cl with z | z
      · rw [if_pos z]; exact fin ew
      · by_cases z1 : (nI (b e)).toInt8.toInt32 < 97
        · rw [if_pos z1]; exact fin ew
        · rw [if_neg z1, if_pos z]; exact fin ew
    · obtain ⟨x1, x2, x3⟩ := t1 cl
      rw [if_neg x1, if_neg x2, kg 1 (by decide), g1, nI_sub pe, show (8 : Int32) = nI 8 from rfl]
      have kw2 : wE b n (e + 1) = wE b n p := by rw [← kw, wE_s en cl]
      obtain ⟨m1, m2⟩ := wv_min (b := b) (B := 32) pe
      by_cases c8 : 8 ≤ e - p
      · rw [if_pos (nI_le c8 (by omega))]
        simp only [c7_fI, c7_pI, Option.bind_some, ur_at, ur_ur]
        rw [nI_1]
        exact ih (r - 1) _ (by omega) ⟨e + 1, _, l, by omega, by omega, rfl, up_at, fun k k5 => by rw [up_ne k5]; exact kg k k5, by rw [m2 c8]; exact kl, kL, kw2⟩
      · rw [if_neg (nI_ge (by omega) (by decide))]
        simp only [c7_fI, c7_fL, c7_pI, c7_pL, Option.bind_some, ur_at, ur_ur]
        rw [k5, nI_1, kl, x3, show (32 : Int64) = lN 32 from rfl, lN_mul, lN_add]
        exact ih (r - 1) _ (by omega) ⟨e + 1, _, _, by omega, by omega, rfl, up_at, fun k k5 => by rw [up_ne k5]; exact kg k k5, by rw [up_at, m1 (by omega)], fun k k3 => by rw [up_ne k3]; exact kL k k3, kw2⟩
/-- what a step of the class's reader changes -/
def frT (I I' : Nat → Nat → Int32) (L L' : Nat → Nat → Int64) : Prop := (∀ b, b ≠ 2 → I' b = I b) ∧ (∀ b, b ≠ 2 → L' b = L b) ∧ ∀ k, k ≠ 1 → k ≠ 2 → k ≠ 5 → I' 2 k = I 2 k
theorem c_lex (hn : n ≤ 900) (hb : ∀ j, j < n → b j < 256) (hT : tapC b n I L) (hq : q ≤ n) (h5 : I 2 5 = nI q) (hfu : 1000 < fu) : ∃ I' L', MX7_advance fu 2 (mkC sw I L) = some (mkC sw I' L') ∧ LC b n (lexP b n q) I' L' ∧ frT I I' L L' := by
  have main : WP (MX7_advance fu 2 (mkC sw I L)) (fun h => ∃ I' L', h = mkC sw I' L' ∧ LC b n (lexP b n q) I' L' ∧ frT I I' L L') := by
    obtain ⟨t4, t3, tR⟩ := hT
    simp only [MX7_advance, c7_g, jn]
    refine wh1_wp (fun r h => ∃ e g, e + r = n ∧ h = mkC sw (ur I 2 g) L ∧ g 5 = nI e ∧ (∀ k, k ≠ 5 → g k = I 2 k) ∧ lexP b n e = lexP b n q) ?_ fu (n - q) _ (by omega) ⟨q, I 2, by omega, by rw [ur_self], h5, fun _ _ => rfl, rfl⟩
    rintro r h self ⟨e, g, he, rfl, k5, kg, kp⟩ ih
    simp only [MX7_advance_B0, c7_fI, c7_r6, c7_pI, Option.bind_some, jn]
    simp only [ur_at, ur_ur]
    rw [k5, kg 4 (by decide), t4]
    have fin : lexP b n q = e → WP (if (up g 1 (nI e)) 5 < (up g 1 (nI e)) 4 then (MX7_takeWord fu 2 (mkC sw (ur I 2 (up g 1 (nI e))) L)).bind fun h7 => (h_fI 7 h7 2 5).bind fun x8 => (h_fI 7 h7 2 1).bind fun x9 => if x8 = x9 then (h_fR 7 h7 2 6).bind fun x10 => (h_ldB h7 x10 x8).bind fun x11 => (MX7_signSort x11).bind fun x12 => (h_pI 7 h7 2 2 x12).bind fun h13 => (h_fI 7 h13 2 5).bind fun x14 => (h_pI 7 h13 2 5 (x14 + 1)).bind fun h15 => some h15 else some h7 else some (mkC sw (ur I 2 (up (up g 1 (nI e)) 2 22)) L)) (fun h => ∃ I' L', h = mkC sw I' L' ∧ LC b n (lexP b n q) I' L' ∧ frT I I' L L') := by
      intro ep
      rw [ep]
      have g5 : (up g 1 (nI e)) 5 = nI e := by rw [up_ne (by decide), k5]
      have g4 : (up g 1 (nI e)) 4 = nI n := by rw [up_ne (by decide), kg 4 (by decide), t4]
      rw [g5, g4]
      by_cases en : e < n
      · rw [if_pos (nI_lt en (by omega))]
        obtain ⟨_, e1, g', l, rfl, q5, q2, ql, qg, qL⟩ := c_takeWord (sw := sw) (I := I) (L := L) (b := b) (fu := fu) hn hb t3 tR en up_at g4 g5 hfu
        rw [e1, Option.bind_some]
        simp only [c7_fI, c7_r6, c7_pI, Option.bind_some, ur_at, ur_ur]
        rw [q5, qg 1 (by decide) (by decide), up_at]
        obtain ⟨w1, w2, -⟩ := wE_le (b := b) (n := n) (n - e) e (Nat.le_refl _) (by omega)
        by_cases ce : wE b n e = e
        · rw [ce, if_pos rfl, c7_ld6 (by omega), Option.bind_some, ur_ne (show (3 : Nat) ≠ 2 by decide), t3 e en, (i8_e (b e) (hb e en)).2.2, Option.bind_some]
          have te : tk b n e = sgT (b e) := by unfold tk; rw [if_neg (by omega), if_pos ce]
          refine WP_some ⟨_, _, rfl, ⟨⟨?_, ?_, ?_⟩, ?_, ?_, ?_, fun z => ?_⟩, fun b hb => ur_ne hb, fun b hb => ur_ne hb, fun k k1 k2 k5 => ?_⟩
          · rw [ur_at, up_ne (by decide), up_ne (by decide), qg 4 (by decide) (by decide), g4]
          · rw [ur_ne (by decide)]; exact t3
          · rw [ur_ne (by decide)]; exact tR
          · rw [ur_at, up_ne (by decide), up_ne (by decide), qg 1 (by decide) (by decide), up_at]
          · rw [ur_at, up_ne (by decide), up_at, te]
          · rw [ur_at, up_at, up_ne (by decide), q5, ce, nI_1]
            unfold qk
            rw [if_neg (by omega), if_pos ce]
          · rw [te] at z
            rcases sgT_is (c := b e) with ⟨y, -⟩ | ⟨y, -⟩ | ⟨y, -⟩ | ⟨y, -⟩ <;> omega
          · rw [ur_at, up_ne k5, up_ne k2, qg k k2 k5, up_ne k1, kg k k5]
        · rw [if_neg (fun z => ce (nI_inj (by omega) (by omega) z))]
          have te : tk b n e = if 8 < wE b n e - e then 23 else rsT (wv 32 b e (wE b n e - e)) := by unfold tk; rw [if_neg (by omega), if_neg ce]
          refine WP_some ⟨_, _, rfl, ⟨⟨?_, ?_, ?_⟩, ?_, ?_, ?_, fun z => ?_⟩, fun b hb => ur_ne hb, fun b hb => ur_ne hb, fun k k1 k2 k5 => ?_⟩
          · rw [ur_at, qg 4 (by decide) (by decide), g4]
          · rw [ur_ne (by decide)]; exact t3
          · rw [ur_ne (by decide)]; exact tR
          · rw [ur_at, qg 1 (by decide) (by decide), up_at]
          · rw [ur_at, te, q2]
          · rw [ur_at, q5]
            unfold qk
            rw [if_neg (by omega), if_neg ce]
          · rw [ur_at]
            refine ql ?_
            rw [te] at z
            split at z
            · omega
            · omega
          · rw [ur_at, qg k k2 k5, up_ne k1, kg k k5]
      · rw [if_neg (nI_nlt (by omega) (by omega))]
        have te : tk b n e = 22 := tk_end.mpr (by omega)
        refine WP_some ⟨_, L, rfl, ⟨⟨?_, ?_, tR⟩, ?_, ?_, ?_, fun z => ?_⟩, fun b hb => ur_ne hb, fun b hb => rfl, fun k k1 k2 k5 => ?_⟩
        · rw [ur_at, up_ne (by decide), g4]
        · rw [ur_ne (by decide)]; exact t3
        · rw [ur_at, up_ne (by decide), up_at]
        · rw [ur_at, up_at, te]; rfl
        · rw [ur_at, up_ne (by decide), g5]
          unfold qk
          rw [if_pos (by omega)]
        · omega
        · rw [ur_at, up_ne k2, up_ne k1, kg k k5]
    by_cases en : e < n
    · rw [if_neg (nI_ge en (by omega)), c7_ld6 (by omega), Option.bind_some, ur_ne (by decide), t3 e en]
      obtain ⟨e1, e2, -⟩ := i8_e (b e) (hb e en)
      have go : blk (b e) = true → WP (self (mkC sw (ur I 2 (up g 5 (nI e + 1))) L)) (fun h => ∃ I' L', h = mkC sw I' L' ∧ LC b n (lexP b n q) I' L' ∧ frT I I' L L') := by
        intro z
        rw [nI_1]
        exact ih (r - 1) _ (by omega) ⟨e + 1, _, by omega, rfl, up_at, fun k k5 => by rw [up_ne k5]; exact kg k k5, by rw [← kp, lexP_s en z]⟩
      by_cases c1 : (nI (b e)).toInt8.toInt32 = 32
      · rw [if_pos c1]
        exact go (by unfold blk; rw [e1.mp c1]; rfl)
      · rw [if_neg c1]
        by_cases c2 : (nI (b e)).toInt8.toInt32 = 10
        · rw [if_pos c2]
          exact go (by unfold blk; rw [e2.mp c2]; rfl)
        · rw [if_neg c2]
          refine fin ?_
          rw [← kp, lexP_e (fun z => ?_)]
          have := z.2
          unfold blk at this
          rw [Bool.or_eq_true, decide_eq_true_eq, decide_eq_true_eq] at this
          rcases this with y | y
          · exact c1 (e1.mpr y)
          · exact c2 (e2.mpr y)
    · rw [if_pos (nI_le (by omega) (by omega))]
      refine fin ?_
      rw [← kp, lexP_e (fun z => en z.1)]
  obtain ⟨_, e, I', L', rfl, q⟩ := main
  exact ⟨I', L', e, q⟩
theorem c_adv (hn : n ≤ 900) (hb : ∀ j, j < n → b j < 256) (h : LC b n p I L) (hp : p ≤ n) (hfu : 1000 < fu) : ∃ I' L', MX7_advance fu 2 (mkC sw I L) = some (mkC sw I' L') ∧ LC b n (nx b n p) I' L' ∧ frT I I' L L' :=
  c_lex hn hb h.1 (qk_le hp).2.1 h.2.2.2.1 hfu
end LexC
