/-! WHY A PLACE IS WRONG -/
def hold (x : Int32) : Bool := bt x 1 || bt x 2 || bt x 3
def nEnd (P X : Nat → Int32) (v : Nat) : Bool := decide (X (6 + v) &&& (pE P (vK P v) ^^^ -1) ≠ 0)
def anyE (P X : Nat → Int32) : Nat → Bool
  | 0 => false
  | n + 1 => anyE P X n || nEnd P X n
def cns (P : Nat → Int32) (k m : Nat) : Nat → Int32
  | 0 => 0
  | s + 1 => if pY P k m s = -1 then cns P k m s else cns P k m s ||| b1 s
def cn (P : Nat → Int32) (k m : Nat) : Int32 := cns P k m (nS P k)
def rsS (P X : Nat → Int32) (so a b m : Nat) : Int32 :=
  if 9 ≤ so then 0
  else if so = 0 then (if hold (X a) then 1 else 0)
  else if so < 4 then (if hold (X a) || bt (X b) 0 then 1 else if so = 2 ∧ bt (X b) 1 = true then 3 else 0)
  else if so = 4 then (if bt (X a) 0 || bt (X b) 0 then 1 else if bt (X (18 + a)) b then 0 else 2)
  else if bt (X a) 0 then 1
  else if so = 5 then (if X (18 + a) = 0 ∧ nEnd P X a = true then 5 else 0)
  else if pSo P (vK P a) m ≠ 2 ∧ bt (X a) 1 = true then 3
  else if X (6 + a) &&& (cn P (vK P a) m ^^^ -1) = 0 then 0 else 4
def rsn (P : Nat → Int32) (pl : Nat) (X : Nat → Int32) : Int32 :=
  if pl = nT P then (if anyE P X (nV P) then 5 else 0) else rsS P X (nN (P (333 + pl))) (nN (P (373 + pl))) (nN (P (413 + pl))) (nN (P (453 + pl)))
section RsS
variable {P X : Nat → Int32} {so a b m : Nat}
theorem rsS_0 : rsS P X 0 a b m = if hold (X a) then 1 else 0 := rfl
theorem rsS_13 (h : so = 1 ∨ so = 3) : rsS P X so a b m = if hold (X a) || bt (X b) 0 then 1 else 0 := by
  unfold rsS
  rw [if_neg (by omega), if_neg (by omega), if_pos (by omega)]
  split
  · rfl
  · rw [if_neg (by omega)]
theorem rsS_2 : rsS P X 2 a b m = if hold (X a) || bt (X b) 0 then 1 else if bt (X b) 1 then 3 else 0 := by
  unfold rsS
  rw [if_neg (by omega), if_neg (by omega), if_pos (by omega)]
  simp only [true_and]
theorem rsS_4 : rsS P X 4 a b m = if bt (X a) 0 || bt (X b) 0 then 1 else if bt (X (18 + a)) b then 0 else 2 := rfl
theorem rsS_5 : rsS P X 5 a b m = if bt (X a) 0 then 1 else if X (18 + a) = 0 ∧ nEnd P X a = true then 5 else 0 := rfl
theorem rsS_ask (h : 6 ≤ so ∧ so ≤ 8) : rsS P X so a b m = if bt (X a) 0 then 1 else if pSo P (vK P a) m ≠ 2 ∧ bt (X a) 1 = true then 3 else if X (6 + a) &&& (cn P (vK P a) m ^^^ -1) = 0 then 0 else 4 := by
  unfold rsS
  rw [if_neg (by omega), if_neg (by omega), if_neg (by omega), if_neg (by omega)]
  split
  · rfl
  · rw [if_neg (by omega)]
theorem rsS_9 (h : 9 ≤ so) : rsS P X so a b m = 0 := if_pos h
end RsS
theorem and_b1 {x : Int32} {v : Nat} (hv : v < 32) : x &&& b1 v = 0 ↔ bt x v = false := by
  rw [z_bt]
  constructor
  · intro h
    have := h v
    rw [b_and, b_b1 hv] at this
    simpa using this
  · intro h t
    rw [b_and, b_b1 hv]
    by_cases q : t = v
    · rw [q, h]; rfl
    · simp [q]
theorem and_14 {x : Int32} : x &&& 14 = 0 ↔ hold x = false := by
  have b14 : ∀ t, t < 32 → bt 14 t = (decide (t = 1) || decide (t = 2) || decide (t = 3)) := by decide +kernel
  rw [z_bt]
  unfold hold
  constructor
  · intro h
    have h1 := h 1
    have h2 := h 2
    have h3 := h 3
    rw [b_and, b14 _ (by decide)] at h1 h2 h3
    simp at h1 h2 h3
    rw [h1, h2, h3]; rfl
  · intro h t
    simp only [Bool.or_eq_false_iff] at h
    by_cases c : t < 32
    · rw [b_and, b14 t c]
      by_cases c1 : t = 1
      · rw [c1, h.1.1]; rfl
      · by_cases c2 : t = 2
        · rw [c2, h.1.2]; rfl
        · by_cases c3 : t = 3
          · rw [c3, h.2]; rfl
          · simp [c1, c2, c3]
    · exact b_big (by omega)
theorem and_m2 {x : Int32} (hx : ∀ t, 4 ≤ t → bt x t = false) : x &&& (-2) = 0 ↔ hold x = false := by
  have bm2 : ∀ t, t < 32 → bt (-2) t = decide (t ≠ 0) := by decide +kernel
  have b14 : ∀ t, t < 4 → bt 14 t = decide (t ≠ 0) := by decide +kernel
  rw [← and_14, z_bt, z_bt]
  have e : ∀ t, bt (x &&& (-2)) t = bt (x &&& 14) t := by
    intro t
    rw [b_and, b_and]
    by_cases c : t < 4
    · rw [bm2 t (by omega), b14 t c]
    · rw [hx t (by omega)]; rfl
  constructor
  · intro h t; rw [← e t]; exact h t
  · intro h t; rw [e t]; exact h t
theorem cn_bt {P : Nat → Int32} {k m : Nat} (h6 : nS P k ≤ 6) (s : Nat) : bt (cn P k m) s = (decide (s < nS P k) && decide (pY P k m s ≠ -1)) := by
  have H : ∀ N, N ≤ 6 → bt (cns P k m N) s = (decide (s < N) && decide (pY P k m s ≠ -1)) := by
    intro N
    induction N with
    | zero => intro _; show bt 0 s = _; rw [b_0]; simp
    | succ N ih =>
      intro hN
      unfold cns
      have ih := ih (by omega)
      by_cases c : pY P k m N = -1
      · rw [if_pos c, ih]
        by_cases e : s = N
        · subst e; simp [c]
        · have : (s < N + 1) = (s < N) := propext (by omega)
          simp only [this]
      · rw [if_neg c, b_set (by omega), ih]
        by_cases e : s = N
        · subst e; simp [c]
        · have : (s < N + 1) = (s < N) := propext (by omega)
          simp only [this, e, decide_false, Bool.or_false]
  exact H _ h6
theorem anyE_f {P X : Nat → Int32} : ∀ n, anyE P X n = false ↔ ∀ v, v < n → nEnd P X v = false := by
  intro n
  induction n with
  | zero => exact ⟨fun _ v h => by omega, fun _ => rfl⟩
  | succ n ih =>
    unfold anyE
    rw [Bool.or_eq_false_iff, ih]
    constructor
    · rintro ⟨h1, h2⟩ v hv
      by_cases e : v = n
      · rw [e]; exact h2
      · exact h1 v (by omega)
    · intro h
      exact ⟨fun v hv => h v (by omega), h n (by omega)⟩
section Reason
variable {sw : Bool} {I : Nat → Nat → Int32} {L : Nat → Nat → Int64} {p fu x : Nat} {P : Nat → Int32} {D : Nat → Nat}
theorem c_inNoEnd {v : Nat} (hx : isH x) (hp : isP p) (hC : CR p I P D) (hA : WFA P D) (hv : v < nV P) : MX1_inNoEnd x p (nI v) (mkC sw I L) = some (if nEnd P (I (x + 1)) v then 1 else 0) := by
  have h6 := hA.1.1.2.1.2
  have h4 := hA.1.1.1.2
  obtain ⟨ek, lk⟩ := hA.2.1 v hv
  have hq := isP_K hp
  simp only [MX1_inNoEnd, c1_g hx, c1_r0 hx, c4_r0 hp, c4_r2 hp, c2_r2 hq, Option.bind_some]
  rw [ix_c (show (6 : Int32) = nI 6 from rfl), c1_ld hx (by omega), Option.bind_some, c4_ld2 hp (by omega), Option.bind_some, hC.2.1.2 v hv, ek, c2_ld2 hq (by omega), Option.bind_some, show p + 1 + 2 = p + 3 from rfl, (hC.1.2 _ lk).2.1]
  unfold nEnd
  by_cases c : I (x + 1) (6 + v) &&& (pE P (vK P v) ^^^ -1) = 0
  · rw [if_pos c, decide_eq_false (fun q => q c)]; rfl
  · rw [if_neg c, decide_eq_true c]; rfl
theorem c_reasonAt {pl : Nat} (hx : isH x) (hp : isP p) (hC : CR p I P D) (hA : WFA P D) (hpl : pl ≤ nT P) (hg : ∀ v t, v < 6 → 4 ≤ t → bt (I (x + 1) v) t = false) (hfu : 6 < fu) : MX1_reasonAt fu x p (nI pl) (mkC sw I L) = some (rsn P pl (I (x + 1))) := by
  have h40 := hA.1.1.2.2.2
  have h6 := hA.1.1.2.1.2
  have h4 := hA.1.1.1.2
  have hq := isP_K hp
  simp only [MX1_reasonAt, c1_g hx, c4_fI hp, c4_r4 hp, c4_r5 hp, c4_r6 hp, c4_r7 hp, Option.bind_some]
  rw [hC.2.2.1, hA.1.1.2.2.1]
  unfold rsn
  by_cases cp : pl = nT P
  · rw [if_neg (nI_nlt (by omega) (by omega)), if_pos cp]
    simp only [MX1_reasonAtEnd, c1_g hx]
    have main : wh1 (MX1_reasonAtEnd_B2 (mkC sw I L) p x) fu (0 : Int32) = some (if anyE P (I (x + 1)) (nV P) then 5 else 0) := by
      refine wh1_rule (fun r n => ∃ v, v + r = nV P ∧ n = nI v ∧ ∀ u, u < v → nEnd P (I (x + 1)) u = false) ?_ fu (nV P) _ (by omega) ⟨0, by omega, rfl, fun u h => by omega⟩
      rintro r n self ⟨v, hv, rfl, q⟩ ih
      simp only [MX1_reasonAtEnd_B2, c4_fI hp, Option.bind_some]
      rw [hC.2.1.1, hA.1.1.2.1.1]
      by_cases hr : r = 0
      · subst hr
        rw [if_pos (nI_le (by omega) (by omega)), (anyE_f (nV P)).mpr (fun u hu => q u (by omega))]
        rfl
      · rw [if_neg (nI_ge (by omega) (by omega)), c_inNoEnd hx hp hC hA (by omega), Option.bind_some]
        cases c : nEnd P (I (x + 1)) v
        · rw [if_pos (by decide)]
          refine ih (r - 1) _ (by omega) ⟨v + 1, by omega, nI_1 v, fun u hu => ?_⟩
          by_cases e : u = v
          · rw [e]; exact c
          · exact q u (by omega)
        · rw [if_neg (by decide)]
          have : anyE P (I (x + 1)) (nV P) = true := by
            cases e : anyE P (I (x + 1)) (nV P)
            · rw [(anyE_f (nV P)).mp e v (by omega)] at c; cases c
            · rfl
          rw [this]; rfl
    rw [main, Option.bind_some]
  · have hi : pl < nT P := by omega
    obtain ⟨so, h10, eso, es, o1, o2, o3⟩ := op_of hA.1 hA.2.1 hA.2.2 hi
    obtain ⟨d1, d2, d3, d4, -⟩ := hC.2.2.2 pl hi
    rw [if_pos (nI_lt (by omega) (by omega)), if_neg cp, c4_ld5 hp (by omega), Option.bind_some, c4_ld6 hp (by omega), Option.bind_some, c4_ld4 hp (by omega), Option.bind_some, c4_ld7 hp (by omega), Option.bind_some, d1, d2, d3, d4, es]
    simp only [jn]
    by_cases c9 : so < 9
    · obtain ⟨la, ea⟩ := o1 c9
      generalize hda : nN (P (373 + pl)) = a at *
      have mH : ∀ c, c < 6 → MX1_mayHold x (nI c) (mkC sw I L) = some (if hold (I (x + 1) c) then 1 else 0) := by
        intro c hc
        simp only [MX1_mayHold, c1_g hx, c1_r0 hx, Option.bind_some, ix_0]
        rw [c1_ld hx (by omega), Option.bind_some]
        by_cases q : I (x + 1) c &&& (-2) = 0
        · rw [if_pos q, (and_m2 (fun t ht => hg c t hc ht)).mp q]; rfl
        · rw [if_neg q]
          cases e : hold (I (x + 1) c)
          · exact absurd ((and_m2 (fun t ht => hg c t hc ht)).mpr e) q
          · rfl
      have mL : ∀ c, c < 6 → MX1_mayLack x (nI c) (mkC sw I L) = some (if bt (I (x + 1) c) 0 then 1 else 0) := by
        intro c hc
        simp only [MX1_mayLack, c1_g hx, c1_r0 hx, Option.bind_some, ix_0]
        rw [c1_ld hx (by omega), Option.bind_some]
        cases e : bt (I (x + 1) c) 0
        · rw [if_pos (show I (x + 1) c &&& 1 = 0 from (and_b1 (v := 0) (by decide)).mpr e)]; rfl
        · rw [if_neg (show ¬ I (x + 1) c &&& 1 = 0 from fun q => by rw [(and_b1 (v := 0) (by decide)).mp q] at e; cases e)]; rfl
      have rH : ∀ c, c < 6 → MX1_reasonOfHow x (nI c) (mkC sw I L) = some (if bt (I (x + 1) c) 1 then 3 else 0) := by
        intro c hc
        simp only [MX1_reasonOfHow, c1_g hx, c1_r0 hx, Option.bind_some, ix_0]
        rw [c1_ld hx (by omega), Option.bind_some]
        cases e : bt (I (x + 1) c) 1
        · rw [if_pos (show I (x + 1) c &&& 2 = 0 from (and_b1 (v := 1) (by decide)).mpr e)]; rfl
        · rw [if_neg (show ¬ I (x + 1) c &&& 2 = 0 from fun q => by rw [(and_b1 (v := 1) (by decide)).mp q] at e; cases e)]; rfl
      rw [ea, mH a (by omega), mL a (by omega)]
      have two : 1 ≤ so → so ≤ 4 → ∃ b, b < nV P ∧ b ≠ a ∧ P (413 + pl) = nI b ∧ nN (P (413 + pl)) = b := fun h1 h2 => ⟨_, (o2 h1 h2).1, (o2 h1 h2).2.1, (o2 h1 h2).2.2, rfl⟩
      rcases (show so = 0 ∨ so = 1 ∨ so = 2 ∨ so = 3 ∨ so = 4 ∨ so = 5 ∨ (6 ≤ so ∧ so ≤ 8) by omega) with rfl | rfl | rfl | rfl | rfl | rfl | hso
      · rw [eso, if_pos (show nI 0 = 0 from rfl), Option.bind_some]
        rw [rsS_0]
        cases hold (I (x + 1) a) <;> rfl
      · obtain ⟨b, lb, ne, eb, eb2⟩ := two (by decide) (by decide)
        rw [eso, eb, if_neg (by decide), if_pos (by decide), Option.bind_some, mL b (by omega), nN_nI (by omega)]
        rw [rsS_13 (by omega)]
        cases hold (I (x + 1) a) <;> cases bt (I (x + 1) b) 0 <;> rfl
      · obtain ⟨b, lb, ne, eb, eb2⟩ := two (by decide) (by decide)
        rw [eso, eb, if_neg (by decide), if_neg (by decide), if_pos (by decide), Option.bind_some, mL b (by omega), rH b (by omega), nN_nI (by omega)]
        rw [rsS_2]
        cases hold (I (x + 1) a) <;> cases bt (I (x + 1) b) 0 <;> cases bt (I (x + 1) b) 1 <;> rfl
      · obtain ⟨b, lb, ne, eb, eb2⟩ := two (by decide) (by decide)
        rw [eso, eb, if_neg (by decide), if_neg (by decide), if_neg (by decide), if_pos (by decide), Option.bind_some, mL b (by omega), nN_nI (by omega)]
        rw [rsS_13 (by omega)]
        cases hold (I (x + 1) a) <;> cases bt (I (x + 1) b) 0 <;> rfl
      · obtain ⟨b, lb, ne, eb, eb2⟩ := two (by decide) (by decide)
        rw [eso, eb, if_neg (by decide), if_neg (by decide), if_neg (by decide), if_neg (by decide), if_pos (by decide), Option.bind_some, mL b (by omega), nN_nI (by omega)]
        simp only [MX1_reasonOfJoin, c1_g hx, c1_r0 hx, Option.bind_some]
        rw [ix_c (show (18 : Int32) = nI 18 from rfl), c1_ld hx (by omega), Option.bind_some, b_get (by omega)]
        rw [rsS_4]
        cases bt (I (x + 1) a) 0 <;> cases bt (I (x + 1) b) 0 <;> cases bt (I (x + 1) (18 + a)) b <;> rfl
      · rw [eso, if_neg (by decide), if_neg (by decide), if_neg (by decide), if_neg (by decide), if_neg (by decide), if_pos (by decide), Option.bind_some]
        simp only [MX1_reasonOfDrop, MX1_isAlone, c1_g hx, c1_r0 hx, Option.bind_some, jn]
        rw [ix_c (show (18 : Int32) = nI 18 from rfl), c1_ld hx (by omega), Option.bind_some, c_inNoEnd hx hp hC hA la, Option.bind_some]
        rw [rsS_5]
        by_cases q : I (x + 1) (18 + a) = 0
        · simp only [q, if_true, true_and]
          cases bt (I (x + 1) a) 0 <;> cases nEnd P (I (x + 1)) a <;> rfl
        · simp only [q, if_false, false_and]
          cases bt (I (x + 1) a) 0 <;> cases nEnd P (I (x + 1)) a <;> rfl
      · obtain ⟨k1, k2, k3, -⟩ := o3 hso.1 hso.2
        have h7 := (hA.1.2 _ k1).2.2.1.2
        have hS6 := (hA.1.2 _ k1).1.2.2
        generalize hdm : nN (P (453 + pl)) = m at *
        obtain ⟨ek, lk⟩ := hA.2.1 a la
        obtain ⟨r1, r2, -⟩ := (hC.1.2 _ lk).2.2.2 m k2
        have ec : I (p + 6) (6 * vK P a + m) = cn P (vK P a) m := by
          apply b_ext
          intro t _
          rw [r2 t, cn_bt hS6 t]
        have ask : MX1_reasonOfAsking x p (nI a) (nI m) (mkC sw I L) = some (if pSo P (vK P a) m ≠ 2 ∧ bt (I (x + 1) a) 1 = true then 3 else if I (x + 1) (6 + a) &&& (cn P (vK P a) m ^^^ -1) = 0 then 0 else 4) := by
          simp only [MX1_reasonOfAsking, c1_g hx, c1_r0 hx, c4_r0 hp, c4_r2 hp, Option.bind_some, jn]
          rw [c4_ld2 hp (by omega), Option.bind_some, hC.2.1.2 a la, ek, c_sortOf hp (by omega) (by omega), Option.bind_some, c_statesOf hp (by omega) (by omega), ix_c (show (6 : Int32) = nI 6 from rfl), c1_ld hx (by omega), rH a (by omega)]
          simp only [Option.bind_some]
          rw [r1, ec]
          by_cases q1 : pSo P (vK P a) m = 2
          · have n3 : ¬ (pSo P (vK P a) m ≠ 2 ∧ bt (I (x + 1) a) 1 = true) := fun q => q.1 q1
            rw [if_pos q1, if_neg n3]
            by_cases q4 : I (x + 1) (6 + a) &&& (cn P (vK P a) m ^^^ -1) = 0
            · rw [if_pos q4, if_pos q4]
            · rw [if_neg q4, if_neg q4]
          · rw [if_neg q1]
            cases q2 : bt (I (x + 1) a) 1
            · have n3 : ¬ (pSo P (vK P a) m ≠ 2 ∧ false = true) := fun q => by cases q.2
              rw [if_pos (by decide), if_neg n3]
              by_cases q4 : I (x + 1) (6 + a) &&& (cn P (vK P a) m ^^^ -1) = 0
              · rw [if_pos q4, if_pos q4]
              · rw [if_neg q4, if_neg q4]
            · rw [if_neg (by decide), if_pos ⟨q1, rfl⟩]
        have fin : ((some (if bt (I (x + 1) a) 0 then (1 : Int32) else 0)).bind fun x13 => if x13 = 0 then (MX1_reasonOfAsking x p (nI a) (P (453 + pl)) (mkC sw I L)).bind fun x16 => some x16 else some 1) = some (rsS P (I (x + 1)) so a (nN (P (413 + pl))) m) := by
          rw [k3, ask, Option.bind_some]
          rw [rsS_ask hso]
          cases bt (I (x + 1) a) 0 <;> rfl
        rcases (show so = 6 ∨ so = 7 ∨ so = 8 by omega) with rfl | rfl | rfl
        · rw [eso]
          simp only [if_neg (show ¬ nI 6 = 0 by decide), if_neg (show ¬ nI 6 = 1 by decide), if_neg (show ¬ nI 6 = 2 by decide), if_neg (show ¬ nI 6 = 3 by decide), if_neg (show ¬ nI 6 = 4 by decide), if_neg (show ¬ nI 6 = 5 by decide), if_pos (show nI 6 = 6 by decide)]
          exact fin
        · rw [eso]
          simp only [if_neg (show ¬ nI 7 = 0 by decide), if_neg (show ¬ nI 7 = 1 by decide), if_neg (show ¬ nI 7 = 2 by decide), if_neg (show ¬ nI 7 = 3 by decide), if_neg (show ¬ nI 7 = 4 by decide), if_neg (show ¬ nI 7 = 5 by decide), if_neg (show ¬ nI 7 = 6 by decide), if_pos (show nI 7 = 7 by decide)]
          exact fin
        · rw [eso]
          simp only [if_neg (show ¬ nI 8 = 0 by decide), if_neg (show ¬ nI 8 = 1 by decide), if_neg (show ¬ nI 8 = 2 by decide), if_neg (show ¬ nI 8 = 3 by decide), if_neg (show ¬ nI 8 = 4 by decide), if_neg (show ¬ nI 8 = 5 by decide), if_neg (show ¬ nI 8 = 6 by decide), if_neg (show ¬ nI 8 = 7 by decide), if_pos (show nI 8 = 8 by decide)]
          exact fin
    · have ne : ∀ c, c < 9 → ¬ P (333 + pl) = nI c := by
        intro c hc q
        rw [eso] at q
        have := nI_inj (by omega) (by omega) q
        omega
      rw [if_neg (show ¬ P (333 + pl) = 0 from ne 0 (by decide)), if_neg (show ¬ P (333 + pl) = 1 from ne 1 (by decide)), if_neg (show ¬ P (333 + pl) = 2 from ne 2 (by decide)), if_neg (show ¬ P (333 + pl) = 3 from ne 3 (by decide)), if_neg (show ¬ P (333 + pl) = 4 from ne 4 (by decide)), if_neg (show ¬ P (333 + pl) = 5 from ne 5 (by decide)), if_neg (show ¬ P (333 + pl) = 6 from ne 6 (by decide)), if_neg (show ¬ P (333 + pl) = 7 from ne 7 (by decide)), if_neg (show ¬ P (333 + pl) = 8 from ne 8 (by decide))]
      rw [rsS_9 (by omega)]
end Reason
