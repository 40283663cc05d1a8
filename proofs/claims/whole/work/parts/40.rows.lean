/-! ROWS: how many rows of methods can be; counted modulo 1000000007 -/
def sm : Nat → (Nat → Nat) → Nat
  | 0, _ => 0
  | N + 1, f => sm N f + f N
theorem sm_add (N : Nat) (f g : Nat → Nat) : sm N (fun i => f i + g i) = sm N f + sm N g := by
  induction N with
  | zero => rfl
  | succ N ih => simp only [sm, ih]; omega
theorem sm_0 (N : Nat) : sm N (fun _ => 0) = 0 := by
  induction N with
  | zero => rfl
  | succ N ih => simp only [sm, ih]
theorem sm_swap (N M : Nat) (f : Nat → Nat → Nat) : sm N (fun i => sm M (fun j => f i j)) = sm M (fun j => sm N (fun i => f i j)) := by
  induction N with
  | zero => simp only [sm]; rw [sm_0]
  | succ N ih => simp only [sm, ih]; rw [sm_add]
theorem sm_le {N B : Nat} {f : Nat → Nat} (h : ∀ i, i < N → f i ≤ B) : sm N f ≤ N * B := by
  induction N with
  | zero => simp [sm]
  | succ N ih =>
    have h1 := ih (fun i hi => h i (by omega))
    have h2 := h N (by omega)
    simp only [sm, Nat.succ_mul]
    omega
abbrev MD : Nat := 1000000007
/-- how often method m leads from s to t -/
def con (P : Nat → Int32) (k m s t : Nat) : Nat := if pY P k m s = -1 then 0 else (if pY P k m s = nI t then 1 else 0) + (if pSo P k m = 1 ∧ pN P k m s = nI t then 1 else 0)
theorem con_le (P : Nat → Int32) (k m s t : Nat) : con P k m s t ≤ 2 := by
  unfold con
  have h1 : (if pY P k m s = nI t then 1 else 0) ≤ 1 := by split <;> decide
  have h2 : (if pSo P k m = 1 ∧ pN P k m s = nI t then 1 else 0) ≤ 1 := by split <;> decide
  split <;> omega
def stepW (P : Nat → Int32) (k : Nat) (w : Nat → Nat) (t : Nat) : Nat := sm (nM P k) (fun m => sm (nS P k) (fun s => con P k m s t * w s)) % MD
def wn (P : Nat → Int32) (k : Nat) : Nat → Nat → Nat
  | 0, t => if t = 0 then 1 else 0
  | n + 1, t => stepW P k (wn P k n) t
theorem wn_lt (P : Nat → Int32) (k n t : Nat) : wn P k n t < MD := by
  cases n with
  | zero => unfold wn; split <;> decide
  | succ n => exact Nat.mod_lt _ (by decide)
theorem rem_l {a : Nat} (h : a < 2 ^ 63) : h_reml (lN a) (1000000007 : Int64) = some (lN (a % MD)) := by
  unfold h_reml
  rw [if_neg (by decide)]
  exact congrArg some (pk_lRem (a := a) (b := MD) h (by decide) (by decide))
section Rows
variable {sw : Bool} {I : Nat → Nat → Int32} {L : Nat → Nat → Int64} {J : Nat → Nat → Int32} {K : Nat → Nat → Int64} {p fu : Nat} {P : Nat → Int32}
theorem con_no {k m s t : Nat} (h : pY P k m s = -1) : con P k m s t = 0 := if_pos h
theorem con_one {k m s t a : Nat} (e : pY P k m s = nI a) (ha : a < 6) (ht : t < 6) (hs : pSo P k m ≠ 1) : con P k m s t = if t = a then 1 else 0 := by
  unfold con
  rw [e, if_neg (nI_ne_m1 (by omega)), if_neg (show ¬ (pSo P k m = 1 ∧ pN P k m s = nI t) from fun q => hs q.1), Nat.add_zero]
  by_cases c : t = a
  · rw [if_pos c, if_pos (by rw [c])]
  · rw [if_neg c, if_neg (fun q => c (nI_inj (by omega) (by omega) q).symm)]
theorem con_two {k m s t a b : Nat} (e : pY P k m s = nI a) (e2 : pN P k m s = nI b) (ha : a < 6) (hb : b < 6) (ht : t < 6) (hs : pSo P k m = 1) : con P k m s t = (if t = a then 1 else 0) + if t = b then 1 else 0 := by
  unfold con
  rw [e, e2, if_neg (nI_ne_m1 (by omega))]
  congr 1
  · by_cases c : t = a
    · rw [if_pos c, if_pos (by rw [c])]
    · rw [if_neg c, if_neg (fun q => c (nI_inj (by omega) (by omega) q).symm)]
  · by_cases c : t = b
    · rw [if_pos c, if_pos ⟨hs, by rw [c]⟩]
    · rw [if_neg c, if_neg (fun q => c (nI_inj (by omega) (by omega) q.2).symm)]
theorem c_len1 {k m : Nat} {w G : Nat → Nat} {g : Nat → Int64} {Q : Hp → Prop} {j19 : Hp → Option Hp} (hp : isP p) (hR : CRk p I P) (hW : WFK P) (hk : k < nK P) (hm : m < nM P k) (hfu : 6 < fu) (hw : ∀ s, s < 6 → L (p + 11) s = lN (w s)) (h0 : ∀ t, t < 6 → g t = lN (G t))
    (hj : ∀ g', (∀ t, t < 6 → g' t = lN (G t + sm (nS P k) (fun s => con P k m s t * w s))) → WP (j19 (mkC sw I (ur L (p + 12) g'))) Q) :
    WP (wh2 (MX2_lengthenWays_B22 (p + 1) (nI k) j19 (nI m)) fu (0 : Int32) (mkC sw I (ur L (p + 12) g))) Q := by
  have hq := isP_K hp
  have h4 := hW.1.1.2
  have hW2 := hW.2 k hk
  have h6 := hW2.1.2.2
  have h7 := hW2.2.2.1.2
  obtain ⟨r1, r2, -⟩ := (hR.2 k hk).2.2.2 m hm
  refine wh2_wp (fun r v h => ∃ i g, i + r = nS P k ∧ v = nI i ∧ h = mkC sw I (ur L (p + 12) g) ∧ ∀ t, t < 6 → g t = lN (G t + sm i (fun s => con P k m s t * w s))) ?_ fu (nS P k) _ _ (by omega) ⟨0, g, by omega, rfl, rfl, fun t ht => by rw [h0 t ht]; rfl⟩
  rintro r v h self ⟨i, g, hi, rfl, rfl, g1⟩ ih
  simp only [MX2_lengthenWays_B22, c2_r1 hq, c2_r10 hq, c2_r11 hq, Option.bind_some, jn]
  rw [c2_ld1 hq (show k < 4 by omega), Option.bind_some, show p + 1 + 1 = p + 2 from rfl, (hR.2 k hk).1, hW2.1.1]
  by_cases hr : r = 0
  · subst hr
    rw [if_pos (nI_le (by omega) (by omega))]
    refine hj g ?_
    rw [show nS P k = i by omega]
    exact g1
  · have hs : i < nS P k := by omega
    have e11 : ∀ g : Nat → Int64, ur L (p + 12) g (p + 11) = L (p + 11) := fun g => ur_ne (by omega)
    rw [if_neg (nI_ge (by omega) (by omega)), c_canBe hp (by omega) (by omega) (by omega), Option.bind_some, r2 i]
    simp only [hs, decide_true, Bool.true_and, c_following hp hR hW hk hm hs, Option.bind_some]
    by_cases hy : pY P k m i = -1
    · rw [if_pos (by simp [hy])]
      refine ih (r - 1) _ _ (by omega) ⟨i + 1, g, by omega, nI_1 i, rfl, fun t ht => ?_⟩
      rw [g1 t ht]
      simp only [sm, con_no hy, Nat.zero_mul, Nat.add_zero]
    · obtain ⟨a, b, l1, l2, e1, e2, -⟩ := tr_of hW hk hm hs hy
      rw [if_neg (by simp [hy])]
      simp only [if_neg (show ¬ (1 : Int32) = 0 by decide), if_true, e1, e2]
      rw [c2_ld11 hq (by omega), Option.bind_some, c2_ld10 hq (by omega), Option.bind_some, c2_st11 hq (by omega), Option.bind_some, show p + 1 + 11 = p + 12 from rfl, show p + 1 + 10 = p + 11 from rfl, ur_ur, ur_at, c_sortOf hp (by omega) (by omega), Option.bind_some, r1, e11, hw i (by omega)]
      by_cases hso : pSo P k m = 1
      · simp only [if_pos hso, c2_r10 hq, c2_r11 hq, Option.bind_some, c_following hp hR hW hk hm hs, if_true, e2]
        rw [c2_ld11 hq (by omega), Option.bind_some, c2_ld10 hq (by omega), Option.bind_some, c2_st11 hq (by omega), Option.bind_some, show p + 1 + 11 = p + 12 from rfl, show p + 1 + 10 = p + 11 from rfl, ur_ur, ur_at, e11, hw i (by omega)]
        refine ih (r - 1) _ _ (by omega) ⟨i + 1, _, by omega, nI_1 i, rfl, fun t ht => ?_⟩
        have hb6 : b < 6 := by omega
        have ha6 : a < 6 := by omega
        simp only [sm, con_two e1 e2 ha6 hb6 ht hso]
        unfold up
        by_cases c1 : t = b
        · subst c1
          by_cases c2 : t = a
          · subst c2
            simp only [if_true, g1 t ht, lN_add]
            congr 1; omega
          · simp only [if_true, c2, if_false, g1 t ht, lN_add]
            congr 1; omega
        · by_cases c2 : t = a
          · subst c2
            simp only [c1, if_true, if_false, g1 t ht, lN_add]
            congr 1; omega
          · simp only [c1, c2, if_false, g1 t ht]
            congr 1; omega
      · rw [if_neg hso]
        refine ih (r - 1) _ _ (by omega) ⟨i + 1, _, by omega, nI_1 i, rfl, fun t ht => ?_⟩
        simp only [sm, con_one e1 (show a < 6 by omega) ht hso]
        unfold up
        by_cases c2 : t = a
        · subst c2
          simp only [if_true, g1 t ht, lN_add]
          congr 1; omega
        · simp only [c2, if_false, g1 t ht]
          congr 1; omega
theorem c_len2 {k : Nat} {w : Nat → Nat} {g : Nat → Int64} {Q : Hp → Prop} {j4 : Hp → Option Hp} (hp : isP p) (hR : CRk p I P) (hW : WFK P) (hk : k < nK P) (hfu : 6 < fu) (hw : ∀ s, s < 6 → L (p + 11) s = lN (w s)) (h0 : ∀ t, t < 6 → g t = 0)
    (hj : ∀ g', (∀ t, t < 6 → g' t = lN (sm (nM P k) (fun m => sm (nS P k) (fun s => con P k m s t * w s)))) → WP (j4 (mkC sw I (ur L (p + 12) g'))) Q) :
    WP (wh2 (MX2_lengthenWays_B10 fu (p + 1) (nI k) j4) fu (0 : Int32) (mkC sw I (ur L (p + 12) g))) Q := by
  have hq := isP_K hp
  have h4 := hW.1.1.2
  have hW2 := hW.2 k hk
  have h6 := hW2.1.2.2
  have h7 := hW2.2.2.1.2
  refine wh2_wp (fun r v h => ∃ i g, i + r = nM P k ∧ v = nI i ∧ h = mkC sw I (ur L (p + 12) g) ∧ ∀ t, t < 6 → g t = lN (sm i (fun m => sm (nS P k) (fun s => con P k m s t * w s)))) ?_ fu (nM P k) _ _ (by omega) ⟨0, g, by omega, rfl, rfl, fun t ht => by rw [h0 t ht]; rfl⟩
  rintro r v h self ⟨i, g, hi, rfl, rfl, g1⟩ ih
  simp only [MX2_lengthenWays_B10, c2_r3 hq, Option.bind_some, jn]
  rw [c2_ld3 hq (show k < 4 by omega), Option.bind_some, show p + 1 + 3 = p + 4 from rfl, (hR.2 k hk).2.2.1, hW2.2.2.1.1]
  by_cases hr : r = 0
  · subst hr
    rw [if_pos (nI_le (by omega) (by omega))]
    refine hj g ?_
    rw [show nM P k = i by omega]
    exact g1
  · rw [if_neg (nI_ge (by omega) (by omega))]
    exact c_len1 hp hR hW hk (by omega) hfu hw g1 (fun g' g2 => ih (r - 1) _ _ (by omega) ⟨i + 1, g', by omega, nI_1 i, rfl, g2⟩)
theorem sm2_lt {k t : Nat} {w : Nat → Nat} (hW : WFK P) (hk : k < nK P) (hl : ∀ s, w s < MD) : sm (nM P k) (fun m => sm (nS P k) (fun s => con P k m s t * w s)) < 2 ^ 62 := by
  have hW2 := hW.2 k hk
  have h6 := hW2.1.2.2
  have h7 := hW2.2.2.1.2
  have : sm (nM P k) (fun m => sm (nS P k) (fun s => con P k m s t * w s)) ≤ nM P k * (nS P k * (2 * MD)) := by
    refine sm_le (fun m _ => sm_le (fun s _ => ?_))
    exact Nat.mul_le_mul (con_le P k m s t) (Nat.le_of_lt (hl s))
  have h8 : nM P k * (nS P k * (2 * MD)) ≤ 6 * (6 * (2 * MD)) := Nat.mul_le_mul h7 (Nat.mul_le_mul h6 (Nat.le_refl _))
  have : 6 * (6 * (2 * MD)) < 2 ^ 62 := by decide
  omega
theorem c_len {k : Nat} {w : Nat → Nat} (hp : isP p) (hR : CRk p I P) (hW : WFK P) (hk : k < nK P) (hfu : 6 < fu) (hw : ∀ s, s < 6 → L (p + 11) s = lN (w s)) (hl : ∀ s, w s < MD) :
    WP (MX2_lengthenWays fu (p + 1) (nI k) (mkC sw I L)) (fun r => ∃ f g, r = mkC sw I (ur (ur L (p + 12) g) (p + 11) f) ∧ ∀ t, t < 6 → f t = lN (stepW P k w t)) := by
  have hq := isP_K hp
  simp only [MX2_lengthenWays, c2_g hq, c2_r11 hq, Option.bind_some, jn]
  rw [fillL (N := 6) (by rcases hp with rfl | rfl <;> rfl) (by decide) hfu, Option.bind_some, rowL_C, show p + 1 + 11 = p + 12 from rfl]
  refine c_len2 hp hR hW hk hfu hw (fun t ht => by rw [if_pos ht]) (fun g g1 => ?_)
  refine wh2_wp (fun r v h => ∃ i f, i + r = 6 ∧ v = nI i ∧ h = mkC sw I (ur (ur L (p + 12) g) (p + 11) f) ∧ ∀ t, t < i → f t = lN (stepW P k w t)) ?_ fu 6 _ _ (by omega) ⟨0, L (p + 11), by omega, rfl, ?_, fun t ht => by omega⟩
  · rintro r v h self ⟨i, f, hi, rfl, rfl, g2⟩ ih
    simp only [MX2_lengthenWays_B110, c2_r10 hq, c2_r11 hq, Option.bind_some, jn]
    by_cases hr : r = 0
    · subst hr
      rw [show (6 : Int32) = nI 6 from rfl, if_pos (nI_le (by omega) (by omega))]
      exact WP_some ⟨f, g, rfl, fun t ht => g2 t (by omega)⟩
    · have e12 : ur (ur L (p + 12) g) (p + 11) f (p + 12) = g := by rw [ur_ne (by omega), ur_at]
      rw [show (6 : Int32) = nI 6 from rfl, if_neg (nI_ge (by omega) (by omega)), c2_ld11 hq (by omega), Option.bind_some, show p + 1 + 11 = p + 12 from rfl, e12, g1 i (by omega), rem_l (Nat.lt_trans (sm2_lt hW hk hl) (by decide)), Option.bind_some, c2_st10 hq (by omega), Option.bind_some, show p + 1 + 10 = p + 11 from rfl, ur_ur, ur_at]
      refine ih (r - 1) _ _ (by omega) ⟨i + 1, _, by omega, nI_1 i, rfl, fun t ht => ?_⟩
      unfold up
      by_cases e : t = i
      · rw [if_pos e, e]; rfl
      · rw [if_neg e]; exact g2 t (by omega)
  · rw [show L (p + 11) = ur L (p + 12) g (p + 11) from (ur_ne (by omega)).symm, ur_self]
end Rows
