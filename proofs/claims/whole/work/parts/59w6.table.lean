theorem fb_holes : ∀ (m n : Nat) (f : Nat → Nat), (∀ i, i < n → f i < m) → (∀ i j, i < j → j < n → f i ≠ f j) → n ≤ m := by
  intro m
  induction m with
  | zero =>
    intro n f h1 _
    rcases Nat.eq_zero_or_pos n with h | h
    · omega
    · exact absurd (h1 0 h) (Nat.not_lt_zero _)
  | succ m ih =>
    intro n f h1 h2
    by_cases hx : ∃ i, i < n ∧ f i = m
    · obtain ⟨a, ha, hfa⟩ := hx
      have hg := ih (n - 1) (fun i => if i < a then f i else f (i + 1)) (by
        intro i hi
        by_cases q : i < a
        · simp only [if_pos q]
          have b1 := h1 i (by omega)
          have b2 := h2 i a q ha
          omega
        · simp only [if_neg q]
          have b1 := h1 (i + 1) (by omega)
          have b2 := h2 a (i + 1) (by omega) (by omega)
          omega) (by
        intro i j hij hj
        by_cases q : i < a
        · by_cases r : j < a
          · simp only [if_pos q, if_pos r]
            exact h2 i j hij (by omega)
          · simp only [if_pos q, if_neg r]
            exact h2 i (j + 1) (by omega) (by omega)
        · have r : ¬ j < a := by omega
          simp only [if_neg q, if_neg r]
          exact h2 (i + 1) (j + 1) (by omega) (by omega))
      omega
    · have hg := ih n f (fun i hi => by
        have b1 := h1 i hi
        have b2 : f i ≠ m := fun e => hx ⟨i, hi, e⟩
        omega) h2
      omega
theorem cmp_0 {x y : Int64} : lg_cmp x y = 0 ↔ x = y := by
  unfold lg_cmp
  by_cases h : x = y
  · subst h
    rw [if_neg (by rw [gt_iff_lt, Int64.lt_iff_toInt_lt]; omega), if_pos rfl]
    exact ⟨fun _ => rfl, fun _ => rfl⟩
  · rw [if_neg h]
    constructor
    · intro q; split at q <;> exact absurd q (by decide)
    · intro q; exact absurd q h
/-- where a key is looked for first -/
def hsh (k : Int64) : Nat := uN (k * (-7046029254386353131 : Int64)) / 2 ^ 53
theorem uN_lN (x : Int64) : x = lN (uN x) := by
  obtain ⟨n, hn, e⟩ := wb_of x
  rw [e]
  congr 1
  show n = (lN n).toBitVec.toNat
  rw [wb_tn hn]
theorem hsh_lt (k : Int64) : hsh k < 2048 := by
  have := uN_lt (k * (-7046029254386353131 : Int64))
  unfold hsh
  omega
theorem hsh_eq (k : Int64) : ((((k * (-7046029254386353131 : Int64)).toUInt64 >>> ((53 : Int32).toInt64.toUInt64 &&& Int64.toUInt64 63)).toInt64).toInt32) = nI (hsh k) := by
  have h := uN_sk (k * (-7046029254386353131 : Int64)) (k := 53) (by decide)
  rw [show ((53 : Int32)) = nI 53 from rfl, uN_lN (((k * (-7046029254386353131 : Int64)).toUInt64 >>> ((nI 53).toInt64.toUInt64 &&& Int64.toUInt64 63)).toInt64), h, lN_i32]
  rfl
theorem rem_2048 (q : Nat) (hq : q < 2048) : h_rem (nI q + 1) 2048 = some (nI ((q + 1) % 2048)) := by
  rw [nI_1, rem_some (by decide), show (2048 : Int32) = nI 2048 from rfl, pk_rem (by omega) (by decide) (by decide)]
def HT (sl : Nat → Int32) (n : Nat) (ky : Nat → Int64) : Prop :=
  (∀ q, q < 2048 → sl q = 0 ∨ ∃ j, j < n ∧ sl q = nI (j + 1)) ∧ (∀ q q', q < 2048 → q' < 2048 → sl q = sl q' → sl q ≠ 0 → q = q') ∧
  ∀ j, j < n → ∃ d, d < 2048 ∧ sl ((hsh (ky j) + d) % 2048) = nI (j + 1) ∧ ∀ e, e < d → sl ((hsh (ky j) + e) % 2048) ≠ 0
section Table
variable {sl : Nat → Int32} {n q : Nat} {ky : Nat → Int64} {k : Int64} {sw : Bool} {I : Nat → Nat → Int32} {L : Nat → Nat → Int64} {fu : Nat} {y : Int32}
/-- some slot is free -/
theorem HT_free (h : HT sl n ky) (hn : n ≤ 1000) (a : Nat) : ∃ d, d < 2048 ∧ sl ((a + d) % 2048) = 0 := by
  refine Classical.byContradiction fun hx => ?_
  have hne : ∀ q, q < 2048 → sl q ≠ 0 := by
    intro q hq e
    refine hx ⟨(q + 2048 - a % 2048) % 2048, Nat.mod_lt _ (by decide), ?_⟩
    rw [show (a + (q + 2048 - a % 2048) % 2048) % 2048 = q by omega]
    exact e
  have h2 : ∀ q, q < 2048 → ∃ j, j < n ∧ sl q = nI (j + 1) := fun q hq => by
    rcases h.1 q hq with e | e
    · exact absurd e (hne q hq)
    · exact e
  have f : ∀ q, ∃ j, q < 2048 → j < n ∧ sl q = nI (j + 1) := fun q => by
    by_cases c : q < 2048
    · obtain ⟨j, hj⟩ := h2 q c; exact ⟨j, fun _ => hj⟩
    · exact ⟨0, fun z => absurd z c⟩
  have := fb_holes n 2048 (fun q => Classical.choose (f q)) (fun q hq => (Classical.choose_spec (f q) hq).1) (fun q q' h1 h3 e => by
    have a1 := (Classical.choose_spec (f q) (by omega)).2
    have a2 := (Classical.choose_spec (f q') h3).2
    have e' : Classical.choose (f q) = Classical.choose (f q') := e
    rw [e', ← a2] at a1
    have := h.2.1 q q' (by omega) h3 a1 (hne q (by omega))
    omega)
  omega
/-- a key that is there is met before the first free slot -/
theorem HT_miss {d : Nat} (h : HT sl n ky) (hn : n ≤ 1000) (hd : d < 2048) (z : sl ((hsh k + d) % 2048) = 0) (ne : ∀ e, e < d → ∀ j, j < n → sl ((hsh k + e) % 2048) = nI (j + 1) → ky j ≠ k) : ∀ j, j < n → ky j ≠ k := by
  intro j hj e
  obtain ⟨dj, h1, h2, h3⟩ := h.2.2 j hj
  rw [e] at h2 h3
  rcases Nat.lt_trichotomy dj d with c | c | c
  · exact ne dj c j hj h2 e
  · subst c
    rw [z] at h2
    have := nI_inj (a := 0) (by omega) (by omega) h2
    omega
  · exact h3 d c z
theorem HT_new {d : Nat} {ky' : Nat → Int64} (h : HT sl n ky) (hn : n < 1000) (hd : d < 2048) (z : sl ((hsh k + d) % 2048) = 0) (nz : ∀ e, e < d → sl ((hsh k + e) % 2048) ≠ 0) (k1 : ∀ j, j < n → ky' j = ky j) (k2 : ky' n = k) : HT (up sl ((hsh k + d) % 2048) (nI (n + 1))) (n + 1) ky' := by
  have nn : nI (n + 1) ≠ 0 := fun q => by have := nI_inj (b := 0) (by omega) (by omega) q; omega
  refine ⟨fun q hq => ?_, fun q q' hq hq' e ne => ?_, fun j hj => ?_⟩
  · by_cases c : q = (hsh k + d) % 2048
    · rw [c, up_at]; exact Or.inr ⟨n, by omega, rfl⟩
    · rw [up_ne c]
      rcases h.1 q hq with e | ⟨j, hj, e⟩
      · exact Or.inl e
      · exact Or.inr ⟨j, by omega, e⟩
  · by_cases c : q = (hsh k + d) % 2048
    · by_cases c' : q' = (hsh k + d) % 2048
      · omega
      · rw [c, up_at, up_ne c'] at e
        rcases h.1 q' hq' with e' | ⟨j, hj, e'⟩
        · rw [e'] at e; exact absurd e nn
        · rw [e'] at e
          have := nI_inj (by omega) (by omega) e
          omega
    · by_cases c' : q' = (hsh k + d) % 2048
      · rw [c', up_at, up_ne c] at e
        rcases h.1 q hq with e' | ⟨j, hj, e'⟩
        · rw [e'] at e; exact absurd e.symm nn
        · rw [e'] at e
          have := nI_inj (by omega) (by omega) e
          omega
      · rw [up_ne c, up_ne c'] at e
        rw [up_ne c] at ne
        exact h.2.1 q q' hq hq' e ne
  · by_cases c : j = n
    · subst c
      refine ⟨d, hd, by rw [k2, up_at], fun e he => ?_⟩
      rw [k2]
      by_cases c : (hsh k + e) % 2048 = (hsh k + d) % 2048
      · rw [c, up_at]; exact nn
      · rw [up_ne c]; exact nz e he
    · obtain ⟨dj, h1, h2, h3⟩ := h.2.2 j (by omega)
      rw [k1 j (by omega)]
      refine ⟨dj, h1, ?_, fun e he => ?_⟩
      · rw [up_ne (fun c => by rw [c, z] at h2; have := nI_inj (a := 0) (by omega) (by omega) h2; omega)]
        exact h2
      · by_cases c : (hsh (ky j) + e) % 2048 = (hsh k + d) % 2048
        · rw [c, up_at]; exact nn
        · rw [up_ne c]; exact h3 e he
theorem HT_0 : HT (fun _ => 0) 0 ky := ⟨fun _ _ => Or.inl rfl, fun q q' _ _ _ h => absurd rfl h, fun j hj => by omega⟩
/-- what adding a key leaves -/
def ADD (I : Nat → Nat → Int32) (L : Nat → Nat → Int64) (n : Nat) (k : Int64) (y : Int32) (I' : Nat → Nat → Int32) (L' : Nat → Nat → Int64) : Prop :=
  (∀ b, b ≠ 214 → b ≠ 218 → b ≠ 219 → I' b = I b) ∧ (∀ b, b ≠ 217 → L' b = L b) ∧ (∀ m, m ≠ 0 → m ≠ 1 → I' 214 m = I 214 m) ∧
      (((∃ j, j < n ∧ L 217 j = k) ∧ I' = I ∧ L' = L) ∨ ((¬ ∃ j, j < n ∧ L 217 j = k) ∧ n = 1000 ∧ I' 214 0 = nI n ∧ I' 214 1 = 1 ∧ I' 218 = I 218 ∧ L' = L ∧ I' 219 = I 219) ∨
       ((¬ ∃ j, j < n ∧ L 217 j = k) ∧ n ≠ 1000 ∧ I' 214 0 = nI (n + 1) ∧ I' 214 1 = I 214 1 ∧ I' 218 = up (I 218) n y ∧ L' 217 = up (L 217) n k ∧ HT (I' 219) (n + 1) (L' 217)))
theorem c_adA {q : Nat} (h0 : I 214 0 = nI 1000) : MX6_addAt 214 (nI q) k y (mkC sw I L) = some (mkC sw (ur I 214 (up (I 214) 1 1)) L) := by
  simp only [MX6_addAt, c6_g, c6_fI, Option.bind_some]
  rw [h0, if_neg (show ¬ nI 1000 < 1000 by decide), c6_pZ (Or.inr rfl), Option.bind_some]
theorem c_adB {q : Nat} (h0 : I 214 0 = nI n) (hn : n < 1000) (hq : q < 2048) : MX6_addAt 214 (nI q) k y (mkC sw I L) = some (mkC sw (ur (ur (ur I 218 (up (I 218) n y)) 214 (up (I 214) 0 (nI (n + 1)))) 219 (up (I 219) q (nI (n + 1)))) (ur L 217 (up (L 217) n k))) := by
  simp only [MX6_addAt, c6_g, c6_fI, Option.bind_some]
  rw [h0, if_pos (show nI n < 1000 by rw [show (1000 : Int32) = nI 1000 from rfl, i_lt, n_i (by omega), n_i (by omega)]; omega), c6_r10, Option.bind_some, c6_st10 (by omega), Option.bind_some, c6_r11, Option.bind_some]
  simp only [c6_fI, Option.bind_some]
  rw [h0, c6_st11 (by omega), Option.bind_some]
  simp only [c6_fI, c6_pI, c6_r12, Option.bind_some]
  rw [ur_at, up_at, ur_ne (show (214 : Nat) ≠ 218 by decide), h0, nI_1, c6_st12 hq, Option.bind_some, ur_ne (show (219 : Nat) ≠ 214 by decide), ur_ne (show (219 : Nat) ≠ 218 by decide)]
theorem c_addAt {d : Nat} (h0 : I 214 0 = nI n) (hn : n ≤ 1000) (h : HT (I 219) n (L 217)) (hd : d < 2048) (cz : I 219 ((hsh k + d) % 2048) = 0) (hv : ∀ e, e < d → I 219 ((hsh k + e) % 2048) ≠ 0 ∧ ∀ j, j < n → I 219 ((hsh k + e) % 2048) = nI (j + 1) → L 217 j ≠ k) :
    ∃ I' L', MX6_addAt 214 (nI ((hsh k + d) % 2048)) k y (mkC sw I L) = some (mkC sw I' L') ∧ ADD I L n k y I' L' := by
  have lt : (hsh k + d) % 2048 < 2048 := Nat.mod_lt _ (Nat.succ_pos _)
  have miss := HT_miss (k := k) h hn hd cz (fun e he j hj q => (hv e he).2 j hj q)
  have nex : ¬ ∃ j, j < n ∧ L 217 j = k := fun ⟨j, hj, e⟩ => miss j hj e
  by_cases cn : n = 1000
  · rw [cn] at h0
    refine ⟨_, _, c_adA h0, ?_⟩
    unfold ADD
    refine ⟨fun b b1 b2 b3 => ur_ne b1, fun _ _ => rfl, fun m m0 m1 => ?_, Or.inr (Or.inl ⟨nex, cn, ?_, ?_, ur_ne (by decide), rfl, ur_ne (by decide)⟩)⟩
    · rw [ur_at, up_ne m1]
    · rw [ur_at, up_ne (by decide), h0, cn]
    · rw [ur_at, up_at]
  · refine ⟨_, _, c_adB h0 (by omega) lt, ?_⟩
    have ht := HT_new (ky' := up (L 217) n k) h (by omega) hd cz (fun e he => (hv e he).1) (fun j hj => up_ne (by omega)) up_at
    unfold ADD
    refine ⟨fun b b1 b2 b3 => ?_, fun b hb => ur_ne hb, fun m m0 m1 => ?_, Or.inr (Or.inr ⟨nex, cn, ?_, ?_, ?_, ?_, ?_⟩)⟩
    · rw [ur_ne b3, ur_ne b1, ur_ne b2]
    · rw [ur_ne (by decide), ur_at, up_ne m0]
    · rw [ur_ne (by decide), ur_at, up_at]
    · rw [ur_ne (by decide), ur_at, up_ne (by decide)]
    · rw [ur_ne (by decide), ur_ne (by decide), ur_at]
    · rw [ur_at]
    · rw [ur_at, ur_at]
      exact ht
theorem c_addB {a D : Nat} (h : HT (I 219) n (L 217)) (hn : n ≤ 1000) (ha : a < 2048) (hD : D < 2048) (zD : I 219 ((a + D) % 2048) = 0) (hfu : 2048 < fu)
    (at_ : ∀ d, d < 2048 → I 219 ((a + d) % 2048) = 0 → (∀ e, e < d → I 219 ((a + e) % 2048) ≠ 0 ∧ ∀ j, j < n → I 219 ((a + e) % 2048) = nI (j + 1) → L 217 j ≠ k) → ∃ I' L', MX6_addAt 214 (nI ((a + d) % 2048)) k y (mkC sw I L) = some (mkC sw I' L') ∧ ADD I L n k y I' L') :
    WP (wh2 (MX6_add_B14 (mkC sw I L) 214 (fun v1 => (MX6_addAt 214 v1 k y (mkC sw I L)).bind fun h3 => some h3) k) fu (nI a) 0) (fun r => ∃ I' L', r = mkC sw I' L' ∧ ADD I L n k y I' L') := by
  refine wh2_wp (fun r v4 v5 => ∃ d, d + r = 2048 ∧ v5 = nI d ∧ v4 = nI ((a + d) % 2048) ∧ (∀ e, e < d → I 219 ((a + e) % 2048) ≠ 0 ∧ ∀ j, j < n → I 219 ((a + e) % 2048) = nI (j + 1) → L 217 j ≠ k)) ?_ fu 2048 _ _ hfu ⟨0, Nat.zero_add _, rfl, by rw [Nat.add_zero, Nat.mod_eq_of_lt ha], fun e he => absurd he (Nat.not_lt_zero _)⟩
  rintro r v4 v5 self ⟨d, hd, rfl, rfl, hv⟩ ih
  have lt : (a + d) % 2048 < 2048 := Nat.mod_lt _ (Nat.succ_pos _)
  have dD : d ≤ D := by
    by_cases c : d ≤ D
    · exact c
    · exact absurd zD (hv D (by omega)).1
  simp only [MX6_add_B14, c6_r12, c6_r10, Option.bind_some]
  rw [show (2048 : Int32) = nI 2048 from rfl, if_neg (nI_ge (by omega) (by omega)), c6_ld12 lt, Option.bind_some]
  by_cases cz : I 219 ((a + d) % 2048) = 0
  · rw [if_pos cz]
    obtain ⟨I', L', e, q⟩ := at_ d (by omega) cz hv
    rw [e, Option.bind_some]
    exact WP_some ⟨I', L', rfl, q⟩
  · rw [if_neg cz]
    obtain ⟨j, hj, ej⟩ : ∃ j, j < n ∧ I 219 ((a + d) % 2048) = nI (j + 1) := by
      rcases h.1 _ lt with e | e
      · exact absurd e cz
      · exact e
    have e1 : nI (j + 1) - 1 = nI j := by rw [← nI_1 j]; exact Int32.add_sub_cancel _ _
    rw [ej, e1, c6_ld10 (by omega), Option.bind_some]
    by_cases ck : L 217 j = k
    · rw [if_pos (cmp_0.mpr ck)]
      exact WP_some ⟨I, L, rfl, fun _ _ _ _ => rfl, fun _ _ => rfl, fun _ _ _ => rfl, Or.inl ⟨⟨j, hj, ck⟩, rfl, rfl⟩⟩
    · have dlt : d < D := by
        rcases Nat.lt_or_ge d D with c | c
        · exact c
        · have : d = D := by omega
          subst this
          exact absurd zD cz
      have em : ((a + d) % 2048 + 1) % 2048 = (a + (d + 1)) % 2048 := by omega
      rw [if_neg (fun z => ck (cmp_0.mp z)), show nI 2048 = (2048 : Int32) from rfl, rem_2048 _ lt, Option.bind_some, em]
      refine ih (r - 1) _ _ (by omega) ⟨d + 1, by omega, nI_1 d, rfl, fun e he => ?_⟩
      by_cases c : e = d
      · subst c
        refine ⟨cz, fun j' hj' q => ?_⟩
        rw [ej] at q
        have := nI_inj (by omega) (by omega) q
        have : j' = j := by omega
        rw [this]
        exact ck
      · exact hv e (by omega)
/-- the class looks a key up, and writes it down if it is not there -/
theorem c_add (h0 : I 214 0 = nI n) (hn : n ≤ 1000) (h : HT (I 219) n (L 217)) (hfu : 2048 < fu) :
    ∃ I' L', MX6_add fu 214 k y (mkC sw I L) = some (mkC sw I' L') ∧ ADD I L n k y I' L' := by
  obtain ⟨D, hD, zD⟩ := HT_free h hn (hsh k)
  obtain ⟨_, e, I', L', rfl, q⟩ := c_addB (sw := sw) (fu := fu) (k := k) (y := y) (a := hsh k) h hn (hsh_lt k) hD zD hfu (fun d => c_addAt h0 hn h)
  refine ⟨I', L', ?_, q⟩
  unfold MX6_add
  rw [c6_g]
  simp only [jn]
  rw [hsh_eq]
  exact e
end Table
