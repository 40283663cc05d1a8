/-! LOAD: what is asked of a token; names -/
section Names
variable {sw : Bool} {I : Nat → Nat → Int32} {L : Nat → Nat → Int64} {J : Nat → Nat → Int32} {K : Nat → Nat → Int64} {fu n p : Nat} {b : Nat → Nat} {k : Int32}
theorem tk_le : tk b n p ≤ 23 := by
  unfold tk
  split
  · omega
  · split
    · rcases sgT_is (c := b p) with ⟨e, -⟩ | ⟨e, -⟩ | ⟨e, -⟩ | ⟨e, -⟩ <;> omega
    · split
      · omega
      · have := rsT_le (x := wv 32 b p (wE b n p - p)); omega
theorem knd_2 {t : Nat} : knd t = 2 ↔ t ≤ 18 := by
  unfold knd
  by_cases c : t ≤ 18
  · rw [if_pos c]; exact ⟨fun _ => c, fun _ => rfl⟩
  · rw [if_neg c]
    refine ⟨fun z => ?_, fun z => absurd z c⟩
    split at z
    · exact absurd z (by decide)
    · split at z <;> exact absurd z (by decide)
theorem knd_3 {t : Nat} : knd t = 3 ↔ 19 ≤ t ∧ t ≤ 21 := by
  unfold knd
  by_cases c : t ≤ 18
  · rw [if_pos c]; exact ⟨fun z => absurd z (by decide), fun z => by omega⟩
  · rw [if_neg c]
    by_cases d : t ≤ 21
    · rw [if_pos d]; exact ⟨fun _ => by omega, fun _ => rfl⟩
    · rw [if_neg d]
      refine ⟨fun z => ?_, fun z => by omega⟩
      split at z <;> exact absurd z (by decide)
theorem knd_1 {t : Nat} (h : t ≤ 23) : knd t = 1 ↔ t = 23 := by
  unfold knd
  by_cases c : t ≤ 18
  · rw [if_pos c]; exact ⟨fun z => absurd z (by decide), fun z => by omega⟩
  · rw [if_neg c]
    by_cases d : t ≤ 21
    · rw [if_pos d]; exact ⟨fun z => absurd z (by decide), fun z => by omega⟩
    · rw [if_neg d]
      by_cases e : t = 22
      · rw [if_pos e]; exact ⟨fun z => absurd z (by decide), fun z => by omega⟩
      · rw [if_neg e]; exact ⟨fun _ => by omega, fun _ => rfl⟩
theorem knd_0 {t : Nat} : knd t = 0 ↔ t = 22 := by
  unfold knd
  by_cases c : t ≤ 18
  · rw [if_pos c]; exact ⟨fun z => absurd z (by decide), fun z => by omega⟩
  · rw [if_neg c]
    by_cases d : t ≤ 21
    · rw [if_pos d]; exact ⟨fun z => absurd z (by decide), fun z => by omega⟩
    · rw [if_neg d]
      by_cases e : t = 22
      · rw [if_pos e]; exact ⟨fun _ => e, fun _ => rfl⟩
      · rw [if_neg e]; exact ⟨fun z => absurd z (by decide), fun z => absurd z e⟩
theorem lN_m1 {a : Nat} (h : a < 2 ^ 62) : lN a ≠ -1 := by
  intro z
  have := congrArg Int64.toInt z
  rw [pf_lI (by omega)] at this
  have e : (-1 : Int64).toInt = -1 := rfl
  omega
theorem mp_lt : ∀ i, i < 18 → mpW i < 22 := by decide +kernel
theorem m_wordHere (h : LM b n p J K) (hp : p ≤ n) (hfu : 1000 < fu) : MX9_wordHere fu 0 (mkM J K) = some (if tk b n p < 18 then nI (mpW (tk b n p)) else -1) := by
  obtain ⟨-, -, -, hk, hw, -⟩ := h
  simp only [MX9_wordHere, m_g]
  by_cases c : tk b n p ≤ 18
  · obtain ⟨w1, w2, w3, w4, w5, w6⟩ := tk_word c hp
    have hy := hw c
    generalize hX : wv 32 b p (wE b n p - p) = X at w5
    have wr : WR (lN X) (K 0 15) := ⟨b, p, _, w4, w6, by rw [hX], hy⟩
    have sx : X < 2 ^ 62 := by rw [← hX]; exact wv_small (by decide) (by decide) w4 w6
    have hit : ∀ i, i < 18 → rsv i = X → rsT X = i := by
      intro i hi e
      rcases rsT_is (x := X) with ⟨-, q⟩ | ⟨q1, q2⟩
      · exact absurd e (q i hi)
      · exact rsv_inj _ q1 i hi (by rw [q2, e])
    rw [w5]
    refine wh1_rule (fun r v => ∃ k, k + r = 22 ∧ v = nI k ∧ ∀ i, i < 18 → mpW i < k → rsv i ≠ X) ?_ fu 22 _ (by omega) ⟨0, rfl, rfl, fun i _ z => by omega⟩
    rintro r v self ⟨k, hkr, rfl, hz⟩ ih
    simp only [MX9_wordHere_B2, m_fI, m_fL, Option.bind_some]
    rw [show (21 : Int32) = nI 21 from rfl]
    by_cases hr : r = 0
    · rw [if_pos (nI_lt (by omega) (by omega))]
      rcases rsT_is (x := X) with ⟨q, -⟩ | ⟨q1, q2⟩
      · rw [q, if_neg (by decide)]
      · exact absurd q2 (hz _ q1 (by have := mp_lt _ q1; omega))
    · rw [if_neg (nI_nlt (by omega) (by decide)), hk, if_pos (knd_2.mpr c)]
      have go : (∀ i, i < 18 → mpW i = k → rsv i ≠ X) → self (nI k + 1) = some (if rsT X < 18 then nI (mpW (rsT X)) else -1) := by
        intro q
        refine ih (r - 1) _ (by omega) ⟨k + 1, by omega, nI_1 k, fun i hi z => ?_⟩
        by_cases e : mpW i = k
        · exact q i hi e
        · exact hz i hi (by omega)
      rcases wo_none k (by omega) with ⟨i, hi, e⟩ | e
      · obtain ⟨y, y1, y2⟩ := rs_WR hi
        rw [e] at y1
        rw [y1, Option.bind_some]
        have iff := WR_iff wr y2
        by_cases ce : rsv i = X
        · rw [if_pos (cmp_0.mpr (iff.mp (by rw [ce]))), hit i hi ce, if_pos hi, e]
        · rw [if_neg (fun z => ce (lN_inj (rsv_small i hi) sx (iff.mpr (cmp_0.mp z)).symm))]
          refine go (fun j hj ej => ?_)
          rw [mp_inj j hj i hi (by rw [ej, e])]
          exact ce
      · rw [e, Option.bind_some, if_neg (fun z => lN_m1 (wv_small (B := 27) (by decide) (by decide) w4 w6) (by rw [← hy]; exact cmp_0.mp z))]
        refine go (fun j hj ej => ?_)
        exfalso
        obtain ⟨y, y1, b', p', k', z1, z2, -, z3⟩ := rs_WR hj
        rw [ej, e] at y1
        have := Option.some.inj y1
        rw [← this] at z3
        exact lN_m1 (wv_small (by decide) (by decide) z1 z2) z3.symm
  · obtain ⟨f, rfl⟩ : ∃ f, fu = f + 1 := ⟨fu - 1, by omega⟩
    show MX9_wordHere_B2 _ _ _ _ = _
    simp only [MX9_wordHere_B2, m_fI, Option.bind_some]
    rw [if_neg (by decide), hk, if_neg (fun z => c (knd_2.mp z)), if_neg (by omega)]
theorem m_isName (h : LM b n p J K) (hp : p ≤ n) (hfu : 1000 < fu) : MX9_isName fu 0 (mkM J K) = some (if tk b n p = 18 then 1 else 0) := by
  simp only [MX9_isName, m_g, m_fI, Option.bind_some, jn]
  rw [m_wordHere h hp hfu, Option.bind_some, h.2.2.2.1]
  by_cases c : tk b n p ≤ 18
  · rw [if_pos (knd_2.mpr c)]
    by_cases d : tk b n p < 18
    · have := mp_lt _ d
      rw [if_pos d, if_neg (nI_ne_m1 (by omega)), if_neg (by omega)]
    · rw [if_neg d, if_pos rfl, if_pos (by omega)]
  · rw [if_neg (fun z => c (knd_2.mp z)), if_neg (by omega)]
theorem m_isStatement (h : LM b n p J K) (hp : p ≤ n) (hfu : 1000 < fu) : MX9_isStatement fu 0 (mkM J K) = some (if 7 ≤ tk b n p ∧ tk b n p ≤ 17 then 1 else 0) := by
  simp only [MX9_isStatement, m_g, jn]
  rw [m_wordHere h hp hfu, Option.bind_some]
  by_cases d : tk b n p < 18
  · rw [if_pos d]
    have : ∀ t, t < 18 → (if nI (mpW t) < (10 : Int32) then some (0 : Int32) else if (21 : Int32) ≤ nI (mpW t) then some 0 else some 1) = some (if 7 ≤ t ∧ t ≤ 17 then 1 else 0) := by decide +kernel
    exact this _ d
  · rw [if_neg d, if_pos (by decide), if_neg (by omega)]
theorem m_isSign {c t : Nat} (h : LM b n p J K) (hb : ∀ j, j < n → b j < 256) (hp : p ≤ n) (hc : (c = 59 ∧ t = 19) ∨ (c = 123 ∧ t = 20) ∨ (c = 125 ∧ t = 21)) : MX9_isSign 0 (nI c) (mkM J K) = some (if tk b n p = t then 1 else 0) := by
  obtain ⟨-, -, -, hk, -, hs⟩ := h
  simp only [MX9_isSign, m_g, m_fI, Option.bind_some, jn]
  rw [hk]
  by_cases d : 19 ≤ tk b n p ∧ tk b n p ≤ 21
  · obtain ⟨s1, s2⟩ := hs d.1 d.2
    rw [if_pos (knd_3.mpr d), s1]
    have pn : p < n := by
      rcases Nat.lt_or_ge p n with z | z
      · exact z
      · have := tk_end (b := b).mpr z; omega
    have lb := hb p pn
    have e : nI (b p) = nI c ↔ tk b n p = t := by
      rw [nI_eq (by omega) (by omega), s2]
      rcases sgT_is (c := b p) with ⟨y, z⟩ | ⟨y, z⟩ | ⟨y, z⟩ | ⟨y, z⟩ <;> omega
    by_cases f : tk b n p = t
    · rw [if_pos (e.mpr f), if_pos f]
    · rw [if_neg (fun z => f (e.mp z)), if_neg f]
  · rw [if_neg (fun z => d (knd_3.mp z)), if_neg (by omega)]
/-- the fault that is written down at a token -/
def fk (b : Nat → Nat) (n p : Nat) (k : Int32) : Int32 := if tk b n p = 23 then 1 else k
theorem m_bad (h : LM b n p J K) : MX9_bad 0 k (mkM J K) = some (0, mkM (ur J 0 (up (up (J 0) 13 (fk b n p k)) 14 (nI p))) K) := by
  simp only [MX9_bad, m_g, m_fI, m_pI, Option.bind_some, jn, ur_at, ur_ur]
  rw [h.2.2.2.1, up_ne (show (9 : Nat) ≠ 13 by decide), up_ne (show (9 : Nat) ≠ 13 by decide), h.2.1]
  unfold fk
  by_cases c : tk b n p = 23
  · rw [if_pos ((knd_1 tk_le).mpr c), if_pos c]
  · rw [if_neg (fun z => c ((knd_1 tk_le).mp z)), if_neg c]
theorem c_fail (h : LC b n p I L) : MX3_fail 1 k (mkC sw I L) = some (0, mkC sw (ur I 1 (up (up (I 1) 1 (fk b n p k)) 2 (nI p))) L) := by
  have l := tk_le (b := b) (n := n) (p := p)
  simp only [MX3_fail, c3_g, c3_r0, c3_pI, c7_fI, Option.bind_some, jn, ur_at, ur_ur]
  rw [ur_ne (show (2 : Nat) ≠ 1 by decide), ur_ne (show (2 : Nat) ≠ 1 by decide), h.2.1, h.2.2.1]
  unfold fk
  by_cases c : tk b n p = 23
  · rw [if_pos (show nI (tk b n p) = 23 by rw [c]; rfl), if_pos c]
  · rw [if_neg (show ¬ nI (tk b n p) = 23 from fun z => c (nI_inj (b := 23) (by omega) (by decide) z)), if_neg c]
theorem both_word (h : LC b n p I L) (g : LM b n p J K) (hp : p ≤ n) (ht : tk b n p ≤ 18) : WR (L 2 3) (K 0 15) := by
  obtain ⟨-, -, -, w4, -, w6⟩ := tk_word ht hp
  exact ⟨b, p, _, w4, w6, h.2.2.2.2 ht, g.2.2.2.2.1 ht⟩
/-- both look a word up among c names, and find the same -/
theorem both_find {r a a' c : Nat} (hr : ∀ i, i < c → h_ldL (mkC sw I L) r (nI a + nI i) = some (L r (a + i))) (h58 : a' + c ≤ 58) (hw : WR (L 2 3) (K 0 15)) (hN : ∀ i, i < c → WR (L r (a + i)) (K 4 (a' + i))) (hfu : 1000 < fu) :
    ∃ x, (x = -1 ∨ ∃ f, f < c ∧ x = nI f) ∧ MX3_find fu 1 r (nI a) (nI c) (mkC sw I L) = some x ∧ MX9_findIn fu 0 (nI a') (nI c) (mkM J K) = some x := by
  simp only [MX3_find, MX9_findIn, c3_g, m_g]
  have loop : ∀ s i f1 f2, i + s = c → s < f1 → s < f2 → ∃ x, (x = -1 ∨ ∃ f, f < c ∧ x = nI f) ∧ wh1 (MX3_find_B3 (nI c) (mkC sw I L) r (nI a) 1) f1 (nI i) = some x ∧ wh1 (MX9_findIn_B2 (nI c) (mkM J K) 0 (nI a')) f2 (nI i) = some x := by
    intro s
    induction s with
    | zero =>
      intro i f1 f2 hi h1 h2
      obtain ⟨f1, rfl⟩ : ∃ f, f1 = f + 1 := ⟨f1 - 1, by omega⟩
      obtain ⟨f2, rfl⟩ : ∃ f, f2 = f + 1 := ⟨f2 - 1, by omega⟩
      rw [wh1, wh1]
      simp only [MX3_find_B3, MX9_findIn_B2]
      rw [if_pos (nI_le (by omega) (by omega)), if_pos (nI_le (by omega) (by omega))]
      exact ⟨-1, Or.inl rfl, rfl, rfl⟩
    | succ s ih =>
      intro i f1 f2 hi h1 h2
      obtain ⟨f1, rfl⟩ : ∃ f, f1 = f + 1 := ⟨f1 - 1, by omega⟩
      obtain ⟨f2, rfl⟩ : ∃ f, f2 = f + 1 := ⟨f2 - 1, by omega⟩
      rw [wh1, wh1]
      simp only [MX3_find_B3, MX9_findIn_B2, c3_r0, c7_fL, m_r3, m_fL, Option.bind_some]
      rw [if_neg (nI_ge (by omega) (by omega)), if_neg (nI_ge (by omega) (by omega)), hr i (by omega), Option.bind_some, nI_add, m_ld4 (by omega), Option.bind_some]
      have iff := WR_iff (hN i (by omega)) hw
      by_cases e : L r (a + i) = L 2 3
      · rw [if_pos (cmp_0.mpr e), if_pos (cmp_0.mpr (iff.mp e))]
        exact ⟨nI i, Or.inr ⟨i, by omega, rfl⟩, rfl, rfl⟩
      · rw [if_neg (fun z => e (cmp_0.mp z)), if_neg (fun z => e (iff.mpr (cmp_0.mp z))), nI_1]
        exact ih (i + 1) f1 f2 (by omega) (by omega) (by omega)
  exact loop c 0 fu fu (by omega) (by omega) (by omega)
end Names
