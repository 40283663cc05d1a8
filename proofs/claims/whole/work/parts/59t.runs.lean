/-- a run, by the rounds that are left, the steps, the place, what was made, the draw and the row: steps, ending, place, made -/
def RN (P : Nat → Int32) : Nat → Nat → Nat → Nat → Int32 → (Nat → Int32) → Nat × Int32 × Nat × Nat
  | 0, n, i, md, _, X => if i = nT P then (n, rsn P i X, i, md) else (n, 6, i, md)
  | r + 1, n, i, md, d, X => if i = nT P then (n, rsn P i X, i, md) else if rsn P i X = 0 then (match tr P i (dz P i d) X with | none => (n, 0, i, md) | some Y => RN P r (n + 1) (nN (dp P i d)) (if nN (P (333 + i)) = 0 then md + 1 else md) (dd P i d) Y) else (n + 1, rsn P i X, i, md)
/-- all its rows can be, and each goes on where nothing is wrong -/
def RG (P : Nat → Int32) : Nat → Nat → Int32 → (Nat → Int32) → Prop
  | 0, _, _, X => GX X
  | r + 1, i, d, X => GX X ∧ (i < nT P → rsn P i X = 0 → ∃ Y, tr P i (dz P i d) X = some Y ∧ RG P r (nN (dp P i d)) (dd P i d) Y)
section Runs
variable {kS : KS} {sw : Bool} {I : Nat → Nat → Int32} {L : Nat → Nat → Int64} {J J' : Nat → Nat → Int32} {K : Nat → Nat → Int64} {fu i n md p r : Nat} {D : Nat → Nat} {X P : Nat → Int32} {d : Int32}
theorem RG_GX (h : RG P r i d X) : GX X := by cases r with | zero => exact h | succ r => exact h.1
theorem RN_end : RN P r n (nT P) md d X = (n, rsn P (nT P) X, nT P, md) := by cases r <;> (unfold RN; rw [if_pos rfl])
theorem RN_300 (hi : i ≠ nT P) : RN P 0 n i md d X = (n, 6, i, md) := by unfold RN; rw [if_neg hi]
theorem RN_bad (hi : i ≠ nT P) (h : rsn P i X ≠ 0) : RN P (r + 1) n i md d X = (n + 1, rsn P i X, i, md) := by unfold RN; rw [if_neg hi, if_neg h]
theorem RN_on {Y : Nat → Int32} (hi : i ≠ nT P) (h : rsn P i X = 0) (e : tr P i (dz P i d) X = some Y) : RN P (r + 1) n i md d X = RN P r (n + 1) (nN (dp P i d)) (if nN (P (333 + i)) = 0 then md + 1 else md) (dd P i d) Y := by
  rw [RN, if_neg hi, if_pos h, e]
theorem s7 (hA : WFA P D) (hi : i < nT P) : (P (333 + i) < 7 ↔ nN (P (333 + i)) < 7) ∧ (lkN P no i = -1 ↔ nN (P (333 + i)) < 7) := by
  have h40 := hA.1.1.2.2.2
  obtain ⟨so, h10, eso, es, -, -, -⟩ := op_of hA.1 hA.2.1 hA.2.2 hi
  have a : P (333 + i) < 7 ↔ nN (P (333 + i)) < 7 := by
    rw [es, eso, show (7 : Int32) = nI 7 from rfl, i_lt, n_i (by omega), n_i (by omega)]
    omega
  refine ⟨a, ?_⟩
  rw [← a]
  constructor
  · intro q
    by_cases c : P (333 + i) < 7
    · exact c
    · exfalso
      unfold lkN at q
      rw [if_neg c] at q
      have hb : ∀ x, x = beh P no 8 i → x ≠ -1 := by
        rintro x rfl
        obtain ⟨t, t1, t2⟩ := beh_pl (out := no) hA.1.1 hA.2.2 8 i hi
        rw [t2]; exact nI_ne_m1 (by omega)
      split at q
      · exact hb _ rfl q
      · split at q
        · exact hb _ rfl q
        · rename_i c2; exact c2 q
  · intro q
    unfold lkN
    rw [if_pos q]
theorem dp_pl (hA : WFA P D) (hi : i < nT P) : ∃ t, t ≤ nT P ∧ dp P i d = nI t := by
  unfold dp
  by_cases c : dz P i d = 0
  · rw [if_pos c]
    refine lkN_pl hA.1.1 hA.2.2 hi (fun q => ?_)
    unfold dz at c
    rw [if_pos ((s7 hA hi).2.mp q)] at c
    exact absurd c (by decide)
  · rw [if_neg c]
    exact lkY_pl hA.1.1 hA.2.2 hi
theorem CF_X0 {T M S : Nat → Int32} (h1 : ∀ v, v < 6 → T v = -1) (h2 : ∀ v, v < 6 → M v = 0) (h3 : ∀ v, v < 6 → S v = 0) : CF P T M S X0 := by
  have e : ∀ v, v < 6 → X0 (12 + v) = 0 ∧ X0 (18 + v) = 0 ∧ X0 v = 1 ∧ X0 (6 + v) = 0 := fun v hv => ⟨by unfold X0; rw [if_neg (by omega)], by unfold X0; rw [if_neg (by omega)], by unfold X0; rw [if_pos hv], by unfold X0; rw [if_neg (by omega)]⟩
  refine ⟨fun v hv => Or.inl ⟨h1 v hv, h2 v hv, h3 v hv, (e v hv).2.2.1, (e v hv).2.2.2⟩, fun v hv => by rw [(e v hv).1, (e v hv).2.1], fun v w hv hw => ?_, fun v t hv ht => by rw [(e v hv).2.1]; exact b_0 t, fun v w hv _ q => absurd (h1 v hv) q⟩
  rw [(e v hv).2.1, b_0]
  exact ⟨fun q => absurd q (by decide), fun q => absurd (h1 v hv) q.2.1⟩
theorem m_empty (hfu : 6 < fu) : WP (MX9_empty fu 0 (mkM J K)) (fun h => ∃ J', h = mkM J' K ∧ (∀ b, b < 19 ∨ 21 < b → J' b = J b) ∧ ∀ v, v < 6 → J' 19 v = -1 ∧ J' 20 v = 0 ∧ J' 21 v = 0) := by
  simp only [MX9_empty, m_g]
  refine wh2_wp (fun r v h => ∃ w J', w + r = 6 ∧ v = nI w ∧ h = mkM J' K ∧ (∀ b, b < 19 ∨ 21 < b → J' b = J b) ∧ ∀ v, v < w → J' 19 v = -1 ∧ J' 20 v = 0 ∧ J' 21 v = 0) ?_ fu 6 _ _ (by omega) ⟨0, J, by omega, rfl, rfl, fun _ _ => rfl, fun v h => by omega⟩
  rintro r v h self ⟨w, J', hw, rfl, rfl, f, g⟩ ih
  simp only [MX9_empty_B2]
  by_cases hr : r = 0
  · subst hr
    rw [show (6 : Int32) = nI 6 from rfl, if_pos (nI_le (by omega) (by omega))]
    have : w = 6 := by omega
    subst this
    exact WP_some ⟨J', rfl, f, g⟩
  · rw [show (6 : Int32) = nI 6 from rfl, if_neg (nI_ge (by omega) (by omega)), m_lets (by omega), Option.bind_some]
    refine ih (r - 1) _ _ (by omega) ⟨w + 1, _, by omega, nI_1 w, rfl, fun b hb => by rw [lt3_o hb, f b hb], fun v hv => ?_⟩
    rw [lt3_19, lt3_20, lt3_21]
    by_cases c : v = w
    · rw [c, up_at, up_at, up_at]; exact ⟨rfl, rfl, rfl⟩
    · rw [up_ne c, up_ne c, up_ne c]; exact g v (by omega)
/-- what a run of the reference leaves -/
def RMo (J J' : Nat → Nat → Int32) (a : Int32) : Prop := (∀ b, b ≠ 0 → b ≠ 9 → b < 19 ∨ 22 < b → J' b = J b) ∧ (∀ k, k < 45 → J' 0 k = J 0 k) ∧ RG (J 2) 300 0 a X0 ∧ J' 0 46 = nI (RN (J 2) 300 0 0 0 a X0).1 ∧ J' 0 47 = (RN (J 2) 300 0 0 0 a X0).2.1 ∧ J' 0 48 = nI (RN (J 2) 300 0 0 0 a X0).2.2.1 ∧ J' 0 49 = nI (RN (J 2) 300 0 0 0 a X0).2.2.2
theorem m_runsBy {a : Int32} (hA : WFA (J 2) D) (hfu : 400 < fu) : WP (MX9_runsBy fu 0 a (mkM J K)) (fun h => ∃ J', h = mkM J' K ∧ RMo J J' a) := by
  have h40 := hA.1.1.2.2.2
  simp only [MX9_runsBy, m_g, jn]
  obtain ⟨_, e1, g, rfl, h1⟩ := m_allIn (J := J) (K := K) (fu := fu) (by omega)
  obtain ⟨_, e2, J1, rfl, f1, em⟩ := m_empty (J := ur J 9 g) (K := K) (fu := fu) (by omega)
  rw [e1, Option.bind_some, e2, Option.bind_some, m_pI, Option.bind_some, m_pI, Option.bind_some, m_pI, Option.bind_some, m_pI, Option.bind_some]
  simp only [ur_ur, ur_at]
  generalize hJ2 : ur J1 0 (up (up (up (up (J1 0) 45 a) 46 0) 47 0) 49 0) = J2
  have o2 : ∀ b, b ≠ 0 → J2 b = J1 b := fun b hb => by rw [← hJ2, ur_ne hb]
  have z2 : J2 0 = up (up (up (up (J1 0) 45 a) 46 0) 47 0) 49 0 := by rw [← hJ2, ur_at]
  clear hJ2
  have q2 : J2 2 = J 2 := by rw [o2 2 (by decide), f1 2 (by omega), ur_ne (by decide)]
  have q9 : ∀ j, j < 40 → J2 9 j = 0 := fun j hj => by rw [o2 9 (by decide), f1 9 (by omega), ur_at, h1 j hj]
  have oo : ∀ J3 : Nat → Nat → Int32, J3 9 = J2 9 → ∀ j, j < nT (J 2) → ot J3 j = no j := by
    intro J3 e j hj
    unfold ot no
    rw [e, q9 j (by omega)]
    rfl
  rw [m_first (by rw [q2]; exact hA.1.1) (by omega), Option.bind_some, q2, fst0_congr (oo J2 rfl), fst_no hA.1.1 hA.2.2, m_pI, Option.bind_some]
  refine wh1_wp (fun m h => ∃ J3, h = mkM J3 K ∧ (∀ b, b ≠ 0 → b ≠ 9 → b < 19 ∨ 22 < b → J3 b = J b) ∧ J3 9 = J2 9 ∧ (∀ k, k < 45 → J3 0 k = J 0 k) ∧
      ((m = 0 ∧ J3 0 47 ≠ 0 ∧ RMo J J3 a) ∨ ∃ r n i md X, m = r + 1 ∧ n + r = 300 ∧ i ≤ nT (J 2) ∧ md ≤ n ∧ J3 0 46 = nI n ∧ J3 0 47 = 0 ∧ J3 0 48 = nI i ∧ J3 0 49 = nI md ∧ CF (J 2) (J3 19) (J3 20) (J3 21) X ∧ TBn (J3 19) md ∧ (RG (J 2) r i (J3 0 45) X → RG (J 2) 300 0 a X0) ∧ RN (J 2) r n i md (J3 0 45) X = RN (J 2) 300 0 0 0 a X0)) ?_ fu 301 _ (by omega) ?_
  · rintro m h self ⟨J3, rfl, o3, n3, k3, inv⟩ ih
    have e23 : J3 2 = J 2 := o3 2 (by decide) (by decide) (by decide)
    simp only [MX9_runsBy_B36, m_fI, m_statements, Option.bind_some, jn]
    rcases inv with ⟨rfl, i1, i2⟩ | ⟨r, n, i, md, X, rfl, hn, hi, hmd, i46, i47, i48, i49, cf, tb, rg, rn⟩
    · rw [if_neg i1, if_neg i1]
      exact WP_some ⟨J3, rfl, i2⟩
    · have gx := CF_GX hA cf
      rw [i47, if_pos rfl, i48, e23, hA.1.1.2.2.1]
      by_cases ci : i = nT (J 2)
      · subst ci
        rw [if_pos rfl, if_pos rfl]
        obtain ⟨l, el, -⟩ := m_finishes (J := J3) (K := K) (fu := fu) (D := D) (X := X) (by rw [e23]; exact hA) (by rw [e23]; exact cf) (by omega)
        rw [e23] at el
        rw [el, Option.bind_some, m_pI, Option.bind_some]
        rw [RN_end] at rn
        refine WP_some ⟨_, rfl, fun b b0 b9 hb => by rw [ur_ne b0, ur_ne (by omega), o3 b b0 b9 hb], fun k hk => by rw [ur_at, up_ne (by omega), ur_ne (by decide), k3 k hk], rg ?_, ?_⟩
        · cases r with
          | zero => exact gx
          | succ r => exact ⟨gx, fun z => by omega⟩
        · rw [← rn]
          refine ⟨by rw [ur_at, up_ne (by decide), ur_ne (by decide), i46], by rw [ur_at, up_at], by rw [ur_at, up_ne (by decide), ur_ne (by decide), i48], by rw [ur_at, up_ne (by decide), ur_ne (by decide), i49]⟩
      · rw [if_neg (fun z => ci (nI_inj (by omega) (by omega) z)), i46]
        have li : i < nT (J 2) := by omega
        by_cases c3 : n = 300
        · have r0 : r = 0 := by omega
          subst r0
          rw [if_pos (show nI n = 300 by rw [c3]; rfl), m_pI, Option.bind_some]
          rw [RN_300 ci] at rn
          refine ih 0 _ (by omega) ⟨_, rfl, fun b b0 b9 hb => by rw [ur_ne b0, o3 b b0 b9 hb], by rw [ur_ne (by decide), n3], fun k hk => by rw [ur_at, up_ne (by omega), k3 k hk], Or.inl ⟨rfl, by rw [ur_at, up_at]; decide, fun b b0 b9 hb => by rw [ur_ne b0, o3 b b0 b9 hb], fun k hk => by rw [ur_at, up_ne (by omega), k3 k hk], rg gx, ?_⟩⟩
          rw [← rn]
          refine ⟨by rw [ur_at, up_ne (by decide), i46], by rw [ur_at, up_at], by rw [ur_at, up_ne (by decide), i48], by rw [ur_at, up_ne (by decide), i49]⟩
        · obtain ⟨r, rfl⟩ : ∃ r', r = r' + 1 := ⟨r - 1, by omega⟩
          rw [if_neg (show ¬ nI n = 300 from fun z => c3 (nI_inj (b := 300) (by omega) (by omega) z))]
          obtain ⟨w, J4, e4, w1, f4, k4, s4, bad, good⟩ := m_stands (J := J3) (K := K) (fu := fu) (D := D) (i := i) (n := n) (md := md) (X := X) (by rw [e23]; exact hA) (by rw [e23]; exact oo J3 n3) (by rw [e23]; exact li) i48 i46 i49 (by omega) (by rw [e23]; exact cf) tb (by omega)
          rw [e23] at w1 good
          rw [e4, Option.bind_some, m_pI, Option.bind_some]
          have F : ∀ b, b ≠ 0 → b ≠ 9 → b < 19 ∨ 22 < b → ur J4 0 (up (J4 0) 47 w) b = J b := fun b b0 b9 hb => by rw [ur_ne b0, f4 b b0 hb, o3 b b0 b9 hb]
          have G : ∀ k, k < 45 → ur J4 0 (up (J4 0) 47 w) 0 k = J 0 k := fun k hk => by rw [ur_at, up_ne (by omega), k4 k (by omega), k3 k hk]
          have N : ur J4 0 (up (J4 0) 47 w) 9 = J2 9 := by rw [ur_ne (by decide), f4 9 (by decide) (by decide), n3]
          by_cases cw : w = 0
          · obtain ⟨g1, g2, md', g3, g4, g5, Y, y1, y2⟩ := good cw
            obtain ⟨t, t1, t2⟩ := dp_pl (d := J3 0 45) hA li
            have et : nN (dp (J 2) i (J3 0 45)) = t := by rw [t2, nN_nI (by omega)]
            rw [RN_on ci (by rw [← w1]; exact cw) y1] at rn
            rw [← g4, et] at rn
            refine ih (r + 1) _ (by omega) ⟨_, rfl, F, N, G, Or.inr ⟨r, n + 1, t, md', Y, rfl, by omega, t1, by rw [g4]; split <;> omega, by rw [ur_at, up_ne (by decide), s4], by rw [ur_at, up_at, cw], by rw [ur_at, up_ne (by decide), g2, t2], by rw [ur_at, up_ne (by decide), g3], by rw [ur_ne (by decide), ur_ne (by decide), ur_ne (by decide)]; exact y2, by rw [ur_ne (by decide)]; exact g5, ?_, ?_⟩⟩
            · rw [ur_at, up_ne (by decide), g1]
              intro z
              refine rg ⟨gx, fun _ _ => ⟨Y, y1, ?_⟩⟩
              rw [et]
              exact z
            · rw [ur_at, up_ne (by decide), g1]
              exact rn
          · obtain ⟨b1, b2⟩ := bad cw
            rw [RN_bad ci (by rw [← w1]; exact cw)] at rn
            refine ih 0 _ (by omega) ⟨_, rfl, F, N, G, Or.inl ⟨rfl, by rw [ur_at, up_at]; exact cw, F, G, rg ⟨gx, fun _ z => absurd (w1.trans z) cw⟩, ?_⟩⟩
            rw [← rn]
            refine ⟨by rw [ur_at, up_ne (by decide), s4], by rw [ur_at, up_at, w1], by rw [ur_at, up_ne (by decide), b1], by rw [ur_at, up_ne (by decide), b2]⟩
  · refine ⟨_, rfl, fun b b0 b9 hb => by rw [ur_ne b0, o2 b b0, f1 b (by omega), ur_ne b9], ur_ne (by decide), fun k hk => by rw [ur_at, up_ne (by omega), z2, up_ne (by omega), up_ne (by omega), up_ne (by omega), up_ne (by omega), f1 0 (by omega), ur_ne (by decide)], Or.inr ⟨300, 0, 0, 0, X0, rfl, rfl, by omega, by omega, ?_, ?_, ?_, ?_, ?_, ?_, ?_, ?_⟩⟩
    · rw [ur_at, up_ne (by decide), z2, up_ne (by decide), up_ne (by decide), up_at]; rfl
    · rw [ur_at, up_ne (by decide), z2, up_ne (by decide), up_at]
    · rw [ur_at, up_at]
    · rw [ur_at, up_ne (by decide), z2, up_at]; rfl
    · rw [ur_ne (by decide), ur_ne (by decide), ur_ne (by decide), o2 19 (by decide), o2 20 (by decide), o2 21 (by decide)]
      exact CF_X0 (fun v hv => (em v hv).1) (fun v hv => (em v hv).2.1) (fun v hv => (em v hv).2.2)
    · rw [ur_ne (by decide), o2 19 (by decide)]
      exact fun v hv => Or.inl (em v hv).1
    · rw [ur_at, up_ne (by decide), z2, up_ne (by decide), up_ne (by decide), up_ne (by decide), up_at]
      exact id
    · rw [ur_at, up_ne (by decide), z2, up_ne (by decide), up_ne (by decide), up_ne (by decide), up_at]
end Runs
