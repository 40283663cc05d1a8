/-! THE REFERENCE'S SEARCH -/
def SMr (s : Sch) (J : Nat → Nat → Int32) (K : Nat → Nat → Int64) : Prop := J 0 42 = nI s.n ∧ J 0 44 = (if s.mo then 1 else 0) ∧ ∀ j, j < s.n → K 23 j = kR (s.pl j) (s.xs j) ∧ J 24 j = s.fr j
def SMx (P : Nat → Int32) (s : Sch) (c : Nat) (J : Nat → Nat → Int32) : Prop := J 0 43 = nI s.th ∧ (∀ k, k < 4 → J 22 k = s.lf k) ∧ ∀ j, j < c → J 25 j = rj P s j
theorem CF_cong {P T M S T' M' S' X : Nat → Int32} (h : CF P T M S X) (e : ∀ v, v < 6 → T' v = T v ∧ M' v = M v ∧ S' v = S v) : CF P T' M' S' X := by
  refine ⟨fun v hv => ?_, h.2.1, fun v w hv hw => ?_, h.2.2.2.1, fun v w hv hw q1 q2 => ?_⟩
  · rw [(e v hv).1, (e v hv).2.1, (e v hv).2.2]; exact h.1 v hv
  · rw [(e v hv).1, (e w hw).1]; exact h.2.2.1 v w hv hw
  · rw [(e v hv).1] at q1 q2; rw [(e w hw).1] at q2; rw [(e v hv).2.2, (e w hw).2.2]; exact h.2.2.2.2 v w hv hw q1 q2
theorem rsn_05 {P X : Nat → Int32} {i : Nat} : rsn P i X = 0 ∨ rsn P i X = 1 ∨ rsn P i X = 2 ∨ rsn P i X = 3 ∨ rsn P i X = 4 ∨ rsn P i X = 5 := by
  unfold rsn rsS
  repeat' split
  all_goals simp
theorem le0_rsn {x : Int32} (h : x = 0 ∨ x = 1 ∨ x = 2 ∨ x = 3 ∨ x = 4 ∨ x = 5) : x ≤ 0 ↔ x = 0 := by rcases h with rfl | rfl | rfl | rfl | rfl | rfl <;> decide
section RefS
variable {J J' : Nat → Nat → Int32} {K K' : Nat → Nat → Int64} {fu v w p t i c x : Nat} {D : Nat → Nat} {X Y P l : Nat → Int32} {s s' : Sch} {y z : Int32}
theorem thq_T {T M S : Nat → Int32} (h : CF P T M S X) (hv : v < 6) : thq X v = true ↔ T v ≠ -1 ∧ ∀ o, o < v → T o ≠ T v := by
  unfold thq
  rw [Bool.and_eq_true, decide_eq_true_eq, decide_eq_true_eq]
  have e := not_congr (CF_none h hv)
  constructor
  · rintro ⟨a, b⟩
    have t := e.mp a
    refine ⟨t, fun o ho => ?_⟩
    have := (CF_fs2 h hv t).2 o (by omega)
    exact this
  · rintro ⟨t, b⟩
    refine ⟨e.mpr t, ?_⟩
    obtain ⟨f1, f2⟩ := CF_fs2 h hv t
    rcases Nat.lt_trichotomy (fs X v) v with q | q | q
    · exact absurd f1 (b _ q)
    · exact q
    · exact absurd rfl (f2 v q)
theorem m_things (h : CF P (J 19) (J 20) (J 21) X) (hfu : 6 < fu) : MX9_things fu 0 (mkM J K) = some (nI (thg X)) := by
  simp only [MX9_things, m_g]
  refine wh2_rule (fun r a n => ∃ v, v + r = 6 ∧ n = nI v ∧ a = nI (cnt v (thq X))) ?_ fu 6 _ _ (by omega) ⟨0, rfl, rfl, rfl⟩
  rintro r a n self ⟨v, hv, rfl, rfl⟩ ih
  simp only [MX9_things_B4, m_r35, Option.bind_some, jn]
  rw [show (6 : Int32) = nI 6 from rfl]
  by_cases hr : r = 0
  · subst hr
    rw [if_pos (nI_le (by omega) (by omega)), show v = 6 by omega]
    rfl
  · have v6 : v < 6 := by omega
    have cs : cnt (v + 1) (thq X) = cnt v (thq X) + if thq X v then 1 else 0 := rfl
    rw [if_neg (nI_ge (by omega) (by omega)), m_ld19 v6, Option.bind_some]
    have inner : ∀ a : Int32, (a = 0 ∨ a = 1) → (a = 1 ↔ J 19 v ≠ -1) → wh2 (MX9_things_B29 (nI v) (fun v8 => if v8 = 0 then self (nI (cnt v (thq X)) + 0) (nI v + 1) else self (nI (cnt v (thq X)) + 1) (nI v + 1)) (mkM J K) 19 (J 19 v)) fu a 0 = some (nI (thg X)) := by
      intro a a01 ha
      refine wh2_rule (fun r' b m => ∃ o, o + r' = v ∧ m = nI o ∧ (b = 0 ∨ b = 1) ∧ (b = 1 ↔ J 19 v ≠ -1 ∧ ∀ u, u < o → J 19 u ≠ J 19 v)) ?_ fu v _ _ (by omega) ⟨0, by omega, rfl, a01, by rw [ha]; exact ⟨fun q => ⟨q, fun u hu => by omega⟩, fun q => q.1⟩⟩
      rintro r' b m self' ⟨o, ho, rfl, b01, hb⟩ ih'
      simp only [MX9_things_B29, jn]
      by_cases hr' : r' = 0
      · subst hr'
        rw [if_pos (nI_le (by omega) (by omega))]
        have eo : o = v := by omega
        subst eo
        rw [← thq_T h v6] at hb
        rcases b01 with rfl | rfl
        · rw [if_pos rfl]
          have : thq X o = false := by
            cases e : thq X o
            · rfl
            · exact absurd (hb.mpr e) (by decide)
          refine ih (r - 1) _ _ (by omega) ⟨o + 1, by omega, nI_1 o, ?_⟩
          rw [cs, this]
          exact Int32.add_zero _
        · rw [if_neg (by decide)]
          refine ih (r - 1) _ _ (by omega) ⟨o + 1, by omega, nI_1 o, ?_⟩
          rw [cs, hb.mp rfl, nI_1]
          rfl
      · rw [if_neg (nI_ge (by omega) (by omega)), m_ld19 (by omega), Option.bind_some]
        have no1 : ¬ (J 19 v ≠ -1 ∧ ∀ u, u < o + 1 → J 19 u ≠ J 19 v) → self' 0 (nI o + 1) = some (nI (thg X)) := fun q => ih' (r' - 1) _ _ (by omega) ⟨o + 1, by omega, nI_1 o, Or.inl rfl, ⟨fun z => absurd z (by decide), fun z => absurd z q⟩⟩
        rcases b01 with rfl | rfl
        · rw [if_pos rfl]
          exact no1 (fun q => absurd (hb.mpr ⟨q.1, fun u hu => q.2 u (by omega)⟩) (by decide))
        · rw [if_neg (by decide)]
          by_cases ce : J 19 o = J 19 v
          · rw [if_pos ce]
            exact no1 (fun q => q.2 o (by omega) ce)
          · rw [if_neg ce]
            refine ih' (r' - 1) _ _ (by omega) ⟨o + 1, by omega, nI_1 o, Or.inr rfl, ⟨fun _ => ⟨(hb.mp rfl).1, fun u hu => ?_⟩, fun _ => rfl⟩⟩
            by_cases eu : u = o
            · rw [eu]; exact ce
            · exact (hb.mp rfl).2 u (by omega)
    by_cases ct : J 19 v = -1
    · rw [if_pos ct]
      exact inner 0 (Or.inl rfl) ⟨fun q => absurd q (by decide), fun q => absurd ct q⟩
    · rw [if_neg ct]
      exact inner 1 (Or.inr rfl) ⟨fun _ => ct, fun _ => rfl⟩
/-- what adding changes -/
def frA (J J' : Nat → Nat → Int32) : Prop := (∀ b, b ≠ 0 → b ≠ 24 → J' b = J b) ∧ ∀ k, k ≠ 42 → k ≠ 44 → J' 0 k = J 0 k
theorem GS_hasR (hA : WFA P D) (h : SMr s J K) (g : GS P s) (ht : t ≤ nT P) (gy : GC P Y) : (∃ j, j < s.n ∧ K 23 j = kR t Y) ↔ hasS s t Y := by
  have h40 := hA.1.1.2.2.2
  constructor
  · rintro ⟨j, hj, e⟩
    obtain ⟨g1, g2, -⟩ := g.2.2 j hj
    rw [(h.2.2 j hj).1] at e
    obtain ⟨e1, e2⟩ := (kR_inj hA (by omega) (by omega) g2 gy).mp e
    exact ⟨j, hj, e1, e2⟩
  · rintro ⟨j, hj, e1, e2⟩
    obtain ⟨g1, g2, -⟩ := g.2.2 j hj
    refine ⟨j, hj, ?_⟩
    rw [(h.2.2 j hj).1]
    exact (kR_inj hA (by omega) (by omega) g2 gy).mpr ⟨e1, e2⟩
theorem m_adds (eP : J 2 = P) (hA : WFA P D) (h : SMr s J K) (g : GS P s) (ht : t ≤ nT P) (cf : CF P (J 19) (J 20) (J 21) Y) (hfu : 1001 < fu) : ∃ J' K', MX9_adds fu 0 (nI t) y (mkM J K) = some (mkM J' K') ∧ SMr (addS s t Y y) J' K' ∧ frA J J' := by
  have h40 := hA.1.1.2.2.2
  have n1 := g.1
  have gy : GC P Y := (CF_GC hA cf).1
  simp only [MX9_adds, m_g]
  rw [m_codeOf (X := Y) (by rw [eP]; exact hA) (by rw [eP]; exact cf) (by omega) (by omega), Option.bind_some]
  simp only [jn, m_fI, m_r39, Option.bind_some]
  rw [h.1]
  by_cases ex : ∃ j, j < s.n ∧ K 23 j = kR t Y
  · refine ⟨J, K, ?_, by rw [add_has ((GS_hasR hA h g ht gy).mp ex)]; exact h, fun _ _ _ => rfl, fun _ _ _ => rfl⟩
    obtain ⟨j, hj, ej⟩ := ex
    refine wh1_rule (fun r n => ∃ i, i + r = s.n ∧ n = nI i ∧ i ≤ j) ?_ fu s.n _ (by omega) ⟨0, by omega, rfl, Nat.zero_le _⟩
    rintro r n self ⟨i, hi, rfl, ij⟩ ih
    simp only [MX9_adds_B9, m_fI, m_r39, Option.bind_some]
    rw [h.1, if_neg (nI_ge (by omega) (by omega)), m_ld23 (by omega), Option.bind_some]
    by_cases ce : K 23 i = kR t Y
    · rw [if_pos (cmp_0.mpr ce)]
    · rw [if_neg (fun q => ce (cmp_0.mp q))]
      refine ih (r - 1) _ (by omega) ⟨i + 1, by omega, nI_1 i, ?_⟩
      rcases Nat.lt_or_ge i j with q | q
      · omega
      · exact absurd (by rw [show i = j by omega]; exact ej) ce
  · have nh : ¬ hasS s t Y := fun q => ex ((GS_hasR hA h g ht gy).mpr q)
    have loop : ∀ R : Option Hp, wh1 (MX9_adds_B9 (mkM J K) 0 R (kR t Y)) fu 0 = R := by
      intro R
      refine wh1_rule (fun r n => ∃ i, i + r = s.n ∧ n = nI i) ?_ fu s.n _ (by omega) ⟨0, by omega, rfl⟩
      rintro r n self ⟨i, hi, rfl⟩ ih
      simp only [MX9_adds_B9, m_fI, m_r39, Option.bind_some]
      rw [h.1]
      by_cases hr : r = 0
      · rw [if_pos (nI_le (by omega) (by omega))]
      · rw [if_neg (nI_ge (by omega) (by omega)), m_ld23 (by omega), Option.bind_some, if_neg (fun q => ex ⟨i, by omega, cmp_0.mp q⟩)]
        exact ih (r - 1) _ (by omega) ⟨i + 1, by omega, nI_1 i⟩
    rw [loop]
    by_cases cn : s.n = 1000
    · rw [if_pos (show nI s.n = 1000 by rw [cn]; rfl), m_pZ (Or.inr rfl), Option.bind_some]
      refine ⟨_, K, rfl, ?_, fun b b0 _ => ur_ne b0, fun k _ k4 => by rw [ur_at, up_ne k4]⟩
      rw [add_new nh, if_pos cn]
      refine ⟨?_, ?_, fun j hj => ?_⟩
      · rw [ur_at, up_ne (by decide)]; exact h.1
      · rw [ur_at, up_at]; rfl
      · rw [ur_ne (by decide)]; exact h.2.2 j hj
    · rw [if_neg (show ¬ nI s.n = 1000 from fun q => cn (nI_inj (by omega) (by decide) q)), m_st23 (by omega), Option.bind_some, m_r40, Option.bind_some, m_fI, Option.bind_some, h.1, m_st24 (by omega), Option.bind_some, m_fI, Option.bind_some, m_pI, Option.bind_some]
      refine ⟨_, _, rfl, ?_, fun b b0 b4 => by rw [ur_ne b0, ur_ne b4], fun k k2 _ => by rw [ur_at, up_ne k2, ur_ne (by decide)]⟩
      rw [add_new nh, if_neg cn]
      refine ⟨?_, ?_, fun j hj => ?_⟩
      · rw [ur_at, up_at, ur_ne (by decide), h.1, nI_1]; rfl
      · rw [ur_at, up_ne (by decide), ur_ne (by decide)]; exact h.2.1
      · rw [ur_at, ur_ne (by decide), ur_at]
        show up (K 23) s.n (kR t Y) j = kR (up s.pl s.n t j) (up s.xs s.n Y j) ∧ up (J 24) s.n y j = up s.fr s.n y j
        by_cases e : j = s.n
        · rw [e, up_at, up_at, up_at, up_at, up_at]; exact ⟨rfl, rfl⟩
        · rw [up_ne e, up_ne e, up_ne e, up_ne e, up_ne e]; exact h.2.2 j (by have : j < s.n + 1 := hj; omega)
end RefS
