/-! ALIKE: the largest relation under which states agree in being ends, in what can be, and in what comes -/
def SE (P : Nat → Int32) (k : Nat) (R : Nat → Nat → Prop) (a b : Nat) : Prop := bt (pE P k) a = bt (pE P k) b ∧ ∀ m, m < nM P k → (pY P k m a = -1 ↔ pY P k m b = -1) ∧ (pY P k m a ≠ -1 → R (nN (pY P k m a)) (nN (pY P k m b)) ∧ R (nN (pN P k m a)) (nN (pN P k m b)))
def Al (P : Nat → Int32) (k a b : Nat) : Prop := ∃ R : Nat → Nat → Prop, (∀ a b, a < nS P k → b < nS P k → R a b → SE P k R a b) ∧ R a b
theorem SE_mono {P : Nat → Int32} {k a b : Nat} {R R' : Nat → Nat → Prop} (hW : WFK P) (hk : k < nK P) (ha : a < nS P k) (hb : b < nS P k) (h : ∀ a b, a < nS P k → b < nS P k → R a b → R' a b) (hs : SE P k R a b) : SE P k R' a b := by
  have h6 := (hW.2 k hk).1.2.2
  refine ⟨hs.1, fun m hm => ⟨(hs.2 m hm).1, fun hy => ?_⟩⟩
  have hy2 : pY P k m b ≠ -1 := fun e => hy ((hs.2 m hm).1.mpr e)
  obtain ⟨a1, a2, l1, l2, e1, e2, -⟩ := tr_of hW hk hm ha hy
  obtain ⟨b1, b2, l3, l4, e3, e4, -⟩ := tr_of hW hk hm hb hy2
  have := (hs.2 m hm).2 hy
  rw [e1, e2, e3, e4, nN_nI (by omega), nN_nI (by omega), nN_nI (by omega), nN_nI (by omega)] at *
  exact ⟨h _ _ l1 l3 this.1, h _ _ l2 l4 this.2⟩
theorem Al_SE {P : Nat → Int32} {k a b : Nat} (hW : WFK P) (hk : k < nK P) (ha : a < nS P k) (hb : b < nS P k) (h : Al P k a b) : SE P k (Al P k) a b := by
  obtain ⟨R, h1, h2⟩ := h
  exact SE_mono hW hk ha hb (fun a b _ _ h => ⟨R, h1, h⟩) (h1 a b ha hb h2)
section Alike
variable {sw : Bool} {I : Nat → Nat → Int32} {L : Nat → Nat → Int64} {J : Nat → Nat → Int32} {K : Nat → Nat → Int64} {p fu : Nat} {P : Nat → Int32}
theorem ite_eq {x y : Bool} : ((if x = true then (1 : Int32) else 0) = if y = true then 1 else 0) ↔ x = y := by cases x <;> cases y <;> simp
theorem c_unlike {k m a b : Nat} {z : Int32} {a1 b1 : Nat} (hp : isP p) (hR : CRk p I P) (hW : WFK P) (hk : k < nK P) (hm : m < nM P k) (ha : a < nS P k) (hb : b < nS P k) (l1 : a1 < nS P k) (l2 : b1 < nS P k)
    (e1 : (if z = 0 then pN P k m a else pY P k m a) = nI a1) (e2 : (if z = 0 then pN P k m b else pY P k m b) = nI b1) : MX2_comeUnlike (p + 1) (nI k) (nI m) (nI a) (nI b) z (mkC sw I L) = some (if bt (I (p + 10) a1) b1 then 0 else 1) := by
  have hq := isP_K hp
  have h6 := (hW.2 k hk).1.2.2
  simp only [MX2_comeUnlike, c2_g hq, c2_r9 hq, Option.bind_some, c_following hp hR hW hk hm ha, c_following hp hR hW hk hm hb, e1, e2]
  rw [c2_ld9 hq (by omega), Option.bind_some, show p + 1 + 9 = p + 10 from rfl, b_get (by omega)]
  cases bt (I (p + 10) a1) b1 <;> rfl
theorem c_differ {k a b : Nat} (hp : isP p) (hR : CRk p I P) (hW : WFK P) (hk : k < nK P) (ha : a < nS P k) (hb : b < nS P k) (hfu : 6 < fu) :
    WP (MX2_differ fu (p + 1) (nI k) (nI a) (nI b) (mkC sw I L)) (fun r => (r = 0 ∧ SE P k (fun s o => bt (I (p + 10) s) o = true) a b) ∨ (r = 1 ∧ ¬ SE P k (fun s o => bt (I (p + 10) s) o = true) a b)) := by
  have hq := isP_K hp
  have h4 := hW.1.1.2
  have hw := hW.2 k hk
  have h6 := hw.1.2.2
  have h7 := hw.2.2.1.2
  simp only [MX2_differ, c2_g hq, c2_r2 hq, Option.bind_some]
  rw [c2_ld2 hq (by omega), Option.bind_some, show p + 1 + 2 = p + 3 from rfl, (hR.2 k hk).2.1, b_get (by omega), b_get (by omega)]
  by_cases he : bt (pE P k) a = bt (pE P k) b
  · rw [if_pos (ite_eq.mpr he)]
    refine wh1_wp (fun r v => ∃ m, m + r = nM P k ∧ v = nI m ∧ ∀ m', m' < m → (pY P k m' a = -1 ↔ pY P k m' b = -1) ∧ (pY P k m' a ≠ -1 → bt (I (p + 10) (nN (pY P k m' a))) (nN (pY P k m' b)) = true ∧ bt (I (p + 10) (nN (pN P k m' a))) (nN (pN P k m' b)) = true)) ?_ fu (nM P k) _ (by omega) ⟨0, by omega, rfl, fun m h => by omega⟩
    rintro r v self ⟨m, hm, rfl, g⟩ ih
    simp only [MX2_differ_B28, c2_r3 hq, Option.bind_some, jn]
    rw [c2_ld3 hq (by omega), Option.bind_some, show p + 1 + 3 = p + 4 from rfl, (hR.2 k hk).2.2.1, hw.2.2.1.1]
    by_cases hr : r = 0
    · subst hr
      rw [if_pos (nI_le (by omega) (by omega))]
      exact WP_some (Or.inl ⟨rfl, he, fun m' hm' => g m' (by omega)⟩)
    · have hm2 : m < nM P k := by omega
      obtain ⟨-, r2, -⟩ := (hR.2 k hk).2.2.2 m hm2
      rw [if_neg (nI_ge (by omega) (by omega)), c_canBe hp (by omega) (by omega) (by omega), c_canBe hp (by omega) (by omega) (by omega), Option.bind_some, Option.bind_some, r2 a, r2 b]
      simp only [ha, hb, decide_true, Bool.true_and]
      by_cases hya : pY P k m a = -1
      · by_cases hyb : pY P k m b = -1
        · rw [if_pos (by simp [hya, hyb]), if_pos (by simp [hya])]
          refine ih (r - 1) _ (by omega) ⟨m + 1, by omega, nI_1 m, fun m' hm' => ?_⟩
          by_cases e : m' = m
          · subst e; exact ⟨⟨fun _ => hyb, fun _ => hya⟩, fun q => absurd hya q⟩
          · exact g m' (by omega)
        · rw [if_neg (by simp [hya, hyb])]
          exact WP_some (Or.inr ⟨rfl, fun q => hyb ((q.2 m hm2).1.mp hya)⟩)
      · by_cases hyb : pY P k m b = -1
        · rw [if_neg (by simp [hya, hyb])]
          exact WP_some (Or.inr ⟨rfl, fun q => hya ((q.2 m hm2).1.mpr hyb)⟩)
        · obtain ⟨a1, a2, l1, l2, e1, e2, -⟩ := tr_of hW hk hm2 ha hya
          obtain ⟨b1, b2, l3, l4, e3, e4, -⟩ := tr_of hW hk hm2 hb hyb
          rw [if_pos (by simp [hya, hyb]), if_neg (by simp [hya]), c_unlike hp hR hW hk hm2 ha hb l1 l3 (by rw [if_neg (by decide)]; exact e1) (by rw [if_neg (by decide)]; exact e3), c_unlike hp hR hW hk hm2 ha hb l2 l4 (by rw [if_pos rfl]; exact e2) (by rw [if_pos rfl]; exact e4), Option.bind_some]
          have key : ∀ m', m' = m → (pY P k m' a ≠ -1 → bt (I (p + 10) (nN (pY P k m' a))) (nN (pY P k m' b)) = true ∧ bt (I (p + 10) (nN (pN P k m' a))) (nN (pN P k m' b)) = true) → bt (I (p + 10) a1) b1 = true ∧ bt (I (p + 10) a2) b2 = true := by
            rintro _ rfl q
            have := q hya
            rw [e1, e2, e3, e4, nN_nI (by omega), nN_nI (by omega), nN_nI (by omega), nN_nI (by omega)] at this
            exact this
          cases x1 : bt (I (p + 10) a1) b1
          · rw [if_neg (by decide)]
            exact WP_some (Or.inr ⟨rfl, fun q => by have := (key m rfl (q.2 m hm2).2).1; rw [x1] at this; cases this⟩)
          · rw [if_pos (by decide), Option.bind_some]
            cases x2 : bt (I (p + 10) a2) b2
            · rw [if_neg (by decide)]
              exact WP_some (Or.inr ⟨rfl, fun q => by have := (key m rfl (q.2 m hm2).2).2; rw [x2] at this; cases this⟩)
            · rw [if_pos (by decide)]
              refine ih (r - 1) _ (by omega) ⟨m + 1, by omega, nI_1 m, fun m' hm' => ?_⟩
              by_cases e : m' = m
              · subst e
                refine ⟨⟨fun q => absurd q hya, fun q => absurd q hyb⟩, fun _ => ?_⟩
                rw [e1, e2, e3, e4, nN_nI (by omega), nN_nI (by omega), nN_nI (by omega), nN_nI (by omega)]
                exact ⟨x1, x2⟩
              · exact g m' (by omega)
  · rw [if_neg (fun q => he (ite_eq.mp q))]
    exact WP_some (Or.inr ⟨rfl, fun q => he q.1⟩)
end Alike
