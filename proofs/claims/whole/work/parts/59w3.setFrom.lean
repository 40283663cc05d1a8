section SetFrom
variable {sw : Bool} {I : Nat → Nat → Int32} {L : Nat → Nat → Int64} {fu v w p x : Nat} {D : Nat → Nat} {X P : Nat → Int32}
/-- the row g says what X says of the variables below v, and of v with those below w -/
def sfI (X g : Nat → Int32) (v w : Nat) (z : Bool) : Prop := (∀ u, u < 6 → g u = (if u < v ∨ (u = v ∧ z = true) then X u else 1) ∧ g (6 + u) = (if u < v ∨ (u = v ∧ z = true) then X (6 + u) else 0) ∧ g (12 + u) = g (18 + u)) ∧
  ∀ u t, u < 6 → (bt (g (18 + u)) t = true ↔ t < 6 ∧ t ≠ u ∧ fs X t = fs X u ∧ ((u < v ∧ t < v) ∨ (u = v ∧ t < w) ∨ (t = v ∧ u < w)))
theorem c_setFrom (hA : WFA P D) (hx : isH x) (g : GC P X) (hp : p ≤ 40) (hfu : 24 < fu) : WP (MX1_setFrom fu x (kC p X) (mkC sw I L)) (fun h => ∃ f, h = mkC sw (ur I (x + 1) f) L ∧ e24 f X) := by
  simp only [MX1_setFrom, c1_g hx]
  obtain ⟨_, eb, g0, rfl, hg0⟩ := c_begin (x := x) (sw := sw) (I := I) (L := L) hx hfu
  rw [eb, Option.bind_some]
  refine wh2_wp (fun r n h => ∃ v f, v + r = 6 ∧ n = nI v ∧ h = mkC sw (ur I (x + 1) f) L ∧ sfI X f v 0 false) ?_ fu 6 _ _ (by omega) ⟨0, g0, rfl, rfl, rfl, ?_⟩
  · rintro r n h self ⟨v, f, hv, rfl, rfl, s1, s2⟩ ih
    simp only [MX1_setFrom_B6, c1_r0 hx, Option.bind_some, ix_0, ix_c (show (6 : Int32) = nI 6 from rfl), jn]
    by_cases hr : r = 0
    · subst hr
      have v6 : v = 6 := by omega
      subst v6
      rw [show (6 : Int32) = nI 6 from rfl, if_pos (nI_le (by omega) (by omega))]
      refine WP_some ⟨f, rfl, ?_⟩
      have e3 : ∀ u, u < 6 → f (18 + u) = X (18 + u) := by
        intro u hu
        apply b_iff
        intro t _
        by_cases c : t < 6
        · rw [s2 u t hu, CF_18 g hu c]
          constructor
          · rintro ⟨-, a, b, -⟩; exact ⟨a, b⟩
          · rintro ⟨a, b⟩; exact ⟨c, a, b, Or.inl ⟨hu, c⟩⟩
        · rw [s2 u t hu, g.2.2.2.1 u t hu (by omega)]
          constructor
          · rintro ⟨a, -⟩; exact absurd a c
          · intro a; cases a
      refine e24_of (fun u hu => ?_) (fun u hu => ?_) (fun u hu => ?_) e3
      · rw [(s1 u hu).1, if_pos (Or.inl hu)]
      · rw [(s1 u hu).2.1, if_pos (Or.inl hu)]
      · rw [(s1 u hu).2.2, e3 u hu, g.2.1 u hu]
    · have v6 : v < 6 := by omega
      obtain ⟨⟨c1, c2, c3⟩, c4, c5⟩ := GC_cell hA g v6
      have sl := ss_lt (X := X) (v := v)
      have fl := fs_lt (X := X) (v := v)
      obtain ⟨k7, kh, ks⟩ := kp_7 _ c2 _ sl _ fl
      rw [show hw X v * 64 + ss X v * 8 + fs X v = cC X v from rfl] at k7 kh ks
      rw [show (6 : Int32) = nI 6 from rfl, if_neg (nI_ge (by omega) (by omega)), c_kpart hA g hp v6, Option.bind_some, c1_st hx (by omega), Option.bind_some, c1_r0 hx, Option.bind_some, c1_ld hx (by omega), Option.bind_some, show nI 6 = (6 : Int32) from rfl, kh, ← c1]
      simp only [ur_ur, ur_at]
      rw [up_at]
      have inner : ∀ f1 : Nat → Int32, sfI X f1 v 0 true → WP (wh2 (MX1_setFrom_B67 (nI v) (fun h12 => self (nI v + 1) h12) (kC p X) (nI (cC X v)) x) fu 0 (mkC sw (ur I (x + 1) f1) L)) (fun h => ∃ f, h = mkC sw (ur I (x + 1) f) L ∧ e24 f X) := by
        intro f1 h1
        refine wh2_wp (fun q n h => ∃ w f, w + q = v ∧ n = nI w ∧ h = mkC sw (ur I (x + 1) f) L ∧ sfI X f v w true) ?_ fu v _ _ (by omega) ⟨0, f1, by omega, rfl, rfl, h1⟩
        rintro q n h self2 ⟨w, f, hwq, rfl, rfl, s1, s2⟩ ih2
        simp only [MX1_setFrom_B67, jn]
        by_cases hq : q = 0
        · subst hq
          have wv : w = v := by omega
          subst wv
          rw [if_pos (nI_le (by omega) (by omega))]
          refine ih (r - 1) _ _ (by omega) ⟨w + 1, f, by omega, nI_1 w, rfl, fun u hu => ?_, fun u t hu => ?_⟩
          · obtain ⟨a, b, c⟩ := s1 u hu
            have e : (u < w ∨ (u = w ∧ true = true)) ↔ (u < w + 1 ∨ (u = w + 1 ∧ false = true)) := by simp; omega
            refine ⟨?_, ?_, c⟩
            · rw [a]; by_cases z : u < w ∨ (u = w ∧ true = true)
              · rw [if_pos z, if_pos (e.mp z)]
              · rw [if_neg z, if_neg (fun y => z (e.mpr y))]
            · rw [b]; by_cases z : u < w ∨ (u = w ∧ true = true)
              · rw [if_pos z, if_pos (e.mp z)]
              · rw [if_neg z, if_neg (fun y => z (e.mpr y))]
          · rw [s2 u t hu]
            constructor
            · rintro ⟨a, b, c, d⟩; exact ⟨a, b, c, by omega⟩
            · rintro ⟨a, b, c, d⟩; exact ⟨a, b, c, by omega⟩
        · have w6 : w < 6 := by omega
          have hwv : w < v := by omega
          obtain ⟨⟨-, d2, -⟩, -, -⟩ := GC_cell hA g w6
          obtain ⟨k7', -, -⟩ := kp_7 _ d2 _ (ss_lt (X := X) (v := w)) _ (fs_lt (X := X) (v := w))
          rw [show hw X w * 64 + ss X w * 8 + fs X w = cC X w from rfl] at k7'
          have fl' := fs_lt (X := X) (v := w)
          rw [if_neg (nI_ge (by omega) (by omega)), c_kpart hA g hp w6, Option.bind_some, k7, k7']
          by_cases ce : fs X w = fs X v
          · rw [if_pos (by rw [ce]), c_makeOne hx v6 w6 (by omega), Option.bind_some]
            simp only [ur_ur, ur_at]
            refine ih2 (q - 1) _ _ (by omega) ⟨w + 1, _, by omega, nI_1 w, rfl, fun u hu => ?_, fun u t hu => ?_⟩
            · obtain ⟨a, b, c⟩ := s1 u hu
              dsimp only
              refine ⟨?_, ?_, ?_⟩
              · rw [if_neg (by omega), if_neg (by omega), a]
              · rw [if_neg (by omega), if_neg (by omega), b]
              · by_cases z1 : u = v
                · rw [if_pos (by omega), if_pos (by omega), c]
                · rw [if_neg (show ¬ (12 + u = 12 + v ∨ 12 + u = 18 + v) by omega), if_neg (show ¬ (18 + u = 12 + v ∨ 18 + u = 18 + v) by omega)]
                  by_cases z2 : u = w
                  · rw [if_pos (by omega), if_pos (by omega), c]
                  · rw [if_neg (by omega), if_neg (by omega), c]
            · dsimp only
              by_cases z1 : u = v
              · subst z1
                rw [if_pos (by omega), b_set (by omega), Bool.or_eq_true_iff, s2 u t hu, decide_eq_true_eq]
                constructor
                · rintro (⟨a, b, c, d⟩ | rfl)
                  · exact ⟨a, b, c, by omega⟩
                  · exact ⟨w6, by omega, ce, by omega⟩
                · rintro ⟨a, b, c, d⟩
                  by_cases e : t = w
                  · exact Or.inr e
                  · exact Or.inl ⟨a, b, c, by omega⟩
              · rw [if_neg (by omega)]
                by_cases z2 : u = w
                · subst z2
                  rw [if_pos (by omega), b_set (by omega), Bool.or_eq_true_iff, s2 u t hu, decide_eq_true_eq]
                  constructor
                  · rintro (⟨a, b, c, d⟩ | rfl)
                    · exact ⟨a, b, c, by omega⟩
                    · exact ⟨v6, by omega, ce.symm, by omega⟩
                  · rintro ⟨a, b, c, d⟩
                    by_cases e : t = v
                    · exact Or.inr e
                    · exact Or.inl ⟨a, b, c, by omega⟩
                · rw [if_neg (by omega), s2 u t hu]
                  constructor
                  · rintro ⟨a, b, c, d⟩; exact ⟨a, b, c, by omega⟩
                  · rintro ⟨a, b, c, d⟩; exact ⟨a, b, c, by omega⟩
          · rw [if_neg (fun z => ce (nI_inj (by omega) (by omega) z))]
            refine ih2 (q - 1) _ _ (by omega) ⟨w + 1, f, by omega, nI_1 w, rfl, s1, fun u t hu => ?_⟩
            rw [s2 u t hu]
            constructor
            · rintro ⟨a, b, c, d⟩; exact ⟨a, b, c, by omega⟩
            · rintro ⟨a, b, c, d⟩
              refine ⟨a, b, c, ?_⟩
              by_cases e : t = w ∧ u = v
              · rw [e.1, e.2] at c; exact absurd c ce
              · by_cases e2 : u = w ∧ t = v
                · rw [e2.1, e2.2] at c; exact absurd c.symm ce
                · omega
      by_cases cx : X v = 1
      · rw [if_pos cx]
        refine inner _ ⟨fun u hu => ?_, fun u t hu => ?_⟩
        · obtain ⟨a, b, c⟩ := s1 u hu
          refine ⟨?_, ?_, by rw [up_ne (by omega), up_ne (by omega), c]⟩
          · by_cases e : u = v
            · rw [e, up_at, if_pos (Or.inr ⟨rfl, rfl⟩)]
            · rw [up_ne e, a]
              by_cases z : u < v
              · rw [if_pos (Or.inl z), if_pos (Or.inl z)]
              · rw [if_neg (by omega), if_neg (by omega)]
          · rw [up_ne (by omega), b]
            by_cases e : u = v
            · rw [e, if_neg (by simp), if_pos (Or.inr ⟨rfl, rfl⟩), c4, if_pos cx]
            · by_cases z : u < v
              · rw [if_pos (Or.inl z), if_pos (Or.inl z)]
              · rw [if_neg (by omega), if_neg (by omega)]
        · rw [up_ne (by omega)]
          exact s2 u t hu
      · rw [if_neg cx, c1_st hx (by omega), Option.bind_some]
        simp only [ur_ur, ur_at]
        rw [ks]
        refine inner _ ⟨fun u hu => ?_, fun u t hu => ?_⟩
        · obtain ⟨a, b, c⟩ := s1 u hu
          refine ⟨?_, ?_, by rw [up_ne (by omega), up_ne (by omega), up_ne (by omega), up_ne (by omega), c]⟩
          · by_cases e : u = v
            · rw [e, up_ne (by omega), up_at, if_pos (Or.inr ⟨rfl, rfl⟩)]
            · rw [up_ne (by omega), up_ne e, a]
              by_cases z : u < v
              · rw [if_pos (Or.inl z), if_pos (Or.inl z)]
              · rw [if_neg (by omega), if_neg (by omega)]
          · by_cases e : u = v
            · rw [e, up_at, if_pos (Or.inr ⟨rfl, rfl⟩), c4, if_neg cx]
            · rw [up_ne (by omega), up_ne (by omega), b]
              by_cases z : u < v
              · rw [if_pos (Or.inl z), if_pos (Or.inl z)]
              · rw [if_neg (by omega), if_neg (by omega)]
        · rw [up_ne (by omega), up_ne (by omega)]
          exact s2 u t hu
  · have e : ∀ j, j < 24 → g0 j = if j < 6 then 1 else 0 := hg0
    refine ⟨fun u hu => ⟨by rw [e u (by omega), if_pos hu, if_neg (by simp)], by rw [e (6 + u) (by omega), if_neg (by omega), if_neg (by simp)], by rw [e (12 + u) (by omega), e (18 + u) (by omega), if_neg (by omega), if_neg (by omega)]⟩, fun u t hu => ?_⟩
    rw [e (18 + u) (by omega), if_neg (by omega), b_0]
    constructor
    · intro z; cases z
    · rintro ⟨-, -, -, z⟩; omega
end SetFrom
