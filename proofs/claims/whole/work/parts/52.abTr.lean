section AbTr
variable {X Y : Nat → Int32} {a b v : Nat} {z : Bool} {P : Nat → Int32} {D : Nat → Nat}
theorem low4 : ∀ c : Int32, c = 1 ∨ c = 2 ∨ c = 4 ∨ c = 8 ∨ c = 7 ∨ c = 0 → ∀ t, 4 ≤ t → bt c t = false := by
  intro c hc t ht
  by_cases h : t < 32
  · have : ∀ t, t < 32 → 4 ≤ t → bt 1 t = false ∧ bt 2 t = false ∧ bt 4 t = false ∧ bt 8 t = false ∧ bt 7 t = false ∧ bt 0 t = false := by decide +kernel
    have := this t h ht
    rcases hc with rfl | rfl | rfl | rfl | rfl | rfl
    · exact this.1
    · exact this.2.1
    · exact this.2.2.1
    · exact this.2.2.2.1
    · exact this.2.2.2.2.1
    · exact this.2.2.2.2.2
  · exact b_big (by omega)
theorem GR_ask {m u : Nat → Nat → Bool} {s s' : Nat → Int32} {g : Int32 → Int32} (h : GR m u s) (hv : v < 6) (hg : ∀ x t, 6 ≤ t → bt (g x) t = false) (hs : ∀ x, x < 6 → s' x = if x = v then g (s v) else if u v x then g (s v) else if m v x then s x ||| g (s x) else s x) : GR m u s' := by
  obtain ⟨h1, h2, h3, h4⟩ := h
  refine ⟨fun x t hx ht => ⟨(h1 x t hx ht).1, (h1 x t hx ht).2.1, ?_⟩, fun x y hx hy q => ⟨(h2 x y hx hy q).1, (h2 x y hx hy q).2.1, ?_⟩, h3, h4⟩
  · rw [hs x hx]
    have e1 := (h1 x t hx ht).2.2
    by_cases c1 : x = v
    · rw [if_pos c1]; exact hg _ t ht
    · rw [if_neg c1]
      by_cases c2 : u v x = true
      · rw [if_pos c2]; exact hg _ t ht
      · rw [if_neg c2]
        by_cases c3 : m v x = true
        · rw [if_pos c3, b_or, e1, hg _ t ht]; rfl
        · rw [if_neg c3]; exact e1
  · have e := (h2 x y hx hy q).2.2
    have q' := (h2 x y hx hy q).2.1
    rw [hs x hx, hs y hy]
    by_cases c1 : x = v
    · subst c1
      rw [if_pos rfl]
      by_cases c2 : y = x
      · rw [if_pos c2]
      · rw [if_neg c2, if_pos q]
    · by_cases c2 : y = v
      · subst c2
        rw [if_neg c1, if_pos q', if_pos rfl]
      · rw [if_neg c1, if_neg c2]
        have t1 := h4 v x y hv hx hy (Ne.symm c2) q
        have t2 := h4 v y x hv hy hx (Ne.symm c1) q'
        by_cases c3 : u v x = true
        · rw [if_pos c3, if_pos (t1.1 c3)]
        · rw [if_neg c3, if_neg (fun w => c3 (t2.1 w))]
          by_cases c4 : m v x = true
          · rw [if_pos c4, if_pos (t1.2 c4), e]
          · rw [if_neg c4, if_neg (fun w => c4 (t2.2 w)), e]
theorem mov_m {u t : Nat} (ha : a < 6) (hb : b < 6) (ne : a ≠ b) (hu : u < 6) : bt (emp (up (joi X a b false) a (X b)) b (12 + u)) t = ((if u = a then (bt (X (12 + b)) t && !decide (t = a)) else ((bt (X (12 + u)) t && !decide (t = a)) || (decide (t = a) && bt (X (12 + b)) u))) && !decide (t = b) && !decide (u = b)) := by
  rw [emp_m hb hu, up_ne (by omega), joi_m ha hb hu ne]
  simp
theorem mov_u {u t : Nat} (ha : a < 6) (hb : b < 6) (ne : a ≠ b) (hu : u < 6) : bt (emp (up (joi X a b false) a (X b)) b (18 + u)) t = ((if u = a then (bt (X (18 + b)) t && !decide (t = a)) else ((bt (X (18 + u)) t && !decide (t = a)) || (decide (t = a) && bt (X (18 + b)) u))) && !decide (t = b) && !decide (u = b)) := by
  rw [emp_u hb hu, up_ne (by omega), joi_u ha hb hu ne]
  simp
theorem GX_goS' {so : Nat} (hh : ∀ v t, v < 6 → 4 ≤ t → bt (X v) t = false) (hg : GR (fun x t => bt (X (12 + x)) t) (fun x t => bt (X (18 + x)) t) (fun x => X (6 + x))) (ha : a < 6) (hb : 1 ≤ so → so ≤ 4 → b < 6 ∧ b ≠ a) : (∀ v t, v < 6 → 4 ≤ t → bt (goS so a b X v) t = false) ∧ GR (fun x t => bt (goS so a b X (12 + x)) t) (fun x t => bt (goS so a b X (18 + x)) t) (fun x => goS so a b X (6 + x)) := by
  unfold goS
  by_cases e0 : so = 0
  · rw [if_pos e0]
    refine ⟨fun v t hv ht => ?_, GR_emp (v := a) (c := 1) hg (fun t ht => low4 1 (by simp) t (by omega)) (fun x t hx => ?_) (fun x t hx => ?_) (fun x hx => ?_)⟩
    · rw [up_ne (by omega)]
      by_cases c : v = a
      · rw [c, up_at]; exact low4 8 (by simp) t ht
      · rw [up_ne c, emp_h hv, if_neg c]; exact hh v t hv ht
    · rw [up_ne (by omega), up_ne (by omega)]; exact emp_m ha hx
    · rw [up_ne (by omega), up_ne (by omega)]; exact emp_u ha hx
    · by_cases c : x = a
      · rw [c, up_at, if_pos rfl]
      · rw [up_ne (by omega), up_ne (by omega), if_neg c, emp_s hx ha, if_neg c]
  rw [if_neg e0]
  by_cases e1 : so = 1
  · obtain ⟨hb6, ne⟩ := hb (by omega) (by omega)
    rw [if_pos e1]
    refine ⟨fun v t hv ht => ?_, GR_mov (a := a) (b := b) hg ha hb6 (Ne.symm ne) (fun x t hx => mov_m ha hb6 (Ne.symm ne) hx) (fun x t hx => mov_u ha hb6 (Ne.symm ne) hx) (fun x hx => ?_)⟩
    · rw [emp_h hv]
      by_cases c : v = b
      · rw [if_pos c]; exact low4 1 (by simp) t ht
      · rw [if_neg c]
        by_cases c2 : v = a
        · rw [c2, up_at]; exact hh b t hb6 ht
        · rw [up_ne c2, joi_h hv]; exact hh v t hv ht
    · rw [emp_s hx hb6, up_ne (by omega), joi_s hx]
  rw [if_neg e1]
  by_cases e2 : so = 2
  · obtain ⟨hb6, ne⟩ := hb (by omega) (by omega)
    have h4 : ∀ t, 4 ≤ t → bt (4 ||| (X b &&& 1)) t = false := by
      intro t ht
      rw [b_or, b_and, low4 4 (by simp) t ht, low4 1 (by simp) t ht, Bool.and_false]; rfl
    rw [if_pos e2]
    refine ⟨fun v t hv ht => ?_, GR_joi (a := a) (b := b) hg ha hb6 (Ne.symm ne) (fun x t hx => ?_) (fun x t hx => ?_) (fun x hx => ?_)⟩
    · by_cases c : v = a
      · rw [c, up_at]; exact h4 t ht
      · rw [up_ne c]
        by_cases c2 : v = b
        · rw [c2, up_at]; exact h4 t ht
        · rw [up_ne c2, joi_h hv]; exact hh v t hv ht
    · rw [up_ne (by omega), up_ne (by omega), joi_m ha hb6 hx (Ne.symm ne)]; simp
    · rw [up_ne (by omega), up_ne (by omega), joi_u ha hb6 hx (Ne.symm ne)]; simp
    · rw [up_ne (by omega), up_ne (by omega), joi_s hx]
  rw [if_neg e2]
  by_cases e3 : so = 3
  · obtain ⟨hb6, ne⟩ := hb (by omega) (by omega)
    rw [if_pos e3]
    refine ⟨fun v t hv ht => ?_, GR_joi (a := a) (b := b) hg ha hb6 (Ne.symm ne) (fun x t hx => ?_) (fun x t hx => ?_) (fun x hx => ?_)⟩
    · by_cases c : v = b
      · rw [c, up_at]
        split
        · rw [b_or, b_and, low4 7 (by simp) t ht, low4 2 (by simp) t ht, Bool.and_false]; rfl
        · exact hh b t hb6 ht
      · rw [up_ne c]
        by_cases c2 : v = a
        · rw [c2, up_at, b_or, b_and, low4 2 (by simp) t ht, low4 1 (by simp) t ht, Bool.and_false]; rfl
        · rw [up_ne c2, joi_h hv]; exact hh v t hv ht
    · rw [up_ne (by omega), up_ne (by omega), joi_m ha hb6 hx (Ne.symm ne)]; simp
    · rw [up_ne (by omega), up_ne (by omega), joi_u ha hb6 hx (Ne.symm ne)]; simp
    · rw [up_ne (by omega), up_ne (by omega), joi_s hx]
  rw [if_neg e3]
  have emp_ok : ∀ c, c < 6 → GR (fun x t => bt (emp X c (12 + x)) t) (fun x t => bt (emp X c (18 + x)) t) (fun x => emp X c (6 + x)) := fun c hc => GR_emp (v := c) (c := 0) hg (fun t _ => b_0 t) (fun x t hx => emp_m hc hx) (fun x t hx => emp_u hc hx) (fun x hx => emp_s hx hc)
  have emp_hh : ∀ c v t, v < 6 → 4 ≤ t → bt (emp X c v) t = false := by
    intro c v t hv ht
    rw [emp_h hv]
    split
    · exact low4 1 (by simp) t ht
    · exact hh v t hv ht
  by_cases e4 : so = 4
  · obtain ⟨hb6, ne⟩ := hb (by omega) (by omega)
    rw [if_pos e4]
    refine ⟨fun v t hv ht => ?_, ?_⟩
    · by_cases c : v = a
      · rw [c, up_at]
        split
        · exact low4 8 (by simp) t ht
        · split
          · rw [b_or, hh a t ha ht, low4 8 (by simp) t ht]; rfl
          · exact hh a t ha ht
      · rw [up_ne c]; exact emp_hh b v t hv ht
    · have := emp_ok b hb6
      refine GR_emp (v := b) (c := 0) hg (fun t _ => b_0 t) (fun x t hx => ?_) (fun x t hx => ?_) (fun x hx => ?_)
      · rw [up_ne (by omega)]; exact emp_m hb6 hx
      · rw [up_ne (by omega)]; exact emp_u hb6 hx
      · rw [up_ne (by omega)]; exact emp_s hx hb6
  · rw [if_neg e4]
    exact ⟨fun v t hv ht => emp_hh a v t hv ht, emp_ok a ha⟩
theorem bt83 : bt 8 3 = true := by decide
theorem HX_goS {so : Nat} (h : HX X) (ha : a < 6) (hb : 1 ≤ so → so ≤ 4 → b < 6 ∧ b ≠ a) : HX (goS so a b X) := by
  have hemp : ∀ c, c < 6 → HX (emp X c) := by
    intro c hc v hv q1 q2 q3
    rw [emp_h hv] at q1 q2 q3
    rw [emp_s hv hc]
    by_cases e : v = c
    · rw [if_pos e]
    · rw [if_neg e] at q1 q2 q3 ⊢
      exact h v hv q1 q2 q3
  unfold goS
  by_cases e0 : so = 0
  · rw [if_pos e0]
    intro v hv q1 q2 q3
    rw [up_ne (by omega)] at q1 q2 q3
    by_cases e : v = a
    · rw [e, up_at, bt83] at q3; cases q3
    · rw [up_ne e] at q1 q2 q3
      rw [up_ne (by omega), up_ne (by omega)]
      exact hemp a ha v hv q1 q2 q3
  rw [if_neg e0]
  by_cases e1 : so = 1
  · obtain ⟨hb6, ne⟩ := hb (by omega) (by omega)
    rw [if_pos e1]
    intro v hv q1 q2 q3
    rw [emp_h hv] at q1 q2 q3
    rw [emp_s hv hb6]
    by_cases e : v = b
    · rw [if_pos e]
    · rw [if_neg e] at q1 q2 q3 ⊢
      rw [up_ne (by omega), joi_s hv]
      by_cases e2 : v = a
      · rw [e2, up_at] at q1 q2 q3
        rw [if_pos e2]
        exact h b hb6 q1 q2 q3
      · rw [up_ne e2, joi_h hv] at q1 q2 q3
        rw [if_neg e2]
        exact h v hv q1 q2 q3
  rw [if_neg e1]
  by_cases e2 : so = 2
  · obtain ⟨hb6, ne⟩ := hb (by omega) (by omega)
    have b4 : ∀ x : Int32, bt (4 ||| (x &&& 1)) 2 = true := fun x => by rw [b_or, show bt 4 2 = true by decide]; rfl
    rw [if_pos e2]
    intro v hv q1 q2 q3
    by_cases e : v = a
    · rw [e, up_at, b4] at q2; cases q2
    · rw [up_ne e] at q1 q2 q3
      by_cases e3 : v = b
      · rw [e3, up_at, b4] at q2; cases q2
      · rw [up_ne e3, joi_h hv] at q1 q2 q3
        rw [up_ne (by omega), up_ne (by omega), joi_s hv, if_neg e]
        exact h v hv q1 q2 q3
  rw [if_neg e2]
  by_cases e3 : so = 3
  · obtain ⟨hb6, ne⟩ := hb (by omega) (by omega)
    have b2 : ∀ x : Int32, bt (2 ||| x) 1 = true := fun x => by rw [b_or, show bt 2 1 = true by decide]; rfl
    rw [if_pos e3]
    intro v hv q1 q2 q3
    by_cases e : v = b
    · rw [e, up_at] at q1 q2 q3
      rw [up_ne (by omega), up_ne (by omega), e, joi_s hb6, if_neg ne]
      by_cases c : bt (X b) 3 = true
      · rw [if_pos c, b_or, show bt 2 1 = true by decide, Bool.or_true] at q1; cases q1
      · rw [if_neg c] at q1 q2 q3
        exact h b hb6 q1 q2 q3
    · rw [up_ne e] at q1 q2 q3
      by_cases e4 : v = a
      · rw [e4, up_at, b2] at q1; cases q1
      · rw [up_ne e4, joi_h hv] at q1 q2 q3
        rw [up_ne (by omega), up_ne (by omega), joi_s hv, if_neg e4]
        exact h v hv q1 q2 q3
  rw [if_neg e3]
  by_cases e4 : so = 4
  · obtain ⟨hb6, ne⟩ := hb (by omega) (by omega)
    rw [if_pos e4]
    intro v hv q1 q2 q3
    rw [up_ne (by omega)]
    by_cases e : v = a
    · rw [e, up_at] at q1 q2 q3
      rw [e, emp_s ha hb6, if_neg (Ne.symm ne)]
      by_cases c1 : emp X b (12 + a) = 0
      · rw [if_pos c1, bt83] at q3; cases q3
      · rw [if_neg c1] at q1 q2 q3
        by_cases c2 : emp X b (18 + a) = 0
        · rw [if_pos c2, b_or, bt83, Bool.or_true] at q3; cases q3
        · rw [if_neg c2] at q1 q2 q3
          exact h a ha q1 q2 q3
    · rw [up_ne e] at q1 q2 q3
      exact hemp b hb6 v hv q1 q2 q3
  · rw [if_neg e4]
    exact hemp a ha
theorem GX_goS {so : Nat} (h : GX X) (ha : a < 6) (hb : 1 ≤ so → so ≤ 4 → b < 6 ∧ b ≠ a) : GX (goS so a b X) := by
  rw [GX_GR] at h ⊢
  obtain ⟨hh, hg, hx⟩ := h
  have := GX_goS' hh hg ha hb
  exact ⟨this.1, this.2, HX_goS hx ha hb⟩
theorem im_0 {k m : Nat} {z : Int32} (hW : WFK P) (hk : k < nK P) (hm : m < nM P k) : im P k m z 0 = 0 := by
  apply b_iff
  intro t ht
  rw [im_bt hW hk hm ht, b_0]
  constructor
  · rintro ⟨s, _, q, -⟩; rw [b_0] at q; cases q
  · intro q; cases q
theorem GX_asS {k m : Nat} {z : Int32} (h0 : im P k m z (X (6 + v)) ≠ 0) (h : GX X) (hW : WFK P) (hk : k < nK P) (hm : m < nM P k) (hv : v < 6) : GX (asS P k m v z X) := by
  have h' := h
  rw [GX_GR] at h ⊢
  obtain ⟨hh, hg, hx⟩ := h
  have e12 : ∀ x, asS P k m v z X (12 + x) = X (12 + x) := fun x => by unfold asS; rw [if_neg (by omega), if_neg (by omega)]
  have e18 : ∀ x, asS P k m v z X (18 + x) = X (18 + x) := fun x => by unfold asS; rw [if_neg (by omega), if_neg (by omega)]
  simp only [e12, e18]
  refine ⟨fun u t hu ht => ?_, GR_ask (v := v) (g := im P k m z) hg hv (fun x t ht => im_lt hW hk hm ht) (fun x hx => ?_), fun u hu q1 q2 q3 => ?_⟩
  · unfold asS; rw [if_neg (by omega), if_neg (by omega)]; exact hh u t hu ht
  · unfold asS
    by_cases c : x = v
    · rw [if_pos (by omega), if_pos c]
    · rw [if_neg (by omega), if_neg c, if_pos (by omega), show 6 + x - 6 = x by omega]
  · have eh : asS P k m v z X u = X u := by unfold asS; rw [if_neg (by omega), if_neg (by omega)]
    rw [eh] at q1 q2 q3
    have z0 := hx u hu q1 q2 q3
    unfold asS
    by_cases c : u = v
    · exfalso
      rw [c] at z0
      rw [z0, im_0 hW hk hm] at h0
      exact h0 rfl
    · rw [if_neg (by omega), if_pos (by omega), show 6 + u - 6 = u by omega]
      by_cases c2 : bt (X (18 + v)) u = true
      · exfalso
        have := (h'.2.2.1 v u hv hu c2).2.2
        rw [this, z0, im_0 hW hk hm] at h0
        exact h0 rfl
      · rw [if_neg c2, z0, im_0 hW hk hm]
        split <;> rfl
end AbTr
