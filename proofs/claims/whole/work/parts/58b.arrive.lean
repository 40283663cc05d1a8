section Arrive
variable {sw : Bool} {I : Nat → Nat → Int32} {L : Nat → Nat → Int64} {p fu f x y : Nat} {P : Nat → Int32} {D : Nat → Nat}
theorem cp24 {h : Hp} {a b : Nat} (ha : h.1 a = (10, 24)) (hb : h.1 b = (10, 24)) : h_cpI h a 0 b 0 24 = some (h_rowI h b (va_cpy (h.2.1 a) (h.2.1 b) 0 0 24)) := by
  unfold h_cpI
  rw [if_pos]
  · rfl
  · rw [ha, hb]
    exact ⟨⟨rfl, rfl⟩, ⟨by decide, by decide, by decide⟩, by decide, by decide⟩
theorem c_copyFrom (hx : isH x) (hy : isH y) : ∃ g, MX1_copyFrom x y (mkC sw I L) = some (mkC sw (ur I (x + 1) g) L) ∧ e24 g (I (y + 1)) := by
  simp only [MX1_copyFrom, c1_g hx, c1_r0 hx, c1_r0 hy, Option.bind_some]
  rw [cp24 (isH_sh hy).2 (isH_sh hx).2, Option.bind_some]
  exact ⟨_, rfl, fun j hj => sb_cpy0 hj⟩
theorem c_begin (hx : isH x) (hfu : 24 < fu) : WP (MX1_begin fu x (mkC sw I L)) (fun h => ∃ g, h = mkC sw (ur I (x + 1) g) L ∧ e24 g X0) := by
  simp only [MX1_begin, c1_g hx, c1_r0 hx, Option.bind_some]
  rw [fillI (N := 24) (isH_sh hx).2 (by decide) hfu, Option.bind_some, rowI_C]
  refine wh2_wp (fun r n h => ∃ w g, w + r = 6 ∧ n = nI w ∧ h = mkC sw (ur I (x + 1) g) L ∧ ∀ j, j < 24 → g j = if j < w then 1 else 0) ?_ fu 6 _ _ (by omega) ⟨0, _, by omega, rfl, rfl, fun j hj => by rw [if_pos hj, if_neg (by omega)]⟩
  rintro r n h self ⟨w, g, hw, rfl, rfl, q⟩ ih
  simp only [MX1_begin_B10, c1_r0 hx, Option.bind_some, ix_0]
  rw [show (6 : Int32) = nI 6 from rfl]
  by_cases hr : r = 0
  · subst hr
    rw [if_pos (nI_le (by omega) (by omega))]
    refine WP_some ⟨g, rfl, fun j hj => ?_⟩
    rw [q j hj, show w = 6 by omega]
    rfl
  · rw [if_neg (nI_ge (by omega) (by omega)), c1_st hx (by omega), Option.bind_some, ur_ur, ur_at]
    refine ih (r - 1) _ _ (by omega) ⟨w + 1, _, by omega, nI_1 w, rfl, fun j hj => ?_⟩
    by_cases c : j = w
    · rw [c, up_at, if_pos (by omega)]
    · rw [up_ne c, q j hj]
      by_cases c2 : j < w
      · rw [if_pos c2, if_pos (by omega)]
      · rw [if_neg c2, if_neg (by omega)]
theorem c_meet (hx : isH x) (hy : isH y) (ne : x ≠ y) (hfu : 24 < fu) : WP (MX1_meet fu x y (mkC sw I L)) (fun r => ∃ g, r.2 = mkC sw (ur I (x + 1) g) L ∧ e24 g (mrg (I (x + 1)) (I (y + 1))) ∧ ((r.1 = 0 ∧ g = I (x + 1)) ∨ (r.1 = 1 ∧ ∃ j, j < 24 ∧ mrg (I (x + 1)) (I (y + 1)) j ≠ I (x + 1) j))) := by
  simp only [MX1_meet, c1_g hx]
  refine wh3_wp (fun r z n h => ∃ w g, w + r = 24 ∧ n = nI w ∧ h = mkC sw (ur I (x + 1) g) L ∧ (∀ j, j < 24 → g j = if j < w then mrg (I (x + 1)) (I (y + 1)) j else I (x + 1) j) ∧ ((z = 0 ∧ g = I (x + 1)) ∨ (z = 1 ∧ ∃ j, j < 24 ∧ mrg (I (x + 1)) (I (y + 1)) j ≠ I (x + 1) j))) ?_ fu 24 _ _ _ (by omega) ⟨0, I (x + 1), by omega, rfl, by rw [ur_self], fun j hj => by rw [if_neg (by omega)], Or.inl ⟨rfl, rfl⟩⟩
  rintro r z n h self ⟨w, g, hw, rfl, rfl, q, hz⟩ ih
  simp only [MX1_meet_B4, c1_r0 hx, c1_r0 hy, Option.bind_some, jn]
  rw [show (24 : Int32) = nI 24 from rfl, show (18 : Int32) = nI 18 from rfl]
  by_cases hr : r = 0
  · subst hr
    have e : h_z z = some z := by rcases hz with ⟨rfl, -⟩ | ⟨rfl, -⟩ <;> rfl
    rw [if_pos (nI_le (by omega) (by omega)), e, Option.bind_some]
    refine WP_some ⟨g, rfl, fun j hj => ?_, hz⟩
    rw [q j hj, if_pos (by omega)]
  · have ey : ur I (x + 1) g (y + 1) = I (y + 1) := ur_ne (by omega)
    have gw : g w = I (x + 1) w := by rw [q w (by omega), if_neg (by omega)]
    rw [if_neg (nI_ge (by omega) (by omega))]
    simp only [c1_ld hx (show w < 24 by omega), c1_ld hy (show w < 24 by omega), Option.bind_some, c1_st hx (show w < 24 by omega), ur_at, ey, gw, ur_ur]
    have step : ∀ v : Int32, v = mrg (I (x + 1)) (I (y + 1)) w → WP (if v = I (x + 1) w then self z (nI w + 1) (mkC sw (ur I (x + 1) g) L) else self 1 (nI w + 1) (mkC sw (ur I (x + 1) (up g w v)) L)) (fun r => ∃ g, r.2 = mkC sw (ur I (x + 1) g) L ∧ e24 g (mrg (I (x + 1)) (I (y + 1))) ∧ ((r.1 = 0 ∧ g = I (x + 1)) ∨ (r.1 = 1 ∧ ∃ j, j < 24 ∧ mrg (I (x + 1)) (I (y + 1)) j ≠ I (x + 1) j))) := by
      intro v hv
      by_cases c : v = I (x + 1) w
      · rw [if_pos c]
        refine ih (r - 1) _ _ _ (by omega) ⟨w + 1, g, by omega, nI_1 w, rfl, fun j hj => ?_, hz⟩
        by_cases c2 : j = w
        · rw [c2, gw, if_pos (by omega), ← hv, c]
        · rw [q j hj]
          by_cases c3 : j < w
          · rw [if_pos c3, if_pos (by omega)]
          · rw [if_neg c3, if_neg (by omega)]
      · rw [if_neg c]
        refine ih (r - 1) _ _ _ (by omega) ⟨w + 1, _, by omega, nI_1 w, rfl, fun j hj => ?_, Or.inr ⟨rfl, w, by omega, by rw [← hv]; exact c⟩⟩
        by_cases c2 : j = w
        · rw [c2, up_at, if_pos (by omega), hv]
        · rw [up_ne c2, q j hj]
          by_cases c3 : j < w
          · rw [if_pos c3, if_pos (by omega)]
          · rw [if_neg c3, if_neg (by omega)]
    by_cases c18 : 18 ≤ w
    · rw [if_pos (nI_le c18 (by omega))]
      exact step _ (mrg_a c18).symm
    · rw [if_neg (nI_ge (by omega) (by omega))]
      exact step _ (mrg_o (by omega)).symm
-- flows
def FS (f : Nat) (I : Nat → Nat → Int32) : Prop := ∀ i, i < 41 → (I (f + 2) i = 0 ∨ I (f + 2) i = 1) ∧ (I (f + 4) i = 0 ∨ I (f + 4) i = 1) ∧ (I (f + 4) i ≠ 0 → I (f + 2) i ≠ 0)
def sC (f : Nat) (I : Nat → Nat → Int32) : PS := fun i => if i < 41 ∧ I (f + 2) i ≠ 0 then some (I (f + 8 + 2 * i)) else none
def fc (f : Nat) (I : Nat → Nat → Int32) : Nat := cnt 41 (fun i => decide (I (f + 4) i ≠ 0))
theorem isF_H {j : Nat} (hf : isF f) (hj : j < 41) : isH (f + 7 + 2 * j) := by
  rcases hf with rfl | rfl
  · exact Or.inr (Or.inr (Or.inr (Or.inr (Or.inr (Or.inl ⟨j, hj, by omega⟩)))))
  · exact Or.inr (Or.inr (Or.inr (Or.inr (Or.inr (Or.inr ⟨j, hj, by omega⟩)))))
theorem isF_now (hf : isF f) : isH (f + 5) := by
  rcases hf with rfl | rfl
  · exact Or.inl rfl
  · exact Or.inr (Or.inl rfl)
theorem cnt_eq {N : Nat} {f g : Nat → Bool} (h : ∀ i, i < N → f i = g i) : cnt N f = cnt N g := by
  induction N with
  | zero => rfl
  | succ N ih => unfold cnt; rw [ih (fun i hi => h i (by omega)), h N (by omega)]
theorem cnt_one {N t : Nat} {f g : Nat → Bool} (h : ∀ i, i < N → i ≠ t → f i = g i) : cnt N f ≤ cnt N g + 1 := by
  induction N with
  | zero => exact Nat.zero_le _
  | succ N ih =>
    unfold cnt
    by_cases c : t = N
    · have := cnt_eq (N := N) (f := f) (g := g) (fun i hi => h i (by omega) (by omega))
      rw [this]
      split <;> split <;> omega
    · have := ih (fun i hi hn => h i (by omega) hn)
      rw [h N (by omega) (by omega)]
      omega
theorem cnt_up {N t : Nat} {g : Nat → Int32} {x : Int32} : cnt N (fun i => decide (up g t x i ≠ 0)) ≤ cnt N (fun i => decide (g i ≠ 0)) + 1 :=
  cnt_one (t := t) (fun i _ hn => by simp only [up_ne hn])
theorem c_arrive {t : Nat} (hf : isF f) (ht : t < 41) (gY : GX (I (f + 6))) (gS : goodS (sC f I)) (hF : FS f I) (hfu : 24 < fu) :
    WP (MX0_arrive fu f (nI t) (mkC sw I L)) (fun h => ∃ I', h = mkC sw I' L ∧ ((I' = I ∧ ∃ Z, sC f I t = some Z ∧ leX (I (f + 6)) Z) ∨
      (I' (f + 4) = up (I (f + 4)) t 1 ∧ stepped (sC f I) (sC f I') t (I (f + 6)) ∧ hS (sC f I) < hS (sC f I') ∧ FS f I' ∧ ∀ b, b ≠ f + 2 → b ≠ f + 4 → b ≠ f + 8 + 2 * t → I' b = I b))) := by
  have hH := isF_H hf ht
  have hN := isF_now hf
  have e81 : f + 7 + 2 * t + 1 = f + 8 + 2 * t := by omega
  simp only [MX0_arrive, c0_g hf, c0_r0 hf, c0_r1 hf, c0_r7 hf, Option.bind_some]
  rw [c0_ld1 hf ht, Option.bind_some]
  by_cases c0 : I (f + 2) t = 0
  · rw [if_pos c0, c0_st1 hf ht (Or.inr rfl), Option.bind_some, c0_r6 hf, Option.bind_some, c0_st6 hf ht (Or.inr rfl), Option.bind_some, c0_r0 hf, Option.bind_some, c0_hold hf ht, Option.bind_some, c0_r7 hf, Option.bind_some]
    obtain ⟨g, e, hg⟩ := c_copyFrom (sw := sw) (I := ur (ur I (f + 2) (up (I (f + 2)) t 1)) (f + 4) (up (ur I (f + 2) (up (I (f + 2)) t 1) (f + 4)) t 1)) (L := L) hH hN
    rw [e, Option.bind_some]
    rw [ur_ne (show f + 5 + 1 ≠ f + 4 by omega), ur_ne (show f + 5 + 1 ≠ f + 2 by omega)] at hg
    refine WP_some ⟨_, rfl, Or.inr ?_⟩
    rw [e81]
    have S0 : sC f I t = none := by unfold sC; rw [if_neg (fun q => q.2 c0)]
    generalize hI : ur (ur (ur I (f + 2) (up (I (f + 2)) t 1)) (f + 4) (up (ur I (f + 2) (up (I (f + 2)) t 1) (f + 4)) t 1)) (f + 8 + 2 * t) g = I'
    have r2 : I' (f + 2) = up (I (f + 2)) t 1 := by rw [← hI, ur_ne (by omega), ur_ne (by omega), ur_at]
    have r4 : I' (f + 4) = up (I (f + 4)) t 1 := by rw [← hI, ur_ne (by omega), ur_at, ur_ne (by omega)]
    have r8 : I' (f + 8 + 2 * t) = g := by rw [← hI, ur_at]
    have ro : ∀ b, b ≠ f + 2 → b ≠ f + 4 → b ≠ f + 8 + 2 * t → I' b = I b := fun b b1 b2 b3 => by rw [← hI, ur_ne b3, ur_ne b2, ur_ne b1]
    have st : stepped (sC f I) (sC f I') t (I (f + 6)) := by
      refine ⟨fun j hj => ?_, Or.inl ⟨S0, g, ?_, hg⟩⟩
      · unfold sC
        rw [r2, up_ne hj, ro (f + 8 + 2 * j) (by omega) (by omega) (by omega)]
      · unfold sC
        rw [r2, up_at, if_pos ⟨ht, by decide⟩, r8]
    refine ⟨r4, st, ?_, fun i hi => ?_, ro⟩
    · refine sm_lt (t := t) (fun i hi => ?_) ht ?_
      · by_cases c : i = t
        · subst c; rw [S0]; exact Nat.zero_le _
        · rw [st.1 i c]; exact Nat.le_refl _
      · rw [S0, show sC f I' t = some g by unfold sC; rw [r2, up_at, if_pos ⟨ht, by decide⟩, r8]]
        show 0 < 1 + hX g
        omega
    · rw [r2, r4]
      by_cases c : i = t
      · rw [c, up_at, up_at]; exact ⟨Or.inr rfl, Or.inr rfl, fun _ => by decide⟩
      · rw [up_ne c, up_ne c]; exact hF i hi
  · rw [if_neg c0, c0_hold hf ht, Option.bind_some]
    have ne : f + 7 + 2 * t ≠ f + 5 := by omega
    obtain ⟨⟨r1, _⟩, e, g, rfl, hg, hz⟩ := c_meet (sw := sw) (I := I) (L := L) (fu := fu) hH hN ne hfu
    rw [e, Option.bind_some]
    rw [e81, show f + 5 + 1 = f + 6 from rfl] at hg hz
    have St : sC f I t = some (I (f + 8 + 2 * t)) := by unfold sC; rw [if_pos ⟨ht, c0⟩]
    have gZ : GX (I (f + 8 + 2 * t)) := gS t _ St
    rcases hz with ⟨q, hz⟩ | ⟨q, j, hj, hz⟩
    · obtain rfl : r1 = 0 := q
      rw [if_pos rfl]
      refine WP_some ⟨I, by rw [e81, hz, ur_self], Or.inl ⟨rfl, _, St, ?_⟩⟩
      rw [hz] at hg
      exact leX_trans mrg_r (e24_le (e24_symm hg))
    · obtain rfl : r1 = 1 := q
      rw [if_neg (show ¬ (1 : Int32) = 0 by decide), e81]
      show WP ((h_fR 0 (mkC sw (ur I (f + 8 + 2 * t) g) L) f 6).bind fun x7 => (h_stZ (mkC sw (ur I (f + 8 + 2 * t) g) L) x7 (nI t) 1).bind fun h8 => some h8) _
      rw [c0_r6 hf, Option.bind_some, c0_st6 hf ht (Or.inr rfl), Option.bind_some]
      refine WP_some ⟨_, rfl, Or.inr ?_⟩
      rw [ur_ne (show f + 4 ≠ f + 8 + 2 * t by omega)]
      generalize hI : ur (ur I (f + 8 + 2 * t) g) (f + 4) (up (I (f + 4)) t 1) = I'
      have r2 : I' (f + 2) = I (f + 2) := by rw [← hI, ur_ne (by omega), ur_ne (by omega)]
      have r4 : I' (f + 4) = up (I (f + 4)) t 1 := by rw [← hI, ur_at]
      have r8 : I' (f + 8 + 2 * t) = g := by rw [← hI, ur_ne (by omega), ur_at]
      have ro : ∀ b, b ≠ f + 2 → b ≠ f + 4 → b ≠ f + 8 + 2 * t → I' b = I b := fun b b1 b2 b3 => by rw [← hI, ur_ne b2, ur_ne b3]
      have St' : sC f I' t = some g := by unfold sC; rw [r2, if_pos ⟨ht, c0⟩, r8]
      have st : stepped (sC f I) (sC f I') t (I (f + 6)) := by
        refine ⟨fun j hj => ?_, Or.inr ⟨_, _, St, St', hg⟩⟩
        unfold sC
        rw [r2, ro (f + 8 + 2 * j) (by omega) (by omega) (by omega)]
      refine ⟨r4, st, ?_, fun i hi => ?_, ro⟩
      · refine sm_lt (t := t) (fun i hi => ?_) ht ?_
        · by_cases c : i = t
          · subst c
            rw [St, St']
            have := hX_mono (leX_trans (mrg_l (Y := I (f + 6))) (e24_le (e24_symm hg)))
            show 1 + hX _ ≤ 1 + hX _
            omega
          · rw [st.1 i c]; exact Nat.le_refl _
        · rw [St, St']
          have gm : GX g := e24_GX hg (mrg_GX gZ gY)
          have := hX_lt gZ gm (leX_trans (mrg_l (Y := I (f + 6))) (e24_le (e24_symm hg))) hj (by rw [hg j hj]; exact Ne.symm hz)
          show 1 + hX _ < 1 + hX _
          omega
      · rw [r2, r4]
        by_cases c : i = t
        · rw [c, up_at]; exact ⟨(hF t ht).1, Or.inr rfl, fun _ => c0⟩
        · rw [up_ne c]; exact hF i hi
end Arrive
