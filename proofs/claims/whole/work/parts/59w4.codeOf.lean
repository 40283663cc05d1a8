theorem cr_c : ∀ f, f < 6 → ∀ h, h < 4 → ∀ s, s < 6 → (((nI f <<< ((5 : Int32) &&& 31)) ||| (nI h <<< ((3 : Int32) &&& 31))) ||| nI s).toInt64 = lN (f * 32 + h * 8 + s) := by decide +kernel
theorem cr_d : ∀ f, f < 6 → ∀ h, h < 4 → ∀ s, s < 6 → nI (f * 32 + h * 8 + s) >>> ((5 : Int32) &&& 31) = nI f ∧ (nI (f * 32 + h * 8 + s) >>> ((3 : Int32) &&& 31)) &&& 3 = nI h ∧ nI (f * 32 + h * 8 + s) &&& 7 = nI s := by decide +kernel
section CodeOf
variable {J J' : Nat → Nat → Int32} {K : Nat → Nat → Int64} {fu v w p x : Nat} {D : Nat → Nat} {X P : Nat → Int32}
theorem m_codeOf (hA : WFA (J 2) D) (h : CF (J 2) (J 19) (J 20) (J 21) X) (hp : p ≤ 40) (hfu : 6 < fu) : MX9_codeOf fu 0 (nI p) (mkM J K) = some (kR p X) := by
  have g := (CF_GC hA h).1
  have lt := fun v hv => cR_lt (v := v) hA g hv
  simp only [MX9_codeOf, m_g]
  refine wh2_rule (fun r a n => ∃ v, v + r = 6 ∧ n = nI v ∧ a = lN (pen p (cR X) v)) ?_ fu 6 _ _ (by omega) ⟨0, rfl, rfl, cl_0 p (by omega)⟩
  rintro r a n self ⟨v, hv, rfl, rfl⟩ ih
  simp only [MX9_codeOf_B6, jn]
  by_cases hr : r = 0
  · subst hr
    rw [show (6 : Int32) = nI 6 from rfl, if_pos (nI_le (by omega) (by omega)), show v = 6 by omega]
    rfl
  · have v6 : v < 6 := by omega
    obtain ⟨⟨c1, c2, c3⟩, c4, c5⟩ := GC_cell hA g v6
    have sl := ss_lt (X := X) (v := v)
    have fl := fs_lt (X := X) (v := v)
    rw [show (6 : Int32) = nI 6 from rfl, if_neg (nI_ge (by omega) (by omega))]
    have pl := pen_le6 (v := v + 1) hp lt (by omega)
    have pe : pen p (cR X) (v + 1) = pen p (cR X) v * 256 + cR X v := rfl
    have l2 := lt v v6
    have fin : ∀ w : Int32, w.toInt64 = lN (cR X v) → self ((lN (pen p (cR X) v) <<< ((8 : Int32).toInt64 &&& 63)) ||| w.toInt64) (nI v + 1) = some (kR p X) := by
      intro w hw
      refine ih (r - 1) _ _ (by omega) ⟨v + 1, by omega, nI_1 v, ?_⟩
      rw [pe] at pl ⊢
      rw [hw, g_shl (k := 8) (p := 256) (by decide) (by decide) (by decide) (by omega), g_or (k := 8) (p := 256) (by decide) (by omega) (by omega)]
    have n1 := CF_none h v6
    by_cases t : J 19 v = -1
    · have ex : X v = 1 := n1.mpr t
      have m0 : J 20 v = 0 := by
        rcases h.1 v v6 with ⟨-, q, -⟩ | ⟨q, -⟩
        · exact q
        · exact absurd t q
      obtain ⟨fu, rfl⟩ : ∃ f', fu = f' + 1 := ⟨fu - 1, by omega⟩
      rw [wh1]
      simp only [MX9_codeOf_B16, m_r35, m_r36, Option.bind_some]
      rw [m_ld19 v6, Option.bind_some, if_pos t, m_ld20 v6, Option.bind_some, m0, if_neg (by decide), show h_div (0 : Int32) 2 = some 0 from rfl, Option.bind_some, Option.bind_some, if_pos t]
      exact fin 224 (by unfold cR; rw [if_pos ex]; rfl)
    · have ex : X v ≠ 1 := fun z => t (n1.mp z)
      obtain ⟨f1, f2⟩ := CF_fs2 h v6 t
      obtain ⟨q1, q2⟩ := CF_ss hA h v6 t
      have mx : X v = J 20 v := by
        rcases h.1 v v6 with ⟨q, -⟩ | ⟨-, -, -, q, -⟩
        · exact absurd q t
        · exact q
      have m3 := CF_how h v6
      have hh : ∀ x : Int32, x = 2 ∨ x = 4 ∨ x = 8 → ∃ d, h_div x 2 = some d ∧ (x = 8 → nI (lw6 (bt x)) = 3) ∧ (x ≠ 8 → d = nI (lw6 (bt x))) := by
        rintro x (rfl | rfl | rfl)
        · exact ⟨1, rfl, by decide, by decide⟩
        · exact ⟨2, rfl, by decide, by decide⟩
        · exact ⟨4, rfl, by decide, by decide⟩
      obtain ⟨d, d1, d2, d3⟩ := hh (X v) (by rcases m3 with q | q; exact absurd q ex; exact q)
      refine wh1_rule (fun q n => ∃ w, w + q = fs X v ∧ n = nI w) ?_ fu (fs X v) _ (by omega) ⟨0, by omega, rfl⟩
      rintro q n self2 ⟨w, hwq, rfl⟩ ih2
      simp only [MX9_codeOf_B16, m_r35, m_r36, m_r37, Option.bind_some]
      rw [m_ld19 v6, Option.bind_some, if_neg t, m_ld19 (by omega), Option.bind_some]
      by_cases hq : q = 0
      · subst hq
        have wf : w = fs X v := by omega
        subst wf
        rw [if_pos f1, m_ld20 v6, Option.bind_some, ← mx, d1]
        simp only [Option.bind_some]
        simp only [if_neg t, m_ld21 v6, Option.bind_some]
        rw [q1]
        have e : ((nI (fs X v) <<< ((5 : Int32) &&& 31) ||| nI (hw X v) <<< ((3 : Int32) &&& 31)) ||| nI (ss X v)).toInt64 = lN (cR X v) := by
          rw [cr_c _ fl _ c2 _ sl]
          unfold cR
          rw [if_neg ex]
        by_cases c8 : X v = 8
        · rw [if_pos c8]
          have q3 : nI (hw X v) = 3 := d2 c8
          exact fin _ (by rw [← e, q3])
        · rw [if_neg c8, d3 c8]
          exact fin _ e
      · rw [if_neg (f2 w (by omega))]
        exact ih2 (q - 1) _ (by omega) ⟨w + 1, by omega, nI_1 w⟩
theorem m_laysC (hA : WFA P D) (g : GC P X) (hp : p ≤ 40) (hfu : 6 < fu) : ∃ J', MX9_lays fu 0 (kR p X) (mkM J K) = some (nI p, mkM J' K) ∧ (∀ b, b < 19 ∨ 21 < b → J' b = J b) ∧ ∀ v, v < 6 → J' 19 v = cT X v ∧ J' 20 v = cM X v ∧ J' 21 v = cS X v := by
  have lt := fun v hv => cR_lt (v := v) hA g hv
  have main : WP (MX9_lays fu 0 (kR p X) (mkM J K)) (fun q => ∃ J', q = (nI p, mkM J' K) ∧ (∀ b, b < 19 ∨ 21 < b → J' b = J b) ∧ ∀ v, v < 6 → J' 19 v = cT X v ∧ J' 20 v = cM X v ∧ J' 21 v = cS X v) := by
    simp only [MX9_lays, m_g, jn]
    refine wh2_wp (fun r n h => ∃ v J', v + r = 6 ∧ n = nI v ∧ h = mkM J' K ∧ (∀ b, b < 19 ∨ 21 < b → J' b = J b) ∧ ∀ u, u < v → J' 19 u = cT X u ∧ J' 20 u = cM X u ∧ J' 21 u = cS X u) ?_ fu 6 _ _ (by omega) ⟨0, J, rfl, rfl, rfl, fun _ _ => rfl, fun u hu => by omega⟩
    rintro r n h self ⟨v, J', hv, rfl, rfl, fr, s⟩ ih
    simp only [MX9_lays_B2, jn]
    by_cases hr : r = 0
    · subst hr
      have v6 : v = 6 := by omega
      subst v6
      rw [show (6 : Int32) = nI 6 from rfl, if_pos (nI_le (by omega) (by omega))]
      unfold kR
      rw [place_of (pen_lt hp lt), pen_pl lt]
      exact WP_some ⟨J', rfl, fr, s⟩
    · have v6 : v < 6 := by omega
      have sl := ss_lt (X := X) (v := v)
      have fl := fs_lt (X := X) (v := v)
      obtain ⟨⟨c1, c2, c3⟩, c4, c5⟩ := GC_cell hA g v6
      have cell : ((kR p X >>> (((8 : Int32) * ((5 : Int32) - nI v)).toInt64 &&& 63)).toInt32) &&& (255 : Int32) = nI (cR X v) := by
        unfold kR
        rw [pf_shr (kp_d v v6) (pen_lt hp lt), lN_i32, nI_and255, pen_get lt v6]
      have fin : ∀ a b c : Int32, a = cT X v → b = cM X v → c = cS X v → WP ((h_stI (mkM J' K) 19 (nI v) a).bind fun h9 => (h_stI h9 20 (nI v) b).bind fun h15 => (h_stI h15 21 (nI v) c).bind fun h21 => self (nI v + 1) h21) (fun q => ∃ J', q = (nI p, mkM J' K) ∧ (∀ b, b < 19 ∨ 21 < b → J' b = J b) ∧ ∀ v, v < 6 → J' 19 v = cT X v ∧ J' 20 v = cM X v ∧ J' 21 v = cS X v) := by
        rintro a b c rfl rfl rfl
        rw [m_st19 v6, Option.bind_some, m_st20 v6, Option.bind_some, m_st21 v6, Option.bind_some]
        refine ih (r - 1) _ _ (by omega) ⟨v + 1, _, by omega, nI_1 v, rfl, fun b hb => by rw [ur_ne (by omega), ur_ne (by omega), ur_ne (by omega), fr b hb], fun u hu => ?_⟩
        rw [ur_ne (show (19 : Nat) ≠ 21 by decide), ur_ne (show (19 : Nat) ≠ 20 by decide), ur_at, ur_ne (show (20 : Nat) ≠ 21 by decide), ur_at, ur_at, ur_ne (show (20 : Nat) ≠ 19 by decide), ur_ne (show (21 : Nat) ≠ 20 by decide), ur_ne (show (21 : Nat) ≠ 19 by decide)]
        by_cases e : u = v
        · rw [e, up_at, up_at, up_at]; exact ⟨rfl, rfl, rfl⟩
        · rw [up_ne e, up_ne e, up_ne e]; exact s u (by omega)
      rw [show (6 : Int32) = nI 6 from rfl, if_neg (nI_ge (by omega) (by omega)), m_r35, Option.bind_some, cell]
      by_cases cx : X v = 1
      · have e : cR X v = 224 := by unfold cR; rw [if_pos cx]
        have t : cT X v = -1 := by unfold cT; rw [if_pos cx]
        rw [e, if_pos (by decide)]
        have := fin (-1) 0 0 t.symm (by unfold cM; rw [if_pos cx]) (by unfold cS; rw [if_pos cx])
        rw [m_st19 v6, Option.bind_some] at this ⊢
        rw [m_r36, Option.bind_some, m_r35, Option.bind_some, m_ld19 v6, Option.bind_some, ur_at, up_at, if_pos rfl]
        rw [m_st20 v6, Option.bind_some] at this ⊢
        rw [m_r37, Option.bind_some, m_r35, Option.bind_some, m_ld19 v6, Option.bind_some, ur_ne (by decide), ur_at, up_at, if_pos rfl]
        exact this
      · have e : cR X v = fs X v * 32 + hw X v * 8 + ss X v := by unfold cR; rw [if_neg cx]
        have t : cT X v = nI (fs X v) := by unfold cT; rw [if_neg cx]
        have tn : nI (fs X v) ≠ -1 := nI_ne_m1 (by omega)
        obtain ⟨d1, d2, d3⟩ := cr_d _ fl _ c2 _ sl
        rw [e, d1, d2, d3, if_neg (show ¬ nI (fs X v) = 7 from fun z => by have := nI_inj (b := 7) (by omega) (by omega) z; omega)]
        have em : cM X v = if nI (hw X v) = 3 then 8 else 2 * nI (hw X v) := by
          unfold cM
          rw [if_neg cx]
          have := (hw_s _ (CF_how g v6)).2.2.2 cx
          rw [show lw6 (bt (X v)) = hw X v from rfl] at this
          rw [this]
          by_cases q : hw X v = 3
          · rw [if_pos q, if_pos (by rw [q]; rfl)]
          · rw [if_neg q, if_neg (show ¬ nI (hw X v) = 3 from fun z => q (nI_inj (b := 3) (by omega) (by omega) z))]
        have := fin (nI (fs X v)) (if nI (hw X v) = 3 then 8 else 2 * nI (hw X v)) (nI (ss X v)) t.symm em.symm (by unfold cS; rw [if_neg cx])
        rw [m_st19 v6, Option.bind_some] at this ⊢
        rw [m_r36, Option.bind_some, m_r35, Option.bind_some, m_ld19 v6, Option.bind_some, ur_at, up_at, if_neg tn]
        by_cases q : nI (hw X v) = 3
        · rw [if_pos q] at this ⊢
          rw [m_st20 v6, Option.bind_some] at this ⊢
          rw [m_r37, Option.bind_some, m_r35, Option.bind_some, m_ld19 v6, Option.bind_some, ur_ne (by decide), ur_at, up_at, if_neg tn]
          exact this
        · rw [if_neg q] at this ⊢
          rw [m_st20 v6, Option.bind_some] at this ⊢
          rw [m_r37, Option.bind_some, m_r35, Option.bind_some, m_ld19 v6, Option.bind_some, ur_ne (by decide), ur_at, up_at, if_neg tn]
          exact this
  obtain ⟨_, e, J', rfl, q⟩ := main
  exact ⟨J', e, q⟩
end CodeOf
