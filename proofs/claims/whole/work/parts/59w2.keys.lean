theorem lb_low : ∀ n, n < 64 → MX1_lowestBit (nI n) = some (nI (lw6 (fun w => n.testBit w))) := by decide +kernel
theorem nI_self (x : Int32) : x = nI x.toBitVec.toNat := by
  apply Int32.toBitVec_inj.mp
  show x.toBitVec = BitVec.ofNat 32 x.toBitVec.toNat
  simp
theorem c_lowest {x : Int32} (h : ∀ t, 6 ≤ t → bt x t = false) : MX1_lowestBit x = some (nI (lw6 (bt x))) := by
  have l : x.toBitVec.toNat < 2 ^ 6 := Nat.lt_pow_two_of_testBit _ (fun t ht => h t ht)
  have := lb_low x.toBitVec.toNat l
  rw [← nI_self] at this
  exact this
theorem cl_6 : ∀ h, h < 4 → (nI h <<< ((6 : Int32) &&& 31)).toInt64 = lN (h * 64) := by decide +kernel
theorem cl_3 : ∀ s, s < 6 → (nI s <<< ((3 : Int32) &&& 31)).toInt64 = lN (s * 8) := by decide +kernel
theorem cl_0 : ∀ f, f < 256 → (nI f).toInt64 = lN f := by decide +kernel
theorem kp_d : ∀ v, v < 6 → ((((8 : Int32) * ((5 : Int32) - nI v)).toInt64 &&& 63).toBitVec.smod 64).toNat = 8 * (5 - v) := by decide +kernel
theorem kp_7 : ∀ h, h < 4 → ∀ s, s < 6 → ∀ f, f < 6 → nI (h * 64 + s * 8 + f) &&& 7 = nI f ∧ (1 : Int32) <<< ((nI (h * 64 + s * 8 + f) >>> ((6 : Int32) &&& 31)) &&& 31) = b1 h ∧ (1 : Int32) <<< (((nI (h * 64 + s * 8 + f) >>> ((3 : Int32) &&& 31)) &&& 7) &&& 31) = b1 s := by decide +kernel
section Keys
variable {sw : Bool} {I : Nat → Nat → Int32} {L : Nat → Nat → Int64} {J J' : Nat → Nat → Int32} {K : Nat → Nat → Int64} {fu v w p x : Nat} {D : Nat → Nat} {X P : Nat → Int32} {c : Nat → Nat}
theorem pen_mono : ∀ k, pen p c v ≤ pen p c (v + k) := by
  intro k
  induction k with
  | zero => exact Nat.le_refl _
  | succ k ih =>
    have : pen p c (v + (k + 1)) = pen p c (v + k) * 256 + c (v + k) := rfl
    omega
theorem pen_le6 (hp : p ≤ 40) (h : ∀ v, v < 6 → c v < 256) (hv : v ≤ 6) : pen p c v < 2 ^ 62 := by
  have a := pen_mono (p := p) (c := c) (v := v) (6 - v)
  rw [show v + (6 - v) = 6 by omega] at a
  have := pen_lt hp h
  omega
theorem GX_low (h : GX X) (hv : v < 6) : (∀ t, 6 ≤ t → bt (X v) t = false) ∧ (∀ t, 6 ≤ t → bt (X (6 + v)) t = false) ∧ ∀ t, 6 ≤ t → bt (X (18 + v)) t = false :=
  ⟨fun t ht => h.1 v t hv (by omega), fun t ht => h.2.1 (6 + v) t (by omega) (by omega) ht, fun t ht => h.2.1 (18 + v) t (by omega) (by omega) ht⟩
theorem c_key (hA : WFA P D) (hx : isH x) (g : GC P (I (x + 1))) (hp : p ≤ 40) (hfu : 6 < fu) : MX1_key fu x (nI p) (mkC sw I L) = some (kC p (I (x + 1))) := by
  have gx := CF_GX hA g
  have lt := fun v hv => cC_lt (v := v) hA g hv
  simp only [MX1_key, c1_g hx]
  refine wh2_rule (fun r a n => ∃ v, v + r = 6 ∧ n = nI v ∧ a = lN (pen p (cC (I (x + 1))) v)) ?_ fu 6 _ _ (by omega) ⟨0, rfl, rfl, cl_0 p (by omega)⟩
  rintro r a n self ⟨v, hv, rfl, rfl⟩ ih
  simp only [MX1_key_B6, c1_r0 hx, Option.bind_some, ix_0, ix_c (show (6 : Int32) = nI 6 from rfl), ix_c (show (18 : Int32) = nI 18 from rfl)]
  by_cases hr : r = 0
  · subst hr
    rw [show (6 : Int32) = nI 6 from rfl, if_pos (nI_le (by omega) (by omega)), show v = 6 by omega]
    rfl
  · have v6 : v < 6 := by omega
    obtain ⟨g1, g2, g3⟩ := GX_low gx v6
    rw [show (6 : Int32) = nI 6 from rfl, if_neg (nI_ge (by omega) (by omega)), c1_ld hx (by omega), Option.bind_some, c_lowest g1, Option.bind_some, c1_ld hx (by omega), Option.bind_some, c_lowest g2, Option.bind_some, c1_ld hx (by omega), Option.bind_some, c_lowest (fun t ht => by rw [b_set (by omega), g3 t ht, Bool.false_or]; exact decide_eq_false (by omega)), Option.bind_some]
    refine ih (r - 1) _ _ (by omega) ⟨v + 1, by omega, nI_1 v, ?_⟩
    have e : lw6 (bt (I (x + 1) (18 + v) ||| ((1 : Int32) <<< (nI v &&& 31)))) = fs (I (x + 1)) v := by
      unfold fs
      congr 1
      funext t
      rw [b_set (by omega)]
    have h4 := (GC_cell hA g v6).1.2.1
    have s6 := ss_lt (X := I (x + 1)) (v := v)
    have f6 := fs_lt (X := I (x + 1)) (v := v)
    rw [e, show lw6 (bt (I (x + 1) v)) = hw (I (x + 1)) v from rfl, show lw6 (bt (I (x + 1) (6 + v))) = ss (I (x + 1)) v from rfl]
    have pl := pen_le6 (v := v + 1) hp lt (by omega)
    have pe : pen p (cC (I (x + 1))) (v + 1) = pen p (cC (I (x + 1))) v * 256 + (hw (I (x + 1)) v * 64 + ss (I (x + 1)) v * 8 + fs (I (x + 1)) v) := rfl
    rw [pe] at pl ⊢
    rw [show nI 6 = (6 : Int32) from rfl, g_shl (k := 8) (p := 256) (by decide) (by decide) (by decide) (by omega), cl_6 _ h4, cl_3 _ s6, cl_0 _ (by omega), g_or (k := 8) (p := 256) (by decide) (by omega) (by omega)]
    rw [show pen p (cC (I (x + 1))) v * 256 + hw (I (x + 1)) v * 64 = (pen p (cC (I (x + 1))) v * 4 + hw (I (x + 1)) v) * 64 by omega, g_or (k := 6) (p := 64) (by decide) (by omega) (by omega)]
    rw [show (pen p (cC (I (x + 1))) v * 4 + hw (I (x + 1)) v) * 64 + ss (I (x + 1)) v * 8 = ((pen p (cC (I (x + 1))) v * 4 + hw (I (x + 1)) v) * 8 + ss (I (x + 1)) v) * 8 by omega, g_or (k := 3) (p := 8) (by decide) (by omega) (by omega)]
    congr 1
    omega
theorem c_keyPart {n : Nat} (hn : n < 2 ^ 62) (hv : v < 6) : MX1_keyPart (lN n) (nI v) = some (nI (n / 2 ^ (8 * (5 - v)) % 256)) := by
  unfold MX1_keyPart
  rw [pf_shr (kp_d v hv) hn, lN_i32, nI_and255]
theorem c_kpart (hA : WFA P D) (g : GC P X) (hp : p ≤ 40) (hv : v < 6) : MX1_keyPart (kC p X) (nI v) = some (nI (cC X v)) := by
  have lt := fun v hv => cC_lt (v := v) hA g hv
  unfold kC
  rw [c_keyPart (pen_lt hp lt) hv, pen_get lt hv]
theorem place_of {n : Nat} (hn : n < 2 ^ 62) : (lN n >>> ((48 : Int32).toInt64 &&& 63)).toInt32 = nI (n / 2 ^ 48) := by
  rw [pf_shr (d := 48) (by decide) hn, lN_i32]
theorem c_placeOf (hA : WFA P D) (g : GC P X) (hp : p ≤ 40) : MX1_placeOf (kC p X) = some (nI p) := by
  have lt := fun v hv => cC_lt (v := v) hA g hv
  unfold MX1_placeOf kC
  rw [place_of (pen_lt hp lt), pen_pl lt]
end Keys
