/-! WHAT IS TOLD OF A FIXED POINT -/
def rS (P : Nat → Int32) (S : PS) (lo i : Nat) : Int32 := match S i with
  | none => 0
  | some X => if i = lo then 0 else rsn P i X
def wcS (P : Nat → Int32) (S : PS) (lo n : Nat) : Nat := cnt n (fun i => decide (rS P S lo i ≠ 0))
def fwS (P : Nat → Int32) (S : PS) (lo : Nat) : Nat → Int32
  | 0 => -1
  | n + 1 => if fwS P S lo n = -1 then (if rS P S lo n = 0 then -1 else nI n) else fwS P S lo n
def ccS (S : PS) (n : Nat) : Nat := cnt n (fun i => (S i).isSome)
theorem wcS_s {P : Nat → Int32} {S : PS} {lo n : Nat} : wcS P S lo (n + 1) = wcS P S lo n + if rS P S lo n = 0 then 0 else 1 := by
  show cnt n _ + _ = _
  unfold wcS
  by_cases c : rS P S lo n = 0
  · simp [c]
  · simp [c]
theorem ccS_s {S : PS} {n : Nat} : ccS S (n + 1) = ccS S n + if (S n).isSome then 1 else 0 := rfl
/-- what a flow knows when it is solved -/
def FlowOK (P : Nat → Int32) (lo f : Nat) (I : Nat → Nat → Int32) : Prop :=
  LF (TC P lo) 0 (sC f I) ∧ FS f I ∧ I f 3 = nI (wcS P (sC f I) lo (nT P + 1)) ∧ I f 4 = fwS P (sC f I) lo (nT P + 1) ∧ I f 5 = nI (ccS (sC f I) (nT P + 1)) ∧ ∀ i, i ≤ nT P → I (f + 3) i = rS P (sC f I) lo i
section Judge
variable {sw : Bool} {I I0 I' : Nat → Nat → Int32} {L : Nat → Nat → Int64} {p fu f : Nat} {P : Nat → Int32} {D : Nat → Nat} {lo k : Nat}
theorem sC_eq (e2 : I' (f + 2) = I (f + 2)) (e8 : ∀ i, i < 41 → I' (f + 8 + 2 * i) = I (f + 8 + 2 * i)) : sC f I' = sC f I := by
  funext j
  unfold sC
  by_cases c : j < 41
  · rw [e2, e8 j c]
  · rw [if_neg (fun q => c q.1), if_neg (fun q => c q.1)]
theorem c_judge {a2 : Int32} (hf : isF f) (hp : isP p) (hC : CR p I P D) (hA : WFA P D) (ha : ∀ i, i ≤ nT P → (nI i = a2 ↔ i = lo)) (hfu : 42 < fu) (hL : LF (TC P lo) 0 (sC f I)) (hF : FS f I) (h3 : ∀ j, j < 41 → I (f + 3) j = 0) :
    WP (MX0_judge fu f p a2 (mkC sw I L)) (fun h => ∃ I', h = mkC sw I' L ∧ FlowOK P lo f I' ∧ ∀ b, b < f ∨ f + 88 < b ∨ b = f + 1 → I' b = I b) := by
  have h40 := hA.1.1.2.2.2
  have fp := isF_P hf hp
  simp only [MX0_judge, c0_g hf, c0_pI hf, Option.bind_some]
  generalize hI1 : ur (ur (ur I f (up (I f) 3 0)) f (up (ur I f (up (I f) 3 0) f) 4 (-1))) f (up (ur (ur I f (up (I f) 3 0)) f (up (ur I f (up (I f) 3 0) f) 4 (-1)) f) 5 0) = I1
  have r0 : I1 f = up (up (up (I f) 3 0) 4 (-1)) 5 0 := by rw [← hI1]; simp only [ur_ur, ur_at]
  have ro : ∀ b, b ≠ f → I1 b = I b := fun b hb => by rw [← hI1]; simp only [ur_ur]; rw [ur_ne hb]
  clear hI1
  refine wh2_wp (fun r v h => ∃ n I2, n + r = nT P + 1 ∧ v = nI n ∧ h = mkC sw I2 L ∧ I2 f 3 = nI (wcS P (sC f I) lo n) ∧ I2 f 4 = fwS P (sC f I) lo n ∧ I2 f 5 = nI (ccS (sC f I) n) ∧ (∀ i, i < n → I2 (f + 3) i = rS P (sC f I) lo i) ∧ (∀ i, n ≤ i → i < 41 → I2 (f + 3) i = 0) ∧ ∀ b, b ≠ f → b ≠ f + 3 → I2 b = I b) ?_ fu (nT P + 1) _ _ (by omega) ⟨0, I1, by omega, rfl, rfl, by rw [r0]; rfl, by rw [r0]; rfl, by rw [r0]; rfl, fun i h => by omega, fun i _ hi => by rw [ro _ (by omega), h3 i hi], fun b hb _ => ro b hb⟩
  rintro r v h self ⟨n, I2, hn, rfl, rfl, w3, w4, w5, wr, wz, wo⟩ ih
  have ep : I2 p = I p := wo p (by omega) (by omega)
  have e2 : I2 (f + 2) = I (f + 2) := wo _ (by omega) (by omega)
  simp only [MX0_judge_B17, c4_fI hp, c0_r1 hf, c0_fI hf, Option.bind_some, jn]
  rw [ep, hC.2.2.1, hA.1.1.2.2.1]
  by_cases hr : r = 0
  · subst hr
    rw [if_pos (nI_lt (by omega) (by omega))]
    have eS : sC f I2 = sC f I := sC_eq e2 (fun i hi => wo _ (by omega) (by omega))
    have en : n = nT P + 1 := by omega
    subst en
    refine WP_some ⟨I2, rfl, ⟨by rw [eS]; exact hL, fun i hi => ?_, by rw [eS]; exact w3, by rw [eS]; exact w4, by rw [eS]; exact w5, fun i hi => by rw [eS]; exact wr i (by omega)⟩, fun b hb => wo b (by omega) (by omega)⟩
    rw [e2, wo (f + 4) (by omega) (by omega)]
    exact hF i hi
  · rw [if_neg (nI_nlt (by omega) (by omega)), c0_ld1 hf (by omega), Option.bind_some, e2]
    have step : ∀ I3 : Nat → Nat → Int32, I3 f 3 = nI (wcS P (sC f I) lo (n + 1)) → I3 f 4 = fwS P (sC f I) lo (n + 1) → I3 f 5 = nI (ccS (sC f I) (n + 1)) → I3 (f + 3) n = rS P (sC f I) lo n → (∀ i, i ≠ n → I3 (f + 3) i = I2 (f + 3) i) → (∀ b, b ≠ f → b ≠ f + 3 → I3 b = I2 b) → WP (self (nI n + 1) (mkC sw I3 L)) (fun h => ∃ I', h = mkC sw I' L ∧ FlowOK P lo f I' ∧ ∀ b, b < f ∨ f + 88 < b ∨ b = f + 1 → I' b = I b) := by
      intro I3 a3 a4 a5 an ai ao
      refine ih (r - 1) _ _ (by omega) ⟨n + 1, I3, by omega, nI_1 n, rfl, a3, a4, a5, fun i hi => ?_, fun i h1 h2 => ?_, fun b b1 b2 => by rw [ao b b1 b2, wo b b1 b2]⟩
      · by_cases c : i = n
        · rw [c, an]
        · rw [ai i c, wr i (by omega)]
      · rw [ai i (by omega), wz i (by omega) h2]
    by_cases c0 : I (f + 2) n = 0
    · have S0 : sC f I n = none := by unfold sC; rw [if_neg (fun q => q.2 c0)]
      have R0 : rS P (sC f I) lo n = 0 := by unfold rS; rw [S0]
      rw [if_pos c0]
      refine step I2 (by rw [wcS_s, if_pos R0]; exact w3) ?_ (by rw [ccS_s, S0]; exact w5) (by rw [R0]; exact wz n (by omega) (by omega)) (fun _ _ => rfl) (fun _ _ _ => rfl)
      rw [w4]
      show _ = if fwS P (sC f I) lo n = -1 then _ else _
      rw [if_pos R0]
      split
      · rename_i q; exact q
      · rfl
    · have Sn : sC f I n = some (I (f + 8 + 2 * n)) := by unfold sC; rw [if_pos ⟨by omega, c0⟩]
      have gX : GX (I (f + 8 + 2 * n)) := hL.2.1 n _ Sn
      have Rn : rS P (sC f I) lo n = if n = lo then 0 else rsn P n (I (f + 8 + 2 * n)) := by unfold rS; rw [Sn]
      have Cn : ccS (sC f I) (n + 1) = ccS (sC f I) n + 1 := by rw [ccS_s, Sn]; rfl
      rw [if_neg c0, c0_pI hf, Option.bind_some, c0_r2 hf, Option.bind_some, c0_r0 hf, Option.bind_some, c0_hold hf (by omega), Option.bind_some]
      have CR3 : CR p (ur I2 f (up (I2 f) 5 (I2 f 5 + 1))) P D := CR_fr hp hC (fun b b1 b2 => by rw [ur_ne (by omega), wo b (by omega) (by omega)])
      have eX : ur I2 f (up (I2 f) 5 (I2 f 5 + 1)) (f + 7 + 2 * n + 1) = I (f + 8 + 2 * n) := by rw [show f + 7 + 2 * n + 1 = f + 8 + 2 * n by omega, ur_ne (by omega), wo _ (by omega) (by omega)]
      have rea := c_reasonAt (sw := sw) (I := ur I2 f (up (I2 f) 5 (I2 f 5 + 1))) (L := L) (fu := fu) (pl := n) (isF_H hf (show n < 41 by omega)) hp CR3 hA (by omega) (by rw [eX]; exact gX.1) (by omega)
      rw [eX] at rea
      rw [rea, Option.bind_some]
      have fin : ∀ w : Int32, w = rS P (sC f I) lo n → WP ((h_stI (mkC sw (ur I2 f (up (I2 f) 5 (I2 f 5 + 1))) L) (f + 3) (nI n) w).bind fun h17 => (h_fR 0 h17 f 2).bind fun x18 => (h_ldI h17 x18 (nI n)).bind fun x19 => if x19 = 0 then self (nI n + 1) h17 else (h_fI 0 h17 f 3).bind fun x20 => (h_pI 0 h17 f 3 (x20 + 1)).bind fun h21 => (h_fI 0 h21 f 4).bind fun x22 => if x22 = -1 then (h_pI 0 h21 f 4 (nI n)).bind fun h25 => self (nI n + 1) h25 else (h_pI 0 h21 f 4 x22).bind fun h25 => self (nI n + 1) h25) (fun h => ∃ I', h = mkC sw I' L ∧ FlowOK P lo f I' ∧ ∀ b, b < f ∨ f + 88 < b ∨ b = f + 1 → I' b = I b) := by
        intro w hw
        rw [c0_st2 hf (by omega), Option.bind_some, c0_r2 hf, Option.bind_some, c0_ld2 hf (by omega), Option.bind_some, ur_at, up_at]
        generalize hI3 : ur (ur I2 f (up (I2 f) 5 (I2 f 5 + 1))) (f + 3) (up (ur I2 f (up (I2 f) 5 (I2 f 5 + 1)) (f + 3)) n w) = I3
        have s0 : I3 f = up (I2 f) 5 (I2 f 5 + 1) := by rw [← hI3, ur_ne (by omega), ur_at]
        have s3 : I3 (f + 3) = up (I2 (f + 3)) n w := by rw [← hI3, ur_at, ur_ne (by omega)]
        have so : ∀ b, b ≠ f → b ≠ f + 3 → I3 b = I2 b := fun b b1 b2 => by rw [← hI3, ur_ne b2, ur_ne b1]
        clear hI3
        have f5 : I3 f 5 = nI (ccS (sC f I) (n + 1)) := by rw [s0, up_at, w5, Cn, nI_1]
        have f3 : I3 f 3 = I2 f 3 := by rw [s0, up_ne (by decide)]
        have f4 : I3 f 4 = I2 f 4 := by rw [s0, up_ne (by decide)]
        by_cases cw : w = 0
        · rw [if_pos cw]
          refine step I3 (by rw [f3, wcS_s, if_pos (by rw [← hw]; exact cw)]; exact w3) ?_ f5 (by rw [s3, up_at]; exact hw) (fun i hi => by rw [s3, up_ne hi]) so
          rw [f4, w4]
          show _ = if fwS P (sC f I) lo n = -1 then (if rS P (sC f I) lo n = 0 then -1 else nI n) else _
          have R0 : rS P (sC f I) lo n = 0 := by rw [← hw]; exact cw
          rw [if_pos R0]
          split
          · rename_i q; exact q
          · rfl
        · have Rne : ¬ rS P (sC f I) lo n = 0 := by rw [← hw]; exact cw
          rw [if_neg cw, c0_fI hf, Option.bind_some, c0_pI hf, Option.bind_some, c0_fI hf, Option.bind_some, c0_pI hf, c0_pI hf, Option.bind_some, Option.bind_some, ur_at, up_ne (show (4 : Nat) ≠ 3 by decide), f4, w4]
          have last : ∀ q : Int32, q = fwS P (sC f I) lo (n + 1) → WP (self (nI n + 1) (mkC sw (ur (ur I3 f (up (I3 f) 3 (I3 f 3 + 1))) f (up (up (I3 f) 3 (I3 f 3 + 1)) 4 q)) L)) (fun h => ∃ I', h = mkC sw I' L ∧ FlowOK P lo f I' ∧ ∀ b, b < f ∨ f + 88 < b ∨ b = f + 1 → I' b = I b) := by
            intro q hq
            rw [ur_ur]
            refine step _ ?_ ?_ ?_ ?_ (fun i hi => by rw [ur_ne (by omega), s3, up_ne hi]) (fun b b1 b2 => by rw [ur_ne b1, so b b1 b2])
            · rw [ur_at, up_ne (by decide), up_at, f3, w3, wcS_s, if_neg Rne, nI_1]
            · rw [ur_at, up_at, hq]
            · rw [ur_at, up_ne (by decide), up_ne (by decide), f5]
            · rw [ur_ne (by omega), s3, up_at, hw]
          by_cases cf : fwS P (sC f I) lo n = -1
          · rw [if_pos cf]
            refine last (nI n) ?_
            show _ = if fwS P (sC f I) lo n = -1 then (if rS P (sC f I) lo n = 0 then -1 else nI n) else _
            rw [if_pos cf, if_neg Rne]
          · rw [if_neg cf]
            refine last _ ?_
            show _ = if fwS P (sC f I) lo n = -1 then (if rS P (sC f I) lo n = 0 then -1 else nI n) else _
            rw [if_neg cf]
      by_cases cl : nI n = a2
      · rw [if_pos cl]
        exact fin 0 (by rw [Rn, if_pos ((ha n (by omega)).mp cl)])
      · rw [if_neg cl]
        exact fin _ (by rw [Rn, if_neg (fun q => cl ((ha n (by omega)).mpr q))])
theorem c_solve {a2 : Int32} (hf : isF f) (hp : isP p) (hC : CR p I P D) (hA : WFA P D) (ha : ∀ i, i ≤ nT P → (nI i = a2 ↔ i = lo)) (hfu : 6000 < fu) :
    WP (MX0_solve fu f p a2 (mkC sw I L)) (fun h => ∃ I', h = mkC sw I' L ∧ FlowOK P lo f I' ∧ ∀ b, b < f ∨ f + 88 < b → I' b = I b) := by
  have fp := isF_P hf hp
  simp only [MX0_solve, c0_g hf, jn]
  refine c_flow (F := fun h8 => (MX0_judge fu f p a2 h8).bind fun h10 => some h10) hf hp hC hA (fun i hi => ha i (by omega)) hfu (fun I1 h1 h2 h3 h4 => ?_)
  obtain ⟨_, e, I2, rfl, g1, g2⟩ := c_judge (sw := sw) (I := I1) (L := L) (fu := fu) hf hp (CR_fr hp hC (fun b b1 b2 => h4 b (by omega))) hA ha (by omega) h1 h2 h3
  rw [e, Option.bind_some]
  exact WP_some ⟨I2, rfl, g1, fun b hb => by rw [g2 b (by omega), h4 b (by omega)]⟩
end Judge
