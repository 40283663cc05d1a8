/-! THE CLASS'S SEARCH: things, what is left, a configuration looked at -/
theorem below : ∀ v, v < 6 → ∀ i, i < 32 → bt (((1 : Int32) <<< (nI v &&& 31)) - 1) i = decide (i < v) := by decide +kernel
theorem fs_first {X : Nat → Int32} {v : Nat} (hv : v < 6) : fs X v = v ↔ ∀ w, w < v → bt (X (18 + v)) w = false := by
  obtain ⟨q1, q2, q3⟩ := lw6_is (f := fun w => bt (X (18 + v)) w || decide (w = v)) hv (by simp)
  constructor
  · intro e w hw
    have := q3 w (by unfold fs at e; omega)
    simp only [Bool.or_eq_false_iff] at this
    exact this.1
  · intro h
    rcases Nat.lt_or_ge (fs X v) v with c | c
    · exfalso
      have a := h _ c
      unfold fs at a c
      rcases Bool.or_eq_true_iff.mp q1 with q | q
      · rw [q] at a; cases a
      · have := of_decide_eq_true q; omega
    · have : fs X v ≤ v := q2
      omega
theorem first_0 {x : Int32} {v : Nat} (hv : v < 6) : x &&& (((1 : Int32) <<< (nI v &&& 31)) - 1) = 0 ↔ ∀ w, w < v → bt x w = false := by
  rw [z_bt]
  constructor
  · intro h w hw
    have := h w
    rw [b_and, below v hv w (by omega), decide_eq_true hw, Bool.and_true] at this
    exact this
  · intro h t
    by_cases c : t < 32
    · rw [b_and, below v hv t c]
      by_cases d : t < v
      · rw [h t d]; rfl
      · rw [decide_eq_false d, Bool.and_false]
    · exact b_big (by omega)
def thq (X : Nat → Int32) (v : Nat) : Bool := decide (X v ≠ 1) && decide (fs X v = v)
theorem cnt_past {f : Nat → Bool} {n : Nat} : ∀ d, (∀ i, n ≤ i → i < n + d → f i = false) → cnt (n + d) f = cnt n f := by
  intro d
  induction d with
  | zero => intro _; rfl
  | succ d ih =>
    intro h
    show cnt (n + d) f + (if f (n + d) then 1 else 0) = cnt n f
    rw [ih (fun i h1 h2 => h i h1 (by omega)), h (n + d) (by omega) (by omega)]
    rfl
section GoesOn
variable {sw : Bool} {I I' : Nat → Nat → Int32} {L L' : Nat → Nat → Int64} {fu v w p t i c x : Nat} {D : Nat → Nat} {X Y P l : Nat → Int32} {s : Sch} {y z : Int32}
theorem thg_e24 (h : e24 X Y) : thg X = thg Y := cnt_eq (fun v hv => by
  obtain ⟨-, -, e⟩ := cells_e24 h hv
  rw [e, h v (by omega)])
theorem c_things (hA : WFA P D) (hx : isH x) (g : GC P (I (x + 1))) (hfu : 6 < fu) : MX1_things fu x (nI (nV P)) (mkC sw I L) = some (nI (thg (I (x + 1)))) := by
  have h6 := hA.1.1.2.1.2
  have e6 : thg (I (x + 1)) = cnt (nV P) (thq (I (x + 1))) := by
    have := cnt_past (f := thq (I (x + 1))) (n := nV P) (6 - nV P) (fun i h1 h2 => by
      unfold thq
      have : I (x + 1) i = 1 := by
        by_cases q : I (x + 1) i = 1
        · exact q
        · have := CF_lt g (by omega) (fun z => q ((CF_none g (by omega)).mpr z))
          omega
      rw [this]; rfl)
    rw [← this, show nV P + (6 - nV P) = 6 by omega]
    rfl
  rw [e6]
  simp only [MX1_things, c1_g hx]
  refine wh2_rule (fun r a n => ∃ v, v + r = nV P ∧ n = nI v ∧ a = nI (cnt v (thq (I (x + 1))))) ?_ fu (nV P) _ _ (by omega) ⟨0, by omega, rfl, rfl⟩
  rintro r a n self ⟨v, hv, rfl, rfl⟩ ih
  simp only [MX1_things_B4, c1_r0 hx, Option.bind_some, ix_0, ix_c (show (18 : Int32) = nI 18 from rfl), jn]
  by_cases hr : r = 0
  · subst hr
    rw [if_pos (nI_le (by omega) (by omega)), show v = nV P by omega]
  · have v6 : v < 6 := by omega
    rw [if_neg (nI_ge (by omega) (by omega)), c1_ld hx (by omega), Option.bind_some, c1_ld hx (by omega)]
    simp only [Option.bind_some]
    have cs : cnt (v + 1) (thq (I (x + 1))) = cnt v (thq (I (x + 1))) + if thq (I (x + 1)) v then 1 else 0 := rfl
    have go : ∀ b : Bool, thq (I (x + 1)) v = b → self (nI (cnt v (thq (I (x + 1))) + if b then 1 else 0)) (nI v + 1) = some (nI (cnt (nV P) (thq (I (x + 1))))) := by
      intro b e
      refine ih (r - 1) _ _ (by omega) ⟨v + 1, by omega, nI_1 v, ?_⟩
      rw [cs, e]
    by_cases c1 : I (x + 1) (18 + v) &&& (((1 : Int32) <<< (nI v &&& 31)) - 1) = 0
    · have f1 := (fs_first v6).mpr ((first_0 v6).mp c1)
      rw [if_pos c1]
      by_cases c2 : I (x + 1) v = 1
      · rw [if_pos c2]
        exact go false (by unfold thq; rw [c2]; rfl)
      · rw [if_neg c2, if_neg (by decide), nI_1]
        exact go true (by unfold thq; rw [decide_eq_true c2, decide_eq_true f1]; rfl)
    · have f1 : ¬ fs (I (x + 1)) v = v := fun q => c1 ((first_0 v6).mpr ((fs_first v6).mp q))
      rw [if_neg c1]
      have e : thq (I (x + 1)) v = false := by unfold thq; rw [decide_eq_false f1, Bool.and_false]
      by_cases c2 : I (x + 1) v = 1
      · rw [if_pos c2]; exact go false e
      · rw [if_neg c2, if_pos trivial]; exact go false e
theorem c_states (hx : isH x) (hv : v < 6) : MX1_states x (nI v) (mkC sw I L) = some (I (x + 1) (6 + v)) := by
  simp only [MX1_states, c1_g hx, c1_r0 hx, Option.bind_some, ix_c (show (6 : Int32) = nI 6 from rfl)]
  rw [c1_ld hx (by omega), Option.bind_some]
theorem c_noteLeft (hp : isP p) (hC : CR p I P D) (hA : WFA P D) (hi : i ≤ nT P) (hfu : 6 < fu) : WP (MX6_noteLeft fu 214 p (nI i) (mkC sw I L)) (fun h => ∃ l, h = mkC sw (ur I 216 l) L ∧ ∀ k, k < 4 → l k = lf1 P i (I 221) (I 216) k) := by
  have h40 := hA.1.1.2.2.2
  have h6 := hA.1.1.2.1.2
  have h4 := hA.1.1.1.2
  simp only [MX6_noteLeft, c6_g, c4_fI hp, Option.bind_some, jn]
  rw [hC.2.2.1, hA.1.1.2.2.1]
  unfold lf1
  by_cases c : i = nT P
  · rw [if_pos c, if_neg (nI_nlt (by omega) (by omega))]
    refine wh2_wp (fun r n h => ∃ v l, v + r = nV P ∧ n = nI v ∧ h = mkC sw (ur I 216 l) L ∧ ∀ k, k < 4 → l k = lfA P (I 221) (I 216) v k) ?_ fu (nV P) _ _ (by omega) ⟨0, I 216, by omega, rfl, by rw [ur_self], fun k _ => rfl⟩
    rintro r n h self ⟨v, l, hv, rfl, rfl, g⟩ ih
    have ep1 : ur I 216 l p = I p := ur_ne (by rcases hp with q | q <;> rw [q] <;> decide)
    have ep2 : ur I 216 l (p + 13) = I (p + 13) := ur_ne (by rcases hp with q | q <;> rw [q] <;> decide)
    simp only [MX6_noteLeft_B10, c4_fI hp, c6_r8, c4_r2 hp, c6_r13, Option.bind_some]
    rw [ep1, hC.2.1.1, hA.1.1.2.1.1]
    by_cases hr : r = 0
    · subst hr
      rw [if_pos (nI_le (by omega) (by omega))]
      exact WP_some ⟨l, rfl, fun k hk => by rw [g k hk, show v = nV P by omega]⟩
    · obtain ⟨k1, k2⟩ := hA.2.1 v (by omega)
      rw [if_neg (nI_ge (by omega) (by omega)), c4_ld2 hp (by omega), Option.bind_some, ep2, hC.2.1.2 v (by omega), k1, c6_ld8 (by omega), Option.bind_some, c_states (x := 220) isH220 (by omega), Option.bind_some, c6_st8 (by omega), Option.bind_some]
      refine ih (r - 1) _ _ (by omega) ⟨v + 1, _, by omega, nI_1 v, by rw [ur_ur], fun k hk => ?_⟩
      rw [ur_at, show ur I 216 l (220 + 1) = I 221 from ur_ne (by decide)]
      show _ = up _ _ _ k
      by_cases d : k = vK P v
      · rw [d, up_at, up_at, g _ (by omega)]
      · rw [up_ne d, up_ne d, g k hk]
  · rw [if_neg c, if_pos (nI_lt (by omega) (by omega)), c4_r4 hp, Option.bind_some, c4_ld4 hp (by omega), Option.bind_some]
    obtain ⟨d1, d2, -⟩ := hC.2.2.2 i (by omega)
    obtain ⟨so, h10, eso, es, o1, -, -⟩ := op_of hA.1 hA.2.1 hA.2.2 (show i < nT P by omega)
    unfold lft
    rw [es, d1, eso]
    by_cases e5 : so = 5
    · subst e5
      obtain ⟨la, ea⟩ := o1 (by decide)
      obtain ⟨k1, k2⟩ := hA.2.1 _ la
      clear o1
      generalize hda : nN (P (373 + i)) = a at *
      rw [if_pos (show nI 5 = 5 from rfl), c6_r13, Option.bind_some, c4_r5 hp, Option.bind_some, c4_ld5 hp (by omega), Option.bind_some, d2, ea]
      have al : MX1_isAlone 220 (nI (a)) (mkC sw I L) = some (if I 221 (18 + a) = 0 then 1 else 0) := by
        simp only [MX1_isAlone, c1_g isH220, c1_r0 isH220, Option.bind_some, ix_c (show (18 : Int32) = nI 18 from rfl)]
        rw [c1_ld isH220 (by omega), Option.bind_some]
        split <;> rfl
      rw [al, Option.bind_some]
      by_cases ca : I 221 (18 + a) = 0
      · rw [if_pos ca, if_neg (by decide), c6_r8, Option.bind_some, c4_r2 hp, Option.bind_some, c4_ld2 hp (by omega), Option.bind_some, hC.2.1.2 _ la, k1, c6_ld8 (by omega), Option.bind_some, c_states isH220 (by omega), Option.bind_some, c6_st8 (by omega), Option.bind_some]
        refine WP_some ⟨_, rfl, fun k hk => ?_⟩
        rw [if_pos ⟨rfl, ca⟩]
      · rw [if_neg ca, if_pos rfl]
        refine WP_some ⟨I 216, by rw [ur_self], fun k hk => ?_⟩
        rw [if_neg (fun q => ca q.2)]
    · rw [if_neg (show ¬ nI so = 5 from fun q => e5 (nI_inj (b := 5) (by omega) (by decide) q))]
      refine WP_some ⟨I 216, by rw [ur_self], fun k hk => ?_⟩
      rw [if_neg (fun q => e5 q.1)]
end GoesOn
