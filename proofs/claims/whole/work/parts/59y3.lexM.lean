/-! LOAD: the reference's tokens -/
def tapM (b : Nat → Nat) (n : Nat) (J : Nat → Nat → Int32) : Prop := J 0 8 = nI n ∧ ∀ j, j < n → J 1 j = nI (b j)
def knd (t : Nat) : Int32 := if t ≤ 18 then 2 else if t ≤ 21 then 3 else if t = 22 then 0 else 1
/-- the reference stands at the token at p -/
def LM (b : Nat → Nat) (n p : Nat) (J : Nat → Nat → Int32) (K : Nat → Nat → Int64) : Prop := tapM b n J ∧ J 0 9 = nI p ∧ J 0 10 = nI (qk b n p) ∧ J 0 11 = knd (tk b n p) ∧ (tk b n p ≤ 18 → K 0 15 = lN (wv 27 b p (wE b n p - p))) ∧ (19 ≤ tk b n p → tk b n p ≤ 21 → J 0 12 = nI (b p) ∧ tk b n p = sgT (b p))
theorem let_t : ∀ c, c < 256 → MX9_isLetter (nI c) = some (if ltr c then 1 else 0) := by decide +kernel
theorem let_m : MX9_isLetter (-1) = some 0 := by decide
section LexM
variable {J : Nat → Nat → Int32} {K : Nat → Nat → Int64} {fu n p q : Nat} {b : Nat → Nat}
theorem m_byteAt {e : Nat} (hn : n ≤ 900) (hT : tapM b n J) (he : e ≤ n) : MX9_byteAt 0 (nI e) (mkM J K) = some (if e < n then nI (b e) else -1) := by
  simp only [MX9_byteAt, m_g, m_fI, m_r0, Option.bind_some]
  rw [hT.1]
  by_cases c : e < n
  · rw [if_neg (nI_ge c (by omega)), m_ld1 (by omega), Option.bind_some, hT.2 e c, if_pos c]
  · rw [if_pos (nI_le (by omega) (by omega)), if_neg c]
/-- what a step of the reference's reader changes -/
def frY (J J' : Nat → Nat → Int32) (K K' : Nat → Nat → Int64) : Prop := (∀ b, b ≠ 0 → J' b = J b) ∧ (∀ b, b ≠ 0 → K' b = K b) ∧ ∀ k, k < 9 ∨ 12 < k → J' 0 k = J 0 k
theorem m_lex (hn : n ≤ 900) (hb : ∀ j, j < n → b j < 256) (hT : tapM b n J) (hq : q ≤ n) (h5 : J 0 10 = nI q) (hfu : 1000 < fu) : ∃ J' K', MX9_go fu 0 (mkM J K) = some (mkM J' K') ∧ LM b n (lexP b n q) J' K' ∧ frY J J' K K' := by
  have main : WP (MX9_go fu 0 (mkM J K)) (fun h => ∃ J' K', h = mkM J' K' ∧ LM b n (lexP b n q) J' K' ∧ frY J J' K K') := by
    have tG : ∀ g : Nat → Int32, g 8 = nI n → tapM b n (ur J 0 g) := fun g h => ⟨by rw [ur_at, h], fun j hj => by rw [ur_ne (by decide)]; exact hT.2 j hj⟩
    simp only [MX9_go, m_g, jn]
    refine wh1_wp (fun r h => ∃ e g, e + r = n ∧ h = mkM (ur J 0 g) K ∧ g 10 = nI e ∧ (∀ k, k ≠ 10 → g k = J 0 k) ∧ lexP b n e = lexP b n q) ?_ fu (n - q) _ (by omega) ⟨q, J 0, by omega, by rw [ur_self], h5, fun _ _ => rfl, rfl⟩
    rintro r h self ⟨e, g, he, rfl, k5, kg, kp⟩ ih
    have g8 : g 8 = nI n := by rw [kg 8 (by decide), hT.1]
    simp only [MX9_go_B0, m_fI, Option.bind_some, jn]
    rw [ur_at, k5, m_byteAt hn (tG g g8) (by omega), Option.bind_some]
    simp only [m_fI, m_pI, Option.bind_some, ur_at, ur_ur]
    have fin : lexP b n q = e → WP ((MX9_byteAt 0 ((up g 9 (nI e)) 10) (mkM (ur J 0 (up g 9 (nI e))) K)).bind fun x6 => if x6 = (-1 : Int32) then some (mkM (ur J 0 (up (up g 9 (nI e)) 11 0)) K) else (MX9_isLetter x6).bind fun x7 => if x7 = 0 then (if x6 = 59 then some (mkM (ur J 0 (up (up (up (up g 9 (nI e)) 10 ((up g 9 (nI e)) 10 + 1)) 11 3) 12 x6)) K) else if x6 = 123 then some (mkM (ur J 0 (up (up (up (up g 9 (nI e)) 10 ((up g 9 (nI e)) 10 + 1)) 11 3) 12 x6)) K) else if x6 = 125 then some (mkM (ur J 0 (up (up (up (up g 9 (nI e)) 10 ((up g 9 (nI e)) 10 + 1)) 11 3) 12 x6)) K) else some (mkM (ur J 0 (up (up (up (up g 9 (nI e)) 10 ((up g 9 (nI e)) 10 + 1)) 11 1) 12 x6)) K)) else (h_pL 9 (mkM (ur J 0 (up g 9 (nI e))) K) 0 15 0).bind fun h14 => wh1 (MX9_go_B81 0 (fun h15 => (h_fI 9 h15 0 10).bind fun x17 => (h_fI 9 h15 0 9).bind fun x18 => if x17 - x18 ≤ (8 : Int32) then (h_pI 9 h15 0 11 2).bind fun h21 => some h21 else (h_pI 9 h15 0 11 1).bind fun h21 => some h21)) fu h14) (fun h => ∃ J' K', h = mkM J' K' ∧ LM b n (lexP b n q) J' K' ∧ frY J J' K K') := by
      intro ep
      rw [ep]
      have g10 : (up g 9 (nI e)) 10 = nI e := by rw [up_ne (by decide), k5]
      rw [g10, m_byteAt hn (tG _ (by rw [up_ne (by decide), g8])) (by omega), Option.bind_some]
      obtain ⟨w1, w2, w3⟩ := wE_le (b := b) (n := n) (n - e) e (Nat.le_refl _) (by omega)
      by_cases en : e < n
      · have lb := hb e en
        rw [if_pos en, if_neg (nI_ne_m1 (by omega)), let_t _ lb, Option.bind_some]
        cases cl : ltr (b e)
        · rw [if_pos (by decide), nI_1]
          have ce : wE b n e = e := wE_e (fun z => by rw [cl] at z; exact absurd z.2 (by decide))
          have te : tk b n e = sgT (b e) := by unfold tk; rw [if_neg (by omega), if_pos ce]
          have qe : qk b n e = e + 1 := by unfold qk; rw [if_neg (by omega), if_pos ce]
          have out : ∀ w : Int32, w = knd (sgT (b e)) → LM b n e (ur J 0 (up (up (up (up g 9 (nI e)) 10 (nI (e + 1))) 11 w) 12 (nI (b e)))) K ∧ frY J (ur J 0 (up (up (up (up g 9 (nI e)) 10 (nI (e + 1))) 11 w) 12 (nI (b e)))) K K := by
            intro w hw
            refine ⟨⟨tG _ (by rw [up_ne (by decide), up_ne (by decide), up_ne (by decide), up_ne (by decide), g8]), ?_, ?_, ?_, fun z => ?_, fun _ _ => ⟨?_, te⟩⟩, fun b hb => ur_ne hb, fun _ _ => rfl, fun k hk => ?_⟩
            · rw [ur_at, up_ne (by decide), up_ne (by decide), up_ne (by decide), up_at]
            · rw [ur_at, up_ne (by decide), up_ne (by decide), up_at, qe]
            · rw [ur_at, up_ne (by decide), up_at, te, hw]
            · rw [te] at z
              rcases sgT_is (c := b e) with ⟨y, -⟩ | ⟨y, -⟩ | ⟨y, -⟩ | ⟨y, -⟩ <;> omega
            · rw [ur_at, up_at]
            · rw [ur_at, up_ne (by omega), up_ne (by omega), up_ne (by omega), up_ne (by omega), kg k (by omega)]
          rcases sgT_is (c := b e) with ⟨y, z⟩ | ⟨y, z⟩ | ⟨y, z⟩ | ⟨y, z1, z2, z3⟩
          · rw [if_pos (show nI (b e) = 59 by rw [z]; rfl)]
            obtain ⟨o1, o2⟩ := out 3 (by rw [y]; rfl)
            exact WP_some ⟨_, _, rfl, o1, o2⟩
          · rw [if_neg (show ¬ nI (b e) = 59 by rw [z]; decide), if_pos (show nI (b e) = 123 by rw [z]; rfl)]
            obtain ⟨o1, o2⟩ := out 3 (by rw [y]; rfl)
            exact WP_some ⟨_, _, rfl, o1, o2⟩
          · rw [if_neg (show ¬ nI (b e) = 59 by rw [z]; decide), if_neg (show ¬ nI (b e) = 123 by rw [z]; decide), if_pos (show nI (b e) = 125 by rw [z]; rfl)]
            obtain ⟨o1, o2⟩ := out 3 (by rw [y]; rfl)
            exact WP_some ⟨_, _, rfl, o1, o2⟩
          · rw [if_neg (show ¬ nI (b e) = 59 from fun y => z1 (nI_inj (b := 59) (by omega) (by decide) y)), if_neg (show ¬ nI (b e) = 123 from fun y => z2 (nI_inj (b := 123) (by omega) (by decide) y)), if_neg (show ¬ nI (b e) = 125 from fun y => z3 (nI_inj (b := 125) (by omega) (by decide) y))]
            obtain ⟨o1, o2⟩ := out 1 (by rw [y]; rfl)
            exact WP_some ⟨_, _, rfl, o1, o2⟩
        · rw [if_pos rfl, if_neg (by decide), m_pL, Option.bind_some]
          have ce : ¬ wE b n e = e := by
            rw [wE_s en cl]
            have := (wE_le (b := b) (n := n) (n - (e + 1)) (e + 1) (Nat.le_refl _) (by omega)).1
            omega
          have te : tk b n e = if 8 < wE b n e - e then 23 else rsT (wv 32 b e (wE b n e - e)) := by unfold tk; rw [if_neg (by omega), if_neg ce]
          have qe : qk b n e = wE b n e := by unfold qk; rw [if_neg (by omega), if_neg ce]
          refine wh1_wp (fun r h => ∃ a g' l, a + r = n ∧ e ≤ a ∧ h = mkM (ur J 0 g') (ur K 0 l) ∧ g' 10 = nI a ∧ g' 9 = nI e ∧ (∀ k, k ≠ 9 → k ≠ 10 → g' k = J 0 k) ∧ l 15 = lN (wv 27 b e (min 8 (a - e))) ∧ wE b n a = wE b n e) ?_ fu (n - e) _ (by omega) ⟨e, _, _, by omega, by omega, rfl, g10, up_at, fun k k9 k10 => by rw [up_ne k9, kg k k10], by rw [up_at, show min 8 (e - e) = 0 by omega]; rfl, rfl⟩
          rintro r h self ⟨a, g', l, ha, ea, rfl, k10, k9, kk, kl, kw⟩ ih
          have g8' : g' 8 = nI n := by rw [kk 8 (by decide) (by decide), hT.1]
          have fin2 : wE b n e = a → WP (if g' 10 - g' 9 ≤ (8 : Int32) then some (mkM (ur J 0 (up g' 11 2)) (ur K 0 l)) else some (mkM (ur J 0 (up g' 11 1)) (ur K 0 l))) (fun h => ∃ J' K', h = mkM J' K' ∧ LM b n e J' K' ∧ frY J J' K K') := by
            intro ew
            rw [k10, k9, nI_sub ea, show (8 : Int32) = nI 8 from rfl]
            have out : ∀ w : Int32, w = knd (tk b n e) → LM b n e (ur J 0 (up g' 11 w)) (ur K 0 l) ∧ frY J (ur J 0 (up g' 11 w)) K (ur K 0 l) := by
              intro w hw
              refine ⟨⟨tG _ (by rw [up_ne (by decide), g8']), ?_, ?_, ?_, fun z => ?_, fun z1 z2 => ?_⟩, fun b hb => ur_ne hb, fun b hb => ur_ne hb, fun k hk => ?_⟩
              · rw [ur_at, up_ne (by decide), k9]
              · rw [ur_at, up_ne (by decide), k10, qe, ew]
              · rw [ur_at, up_at, hw]
              · rw [te] at z
                rw [ur_at, kl, ew]
                split at z
                · omega
                · rename_i z2
                  rw [show min 8 (a - e) = a - e by omega]
              · rw [te] at z1 z2
                split at z1
                · rename_i z3; rw [if_pos z3] at z2; omega
                · have := rsT_le (x := wv 32 b e (wE b n e - e)); omega
              · rw [ur_at, up_ne (by omega), kk k (by omega) (by omega)]
            by_cases c8 : a - e ≤ 8
            · rw [if_pos (nI_le c8 (by decide))]
              obtain ⟨o1, o2⟩ := out 2 (by rw [te, if_neg (by omega)]; unfold knd; rw [if_pos rsT_le])
              exact WP_some ⟨_, _, rfl, o1, o2⟩
            · rw [if_neg (nI_ge (by omega) (by omega))]
              obtain ⟨o1, o2⟩ := out 1 (by rw [te, if_pos (by omega)]; rfl)
              exact WP_some ⟨_, _, rfl, o1, o2⟩
          simp only [MX9_go_B81, m_fI, Option.bind_some, jn]
          rw [ur_at, k10, m_byteAt hn (tG g' g8') (by omega), Option.bind_some]
          simp only [m_fI, m_fL, m_pI, m_pL, Option.bind_some, ur_at, ur_ur]
          by_cases an : a < n
          · have lb2 := hb a an
            rw [if_pos an, let_t _ lb2, Option.bind_some]
            cases cl2 : ltr (b a)
            · rw [if_pos (by decide)]
              rw [k10] at fin2
              exact fin2 (by rw [← kw, wE_e (fun z => by rw [cl2] at z; exact absurd z.2 (by decide))])
            · rw [if_pos rfl, if_neg (by decide), k9, nI_sub ea, show (8 : Int32) = nI 8 from rfl]
              have kw2 : wE b n (a + 1) = wE b n e := by rw [← kw, wE_s an cl2]
              obtain ⟨m1, m2⟩ := wv_min (b := b) (B := 27) ea
              by_cases c8 : 8 ≤ a - e
              · rw [if_pos (nI_le c8 (by omega)), nI_1]
                exact ih (r - 1) _ (by omega) ⟨a + 1, _, l, by omega, by omega, rfl, up_at, by rw [up_ne (by decide), k9], fun k k9 k10 => by rw [up_ne k10]; exact kk k k9 k10, by rw [m2 c8]; exact kl, kw2⟩
              · have lr : 96 ≤ b a := by
                  unfold ltr at cl2
                  rw [Bool.and_eq_true, decide_eq_true_eq, decide_eq_true_eq] at cl2
                  omega
                rw [if_neg (nI_ge (by omega) (by decide)), k10, nI_1, kl, show (27 : Int64) = lN 27 from rfl, nI_l (by omega), lN_mul, lN_add, show (96 : Int64) = lN 96 from rfl, lN_sub (by omega)]
                exact ih (r - 1) _ (by omega) ⟨a + 1, _, _, by omega, by omega, rfl, up_at, by rw [up_ne (by decide), k9], fun k k9 k10 => by rw [up_ne k10]; exact kk k k9 k10, by rw [up_at, m1 (by omega)]; congr 1; rw [Nat.mul_comm]; omega, kw2⟩
          · rw [if_neg an, let_m, Option.bind_some, if_pos rfl]
            rw [k10] at fin2
            exact fin2 (by rw [← kw, wE_e (fun z => an z.1)])
      · rw [if_neg en, if_pos rfl]
        have te : tk b n e = 22 := tk_end.mpr (by omega)
        refine WP_some ⟨_, K, rfl, ⟨tG _ (by rw [up_ne (by decide), up_ne (by decide), g8]), ?_, ?_, ?_, fun z => by omega, fun _ z => by omega⟩, fun b hb => ur_ne hb, fun _ _ => rfl, fun k hk => ?_⟩
        · rw [ur_at, up_ne (by decide), up_at]
        · rw [ur_at, up_ne (by decide), g10]
          unfold qk
          rw [if_pos (by omega)]
        · rw [ur_at, up_at, te]; rfl
        · rw [ur_at, up_ne (by omega), up_ne (by omega), kg k (by omega)]
    by_cases en : e < n
    · have lb := hb e en
      rw [if_pos en]
      have go : blk (b e) = true → WP (self (mkM (ur J 0 (up g 10 (nI e + 1))) K)) (fun h => ∃ J' K', h = mkM J' K' ∧ LM b n (lexP b n q) J' K' ∧ frY J J' K K') := by
        intro z
        rw [nI_1]
        exact ih (r - 1) _ (by omega) ⟨e + 1, _, by omega, rfl, up_at, fun k k5 => by rw [up_ne k5]; exact kg k k5, by rw [← kp, lexP_s en z]⟩
      by_cases c1 : nI (b e) = 32
      · rw [if_pos c1]
        exact go (by unfold blk; rw [nI_inj (b := 32) (by omega) (by decide) c1]; rfl)
      · rw [if_neg c1]
        by_cases c2 : nI (b e) = 10
        · rw [if_pos c2]
          exact go (by unfold blk; rw [nI_inj (b := 10) (by omega) (by decide) c2]; rfl)
        · rw [if_neg c2]
          refine fin ?_
          rw [← kp, lexP_e (fun z => ?_)]
          have := z.2
          unfold blk at this
          rw [Bool.or_eq_true, decide_eq_true_eq, decide_eq_true_eq] at this
          rcases this with y | y
          · exact c1 (by rw [y]; rfl)
          · exact c2 (by rw [y]; rfl)
    · rw [if_neg en, if_neg (by decide), if_neg (by decide)]
      refine fin ?_
      rw [← kp, lexP_e (fun z => en z.1)]
  obtain ⟨_, e, J', K', rfl, q⟩ := main
  exact ⟨J', K', e, q⟩
theorem m_adv (hn : n ≤ 900) (hb : ∀ j, j < n → b j < 256) (h : LM b n p J K) (hp : p ≤ n) (hfu : 1000 < fu) : ∃ J' K', MX9_go fu 0 (mkM J K) = some (mkM J' K') ∧ LM b n (nx b n p) J' K' ∧ frY J J' K K' :=
  m_lex hn hb h.1 (qk_le hp).2.1 h.2.2.1 hfu
end LexM
