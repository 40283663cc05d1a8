/-! LOAD: what holds while a text is read -/
def dr' (sw : Bool) : Nat := if sw then 228 else 5
theorem dr_P {sw : Bool} : isP (dr' sw) := by cases sw; exact Or.inl rfl; exact Or.inr rfl
theorem c3_dr {sw : Bool} {I : Nat → Nat → Int32} {L : Nat → Nat → Int64} : h_fR 3 (mkC sw I L) 1 3 = some (dr' sw) := c3_r3
/-- the rows of the class that reading may change -/
def fC (sw : Bool) (I0 : Nat → Nat → Int32) (L0 : Nat → Nat → Int64) (I : Nat → Nat → Int32) (L : Nat → Nat → Int64) : Prop :=
  (∀ b, b ≠ 1 → b ≠ 2 → b ≠ 34 → b ≠ 35 → b < dr' sw ∨ dr' sw + 24 < b → I b = I0 b) ∧ (∀ b, b ≠ 2 → b < 30 ∨ 33 < b → L b = L0 b) ∧ I 2 0 = I0 2 0
def fM (J0 J : Nat → Nat → Int32) : Prop := (∀ b, b ≠ 0 → b ≠ 3 → J b = J0 b) ∧ ∀ k, k < 9 ∨ 16 < k → J 0 k = J0 0 k
/-- a fault is written down by both -/
def FLT (sw : Bool) (I0 : Nat → Nat → Int32) (L0 : Nat → Nat → Int64) (J0 I : Nat → Nat → Int32) (L : Nat → Nat → Int64) (J : Nat → Nat → Int32) : Prop := fC sw I0 L0 I L ∧ fM J0 J ∧ I 1 1 = J 0 13 ∧ I 1 2 = J 0 14
def BC (b : Nat → Nat) (n : Nat) (sw : Bool) (I0 : Nat → Nat → Int32) (L0 : Nat → Nat → Int64) (p : Nat) (I : Nat → Nat → Int32) (L : Nat → Nat → Int64) : Prop := p ≤ n ∧ LC b n p I L ∧ fC sw I0 L0 I L ∧ I 1 1 = 0 ∧ I 1 2 = -1
def BM (b : Nat → Nat) (n : Nat) (J0 : Nat → Nat → Int32) (Z : Nat → Int32) (p : Nat) (P : Nat → Int32) (J : Nat → Nat → Int32) (K : Nat → Nat → Int64) : Prop := LM b n p J K ∧ ((∀ k, k < 573 → J 3 k = P k) ∧ ∀ k, 573 ≤ k → P k = Z k) ∧ fM J0 J ∧ J 0 13 = 0 ∧ J 0 14 = -1
/-- the text, and where both began -/
def TX (b : Nat → Nat) (n : Nat) : Prop := n ≤ 900 ∧ ∀ j, j < n → b j < 256
section State
variable {b : Nat → Nat} {n : Nat} {sw : Bool} {I0 : Nat → Nat → Int32} {L0 : Nat → Nat → Int64} {J0 : Nat → Nat → Int32} {Z : Nat → Int32} {p fu : Nat} {P : Nat → Int32} {I I' : Nat → Nat → Int32} {L L' : Nat → Nat → Int64} {J J' : Nat → Nat → Int32} {K K' : Nat → Nat → Int64} {k : Int32}
theorem BC_adv (t : TX b n) (h : BC b n sw I0 L0 p I L) (hfu : 1000 < fu) : ∃ I' L', MX7_advance fu 2 (mkC sw I L) = some (mkC sw I' L') ∧ BC b n sw I0 L0 (nx b n p) I' L' ∧ frT I I' L L' := by
  obtain ⟨h1, h2, ⟨h3, h4, h5⟩, h6, h7⟩ := h
  obtain ⟨I', L', e, l, f⟩ := c_adv (sw := sw) (fu := fu) t.1 t.2 h2 h1 hfu
  refine ⟨I', L', e, ⟨(nx_le h1).2.1, l, ⟨fun x x1 x2 x3 x4 x5 => by rw [f.1 x x2, h3 x x1 x2 x3 x4 x5], fun x x2 x3 => by rw [f.2.1 x x2, h4 x x2 x3], by rw [f.2.2 0 (by decide) (by decide) (by decide), h5]⟩, by rw [f.1 1 (by decide), h6], by rw [f.1 1 (by decide), h7]⟩, f⟩
theorem BM_adv (t : TX b n) (hp : p ≤ n) (h : BM b n J0 Z p P J K) (hfu : 1000 < fu) : ∃ J' K', MX9_go fu 0 (mkM J K) = some (mkM J' K') ∧ BM b n J0 Z (nx b n p) P J' K' ∧ frY J J' K K' := by
  obtain ⟨h2, ⟨h3, h3'⟩, ⟨h4, h5⟩, h6, h7⟩ := h
  obtain ⟨J', K', e, l, f⟩ := m_adv (fu := fu) t.1 t.2 h2 hp hfu
  refine ⟨J', K', e, ⟨l, ⟨fun k hk => by rw [f.1 3 (by decide), h3 k hk], h3'⟩, ⟨fun x x0 x3 => by rw [f.1 x x0, h4 x x0 x3], fun k hk => by rw [f.2.2 k (by omega), h5 k hk]⟩, by rw [f.2.2 13 (by decide), h6], by rw [f.2.2 14 (by decide), h7]⟩, f⟩
theorem BC_wI {r : Nat} {g : Nat → Int32} (h : BC b n sw I0 L0 p I L) (hr : r = 34 ∨ r = 35 ∨ (dr' sw ≤ r ∧ r ≤ dr' sw + 24)) : BC b n sw I0 L0 p (ur I r g) L := by
  obtain ⟨h1, ⟨⟨a1, a2, a3⟩, a4, a5, a6, a7⟩, ⟨h3, h4, h5⟩, h6, h7⟩ := h
  have d5 : 5 ≤ dr' sw := by unfold dr'; split <;> omega
  have e : ∀ x, x ≤ 4 → ur I r g x = I x := fun x hx => ur_ne (by omega)
  unfold BC LC tapC
  rw [e 1 (by decide), e 2 (by decide), e 3 (by decide)]
  exact ⟨h1, ⟨⟨a1, a2, a3⟩, a4, a5, a6, a7⟩, ⟨fun x x1 x2 x3 x4 x5 => by rw [ur_ne (by omega), h3 x x1 x2 x3 x4 x5], h4, by rw [e 2 (by decide)]; exact h5⟩, h6, h7⟩
theorem BC_w1 {g : Nat → Int32} (h : BC b n sw I0 L0 p I L) (h1 : g 1 = I 1 1) (h2 : g 2 = I 1 2) : BC b n sw I0 L0 p (ur I 1 g) L := by
  obtain ⟨c1, ⟨⟨a1, a2, a3⟩, a4, a5, a6, a7⟩, ⟨h3, h4, h5⟩, h6, h7⟩ := h
  have e : ∀ x, x ≠ 1 → ur I 1 g x = I x := fun x hx => ur_ne hx
  unfold BC LC tapC
  rw [ur_at, h1, h2, e 2 (by decide), e 3 (by decide)]
  exact ⟨c1, ⟨⟨a1, a2, a3⟩, a4, a5, a6, a7⟩, ⟨fun x x1 x2 x3 x4 x5 => by rw [ur_ne x1, h3 x x1 x2 x3 x4 x5], h4, by rw [e 2 (by decide)]; exact h5⟩, h6, h7⟩
theorem BC_wL {r : Nat} {g : Nat → Int64} (h : BC b n sw I0 L0 p I L) (hr : 30 ≤ r ∧ r ≤ 33) : BC b n sw I0 L0 p I (ur L r g) := by
  obtain ⟨h1, ⟨⟨a1, a2, a3⟩, a4, a5, a6, a7⟩, ⟨h3, h4, h5⟩, h6, h7⟩ := h
  unfold BC LC tapC
  rw [ur_ne (show (4 : Nat) ≠ r by omega), ur_ne (show (2 : Nat) ≠ r by omega)]
  exact ⟨h1, ⟨⟨a1, a2, a3⟩, a4, a5, a6, a7⟩, ⟨h3, fun x x2 x3 => by rw [ur_ne (by omega), h4 x x2 x3], h5⟩, h6, h7⟩
theorem BM_wM {k : Nat} {x : Int32} (h : BM b n J0 Z p P J K) (hk : k < 573) : BM b n J0 Z p (up P k x) (ur J 3 (up (J 3) k x)) K := by
  obtain ⟨⟨⟨a1, a2⟩, a3⟩, ⟨h3, h3'⟩, ⟨h4, h5⟩, h6, h7⟩ := h
  have e : ∀ x, x ≠ 3 → ∀ g, ur J 3 g x = J x := fun x hx g => ur_ne hx
  unfold BM LM tapM
  rw [e 0 (by decide), e 1 (by decide), ur_at]
  refine ⟨⟨⟨a1, a2⟩, a3⟩, ⟨fun j hj => ?_, fun j hj => ?_⟩, ⟨fun y y0 y3 => by rw [e y y3, h4 y y0 y3], fun k hk => by rw [e 0 (by decide), h5 k hk]⟩, h6, h7⟩
  · by_cases c : j = k
    · rw [c, up_at, up_at]
    · rw [up_ne c, up_ne c, h3 j hj]
  · rw [up_ne (by omega), h3' j hj]
theorem BM_wK {r : Nat} {g : Nat → Int64} (h : BM b n J0 Z p P J K) (hr : r ≠ 0) : BM b n J0 Z p P J (ur K r g) := by
  obtain ⟨⟨a1, a2, a3, a4, a5, a6⟩, h3⟩ := h
  unfold BM LM
  rw [ur_ne (show (0 : Nat) ≠ r by omega)]
  exact ⟨⟨a1, a2, a3, a4, a5, a6⟩, h3⟩
theorem BM_fd {x : Int32} (h : BM b n J0 Z p P J K) : BM b n J0 Z p P (ur J 0 (up (J 0) 16 x)) K := by
  obtain ⟨⟨⟨a1, a2⟩, a3, a4, a5, a6, a7⟩, ⟨h3, h3'⟩, ⟨h4, h5⟩, h6, h7⟩ := h
  unfold BM LM tapM
  rw [ur_at, ur_ne (show (1 : Nat) ≠ 0 by decide), ur_ne (show (3 : Nat) ≠ 0 by decide), up_ne (show (8 : Nat) ≠ 16 by decide), up_ne (show (9 : Nat) ≠ 16 by decide), up_ne (show (10 : Nat) ≠ 16 by decide), up_ne (show (11 : Nat) ≠ 16 by decide), up_ne (show (12 : Nat) ≠ 16 by decide), up_ne (show (13 : Nat) ≠ 16 by decide), up_ne (show (14 : Nat) ≠ 16 by decide)]
  exact ⟨⟨⟨a1, a2⟩, a3, a4, a5, a6, a7⟩, ⟨h3, h3'⟩, ⟨fun y y0 y3 => by rw [ur_ne y0, h4 y y0 y3], fun k hk => by rw [ur_at, up_ne (by omega), h5 k hk]⟩, h6, h7⟩
theorem FLT_fail (h : BC b n sw I0 L0 p I L) (g : BM b n J0 Z p P J K) : FLT sw I0 L0 J0 (ur I 1 (up (up (I 1) 1 (fk b n p k)) 2 (nI p))) L (ur J 0 (up (up (J 0) 13 (fk b n p k)) 14 (nI p))) := by
  obtain ⟨h1, h2, ⟨h3, h4, h5⟩, h6, h7⟩ := h
  obtain ⟨-, -, ⟨g4, g5⟩, -⟩ := g
  refine ⟨⟨fun x x1 x2 x3 x4 x5 => by rw [ur_ne x1, h3 x x1 x2 x3 x4 x5], h4, by rw [ur_ne (by decide), h5]⟩, ⟨fun x x0 x3 => by rw [ur_ne x0, g4 x x0 x3], fun k hk => by rw [ur_at, up_ne (by omega), up_ne (by omega), g5 k hk]⟩, ?_, ?_⟩
  · rw [ur_at, ur_at, up_ne (by decide), up_at, up_ne (by decide), up_at]
  · rw [ur_at, ur_at, up_at, up_at]
/-- both fail, or both go on -/
def BOT (b : Nat → Nat) (n : Nat) (sw : Bool) (I0 : Nat → Nat → Int32) (L0 : Nat → Nat → Int64) (J0 : Nat → Nat → Int32) (Z : Nat → Int32) (x y : Option (Int32 × Hp)) (Q : Nat → (Nat → Int32) → (Nat → Nat → Int32) → (Nat → Nat → Int64) → (Nat → Nat → Int32) → (Nat → Nat → Int64) → Prop) : Prop :=
  (∃ I' L' J' K', x = some (0, mkC sw I' L') ∧ y = some (0, mkM J' K') ∧ FLT sw I0 L0 J0 I' L' J') ∨ ∃ p' P' I' L' J' K', x = some (1, mkC sw I' L') ∧ y = some (1, mkM J' K') ∧ BC b n sw I0 L0 p' I' L' ∧ BM b n J0 Z p' P' J' K' ∧ Q p' P' I' L' J' K'
theorem BOT_mono {x y : Option (Int32 × Hp)} {Q R : Nat → (Nat → Int32) → (Nat → Nat → Int32) → (Nat → Nat → Int64) → (Nat → Nat → Int32) → (Nat → Nat → Int64) → Prop} (h : BOT b n sw I0 L0 J0 Z x y Q) (f : ∀ p' P' I' L' J' K', BC b n sw I0 L0 p' I' L' → BM b n J0 Z p' P' J' K' → Q p' P' I' L' J' K' → R p' P' I' L' J' K') : BOT b n sw I0 L0 J0 Z x y R := by
  rcases h with h | ⟨p', P', I', L', J', K', e1, e2, h1, h2, h3⟩
  · exact Or.inl h
  · exact Or.inr ⟨p', P', I', L', J', K', e1, e2, h1, h2, f _ _ _ _ _ _ h1 h2 h3⟩
/-- a sign is taken -/
theorem both_sign {c t : Nat} (tx : TX b n) (h : BC b n sw I0 L0 p I L) (g : BM b n J0 Z p P J K) (hc : (c = 59 ∧ t = 19) ∨ (c = 123 ∧ t = 20) ∨ (c = 125 ∧ t = 21)) (hfu : 1000 < fu) :
    BOT b n sw I0 L0 J0 Z (MX3_takeSign fu 1 (nI t) (mkC sw I L)) (MX9_eats fu 0 (nI c) (mkM J K)) (fun p' P' I' L' J' K' => p < n ∧ p' = nx b n p ∧ P' = P ∧ frT I I' L L' ∧ frY J J' K K') := by
  have l := tk_le (b := b) (n := n) (p := p)
  simp only [MX3_takeSign, MX9_eats, c3_g, c3_r0, c7_fI, m_g, Option.bind_some]
  rw [h.2.1.2.2.1, m_isSign g.1 tx.2 h.1 hc, Option.bind_some]
  by_cases e : tk b n p = t
  · rw [if_pos (show nI (tk b n p) = nI t by rw [e]), if_pos e, if_neg (by decide)]
    obtain ⟨I', L', e1, b1, f1⟩ := BC_adv tx h hfu
    obtain ⟨J', K', e2, b2, f2⟩ := BM_adv tx h.1 g hfu
    rw [e1, e2, Option.bind_some, Option.bind_some]
    refine Or.inr ⟨_, P, I', L', J', K', rfl, rfl, b1, b2, ?_, rfl, rfl, f1, f2⟩
    rcases Nat.lt_or_ge p n with z | z
    · exact z
    · have := tk_end (b := b).mpr z; omega
  · rw [if_neg (fun z => e (nI_inj (by omega) (by omega) z)), if_neg e, if_pos rfl, c_fail h.2.1, m_bad g.1, Option.bind_some, Option.bind_some]
    simp only [h_z_0, Option.bind_some]
    exact Or.inl ⟨_, _, _, _, rfl, rfl, FLT_fail h g⟩
/-- a name that is told is read; the reference is behind it, the class still at it -/
theorem both_known {r a a' c : Nat} (tx : TX b n) (h : BC b n sw I0 L0 p I L) (g : BM b n J0 Z p P J K) (hr : ∀ i, i < c → h_ldL (mkC sw I L) r (nI a + nI i) = some (L r (a + i))) (h58 : a' + c ≤ 58) (hN : ∀ i, i < c → WR (L r (a + i)) (K 4 (a' + i))) (hfu : 1000 < fu) :
    (∃ I' L' J' K', MX3_known fu 1 r (nI a) (nI c) (mkC sw I L) = some (-1, mkC sw I' L') ∧ MX9_readKnown fu 0 (nI a') (nI c) (mkM J K) = some (0, mkM J' K') ∧ FLT sw I0 L0 J0 I' L' J') ∨
    ∃ f J' K', f < c ∧ p < n ∧ tk b n p = 18 ∧ MX3_known fu 1 r (nI a) (nI c) (mkC sw I L) = some (nI f, mkC sw I L) ∧ MX9_readKnown fu 0 (nI a') (nI c) (mkM J K) = some (1, mkM J' K') ∧ BM b n J0 Z (nx b n p) P J' K' ∧ J' 0 16 = nI f ∧ (∀ x, x ≠ 0 → J' x = J x) ∧ ∀ x, x ≠ 0 → K' x = K x := by
  have l := tk_le (b := b) (n := n) (p := p)
  simp only [MX3_known, MX9_readKnown, c3_g, c3_r0, c7_fI, m_g, Option.bind_some]
  rw [h.2.1.2.2.1, m_isName g.1 h.1 hfu, Option.bind_some]
  by_cases e : tk b n p = 18
  · rw [if_pos (show nI (tk b n p) = 18 by rw [e]; rfl), if_pos e, if_neg (by decide)]
    obtain ⟨x, hx, f1, f2⟩ := both_find (fu := fu) (J := J) (K := K) hr h58 (both_word h.2.1 g.1 h.1 (by omega)) hN hfu
    rw [f1, f2, Option.bind_some, Option.bind_some]
    simp only [m_pI, m_fI, Option.bind_some, ur_at, up_at]
    rcases hx with rfl | ⟨f, hf, rfl⟩
    · rw [if_pos rfl, if_pos rfl, c_fail h.2.1, m_bad (BM_fd g).1, Option.bind_some, Option.bind_some]
      simp only [h_z_0, Option.bind_some]
      exact Or.inl ⟨_, _, _, _, rfl, rfl, FLT_fail h (BM_fd g)⟩
    · rw [if_neg (nI_ne_m1 (by omega)), if_neg (nI_ne_m1 (by omega))]
      obtain ⟨J', K', e2, b2, y1, y2, y3⟩ := BM_adv tx h.1 (BM_fd (x := nI f) g) hfu
      rw [e2, Option.bind_some]
      refine Or.inr ⟨f, J', K', hf, ?_, e, rfl, rfl, b2, by rw [y3 16 (by decide), ur_at, up_at], fun x hx => by rw [y1 x hx, ur_ne hx], y2⟩
      rcases Nat.lt_or_ge p n with z | z
      · exact z
      · have := tk_end (b := b).mpr z; omega
  · rw [if_neg (show ¬ nI (tk b n p) = 18 from fun z => e (nI_inj (b := 18) (by omega) (by decide) z)), if_neg e, if_pos rfl, c_fail h.2.1, m_bad g.1, Option.bind_some, Option.bind_some]
    simp only [h_z_0, Option.bind_some]
    exact Or.inl ⟨_, _, _, _, rfl, rfl, FLT_fail h g⟩
end State
/-- a kind, as both have it -/
def KP (d k : Nat) (P : Nat → Int32) (I : Nat → Nat → Int32) (L K : Nat → Nat → Int64) : Prop := WFk P k ∧ (I (d + 2) k = P (3 + k) ∧ I (d + 3) k = pE P k ∧ I (d + 4) k = P (11 + k) ∧ ∀ m, m < nM P k → CRm d I P k m) ∧
  WR (L 30 k) (K 4 k) ∧ (∀ s, s < nS P k → WR (L 31 (6 * k + s)) (K 4 (4 + 6 * k + s))) ∧ ∀ m, m < nM P k → WR (L 32 (6 * k + m)) (K 4 (28 + 6 * k + m))
/-- kinds and variables that are told -/
def CTX (d : Nat) (P : Nat → Int32) (I : Nat → Nat → Int32) (L K : Nat → Nat → Int64) : Prop := ((P 0 = nI (nK P) ∧ nK P ≤ 4) ∧ (P 1 = nI (nV P) ∧ nV P ≤ 6)) ∧ (I (d + 1) 0 = P 0 ∧ I d 1 = P 1) ∧ (∀ k, k < nK P → KP d k P I L K) ∧
  ∀ v, v < nV P → (P (327 + v) = nI (vK P v) ∧ vK P v < nK P) ∧ I (d + 13) v = P (327 + v) ∧ WR (L 33 v) (K 4 (52 + v))
section Context
variable {d k : Nat} {P P' : Nat → Int32} {I I' : Nat → Nat → Int32} {L L' K K' : Nat → Nat → Int64}
/-- the cells of a kind are as they were -/
def sameK (k d : Nat) (P P' : Nat → Int32) (I I' : Nat → Nat → Int32) (L L' K K' : Nat → Nat → Int64) : Prop :=
  (∀ j, j = 3 + k ∨ j = 7 + k ∨ j = 11 + k ∨ (15 + 6 * k ≤ j ∧ j < 21 + 6 * k) ∨ (39 + 36 * k ≤ j ∧ j < 75 + 36 * k) ∨ (183 + 36 * k ≤ j ∧ j < 219 + 36 * k) → P' j = P j) ∧
  (I' (d + 2) k = I (d + 2) k ∧ I' (d + 3) k = I (d + 3) k ∧ I' (d + 4) k = I (d + 4) k) ∧
  (∀ m, m < 6 → I' (d + 5) (6 * k + m) = I (d + 5) (6 * k + m) ∧ I' (d + 6) (6 * k + m) = I (d + 6) (6 * k + m) ∧ ∀ s, s < 6 → I' (d + 7) (6 * (6 * k + m) + s) = I (d + 7) (6 * (6 * k + m) + s) ∧ I' (d + 8) (6 * (6 * k + m) + s) = I (d + 8) (6 * (6 * k + m) + s)) ∧
  L' 30 k = L 30 k ∧ K' 4 k = K 4 k ∧ ∀ s, s < 6 → L' 31 (6 * k + s) = L 31 (6 * k + s) ∧ L' 32 (6 * k + s) = L 32 (6 * k + s) ∧ K' 4 (4 + 6 * k + s) = K 4 (4 + 6 * k + s) ∧ K' 4 (28 + 6 * k + s) = K 4 (28 + 6 * k + s)
theorem KP_same (h : KP d k P I L K) (e : sameK k d P P' I I' L L' K K') : KP d k P' I' L' K' := by
  obtain ⟨⟨⟨w1, w2, w3⟩, w4, ⟨w5, w6⟩, w7⟩, ⟨c1, c2, c3, c4⟩, n1, n2, n3⟩ := h
  obtain ⟨eP, ⟨i2, i3, i4⟩, i5, l0, k0, ls⟩ := e
  have s3 : nS P' k = nS P k := by unfold nS; rw [eP (3 + k) (by omega)]
  have s11 : nM P' k = nM P k := by unfold nM; rw [eP (11 + k) (by omega)]
  have cell : ∀ m s, m < 6 → s < 6 → pY P' k m s = pY P k m s ∧ pN P' k m s = pN P k m s := fun m s hm hs => ⟨eP _ (by omega), eP _ (by omega)⟩
  have so : ∀ m, m < 6 → pSo P' k m = pSo P k m := fun m hm => eP _ (by omega)
  have e7 : pE P' k = pE P k := eP _ (by omega)
  unfold KP WFk WFm WFt CRm
  rw [s3, s11, e7, eP (3 + k) (by omega), eP (11 + k) (by omega), i2, i3, i4, l0, k0]
  refine ⟨⟨⟨w1, w2, w3⟩, w4, ⟨w5, w6⟩, fun m hm => ?_⟩, ⟨c1, c2, c3, fun m hm => ?_⟩, n1, fun s hs => ?_, fun m hm => ?_⟩
  · obtain ⟨a1, a2⟩ := w7 m hm
    rw [so m (by omega)]
    refine ⟨a1, fun s hs => ?_⟩
    rw [(cell m s (by omega) (by omega)).1, (cell m s (by omega) (by omega)).2]
    exact a2 s hs
  · obtain ⟨a1, a2, a3⟩ := c4 m hm
    obtain ⟨j1, j2, j3⟩ := i5 m (by omega)
    rw [so m (by omega), j1, j2]
    refine ⟨a1, fun s => ?_, fun s hs => ?_⟩
    · rw [a2 s]
      by_cases c : s < nS P k
      · rw [(cell m s (by omega) (by omega)).1]
      · rw [decide_eq_false c, Bool.false_and, Bool.false_and]
    · rw [(cell m s (by omega) (by omega)).1, (cell m s (by omega) (by omega)).2, (j3 s (by omega)).1, (j3 s (by omega)).2]
      exact a3 s hs
  · rw [(ls s (by omega)).1, (ls s (by omega)).2.2.1]; exact n2 s hs
  · rw [(ls m (by omega)).2.1, (ls m (by omega)).2.2.2]; exact n3 m hm
/-- the rows of kinds and variables are as they were -/
theorem CTX_fr (h : CTX d P I L K) (e1 : ∀ x, d + 1 ≤ x → x ≤ d + 13 → I' x = I x) (e0 : I' d 1 = I d 1) (e2 : ∀ x, 30 ≤ x → x ≤ 33 → L' x = L x) (e3 : K' 4 = K 4) : CTX d P I' L' K' := by
  obtain ⟨h1, ⟨h2, h3⟩, h4, h5⟩ := h
  refine ⟨h1, ⟨by rw [e1 (d + 1) (by omega) (by omega)]; exact h2, by rw [e0]; exact h3⟩, fun k hk => KP_same (h4 k hk) ?_, fun v hv => ?_⟩
  · refine ⟨fun _ _ => rfl, ⟨by rw [e1 (d + 2) (by omega) (by omega)], by rw [e1 (d + 3) (by omega) (by omega)], by rw [e1 (d + 4) (by omega) (by omega)]⟩, fun m hm => ⟨by rw [e1 (d + 5) (by omega) (by omega)], by rw [e1 (d + 6) (by omega) (by omega)], fun s hs => ⟨by rw [e1 (d + 7) (by omega) (by omega)], by rw [e1 (d + 8) (by omega) (by omega)]⟩⟩, by rw [e2 30 (by decide) (by decide)], by rw [e3], fun s hs => ⟨by rw [e2 31 (by decide) (by decide)], by rw [e2 32 (by decide) (by decide)], by rw [e3], by rw [e3]⟩⟩
  · rw [e1 (d + 13) (by omega) (by omega), e2 33 (by decide) (by decide), e3]
    exact h5 v hv
end Context
