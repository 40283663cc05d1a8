/-! FEED: a byte of the tape, and the reference's number of it -/
def BR (x y : Int32) : Prop := x = y.toInt8.toInt32 ∧ ∃ c, c < 256 ∧ y = nI c
theorem i8_ext {x y : Int32} (h : ∀ i, i < 8 → bt x i = bt y i) : x.toInt8 = y.toInt8 := by
  apply Int8.toBitVec_inj.mp
  rw [Int32.toBitVec_toInt8, Int32.toBitVec_toInt8]
  apply BitVec.eq_of_getLsbD_eq
  intro i hi
  have := h i hi
  unfold bt at this
  rw [BitVec.getLsbD_signExtend, BitVec.getLsbD_signExtend, if_pos (by omega), if_pos (by omega), this]
theorem b255 {x : Int32} : ∃ c, c < 256 ∧ x &&& 255 = nI c := by
  refine ⟨x.toBitVec.toNat % 2 ^ 8, Nat.mod_lt _ (by decide), ?_⟩
  exact pk_and x 8 (by decide)
theorem BR_k {a : Int32} {k : Nat} (hk : k ≤ 24) : BR ((a >>> (nI k &&& 31)).toInt8.toInt32) (((a.toUInt32 >>> ((nI k).toUInt32 &&& Int32.toUInt32 31)).toInt32) &&& 255) := by
  refine ⟨?_, b255⟩
  congr 1
  apply i8_ext
  intro i hi
  rw [b_sshr k (by omega) a (by omega), if_pos (by omega), b_and, b_ushr k (by omega) a i, b_255, decide_eq_true hi, Bool.and_true]
theorem BR_0 {a : Int32} : BR (a.toInt8.toInt32) (((a.toUInt32 >>> ((0 : Int32).toUInt32 &&& Int32.toUInt32 31)).toInt32) &&& 255) := by
  refine ⟨?_, b255⟩
  congr 1
  apply i8_ext
  intro i hi
  have := b_ushr 0 (by omega) a i
  rw [show nI 0 = 0 from rfl] at this
  rw [b_and, this, b_255, decide_eq_true hi, Bool.and_true, Nat.zero_add]
def FR (I0 J0 I J : Nat → Nat → Int32) (n : Nat) : Prop := I 2 0 = nI n ∧ J 0 4 = nI n ∧ (∀ j, j < n → BR (I 3 j) (J 1 j)) ∧ ((∀ b, b ≠ 2 → b ≠ 3 → I b = I0 b) ∧ ∀ k, k ≠ 0 → I 2 k = I0 2 k) ∧ (∀ b, b ≠ 0 → b ≠ 1 → J b = J0 b) ∧ ∀ k, k ≠ 4 → J 0 k = J0 0 k
section Feed
variable {sw : Bool} {I I0 : Nat → Nat → Int32} {L : Nat → Nat → Int64} {J J0 : Nat → Nat → Int32} {K : Nat → Nat → Int64} {fu n : Nat}
def pI (I : Nat → Nat → Int32) (n : Nat) (x : Int32) : Nat → Nat → Int32 := ur (ur I 3 (up (I 3) n x)) 2 (up (I 2) 0 (nI (n + 1)))
def pJ (J : Nat → Nat → Int32) (n : Nat) (x : Int32) : Nat → Nat → Int32 := ur (ur J 1 (up (J 1) n x)) 0 (up (J 0) 4 (nI (n + 1)))
theorem FR_put {x y : Int32} (h : FR I0 J0 I J n) (hb : BR x y) : FR I0 J0 (pI I n x) (pJ J n y) (n + 1) := by
  obtain ⟨h1, h2, h3, ⟨h4, h5⟩, h6, h7⟩ := h
  unfold pI pJ
  refine ⟨by rw [ur_at, up_at], by rw [ur_at, up_at], fun j hj => ?_, ⟨fun b b2 b3 => by rw [ur_ne b2, ur_ne b3, h4 b b2 b3], fun k hk => by rw [ur_at, up_ne hk, h5 k hk]⟩, fun b b0 b1 => by rw [ur_ne b0, ur_ne b1, h6 b b0 b1], fun k hk => by rw [ur_at, up_ne hk, h7 k hk]⟩
  rw [ur_ne (by decide), ur_at, ur_ne (by decide), ur_at]
  by_cases e : j = n
  · rw [e, up_at, up_at]; exact hb
  · rw [up_ne e, up_ne e]; exact h3 j (by omega)
theorem i8_i8 {x : Int32} : x.toInt8.toInt32.toInt8.toInt32 = x.toInt8.toInt32 := by simp
theorem c_putByte {x : Int32} (hn : n < 900) (h : I 2 0 = nI n) : MX7_putByte 2 x (mkC sw I L) = some (mkC sw (pI I n x.toInt8.toInt32) L) := by
  have h9 : ¬ (900 : Int32) ≤ nI n := by rw [show (900 : Int32) = nI 900 from rfl]; exact nI_ge hn (by decide)
  simp only [MX7_putByte, c7_g, c7_fI, Option.bind_some, h, if_neg h9, c7_r6]
  rw [c7_st6 hn, Option.bind_some, c7_fI, Option.bind_some, c7_pI, Option.bind_some, ur_ne (by decide), h, nI_1, i8_i8]
  rfl
theorem c_putInt {a : Int32} (hn : n + 4 ≤ 900) (h : I 2 0 = nI n) : MX7_putInt 2 a (mkC sw I L) = some (mkC sw (pI (pI (pI (pI I n (a >>> (nI 24 &&& 31)).toInt8.toInt32) (n + 1) (a >>> (nI 16 &&& 31)).toInt8.toInt32) (n + 2) (a >>> (nI 8 &&& 31)).toInt8.toInt32) (n + 3) a.toInt8.toInt32) L) := by
  have e : ∀ (I : Nat → Nat → Int32) (n : Nat) (x : Int32), pI I n x 2 0 = nI (n + 1) := fun I n x => by unfold pI; rw [ur_at, up_at]
  simp only [MX7_putInt, c7_g]
  rw [c_putByte (n := n) (by omega) h, Option.bind_some, c_putByte (n := n + 1) (by omega) (e _ _ _), Option.bind_some, c_putByte (n := n + 2) (by omega) (e _ _ _), Option.bind_some, c_putByte (n := n + 3) (by omega) (e _ _ _), Option.bind_some]
  rfl
theorem m_byte {a v : Int32} {self : Int32 → Hp → Option Hp} (hn : n < 900) (h : J 0 4 = nI n) (hv : ¬ v < 0) : MX9_come_B3 0 a self v (mkM J K) = self (v + -8) (mkM (pJ J n (((a.toUInt32 >>> (v.toUInt32 &&& Int32.toUInt32 31)).toInt32) &&& 255)) K) := by
  simp only [MX9_come_B3, if_neg hv, m_r0, m_fI, Option.bind_some, h]
  rw [m_st1 hn, Option.bind_some, m_fI, Option.bind_some, m_pI, Option.bind_some, ur_ne (by decide), h, nI_1]
  rfl
theorem m_come {a : Int32} (hn : n + 4 ≤ 900) (h : J 0 4 = nI n) (hfu : 5 < fu) : MX9_come fu 0 a (mkM J K) = some (mkM (pJ (pJ (pJ (pJ J n (((a.toUInt32 >>> ((nI 24).toUInt32 &&& Int32.toUInt32 31)).toInt32) &&& 255)) (n + 1) (((a.toUInt32 >>> ((nI 16).toUInt32 &&& Int32.toUInt32 31)).toInt32) &&& 255)) (n + 2) (((a.toUInt32 >>> ((nI 8).toUInt32 &&& Int32.toUInt32 31)).toInt32) &&& 255)) (n + 3) (((a.toUInt32 >>> ((0 : Int32).toUInt32 &&& Int32.toUInt32 31)).toInt32) &&& 255)) K) := by
  have e : ∀ (J : Nat → Nat → Int32) (n : Nat) (x : Int32), pJ J n x 0 4 = nI (n + 1) := fun I n x => by unfold pJ; rw [ur_at, up_at]
  obtain ⟨f, rfl⟩ : ∃ f, fu = f + 5 := ⟨fu - 5, by omega⟩
  simp only [MX9_come, m_g]
  show MX9_come_B3 0 a (wh2 (MX9_come_B3 0 a) (f + 4)) 24 (mkM J K) = _
  rw [m_byte (n := n) (by omega) h (by decide)]
  show MX9_come_B3 0 a (wh2 (MX9_come_B3 0 a) (f + 3)) 16 _ = _
  rw [m_byte (n := n + 1) (by omega) (e _ _ _) (by decide)]
  show MX9_come_B3 0 a (wh2 (MX9_come_B3 0 a) (f + 2)) 8 _ = _
  rw [m_byte (n := n + 2) (by omega) (e _ _ _) (by decide)]
  show MX9_come_B3 0 a (wh2 (MX9_come_B3 0 a) (f + 1)) 0 _ = _
  rw [m_byte (n := n + 3) (by omega) (e _ _ _) (by decide)]
  show MX9_come_B3 0 a (wh2 (MX9_come_B3 0 a) f) (-8) _ = _
  unfold MX9_come_B3
  rw [if_pos (by decide)]
  rfl
theorem feed4 {a : Int32} (h : FR I0 J0 I J n) (hn : n + 4 ≤ 900) (hfu : 5 < fu) : ∃ I' J', MX7_putInt 2 a (mkC sw I L) = some (mkC sw I' L) ∧ MX9_come fu 0 a (mkM J K) = some (mkM J' K) ∧ FR I0 J0 I' J' (n + 4) :=
  ⟨_, _, c_putInt hn h.1, m_come hn h.2.1 hfu, FR_put (FR_put (FR_put (FR_put h (BR_k (k := 24) (by decide))) (BR_k (k := 16) (by decide))) (BR_k (k := 8) (by decide))) BR_0⟩
theorem fr_feed {a b c d e : Int32} (h : FR I0 J0 I J n) (hn : n ≤ 900) (hfu : 5 < fu) : ∃ r I' J', MX8_feed 0 a b c d e (mkC sw I L) = some (r, mkC sw I' L) ∧ MX9_feed fu 0 a b c d e (mkM J K) = some (r, mkM J' K) ∧ ∃ n', n' ≤ 900 ∧ FR I0 J0 I' J' n' := by
  simp only [MX8_feed, MX9_feed, c8_g, m_g, c8_r0, c3_r0, c7_fI, m_fI, Option.bind_some]
  rw [h.1, h.2.1]
  by_cases c880 : n ≤ 880
  · have c1 : nI n ≤ (880 : Int32) := by rw [show (880 : Int32) = nI 880 from rfl]; exact nI_le c880 (by decide)
    have c2 : nI n + 20 ≤ (900 : Int32) := by rw [show (900 : Int32) = nI 900 from rfl, show (20 : Int32) = nI 20 from rfl, nI_add]; exact nI_le (by omega) (by decide)
    rw [if_pos c1, if_pos c2]
    obtain ⟨I1, J1, x1, y1, h1⟩ := feed4 (sw := sw) (L := L) (K := K) (a := a) h (by omega) hfu
    obtain ⟨I2, J2, x2, y2, h2⟩ := feed4 (sw := sw) (L := L) (K := K) (a := b) h1 (by omega) hfu
    obtain ⟨I3, J3, x3, y3, h3⟩ := feed4 (sw := sw) (L := L) (K := K) (a := c) h2 (by omega) hfu
    obtain ⟨I4, J4, x4, y4, h4⟩ := feed4 (sw := sw) (L := L) (K := K) (a := d) h3 (by omega) hfu
    obtain ⟨I5, J5, x5, y5, h5⟩ := feed4 (sw := sw) (L := L) (K := K) (a := e) h4 (by omega) hfu
    rw [x1, y1, Option.bind_some, Option.bind_some, x2, y2, Option.bind_some, Option.bind_some, x3, y3, Option.bind_some, Option.bind_some, x4, y4, Option.bind_some, Option.bind_some, x5, y5, Option.bind_some, Option.bind_some, c7_fI, m_fI, Option.bind_some, Option.bind_some]
    refine ⟨_, I5, J5, rfl, by rw [h5.1, h5.2.1], _, by omega, h5⟩
  · have c1 : ¬ nI n ≤ (880 : Int32) := by rw [show (880 : Int32) = nI 880 from rfl]; exact nI_ge (by omega) (by omega)
    have c2 : ¬ nI n + 20 ≤ (900 : Int32) := by rw [show (900 : Int32) = nI 900 from rfl, show (20 : Int32) = nI 20 from rfl, nI_add]; exact nI_ge (by omega) (by omega)
    rw [if_neg c1, if_neg c2]
    exact ⟨_, I, J, rfl, rfl, n, hn, h⟩
end Feed
