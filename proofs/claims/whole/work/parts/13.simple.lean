/-! SMALL METHODS of both -/
theorem i_lt {x y : Int32} : x < y ↔ x.toInt < y.toInt := Int32.lt_iff_toInt_lt
theorem i_le {x y : Int32} : x ≤ y ↔ x.toInt ≤ y.toInt := Int32.le_iff_toInt_le
theorem i_eq {x y : Int32} : x = y ↔ x.toInt = y.toInt := Int32.toInt_inj.symm
theorem n_i {n : Nat} (h : n < 2 ^ 31) : (nI n).toInt = (n : Int) := nI_toInt h
theorem z_i : (0 : Int32).toInt = 0 := rfl
/-- x is a number below n -/
def inR (x : Int32) (n : Nat) : Bool := decide (0 ≤ x.toInt ∧ x.toInt < (n : Int))
theorem inR_nI {k n : Nat} (h : k < 2 ^ 31) : inR (nI k) n = decide (k < n) := by
  unfold inR
  rw [n_i h]
  congr 1
  apply propext
  omega
theorem inR_of {x : Int32} {n : Nat} (hn : n < 2 ^ 31) (h : inR x n = true) : ∃ k, k < n ∧ x = nI k := by
  unfold inR at h
  have h := of_decide_eq_true h
  refine ⟨x.toInt.toNat, by omega, ?_⟩
  rw [i_eq, n_i (by omega)]
  omega
theorem isFrom_n {x : Int32} {n : Nat} (hn : n < 2 ^ 30) : MX9_isFrom x 0 (nI n - 1) = some (if inR x n then 1 else 0) := by
  simp only [MX9_isFrom, jn]
  have h1 : (nI n - (1 : Int32)).toInt = (n : Int) - 1 := pk_sub_toInt (b := 1) hn (by decide)
  by_cases ha : x < 0
  · rw [if_pos ha, if_neg]
    rw [i_lt, z_i] at ha
    simp only [inR, decide_eq_true_eq]
    omega
  · rw [if_neg ha]
    rw [i_lt, z_i] at ha
    by_cases hb : nI n - 1 < x
    · rw [if_pos hb, if_neg]
      rw [i_lt, h1] at hb
      simp only [inR, decide_eq_true_eq]
      omega
    · rw [if_neg hb, if_pos]
      rw [i_lt, h1] at hb
      simp only [inR, decide_eq_true_eq]
      omega
theorem isFrom_c {x : Int32} {n : Nat} {y : Int32} (hy : y = nI n) (hn : n + 1 < 2 ^ 30) : MX9_isFrom x 0 y = some (if inR x (n + 1) then 1 else 0) := by
  have := isFrom_n (x := x) (n := n + 1) (by omega)
  rw [nI_pred] at this
  rw [hy, this]
theorem h_z_0 : h_z 0 = some 0 := rfl
theorem h_z_1 : h_z 1 = some 1 := rfl
theorem h_z_ite {c : Prop} [Decidable c] : h_z (if c then 1 else 0) = some (if c then 1 else 0) := by
  by_cases h : c <;> simp [h, h_z]
section SmallRows
variable {sw : Bool} {I J : Nat → Nat → Int32} {L K : Nat → Nat → Int64}
theorem c_answer {x : Int32} : MX8_answer 0 x (mkC sw I L) = some (x, mkC sw (ur I 0 (up (I 0) 9 0)) L) := rfl
theorem c_refuse {x : Int32} : MX8_refuse 0 x (mkC sw I L) = some (-1, mkC sw (ur I 0 (up (I 0) 9 x)) L) := rfl
theorem m_gives {x : Int32} : MX9_gives 0 x (mkM J K) = some (x, mkM (ur J 0 (up (J 0) 5 0)) K) := rfl
theorem m_refuse {x : Int32} : MX9_refuse 0 x (mkM J K) = some (-1, mkM (ur J 0 (up (J 0) 5 x)) K) := rfl
theorem m_isKind {x : Int32} {n : Nat} (h : J 2 0 = nI n) (hn : n < 2 ^ 30) : MX9_isKind 0 x (mkM J K) = some (if inR x n then 1 else 0) := by
  unfold MX9_isKind
  rw [m_g, m_r1, Option.bind_some, show (0 : Int32) = nI 0 from rfl, m_ld2 (by decide), Option.bind_some, h]
  rw [show (nI 0 : Int32) = 0 from rfl, isFrom_n hn, Option.bind_some, h_z_ite]
  rfl
end SmallRows
