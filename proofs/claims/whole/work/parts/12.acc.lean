/-! READS AND WRITES of the class's world -/
def isP (p : Nat) : Prop := p = 5 ∨ p = 228
def isK (q : Nat) : Prop := q = 6 ∨ q = 229
def isF (f : Nat) : Prop := f = 36 ∨ f = 125
/-- a Hold x and its bits x + 1 -/
def isH (x : Nat) : Prop := x = 41 ∨ x = 130 ∨ x = 220 ∨ x = 222 ∨ x = 225 ∨ (∃ i, i < 41 ∧ x = 43 + 2 * i) ∨ (∃ i, i < 41 ∧ x = 132 + 2 * i)
theorem isP_K {p : Nat} (h : isP p) : isK (p + 1) := by rcases h with rfl | rfl; exact Or.inl rfl; exact Or.inr rfl
theorem isH_all : ∀ i, i < 41 → (shC (43 + 2 * i) = (1, 0) ∧ shC (43 + 2 * i + 1) = (10, 24) ∧ shC (132 + 2 * i) = (1, 0) ∧ shC (132 + 2 * i + 1) = (10, 24)) ∧ refC true (43 + 2 * i) 0 = some (43 + 2 * i + 1) ∧ refC true (132 + 2 * i) 0 = some (132 + 2 * i + 1) ∧ refC false (43 + 2 * i) 0 = some (43 + 2 * i + 1) ∧ refC false (132 + 2 * i) 0 = some (132 + 2 * i + 1) := by decide +kernel
theorem isH_sh {x : Nat} (h : isH x) : shC x = (1, 0) ∧ shC (x + 1) = (10, 24) := by
  rcases h with rfl | rfl | rfl | rfl | rfl | ⟨i, hi, rfl⟩ | ⟨i, hi, rfl⟩
  · exact ⟨rfl, rfl⟩
  · exact ⟨rfl, rfl⟩
  · exact ⟨rfl, rfl⟩
  · exact ⟨rfl, rfl⟩
  · exact ⟨rfl, rfl⟩
  · exact ⟨(isH_all i hi).1.1, (isH_all i hi).1.2.1⟩
  · exact ⟨(isH_all i hi).1.2.2.1, (isH_all i hi).1.2.2.2⟩
theorem isH_ref {sw : Bool} {x : Nat} (h : isH x) : refC sw x 0 = some (x + 1) := by
  rcases h with rfl | rfl | rfl | rfl | rfl | ⟨i, hi, rfl⟩ | ⟨i, hi, rfl⟩
  · rfl
  · rfl
  · rfl
  · rfl
  · rfl
  · cases sw
    · exact (isH_all i hi).2.2.2.1
    · exact (isH_all i hi).2.1
  · cases sw
    · exact (isH_all i hi).2.2.2.2
    · exact (isH_all i hi).2.2.1
theorem holds_all : ∀ i, i < 41 → refC true 37 i = some (43 + 2 * i) ∧ refC true 126 i = some (132 + 2 * i) ∧ refC false 37 i = some (43 + 2 * i) ∧ refC false 126 i = some (132 + 2 * i) := by decide +kernel
section AccC
variable {sw : Bool} {I : Nat → Nat → Int32} {L : Nat → Nat → Int64}
theorem c0_g {α : Type} {x : Option α} {f : Nat} (hp : isF f) : h_g 0 (mkC sw I L) f x = x := by rcases hp with rfl | rfl <;> rfl
theorem c0_fI {f : Nat} (hp : isF f) {k : Nat} : h_fI 0 (mkC sw I L) f k = some (I f k) := by rcases hp with rfl | rfl <;> rfl
theorem c0_fL {f : Nat} (hp : isF f) {k : Nat} : h_fL 0 (mkC sw I L) f k = some (L f k) := by rcases hp with rfl | rfl <;> rfl
theorem c0_pI {f : Nat} (hp : isF f) {k : Nat} {x : Int32} : h_pI 0 (mkC sw I L) f k x = some (mkC sw (ur I f (up (I f) k x)) L) := by rcases hp with rfl | rfl <;> rfl
theorem c0_pL {f : Nat} (hp : isF f) {k : Nat} {x : Int64} : h_pL 0 (mkC sw I L) f k x = some (mkC sw I (ur L f (up (L f) k x))) := by rcases hp with rfl | rfl <;> rfl
theorem c0_pZ {f : Nat} (hp : isF f) {k : Nat} {x : Int32} (hx : x = 0 ∨ x = 1) : h_pZ 0 (mkC sw I L) f k x = some (mkC sw (ur I f (up (I f) k x)) L) := by
  unfold h_pZ
  rw [if_pos ⟨by rcases hp with rfl | rfl <;> rfl, hx⟩]
  rfl
theorem c0_r0 {f : Nat} (hp : isF f) : h_fR 0 (mkC sw I L) f 0 = some (f + 1) := by rcases hp with rfl | rfl <;> rfl
theorem c0_r1 {f : Nat} (hp : isF f) : h_fR 0 (mkC sw I L) f 1 = some (f + 2) := by rcases hp with rfl | rfl <;> rfl
theorem c0_ld1 {f : Nat} (hp : isF f) {j : Nat} (hj : j < 41) : h_ldZ (mkC sw I L) (f + 2) (nI j) = some (I (f + 2) j) := ldZ_n (n := 41) (by rcases hp with rfl | rfl <;> rfl) hj (by decide)
theorem c0_st1 {f : Nat} (hp : isF f) {j : Nat} {x : Int32} (hj : j < 41) (hx : x = 0 ∨ x = 1) : h_stZ (mkC sw I L) (f + 2) (nI j) x = some (mkC sw (ur I (f + 2) (up (I (f + 2)) j x)) L) := stZ_n (n := 41) (by rcases hp with rfl | rfl <;> rfl) hj (by decide) hx
theorem c0_r2 {f : Nat} (hp : isF f) : h_fR 0 (mkC sw I L) f 2 = some (f + 3) := by rcases hp with rfl | rfl <;> rfl
theorem c0_ld2 {f : Nat} (hp : isF f) {j : Nat} (hj : j < 41) : h_ldI (mkC sw I L) (f + 3) (nI j) = some (I (f + 3) j) := ldI_n (n := 41) (by rcases hp with rfl | rfl <;> rfl) hj (by decide)
theorem c0_st2 {f : Nat} (hp : isF f) {j : Nat} {x : Int32} (hj : j < 41) : h_stI (mkC sw I L) (f + 3) (nI j) x = some (mkC sw (ur I (f + 3) (up (I (f + 3)) j x)) L) := stI_n (n := 41) (by rcases hp with rfl | rfl <;> rfl) hj (by decide)
theorem c0_r6 {f : Nat} (hp : isF f) : h_fR 0 (mkC sw I L) f 6 = some (f + 4) := by rcases hp with rfl | rfl <;> rfl
theorem c0_ld6 {f : Nat} (hp : isF f) {j : Nat} (hj : j < 41) : h_ldZ (mkC sw I L) (f + 4) (nI j) = some (I (f + 4) j) := ldZ_n (n := 41) (by rcases hp with rfl | rfl <;> rfl) hj (by decide)
theorem c0_st6 {f : Nat} (hp : isF f) {j : Nat} {x : Int32} (hj : j < 41) (hx : x = 0 ∨ x = 1) : h_stZ (mkC sw I L) (f + 4) (nI j) x = some (mkC sw (ur I (f + 4) (up (I (f + 4)) j x)) L) := stZ_n (n := 41) (by rcases hp with rfl | rfl <;> rfl) hj (by decide) hx
theorem c0_r7 {f : Nat} (hp : isF f) : h_fR 0 (mkC sw I L) f 7 = some (f + 5) := by rcases hp with rfl | rfl <;> rfl
theorem c2_g {α : Type} {x : Option α} {q : Nat} (hp : isK q) : h_g 2 (mkC sw I L) q x = x := by rcases hp with rfl | rfl <;> rfl
theorem c2_fI {q : Nat} (hp : isK q) {k : Nat} : h_fI 2 (mkC sw I L) q k = some (I q k) := by rcases hp with rfl | rfl <;> rfl
theorem c2_fL {q : Nat} (hp : isK q) {k : Nat} : h_fL 2 (mkC sw I L) q k = some (L q k) := by rcases hp with rfl | rfl <;> rfl
theorem c2_pI {q : Nat} (hp : isK q) {k : Nat} {x : Int32} : h_pI 2 (mkC sw I L) q k x = some (mkC sw (ur I q (up (I q) k x)) L) := by rcases hp with rfl | rfl <;> rfl
theorem c2_pL {q : Nat} (hp : isK q) {k : Nat} {x : Int64} : h_pL 2 (mkC sw I L) q k x = some (mkC sw I (ur L q (up (L q) k x))) := by rcases hp with rfl | rfl <;> rfl
theorem c2_pZ {q : Nat} (hp : isK q) {k : Nat} {x : Int32} (hx : x = 0 ∨ x = 1) : h_pZ 2 (mkC sw I L) q k x = some (mkC sw (ur I q (up (I q) k x)) L) := by
  unfold h_pZ
  rw [if_pos ⟨by rcases hp with rfl | rfl <;> rfl, hx⟩]
  rfl
theorem c2_r1 {q : Nat} (hp : isK q) : h_fR 2 (mkC sw I L) q 1 = some (q + 1) := by rcases hp with rfl | rfl <;> rfl
theorem c2_ld1 {q : Nat} (hp : isK q) {j : Nat} (hj : j < 4) : h_ldI (mkC sw I L) (q + 1) (nI j) = some (I (q + 1) j) := ldI_n (n := 4) (by rcases hp with rfl | rfl <;> rfl) hj (by decide)
theorem c2_st1 {q : Nat} (hp : isK q) {j : Nat} {x : Int32} (hj : j < 4) : h_stI (mkC sw I L) (q + 1) (nI j) x = some (mkC sw (ur I (q + 1) (up (I (q + 1)) j x)) L) := stI_n (n := 4) (by rcases hp with rfl | rfl <;> rfl) hj (by decide)
theorem c2_r2 {q : Nat} (hp : isK q) : h_fR 2 (mkC sw I L) q 2 = some (q + 2) := by rcases hp with rfl | rfl <;> rfl
theorem c2_ld2 {q : Nat} (hp : isK q) {j : Nat} (hj : j < 4) : h_ldI (mkC sw I L) (q + 2) (nI j) = some (I (q + 2) j) := ldI_n (n := 4) (by rcases hp with rfl | rfl <;> rfl) hj (by decide)
theorem c2_st2 {q : Nat} (hp : isK q) {j : Nat} {x : Int32} (hj : j < 4) : h_stI (mkC sw I L) (q + 2) (nI j) x = some (mkC sw (ur I (q + 2) (up (I (q + 2)) j x)) L) := stI_n (n := 4) (by rcases hp with rfl | rfl <;> rfl) hj (by decide)
theorem c2_r3 {q : Nat} (hp : isK q) : h_fR 2 (mkC sw I L) q 3 = some (q + 3) := by rcases hp with rfl | rfl <;> rfl
theorem c2_ld3 {q : Nat} (hp : isK q) {j : Nat} (hj : j < 4) : h_ldI (mkC sw I L) (q + 3) (nI j) = some (I (q + 3) j) := ldI_n (n := 4) (by rcases hp with rfl | rfl <;> rfl) hj (by decide)
theorem c2_st3 {q : Nat} (hp : isK q) {j : Nat} {x : Int32} (hj : j < 4) : h_stI (mkC sw I L) (q + 3) (nI j) x = some (mkC sw (ur I (q + 3) (up (I (q + 3)) j x)) L) := stI_n (n := 4) (by rcases hp with rfl | rfl <;> rfl) hj (by decide)
theorem c2_r4 {q : Nat} (hp : isK q) : h_fR 2 (mkC sw I L) q 4 = some (q + 4) := by rcases hp with rfl | rfl <;> rfl
theorem c2_ld4 {q : Nat} (hp : isK q) {j : Nat} (hj : j < 24) : h_ldI (mkC sw I L) (q + 4) (nI j) = some (I (q + 4) j) := ldI_n (n := 24) (by rcases hp with rfl | rfl <;> rfl) hj (by decide)
theorem c2_st4 {q : Nat} (hp : isK q) {j : Nat} {x : Int32} (hj : j < 24) : h_stI (mkC sw I L) (q + 4) (nI j) x = some (mkC sw (ur I (q + 4) (up (I (q + 4)) j x)) L) := stI_n (n := 24) (by rcases hp with rfl | rfl <;> rfl) hj (by decide)
theorem c2_r5 {q : Nat} (hp : isK q) : h_fR 2 (mkC sw I L) q 5 = some (q + 5) := by rcases hp with rfl | rfl <;> rfl
theorem c2_ld5 {q : Nat} (hp : isK q) {j : Nat} (hj : j < 24) : h_ldI (mkC sw I L) (q + 5) (nI j) = some (I (q + 5) j) := ldI_n (n := 24) (by rcases hp with rfl | rfl <;> rfl) hj (by decide)
theorem c2_st5 {q : Nat} (hp : isK q) {j : Nat} {x : Int32} (hj : j < 24) : h_stI (mkC sw I L) (q + 5) (nI j) x = some (mkC sw (ur I (q + 5) (up (I (q + 5)) j x)) L) := stI_n (n := 24) (by rcases hp with rfl | rfl <;> rfl) hj (by decide)
theorem c2_r6 {q : Nat} (hp : isK q) : h_fR 2 (mkC sw I L) q 6 = some (q + 6) := by rcases hp with rfl | rfl <;> rfl
theorem c2_ld6 {q : Nat} (hp : isK q) {j : Nat} (hj : j < 144) : h_ldI (mkC sw I L) (q + 6) (nI j) = some (I (q + 6) j) := ldI_n (n := 144) (by rcases hp with rfl | rfl <;> rfl) hj (by decide)
theorem c2_st6 {q : Nat} (hp : isK q) {j : Nat} {x : Int32} (hj : j < 144) : h_stI (mkC sw I L) (q + 6) (nI j) x = some (mkC sw (ur I (q + 6) (up (I (q + 6)) j x)) L) := stI_n (n := 144) (by rcases hp with rfl | rfl <;> rfl) hj (by decide)
theorem c2_r7 {q : Nat} (hp : isK q) : h_fR 2 (mkC sw I L) q 7 = some (q + 7) := by rcases hp with rfl | rfl <;> rfl
theorem c2_ld7 {q : Nat} (hp : isK q) {j : Nat} (hj : j < 144) : h_ldI (mkC sw I L) (q + 7) (nI j) = some (I (q + 7) j) := ldI_n (n := 144) (by rcases hp with rfl | rfl <;> rfl) hj (by decide)
theorem c2_st7 {q : Nat} (hp : isK q) {j : Nat} {x : Int32} (hj : j < 144) : h_stI (mkC sw I L) (q + 7) (nI j) x = some (mkC sw (ur I (q + 7) (up (I (q + 7)) j x)) L) := stI_n (n := 144) (by rcases hp with rfl | rfl <;> rfl) hj (by decide)
theorem c2_r8 {q : Nat} (hp : isK q) : h_fR 2 (mkC sw I L) q 8 = some (q + 8) := by rcases hp with rfl | rfl <;> rfl
theorem c2_ld8 {q : Nat} (hp : isK q) {j : Nat} (hj : j < 6) : h_ldI (mkC sw I L) (q + 8) (nI j) = some (I (q + 8) j) := ldI_n (n := 6) (by rcases hp with rfl | rfl <;> rfl) hj (by decide)
theorem c2_st8 {q : Nat} (hp : isK q) {j : Nat} {x : Int32} (hj : j < 6) : h_stI (mkC sw I L) (q + 8) (nI j) x = some (mkC sw (ur I (q + 8) (up (I (q + 8)) j x)) L) := stI_n (n := 6) (by rcases hp with rfl | rfl <;> rfl) hj (by decide)
theorem c2_r9 {q : Nat} (hp : isK q) : h_fR 2 (mkC sw I L) q 9 = some (q + 9) := by rcases hp with rfl | rfl <;> rfl
theorem c2_ld9 {q : Nat} (hp : isK q) {j : Nat} (hj : j < 6) : h_ldI (mkC sw I L) (q + 9) (nI j) = some (I (q + 9) j) := ldI_n (n := 6) (by rcases hp with rfl | rfl <;> rfl) hj (by decide)
theorem c2_st9 {q : Nat} (hp : isK q) {j : Nat} {x : Int32} (hj : j < 6) : h_stI (mkC sw I L) (q + 9) (nI j) x = some (mkC sw (ur I (q + 9) (up (I (q + 9)) j x)) L) := stI_n (n := 6) (by rcases hp with rfl | rfl <;> rfl) hj (by decide)
theorem c2_r10 {q : Nat} (hp : isK q) : h_fR 2 (mkC sw I L) q 10 = some (q + 10) := by rcases hp with rfl | rfl <;> rfl
theorem c2_ld10 {q : Nat} (hp : isK q) {j : Nat} (hj : j < 6) : h_ldL (mkC sw I L) (q + 10) (nI j) = some (L (q + 10) j) := ldL_n (n := 6) (by rcases hp with rfl | rfl <;> rfl) hj (by decide)
theorem c2_st10 {q : Nat} (hp : isK q) {j : Nat} {x : Int64} (hj : j < 6) : h_stL (mkC sw I L) (q + 10) (nI j) x = some (mkC sw I (ur L (q + 10) (up (L (q + 10)) j x))) := stL_n (n := 6) (by rcases hp with rfl | rfl <;> rfl) hj (by decide)
theorem c2_r11 {q : Nat} (hp : isK q) : h_fR 2 (mkC sw I L) q 11 = some (q + 11) := by rcases hp with rfl | rfl <;> rfl
theorem c2_ld11 {q : Nat} (hp : isK q) {j : Nat} (hj : j < 6) : h_ldL (mkC sw I L) (q + 11) (nI j) = some (L (q + 11) j) := ldL_n (n := 6) (by rcases hp with rfl | rfl <;> rfl) hj (by decide)
theorem c2_st11 {q : Nat} (hp : isK q) {j : Nat} {x : Int64} (hj : j < 6) : h_stL (mkC sw I L) (q + 11) (nI j) x = some (mkC sw I (ur L (q + 11) (up (L (q + 11)) j x))) := stL_n (n := 6) (by rcases hp with rfl | rfl <;> rfl) hj (by decide)
theorem c3_g {α : Type} {x : Option α} : h_g 3 (mkC sw I L) 1 x = x := rfl
theorem c3_fI {k : Nat} : h_fI 3 (mkC sw I L) 1 k = some (I 1 k) := rfl
theorem c3_fL {k : Nat} : h_fL 3 (mkC sw I L) 1 k = some (L 1 k) := rfl
theorem c3_pI {k : Nat} {x : Int32} : h_pI 3 (mkC sw I L) 1 k x = some (mkC sw (ur I 1 (up (I 1) k x)) L) := rfl
theorem c3_pL {k : Nat} {x : Int64} : h_pL 3 (mkC sw I L) 1 k x = some (mkC sw I (ur L 1 (up (L 1) k x))) := rfl
theorem c3_pZ {k : Nat} {x : Int32} (hx : x = 0 ∨ x = 1) : h_pZ 3 (mkC sw I L) 1 k x = some (mkC sw (ur I 1 (up (I 1) k x)) L) := by
  unfold h_pZ
  rw [if_pos ⟨rfl, hx⟩]
  rfl
theorem c3_r0 : h_fR 3 (mkC sw I L) 1 0 = some 2 := rfl
theorem c3_r4 : h_fR 3 (mkC sw I L) 1 4 = some 30 := rfl
theorem c3_ld4 {j : Nat} (hj : j < 4) : h_ldL (mkC sw I L) 30 (nI j) = some (L 30 j) := ldL_n (n := 4) rfl hj (by decide)
theorem c3_st4 {j : Nat} {x : Int64} (hj : j < 4) : h_stL (mkC sw I L) 30 (nI j) x = some (mkC sw I (ur L 30 (up (L 30) j x))) := stL_n (n := 4) rfl hj (by decide)
theorem c3_r5 : h_fR 3 (mkC sw I L) 1 5 = some 31 := rfl
theorem c3_ld5 {j : Nat} (hj : j < 24) : h_ldL (mkC sw I L) 31 (nI j) = some (L 31 j) := ldL_n (n := 24) rfl hj (by decide)
theorem c3_st5 {j : Nat} {x : Int64} (hj : j < 24) : h_stL (mkC sw I L) 31 (nI j) x = some (mkC sw I (ur L 31 (up (L 31) j x))) := stL_n (n := 24) rfl hj (by decide)
theorem c3_r6 : h_fR 3 (mkC sw I L) 1 6 = some 32 := rfl
theorem c3_ld6 {j : Nat} (hj : j < 24) : h_ldL (mkC sw I L) 32 (nI j) = some (L 32 j) := ldL_n (n := 24) rfl hj (by decide)
theorem c3_st6 {j : Nat} {x : Int64} (hj : j < 24) : h_stL (mkC sw I L) 32 (nI j) x = some (mkC sw I (ur L 32 (up (L 32) j x))) := stL_n (n := 24) rfl hj (by decide)
theorem c3_r7 : h_fR 3 (mkC sw I L) 1 7 = some 33 := rfl
theorem c3_ld7 {j : Nat} (hj : j < 6) : h_ldL (mkC sw I L) 33 (nI j) = some (L 33 j) := ldL_n (n := 6) rfl hj (by decide)
theorem c3_st7 {j : Nat} {x : Int64} (hj : j < 6) : h_stL (mkC sw I L) 33 (nI j) x = some (mkC sw I (ur L 33 (up (L 33) j x))) := stL_n (n := 6) rfl hj (by decide)
theorem c3_r8 : h_fR 3 (mkC sw I L) 1 8 = some 34 := rfl
theorem c3_ld8 {j : Nat} (hj : j < 5) : h_ldI (mkC sw I L) 34 (nI j) = some (I 34 j) := ldI_n (n := 5) rfl hj (by decide)
theorem c3_st8 {j : Nat} {x : Int32} (hj : j < 5) : h_stI (mkC sw I L) 34 (nI j) x = some (mkC sw (ur I 34 (up (I 34) j x)) L) := stI_n (n := 5) rfl hj (by decide)
theorem c3_r9 : h_fR 3 (mkC sw I L) 1 9 = some 35 := rfl
theorem c3_ld9 {j : Nat} (hj : j < 5) : h_ldZ (mkC sw I L) 35 (nI j) = some (I 35 j) := ldZ_n (n := 5) rfl hj (by decide)
theorem c3_st9 {j : Nat} {x : Int32} (hj : j < 5) (hx : x = 0 ∨ x = 1) : h_stZ (mkC sw I L) 35 (nI j) x = some (mkC sw (ur I 35 (up (I 35) j x)) L) := stZ_n (n := 5) rfl hj (by decide) hx
theorem c4_g {α : Type} {x : Option α} {p : Nat} (hp : isP p) : h_g 4 (mkC sw I L) p x = x := by rcases hp with rfl | rfl <;> rfl
theorem c4_fI {p : Nat} (hp : isP p) {k : Nat} : h_fI 4 (mkC sw I L) p k = some (I p k) := by rcases hp with rfl | rfl <;> rfl
theorem c4_fL {p : Nat} (hp : isP p) {k : Nat} : h_fL 4 (mkC sw I L) p k = some (L p k) := by rcases hp with rfl | rfl <;> rfl
theorem c4_pI {p : Nat} (hp : isP p) {k : Nat} {x : Int32} : h_pI 4 (mkC sw I L) p k x = some (mkC sw (ur I p (up (I p) k x)) L) := by rcases hp with rfl | rfl <;> rfl
theorem c4_pL {p : Nat} (hp : isP p) {k : Nat} {x : Int64} : h_pL 4 (mkC sw I L) p k x = some (mkC sw I (ur L p (up (L p) k x))) := by rcases hp with rfl | rfl <;> rfl
theorem c4_pZ {p : Nat} (hp : isP p) {k : Nat} {x : Int32} (hx : x = 0 ∨ x = 1) : h_pZ 4 (mkC sw I L) p k x = some (mkC sw (ur I p (up (I p) k x)) L) := by
  unfold h_pZ
  rw [if_pos ⟨by rcases hp with rfl | rfl <;> rfl, hx⟩]
  rfl
theorem c4_r0 {p : Nat} (hp : isP p) : h_fR 4 (mkC sw I L) p 0 = some (p + 1) := by rcases hp with rfl | rfl <;> rfl
theorem c4_r2 {p : Nat} (hp : isP p) : h_fR 4 (mkC sw I L) p 2 = some (p + 13) := by rcases hp with rfl | rfl <;> rfl
theorem c4_ld2 {p : Nat} (hp : isP p) {j : Nat} (hj : j < 6) : h_ldI (mkC sw I L) (p + 13) (nI j) = some (I (p + 13) j) := ldI_n (n := 6) (by rcases hp with rfl | rfl <;> rfl) hj (by decide)
theorem c4_st2 {p : Nat} (hp : isP p) {j : Nat} {x : Int32} (hj : j < 6) : h_stI (mkC sw I L) (p + 13) (nI j) x = some (mkC sw (ur I (p + 13) (up (I (p + 13)) j x)) L) := stI_n (n := 6) (by rcases hp with rfl | rfl <;> rfl) hj (by decide)
theorem c4_r4 {p : Nat} (hp : isP p) : h_fR 4 (mkC sw I L) p 4 = some (p + 14) := by rcases hp with rfl | rfl <;> rfl
theorem c4_ld4 {p : Nat} (hp : isP p) {j : Nat} (hj : j < 40) : h_ldI (mkC sw I L) (p + 14) (nI j) = some (I (p + 14) j) := ldI_n (n := 40) (by rcases hp with rfl | rfl <;> rfl) hj (by decide)
theorem c4_st4 {p : Nat} (hp : isP p) {j : Nat} {x : Int32} (hj : j < 40) : h_stI (mkC sw I L) (p + 14) (nI j) x = some (mkC sw (ur I (p + 14) (up (I (p + 14)) j x)) L) := stI_n (n := 40) (by rcases hp with rfl | rfl <;> rfl) hj (by decide)
theorem c4_r5 {p : Nat} (hp : isP p) : h_fR 4 (mkC sw I L) p 5 = some (p + 15) := by rcases hp with rfl | rfl <;> rfl
theorem c4_ld5 {p : Nat} (hp : isP p) {j : Nat} (hj : j < 40) : h_ldI (mkC sw I L) (p + 15) (nI j) = some (I (p + 15) j) := ldI_n (n := 40) (by rcases hp with rfl | rfl <;> rfl) hj (by decide)
theorem c4_st5 {p : Nat} (hp : isP p) {j : Nat} {x : Int32} (hj : j < 40) : h_stI (mkC sw I L) (p + 15) (nI j) x = some (mkC sw (ur I (p + 15) (up (I (p + 15)) j x)) L) := stI_n (n := 40) (by rcases hp with rfl | rfl <;> rfl) hj (by decide)
theorem c4_r6 {p : Nat} (hp : isP p) : h_fR 4 (mkC sw I L) p 6 = some (p + 16) := by rcases hp with rfl | rfl <;> rfl
theorem c4_ld6 {p : Nat} (hp : isP p) {j : Nat} (hj : j < 40) : h_ldI (mkC sw I L) (p + 16) (nI j) = some (I (p + 16) j) := ldI_n (n := 40) (by rcases hp with rfl | rfl <;> rfl) hj (by decide)
theorem c4_st6 {p : Nat} (hp : isP p) {j : Nat} {x : Int32} (hj : j < 40) : h_stI (mkC sw I L) (p + 16) (nI j) x = some (mkC sw (ur I (p + 16) (up (I (p + 16)) j x)) L) := stI_n (n := 40) (by rcases hp with rfl | rfl <;> rfl) hj (by decide)
theorem c4_r7 {p : Nat} (hp : isP p) : h_fR 4 (mkC sw I L) p 7 = some (p + 17) := by rcases hp with rfl | rfl <;> rfl
theorem c4_ld7 {p : Nat} (hp : isP p) {j : Nat} (hj : j < 40) : h_ldI (mkC sw I L) (p + 17) (nI j) = some (I (p + 17) j) := ldI_n (n := 40) (by rcases hp with rfl | rfl <;> rfl) hj (by decide)
theorem c4_st7 {p : Nat} (hp : isP p) {j : Nat} {x : Int32} (hj : j < 40) : h_stI (mkC sw I L) (p + 17) (nI j) x = some (mkC sw (ur I (p + 17) (up (I (p + 17)) j x)) L) := stI_n (n := 40) (by rcases hp with rfl | rfl <;> rfl) hj (by decide)
theorem c4_r8 {p : Nat} (hp : isP p) : h_fR 4 (mkC sw I L) p 8 = some (p + 18) := by rcases hp with rfl | rfl <;> rfl
theorem c4_ld8 {p : Nat} (hp : isP p) {j : Nat} (hj : j < 40) : h_ldI (mkC sw I L) (p + 18) (nI j) = some (I (p + 18) j) := ldI_n (n := 40) (by rcases hp with rfl | rfl <;> rfl) hj (by decide)
theorem c4_st8 {p : Nat} (hp : isP p) {j : Nat} {x : Int32} (hj : j < 40) : h_stI (mkC sw I L) (p + 18) (nI j) x = some (mkC sw (ur I (p + 18) (up (I (p + 18)) j x)) L) := stI_n (n := 40) (by rcases hp with rfl | rfl <;> rfl) hj (by decide)
theorem c4_r9 {p : Nat} (hp : isP p) : h_fR 4 (mkC sw I L) p 9 = some (p + 19) := by rcases hp with rfl | rfl <;> rfl
theorem c4_ld9 {p : Nat} (hp : isP p) {j : Nat} (hj : j < 40) : h_ldI (mkC sw I L) (p + 19) (nI j) = some (I (p + 19) j) := ldI_n (n := 40) (by rcases hp with rfl | rfl <;> rfl) hj (by decide)
theorem c4_st9 {p : Nat} (hp : isP p) {j : Nat} {x : Int32} (hj : j < 40) : h_stI (mkC sw I L) (p + 19) (nI j) x = some (mkC sw (ur I (p + 19) (up (I (p + 19)) j x)) L) := stI_n (n := 40) (by rcases hp with rfl | rfl <;> rfl) hj (by decide)
theorem c4_r10 {p : Nat} (hp : isP p) : h_fR 4 (mkC sw I L) p 10 = some (p + 20) := by rcases hp with rfl | rfl <;> rfl
theorem c4_ld10 {p : Nat} (hp : isP p) {j : Nat} (hj : j < 40) : h_ldI (mkC sw I L) (p + 20) (nI j) = some (I (p + 20) j) := ldI_n (n := 40) (by rcases hp with rfl | rfl <;> rfl) hj (by decide)
theorem c4_st10 {p : Nat} (hp : isP p) {j : Nat} {x : Int32} (hj : j < 40) : h_stI (mkC sw I L) (p + 20) (nI j) x = some (mkC sw (ur I (p + 20) (up (I (p + 20)) j x)) L) := stI_n (n := 40) (by rcases hp with rfl | rfl <;> rfl) hj (by decide)
theorem c4_r11 {p : Nat} (hp : isP p) : h_fR 4 (mkC sw I L) p 11 = some (p + 21) := by rcases hp with rfl | rfl <;> rfl
theorem c4_ld11 {p : Nat} (hp : isP p) {j : Nat} (hj : j < 40) : h_ldI (mkC sw I L) (p + 21) (nI j) = some (I (p + 21) j) := ldI_n (n := 40) (by rcases hp with rfl | rfl <;> rfl) hj (by decide)
theorem c4_st11 {p : Nat} (hp : isP p) {j : Nat} {x : Int32} (hj : j < 40) : h_stI (mkC sw I L) (p + 21) (nI j) x = some (mkC sw (ur I (p + 21) (up (I (p + 21)) j x)) L) := stI_n (n := 40) (by rcases hp with rfl | rfl <;> rfl) hj (by decide)
theorem c4_r12 {p : Nat} (hp : isP p) : h_fR 4 (mkC sw I L) p 12 = some (p + 22) := by rcases hp with rfl | rfl <;> rfl
theorem c4_ld12 {p : Nat} (hp : isP p) {j : Nat} (hj : j < 40) : h_ldI (mkC sw I L) (p + 22) (nI j) = some (I (p + 22) j) := ldI_n (n := 40) (by rcases hp with rfl | rfl <;> rfl) hj (by decide)
theorem c4_st12 {p : Nat} (hp : isP p) {j : Nat} {x : Int32} (hj : j < 40) : h_stI (mkC sw I L) (p + 22) (nI j) x = some (mkC sw (ur I (p + 22) (up (I (p + 22)) j x)) L) := stI_n (n := 40) (by rcases hp with rfl | rfl <;> rfl) hj (by decide)
theorem c4_r13 {p : Nat} (hp : isP p) : h_fR 4 (mkC sw I L) p 13 = some (p + 23) := by rcases hp with rfl | rfl <;> rfl
theorem c4_ld13 {p : Nat} (hp : isP p) {j : Nat} (hj : j < 40) : h_ldI (mkC sw I L) (p + 23) (nI j) = some (I (p + 23) j) := ldI_n (n := 40) (by rcases hp with rfl | rfl <;> rfl) hj (by decide)
theorem c4_st13 {p : Nat} (hp : isP p) {j : Nat} {x : Int32} (hj : j < 40) : h_stI (mkC sw I L) (p + 23) (nI j) x = some (mkC sw (ur I (p + 23) (up (I (p + 23)) j x)) L) := stI_n (n := 40) (by rcases hp with rfl | rfl <;> rfl) hj (by decide)
theorem c4_r14 {p : Nat} (hp : isP p) : h_fR 4 (mkC sw I L) p 14 = some (p + 24) := by rcases hp with rfl | rfl <;> rfl
theorem c4_ld14 {p : Nat} (hp : isP p) {j : Nat} (hj : j < 40) : h_ldI (mkC sw I L) (p + 24) (nI j) = some (I (p + 24) j) := ldI_n (n := 40) (by rcases hp with rfl | rfl <;> rfl) hj (by decide)
theorem c4_st14 {p : Nat} (hp : isP p) {j : Nat} {x : Int32} (hj : j < 40) : h_stI (mkC sw I L) (p + 24) (nI j) x = some (mkC sw (ur I (p + 24) (up (I (p + 24)) j x)) L) := stI_n (n := 40) (by rcases hp with rfl | rfl <;> rfl) hj (by decide)
theorem c5_g {α : Type} {x : Option α} : h_g 5 (mkC sw I L) 224 x = x := rfl
theorem c5_fI {k : Nat} : h_fI 5 (mkC sw I L) 224 k = some (I 224 k) := rfl
theorem c5_fL {k : Nat} : h_fL 5 (mkC sw I L) 224 k = some (L 224 k) := rfl
theorem c5_pI {k : Nat} {x : Int32} : h_pI 5 (mkC sw I L) 224 k x = some (mkC sw (ur I 224 (up (I 224) k x)) L) := rfl
theorem c5_pL {k : Nat} {x : Int64} : h_pL 5 (mkC sw I L) 224 k x = some (mkC sw I (ur L 224 (up (L 224) k x))) := rfl
theorem c5_pZ {k : Nat} {x : Int32} (hx : x = 0 ∨ x = 1) : h_pZ 5 (mkC sw I L) 224 k x = some (mkC sw (ur I 224 (up (I 224) k x)) L) := by
  unfold h_pZ
  rw [if_pos ⟨rfl, hx⟩]
  rfl
theorem c5_r5 : h_fR 5 (mkC sw I L) 224 5 = some 225 := rfl
theorem c6_g {α : Type} {x : Option α} : h_g 6 (mkC sw I L) 214 x = x := rfl
theorem c6_fI {k : Nat} : h_fI 6 (mkC sw I L) 214 k = some (I 214 k) := rfl
theorem c6_fL {k : Nat} : h_fL 6 (mkC sw I L) 214 k = some (L 214 k) := rfl
theorem c6_pI {k : Nat} {x : Int32} : h_pI 6 (mkC sw I L) 214 k x = some (mkC sw (ur I 214 (up (I 214) k x)) L) := rfl
theorem c6_pL {k : Nat} {x : Int64} : h_pL 6 (mkC sw I L) 214 k x = some (mkC sw I (ur L 214 (up (L 214) k x))) := rfl
theorem c6_pZ {k : Nat} {x : Int32} (hx : x = 0 ∨ x = 1) : h_pZ 6 (mkC sw I L) 214 k x = some (mkC sw (ur I 214 (up (I 214) k x)) L) := by
  unfold h_pZ
  rw [if_pos ⟨rfl, hx⟩]
  rfl
theorem c6_r7 : h_fR 6 (mkC sw I L) 214 7 = some 215 := rfl
theorem c6_ld7 {j : Nat} (hj : j < 41) : h_ldZ (mkC sw I L) 215 (nI j) = some (I 215 j) := ldZ_n (n := 41) rfl hj (by decide)
theorem c6_st7 {j : Nat} {x : Int32} (hj : j < 41) (hx : x = 0 ∨ x = 1) : h_stZ (mkC sw I L) 215 (nI j) x = some (mkC sw (ur I 215 (up (I 215) j x)) L) := stZ_n (n := 41) rfl hj (by decide) hx
theorem c6_r8 : h_fR 6 (mkC sw I L) 214 8 = some 216 := rfl
theorem c6_ld8 {j : Nat} (hj : j < 4) : h_ldI (mkC sw I L) 216 (nI j) = some (I 216 j) := ldI_n (n := 4) rfl hj (by decide)
theorem c6_st8 {j : Nat} {x : Int32} (hj : j < 4) : h_stI (mkC sw I L) 216 (nI j) x = some (mkC sw (ur I 216 (up (I 216) j x)) L) := stI_n (n := 4) rfl hj (by decide)
theorem c6_r10 : h_fR 6 (mkC sw I L) 214 10 = some 217 := rfl
theorem c6_ld10 {j : Nat} (hj : j < 1000) : h_ldL (mkC sw I L) 217 (nI j) = some (L 217 j) := ldL_n (n := 1000) rfl hj (by decide)
theorem c6_st10 {j : Nat} {x : Int64} (hj : j < 1000) : h_stL (mkC sw I L) 217 (nI j) x = some (mkC sw I (ur L 217 (up (L 217) j x))) := stL_n (n := 1000) rfl hj (by decide)
theorem c6_r11 : h_fR 6 (mkC sw I L) 214 11 = some 218 := rfl
theorem c6_ld11 {j : Nat} (hj : j < 1000) : h_ldI (mkC sw I L) 218 (nI j) = some (I 218 j) := ldI_n (n := 1000) rfl hj (by decide)
theorem c6_st11 {j : Nat} {x : Int32} (hj : j < 1000) : h_stI (mkC sw I L) 218 (nI j) x = some (mkC sw (ur I 218 (up (I 218) j x)) L) := stI_n (n := 1000) rfl hj (by decide)
theorem c6_r12 : h_fR 6 (mkC sw I L) 214 12 = some 219 := rfl
theorem c6_ld12 {j : Nat} (hj : j < 2048) : h_ldI (mkC sw I L) 219 (nI j) = some (I 219 j) := ldI_n (n := 2048) rfl hj (by decide)
theorem c6_st12 {j : Nat} {x : Int32} (hj : j < 2048) : h_stI (mkC sw I L) 219 (nI j) x = some (mkC sw (ur I 219 (up (I 219) j x)) L) := stI_n (n := 2048) rfl hj (by decide)
theorem c6_r13 : h_fR 6 (mkC sw I L) 214 13 = some 220 := rfl
theorem c6_r14 : h_fR 6 (mkC sw I L) 214 14 = some 222 := rfl
theorem c7_g {α : Type} {x : Option α} : h_g 7 (mkC sw I L) 2 x = x := rfl
theorem c7_fI {k : Nat} : h_fI 7 (mkC sw I L) 2 k = some (I 2 k) := rfl
theorem c7_fL {k : Nat} : h_fL 7 (mkC sw I L) 2 k = some (L 2 k) := rfl
theorem c7_pI {k : Nat} {x : Int32} : h_pI 7 (mkC sw I L) 2 k x = some (mkC sw (ur I 2 (up (I 2) k x)) L) := rfl
theorem c7_pL {k : Nat} {x : Int64} : h_pL 7 (mkC sw I L) 2 k x = some (mkC sw I (ur L 2 (up (L 2) k x))) := rfl
theorem c7_pZ {k : Nat} {x : Int32} (hx : x = 0 ∨ x = 1) : h_pZ 7 (mkC sw I L) 2 k x = some (mkC sw (ur I 2 (up (I 2) k x)) L) := by
  unfold h_pZ
  rw [if_pos ⟨rfl, hx⟩]
  rfl
theorem c7_r6 : h_fR 7 (mkC sw I L) 2 6 = some 3 := rfl
theorem c7_ld6 {j : Nat} (hj : j < 900) : h_ldB (mkC sw I L) 3 (nI j) = some (I 3 j) := ldB_n (n := 900) rfl hj (by decide)
theorem c7_st6 {j : Nat} {x : Int32} (hj : j < 900) : h_stB (mkC sw I L) 3 (nI j) x = some (mkC sw (ur I 3 (up (I 3) j x.toInt8.toInt32)) L) := stB_n (n := 900) rfl hj (by decide)
theorem c7_r7 : h_fR 7 (mkC sw I L) 2 7 = some 4 := rfl
theorem c7_ld7 {j : Nat} (hj : j < 18) : h_ldL (mkC sw I L) 4 (nI j) = some (L 4 j) := ldL_n (n := 18) rfl hj (by decide)
theorem c7_st7 {j : Nat} {x : Int64} (hj : j < 18) : h_stL (mkC sw I L) 4 (nI j) x = some (mkC sw I (ur L 4 (up (L 4) j x))) := stL_n (n := 18) rfl hj (by decide)
theorem c8_g {α : Type} {x : Option α} : h_g 8 (mkC sw I L) 0 x = x := rfl
theorem c8_fI {k : Nat} : h_fI 8 (mkC sw I L) 0 k = some (I 0 k) := rfl
theorem c8_fL {k : Nat} : h_fL 8 (mkC sw I L) 0 k = some (L 0 k) := rfl
theorem c8_pI {k : Nat} {x : Int32} : h_pI 8 (mkC sw I L) 0 k x = some (mkC sw (ur I 0 (up (I 0) k x)) L) := rfl
theorem c8_pL {k : Nat} {x : Int64} : h_pL 8 (mkC sw I L) 0 k x = some (mkC sw I (ur L 0 (up (L 0) k x))) := rfl
theorem c8_pZ {k : Nat} {x : Int32} (hx : x = 0 ∨ x = 1) : h_pZ 8 (mkC sw I L) 0 k x = some (mkC sw (ur I 0 (up (I 0) k x)) L) := by
  unfold h_pZ
  rw [if_pos ⟨rfl, hx⟩]
  rfl
theorem c8_r0 : h_fR 8 (mkC sw I L) 0 0 = some 1 := rfl
theorem c8_r1 : h_fR 8 (mkC sw I L) 0 1 = some 36 := rfl
theorem c8_r2 : h_fR 8 (mkC sw I L) 0 2 = some 125 := rfl
theorem c8_r3 : h_fR 8 (mkC sw I L) 0 3 = some 214 := rfl
theorem c8_r4 : h_fR 8 (mkC sw I L) 0 4 = some 224 := rfl
theorem c8_r5 : h_fR 8 (mkC sw I L) 0 5 = some 227 := rfl
theorem c8_ld5 {j : Nat} (hj : j < 40) : h_ldI (mkC sw I L) 227 (nI j) = some (I 227 j) := ldI_n (n := 40) rfl hj (by decide)
theorem c8_st5 {j : Nat} {x : Int32} (hj : j < 40) : h_stI (mkC sw I L) 227 (nI j) x = some (mkC sw (ur I 227 (up (I 227) j x)) L) := stI_n (n := 40) rfl hj (by decide)
theorem c3_r3 : h_fR 3 (mkC sw I L) 1 3 = some (if sw then 228 else 5) := by cases sw <;> rfl
theorem c8_r6 : h_fR 8 (mkC sw I L) 0 6 = some (if sw then 5 else 228) := by cases sw <;> rfl
theorem c3_p3 {x : Nat} (hx : x = if sw then 5 else 228) : h_pR 3 (mkC sw I L) 1 3 x = some (shC, I, L, u2 (refC sw) 1 3 (some x)) := rfl
/-- the two programs have changed places -/
theorem swap_C : (u2 (u2 (refC sw) 1 3 (some (if sw then 5 else 228))) 0 6 (some (if sw then 228 else 5))) = refC (!sw) := by
  funext o k
  unfold u2 refC
  cases sw <;> by_cases h0 : o = 0 <;> by_cases h1 : o = 1 <;> by_cases h6 : k = 6 <;> by_cases h3 : k = 3 <;> simp [h0, h1, h6, h3] <;> omega
-- Holds
theorem c1_g {α : Type} {x : Option α} {z : Nat} (hz : isH z) : h_g 1 (mkC sw I L) z x = x := h_g_pos (by show (shC z).1 = 1; rw [(isH_sh hz).1])
theorem c1_r0 {z : Nat} (hz : isH z) : h_fR 1 (mkC sw I L) z 0 = some (z + 1) := by
  unfold h_fR
  rw [if_pos (by show (shC z).1 = 1; rw [(isH_sh hz).1])]
  exact isH_ref hz
theorem c1_ld {z j : Nat} (hz : isH z) (hj : j < 24) : h_ldI (mkC sw I L) (z + 1) (nI j) = some (I (z + 1) j) := ldI_n (n := 24) (isH_sh hz).2 hj (by decide)
theorem c1_st {z j : Nat} {x : Int32} (hz : isH z) (hj : j < 24) : h_stI (mkC sw I L) (z + 1) (nI j) x = some (mkC sw (ur I (z + 1) (up (I (z + 1)) j x)) L) := stI_n (n := 24) (isH_sh hz).2 hj (by decide)
theorem c0_hold {f j : Nat} (hp : isF f) (hj : j < 41) : h_ldR (mkC sw I L) (f + 1) (nI j) = some (f + 7 + 2 * j) := by
  obtain ⟨h1, h2, h3, h4⟩ := holds_all j hj
  rcases hp with rfl | rfl <;> (rw [ldR_n (n := 41) rfl hj (by decide)]; cases sw <;> first | exact h1 | exact h2 | exact h3 | exact h4)
end AccC
