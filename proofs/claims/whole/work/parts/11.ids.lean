/-! THE TWO WORLDS: numbers of the objects, their shapes and references (by program, as the constructors make them) -/
def shCL : List (Nat × Nat) := [(8, 0), (3, 0), (7, 0), (12, 900), (13, 18), (4, 0), (2, 0), (10, 4), (10, 4), (10, 4), (10, 24), (10, 24), (10, 144), (10, 144), (10, 6), (10, 6), (13, 6), (13, 6), (10, 6), (10, 40), (10, 40), (10, 40), (10, 40), (10, 40), (10, 40), (10, 40), (10, 40), (10, 40), (10, 40), (10, 40), (13, 4), (13, 24), (13, 24), (13, 6), (10, 5), (11, 5), (0, 0), (14, 41), (11, 41), (10, 41), (11, 41), (1, 0), (10, 24), (1, 0), (10, 24), (1, 0), (10, 24), (1, 0), (10, 24), (1, 0), (10, 24), (1, 0), (10, 24), (1, 0), (10, 24), (1, 0), (10, 24), (1, 0), (10, 24), (1, 0), (10, 24), (1, 0), (10, 24), (1, 0), (10, 24), (1, 0), (10, 24), (1, 0), (10, 24), (1, 0), (10, 24), (1, 0), (10, 24), (1, 0), (10, 24), (1, 0), (10, 24), (1, 0), (10, 24), (1, 0), (10, 24), (1, 0), (10, 24), (1, 0), (10, 24), (1, 0), (10, 24), (1, 0), (10, 24), (1, 0), (10, 24), (1, 0), (10, 24), (1, 0), (10, 24), (1, 0), (10, 24), (1, 0), (10, 24), (1, 0), (10, 24), (1, 0), (10, 24), (1, 0), (10, 24), (1, 0), (10, 24), (1, 0), (10, 24), (1, 0), (10, 24), (1, 0), (10, 24), (1, 0), (10, 24), (1, 0), (10, 24), (1, 0), (10, 24), (1, 0), (10, 24), (1, 0), (10, 24), (1, 0), (10, 24), (0, 0), (14, 41), (11, 41), (10, 41), (11, 41), (1, 0), (10, 24), (1, 0), (10, 24), (1, 0), (10, 24), (1, 0), (10, 24), (1, 0), (10, 24), (1, 0), (10, 24), (1, 0), (10, 24), (1, 0), (10, 24), (1, 0), (10, 24), (1, 0), (10, 24), (1, 0), (10, 24), (1, 0), (10, 24), (1, 0), (10, 24), (1, 0), (10, 24), (1, 0), (10, 24), (1, 0), (10, 24), (1, 0), (10, 24), (1, 0), (10, 24), (1, 0), (10, 24), (1, 0), (10, 24), (1, 0), (10, 24), (1, 0), (10, 24), (1, 0), (10, 24), (1, 0), (10, 24), (1, 0), (10, 24), (1, 0), (10, 24), (1, 0), (10, 24), (1, 0), (10, 24), (1, 0), (10, 24), (1, 0), (10, 24), (1, 0), (10, 24), (1, 0), (10, 24), (1, 0), (10, 24), (1, 0), (10, 24), (1, 0), (10, 24), (1, 0), (10, 24), (1, 0), (10, 24), (1, 0), (10, 24), (1, 0), (10, 24), (1, 0), (10, 24), (1, 0), (10, 24), (1, 0), (10, 24), (6, 0), (11, 41), (10, 4), (13, 1000), (10, 1000), (10, 2048), (1, 0), (10, 24), (1, 0), (10, 24), (5, 0), (1, 0), (10, 24), (10, 40), (4, 0), (2, 0), (10, 4), (10, 4), (10, 4), (10, 24), (10, 24), (10, 144), (10, 144), (10, 6), (10, 6), (13, 6), (13, 6), (10, 6), (10, 40), (10, 40), (10, 40), (10, 40), (10, 40), (10, 40), (10, 40), (10, 40), (10, 40), (10, 40), (10, 40)]
def shC (i : Nat) : Nat × Nat := shCL.getD i (99, 0)
def rfCL : List (List (Option Nat)) := [[some 1, some 36, some 125, some 214, some 224, some 227, some 228], [some 2, none, none, some 5, some 30, some 31, some 32, some 33, some 34, some 35], [none, none, none, none, none, none, some 3, some 4], [], [], [some 6, none, some 18, none, some 19, some 20, some 21, some 22, some 23, some 24, some 25, some 26, some 27, some 28, some 29], [none, some 7, some 8, some 9, some 10, some 11, some 12, some 13, some 14, some 15, some 16, some 17], [], [], [], [], [], [], [], [], [], [], [], [], [], [], [], [], [], [], [], [], [], [], [], [], [], [], [], [], [], [some 37, some 38, some 39, none, none, none, some 40, some 41], [some 43, some 45, some 47, some 49, some 51, some 53, some 55, some 57, some 59, some 61, some 63, some 65, some 67, some 69, some 71, some 73, some 75, some 77, some 79, some 81, some 83, some 85, some 87, some 89, some 91, some 93, some 95, some 97, some 99, some 101, some 103, some 105, some 107, some 109, some 111, some 113, some 115, some 117, some 119, some 121, some 123], [], [], [], [some 42], [], [some 44], [], [some 46], [], [some 48], [], [some 50], [], [some 52], [], [some 54], [], [some 56], [], [some 58], [], [some 60], [], [some 62], [], [some 64], [], [some 66], [], [some 68], [], [some 70], [], [some 72], [], [some 74], [], [some 76], [], [some 78], [], [some 80], [], [some 82], [], [some 84], [], [some 86], [], [some 88], [], [some 90], [], [some 92], [], [some 94], [], [some 96], [], [some 98], [], [some 100], [], [some 102], [], [some 104], [], [some 106], [], [some 108], [], [some 110], [], [some 112], [], [some 114], [], [some 116], [], [some 118], [], [some 120], [], [some 122], [], [some 124], [], [some 126, some 127, some 128, none, none, none, some 129, some 130], [some 132, some 134, some 136, some 138, some 140, some 142, some 144, some 146, some 148, some 150, some 152, some 154, some 156, some 158, some 160, some 162, some 164, some 166, some 168, some 170, some 172, some 174, some 176, some 178, some 180, some 182, some 184, some 186, some 188, some 190, some 192, some 194, some 196, some 198, some 200, some 202, some 204, some 206, some 208, some 210, some 212], [], [], [], [some 131], [], [some 133], [], [some 135], [], [some 137], [], [some 139], [], [some 141], [], [some 143], [], [some 145], [], [some 147], [], [some 149], [], [some 151], [], [some 153], [], [some 155], [], [some 157], [], [some 159], [], [some 161], [], [some 163], [], [some 165], [], [some 167], [], [some 169], [], [some 171], [], [some 173], [], [some 175], [], [some 177], [], [some 179], [], [some 181], [], [some 183], [], [some 185], [], [some 187], [], [some 189], [], [some 191], [], [some 193], [], [some 195], [], [some 197], [], [some 199], [], [some 201], [], [some 203], [], [some 205], [], [some 207], [], [some 209], [], [some 211], [], [some 213], [], [none, none, none, none, none, none, none, some 215, some 216, none, some 217, some 218, some 219, some 220, some 222], [], [], [], [], [], [some 221], [], [some 223], [], [none, none, none, none, none, some 225], [some 226], [], [], [some 229, none, some 241, none, some 242, some 243, some 244, some 245, some 246, some 247, some 248, some 249, some 250, some 251, some 252], [none, some 230, some 231, some 232, some 233, some 234, some 235, some 236, some 237, some 238, some 239, some 240], [], [], [], [], [], [], [], [], [], [], [], [], [], [], [], [], [], [], [], [], [], [], []]
def refC (sw : Bool) (o k : Nat) : Option Nat := if o = 0 ∧ k = 6 then some (if sw then 5 else 228) else if o = 1 ∧ k = 3 then some (if sw then 228 else 5) else (rfCL.getD o []).getD k none
def mkC (sw : Bool) (I : Nat → Nat → Int32) (L : Nat → Nat → Int64) : Hp := (shC, I, L, refC sw)
def shML : List (Nat × Nat) := [(9, 0), (10, 900), (10, 573), (10, 573), (13, 58), (10, 6), (11, 36), (13, 6), (13, 6), (11, 40), (11, 41), (10, 246), (10, 246), (10, 246), (10, 246), (10, 6), (10, 6), (10, 6), (10, 6), (10, 6), (10, 6), (10, 6), (10, 4), (13, 1000), (10, 1000), (10, 1000)]
def shM (i : Nat) : Nat × Nat := shML.getD i (99, 0)
def rfML : List (Option Nat) := [some 1, some 2, some 3, some 4, none, none, none, none, none, none, none, none, none, none, none, none, none, some 5, some 6, some 7, some 8, some 9, some 10, some 11, some 12, some 13, some 14, some 15, some 16, some 17, some 18, none, none, none, none, some 19, some 20, some 21, some 22, some 23, some 24, some 25]
def refM (o k : Nat) : Option Nat := if o = 0 then rfML.getD k none else none
def mkM (I : Nat → Nat → Int32) (L : Nat → Nat → Int64) : Hp := (shM, I, L, refM)
def ur {α : Type} (I : Nat → Nat → α) (a : Nat) (f : Nat → α) : Nat → Nat → α := fun b => if b = a then f else I b
theorem ur_at {α : Type} {I : Nat → Nat → α} {a : Nat} {f : Nat → α} : ur I a f a = f := by simp [ur]
theorem ur_ne {α : Type} {I : Nat → Nat → α} {a b : Nat} {f : Nat → α} (h : b ≠ a) : ur I a f b = I b := by simp [ur, h]
theorem ur_ur {α : Type} {I : Nat → Nat → α} {a : Nat} {f g : Nat → α} : ur (ur I a f) a g = ur I a g := by
  funext b; unfold ur; by_cases h : b = a <;> simp [h]
theorem ur_self {α : Type} {I : Nat → Nat → α} {a : Nat} : ur I a (I a) = I := by
  funext b; unfold ur; by_cases h : b = a <;> simp [h]
theorem rowI_C {sw : Bool} {I : Nat → Nat → Int32} {L : Nat → Nat → Int64} {a : Nat} {f : Nat → Int32} : h_rowI (mkC sw I L) a f = mkC sw (ur I a f) L := rfl
theorem rowL_C {sw : Bool} {I : Nat → Nat → Int32} {L : Nat → Nat → Int64} {a : Nat} {f : Nat → Int64} : h_rowL (mkC sw I L) a f = mkC sw I (ur L a f) := rfl
theorem rowI_M {I : Nat → Nat → Int32} {L : Nat → Nat → Int64} {a : Nat} {f : Nat → Int32} : h_rowI (mkM I L) a f = mkM (ur I a f) L := rfl
theorem rowL_M {I : Nat → Nat → Int32} {L : Nat → Nat → Int64} {a : Nat} {f : Nat → Int64} : h_rowL (mkM I L) a f = mkM I (ur L a f) := rfl
section RefRows
variable {I : Nat → Nat → Int32} {L : Nat → Nat → Int64}
theorem m_g {α : Type} {x : Option α} : h_g 9 (mkM I L) 0 x = x := rfl
theorem m_fI {k : Nat} : h_fI 9 (mkM I L) 0 k = some (I 0 k) := rfl
theorem m_fL {k : Nat} : h_fL 9 (mkM I L) 0 k = some (L 0 k) := rfl
theorem m_pI {k : Nat} {x : Int32} : h_pI 9 (mkM I L) 0 k x = some (mkM (ur I 0 (up (I 0) k x)) L) := rfl
theorem m_pL {k : Nat} {x : Int64} : h_pL 9 (mkM I L) 0 k x = some (mkM I (ur L 0 (up (L 0) k x))) := rfl
theorem m_pZ {k : Nat} {x : Int32} (hx : x = 0 ∨ x = 1) : h_pZ 9 (mkM I L) 0 k x = some (mkM (ur I 0 (up (I 0) k x)) L) := by
  unfold h_pZ
  rw [if_pos ⟨rfl, hx⟩]
  rfl
theorem m_r0 : h_fR 9 (mkM I L) 0 0 = some 1 := rfl
theorem m_r1 : h_fR 9 (mkM I L) 0 1 = some 2 := rfl
theorem m_r2 : h_fR 9 (mkM I L) 0 2 = some 3 := rfl
theorem m_r3 : h_fR 9 (mkM I L) 0 3 = some 4 := rfl
theorem m_r17 : h_fR 9 (mkM I L) 0 17 = some 5 := rfl
theorem m_r18 : h_fR 9 (mkM I L) 0 18 = some 6 := rfl
theorem m_r19 : h_fR 9 (mkM I L) 0 19 = some 7 := rfl
theorem m_r20 : h_fR 9 (mkM I L) 0 20 = some 8 := rfl
theorem m_r21 : h_fR 9 (mkM I L) 0 21 = some 9 := rfl
theorem m_r22 : h_fR 9 (mkM I L) 0 22 = some 10 := rfl
theorem m_r23 : h_fR 9 (mkM I L) 0 23 = some 11 := rfl
theorem m_r24 : h_fR 9 (mkM I L) 0 24 = some 12 := rfl
theorem m_r25 : h_fR 9 (mkM I L) 0 25 = some 13 := rfl
theorem m_r26 : h_fR 9 (mkM I L) 0 26 = some 14 := rfl
theorem m_r27 : h_fR 9 (mkM I L) 0 27 = some 15 := rfl
theorem m_r28 : h_fR 9 (mkM I L) 0 28 = some 16 := rfl
theorem m_r29 : h_fR 9 (mkM I L) 0 29 = some 17 := rfl
theorem m_r30 : h_fR 9 (mkM I L) 0 30 = some 18 := rfl
theorem m_r35 : h_fR 9 (mkM I L) 0 35 = some 19 := rfl
theorem m_r36 : h_fR 9 (mkM I L) 0 36 = some 20 := rfl
theorem m_r37 : h_fR 9 (mkM I L) 0 37 = some 21 := rfl
theorem m_r38 : h_fR 9 (mkM I L) 0 38 = some 22 := rfl
theorem m_r39 : h_fR 9 (mkM I L) 0 39 = some 23 := rfl
theorem m_r40 : h_fR 9 (mkM I L) 0 40 = some 24 := rfl
theorem m_r41 : h_fR 9 (mkM I L) 0 41 = some 25 := rfl
theorem m_ld1 {k : Nat} (hk : k < 900) : h_ldI (mkM I L) 1 (nI k) = some (I 1 k) := ldI_n (n := 900) rfl hk (by decide)
theorem m_st1 {k : Nat} {x : Int32} (hk : k < 900) : h_stI (mkM I L) 1 (nI k) x = some (mkM (ur I 1 (up (I 1) k x)) L) := stI_n (n := 900) rfl hk (by decide)
theorem m_ld2 {k : Nat} (hk : k < 573) : h_ldI (mkM I L) 2 (nI k) = some (I 2 k) := ldI_n (n := 573) rfl hk (by decide)
theorem m_st2 {k : Nat} {x : Int32} (hk : k < 573) : h_stI (mkM I L) 2 (nI k) x = some (mkM (ur I 2 (up (I 2) k x)) L) := stI_n (n := 573) rfl hk (by decide)
theorem m_ld3 {k : Nat} (hk : k < 573) : h_ldI (mkM I L) 3 (nI k) = some (I 3 k) := ldI_n (n := 573) rfl hk (by decide)
theorem m_st3 {k : Nat} {x : Int32} (hk : k < 573) : h_stI (mkM I L) 3 (nI k) x = some (mkM (ur I 3 (up (I 3) k x)) L) := stI_n (n := 573) rfl hk (by decide)
theorem m_ld4 {k : Nat} (hk : k < 58) : h_ldL (mkM I L) 4 (nI k) = some (L 4 k) := ldL_n (n := 58) rfl hk (by decide)
theorem m_st4 {k : Nat} {x : Int64} (hk : k < 58) : h_stL (mkM I L) 4 (nI k) x = some (mkM I (ur L 4 (up (L 4) k x))) := stL_n (n := 58) rfl hk (by decide)
theorem m_ld5 {k : Nat} (hk : k < 6) : h_ldI (mkM I L) 5 (nI k) = some (I 5 k) := ldI_n (n := 6) rfl hk (by decide)
theorem m_st5 {k : Nat} {x : Int32} (hk : k < 6) : h_stI (mkM I L) 5 (nI k) x = some (mkM (ur I 5 (up (I 5) k x)) L) := stI_n (n := 6) rfl hk (by decide)
theorem m_ld6 {k : Nat} (hk : k < 36) : h_ldZ (mkM I L) 6 (nI k) = some (I 6 k) := ldZ_n (n := 36) rfl hk (by decide)
theorem m_st6 {k : Nat} {x : Int32} (hk : k < 36) (hx : x = 0 ∨ x = 1) : h_stZ (mkM I L) 6 (nI k) x = some (mkM (ur I 6 (up (I 6) k x)) L) := stZ_n (n := 36) rfl hk (by decide) hx
theorem m_ld7 {k : Nat} (hk : k < 6) : h_ldL (mkM I L) 7 (nI k) = some (L 7 k) := ldL_n (n := 6) rfl hk (by decide)
theorem m_st7 {k : Nat} {x : Int64} (hk : k < 6) : h_stL (mkM I L) 7 (nI k) x = some (mkM I (ur L 7 (up (L 7) k x))) := stL_n (n := 6) rfl hk (by decide)
theorem m_ld8 {k : Nat} (hk : k < 6) : h_ldL (mkM I L) 8 (nI k) = some (L 8 k) := ldL_n (n := 6) rfl hk (by decide)
theorem m_st8 {k : Nat} {x : Int64} (hk : k < 6) : h_stL (mkM I L) 8 (nI k) x = some (mkM I (ur L 8 (up (L 8) k x))) := stL_n (n := 6) rfl hk (by decide)
theorem m_ld9 {k : Nat} (hk : k < 40) : h_ldZ (mkM I L) 9 (nI k) = some (I 9 k) := ldZ_n (n := 40) rfl hk (by decide)
theorem m_st9 {k : Nat} {x : Int32} (hk : k < 40) (hx : x = 0 ∨ x = 1) : h_stZ (mkM I L) 9 (nI k) x = some (mkM (ur I 9 (up (I 9) k x)) L) := stZ_n (n := 40) rfl hk (by decide) hx
theorem m_ld10 {k : Nat} (hk : k < 41) : h_ldZ (mkM I L) 10 (nI k) = some (I 10 k) := ldZ_n (n := 41) rfl hk (by decide)
theorem m_st10 {k : Nat} {x : Int32} (hk : k < 41) (hx : x = 0 ∨ x = 1) : h_stZ (mkM I L) 10 (nI k) x = some (mkM (ur I 10 (up (I 10) k x)) L) := stZ_n (n := 41) rfl hk (by decide) hx
theorem m_ld11 {k : Nat} (hk : k < 246) : h_ldI (mkM I L) 11 (nI k) = some (I 11 k) := ldI_n (n := 246) rfl hk (by decide)
theorem m_st11 {k : Nat} {x : Int32} (hk : k < 246) : h_stI (mkM I L) 11 (nI k) x = some (mkM (ur I 11 (up (I 11) k x)) L) := stI_n (n := 246) rfl hk (by decide)
theorem m_ld12 {k : Nat} (hk : k < 246) : h_ldI (mkM I L) 12 (nI k) = some (I 12 k) := ldI_n (n := 246) rfl hk (by decide)
theorem m_st12 {k : Nat} {x : Int32} (hk : k < 246) : h_stI (mkM I L) 12 (nI k) x = some (mkM (ur I 12 (up (I 12) k x)) L) := stI_n (n := 246) rfl hk (by decide)
theorem m_ld13 {k : Nat} (hk : k < 246) : h_ldI (mkM I L) 13 (nI k) = some (I 13 k) := ldI_n (n := 246) rfl hk (by decide)
theorem m_st13 {k : Nat} {x : Int32} (hk : k < 246) : h_stI (mkM I L) 13 (nI k) x = some (mkM (ur I 13 (up (I 13) k x)) L) := stI_n (n := 246) rfl hk (by decide)
theorem m_ld14 {k : Nat} (hk : k < 246) : h_ldI (mkM I L) 14 (nI k) = some (I 14 k) := ldI_n (n := 246) rfl hk (by decide)
theorem m_st14 {k : Nat} {x : Int32} (hk : k < 246) : h_stI (mkM I L) 14 (nI k) x = some (mkM (ur I 14 (up (I 14) k x)) L) := stI_n (n := 246) rfl hk (by decide)
theorem m_ld15 {k : Nat} (hk : k < 6) : h_ldI (mkM I L) 15 (nI k) = some (I 15 k) := ldI_n (n := 6) rfl hk (by decide)
theorem m_st15 {k : Nat} {x : Int32} (hk : k < 6) : h_stI (mkM I L) 15 (nI k) x = some (mkM (ur I 15 (up (I 15) k x)) L) := stI_n (n := 6) rfl hk (by decide)
theorem m_ld16 {k : Nat} (hk : k < 6) : h_ldI (mkM I L) 16 (nI k) = some (I 16 k) := ldI_n (n := 6) rfl hk (by decide)
theorem m_st16 {k : Nat} {x : Int32} (hk : k < 6) : h_stI (mkM I L) 16 (nI k) x = some (mkM (ur I 16 (up (I 16) k x)) L) := stI_n (n := 6) rfl hk (by decide)
theorem m_ld17 {k : Nat} (hk : k < 6) : h_ldI (mkM I L) 17 (nI k) = some (I 17 k) := ldI_n (n := 6) rfl hk (by decide)
theorem m_st17 {k : Nat} {x : Int32} (hk : k < 6) : h_stI (mkM I L) 17 (nI k) x = some (mkM (ur I 17 (up (I 17) k x)) L) := stI_n (n := 6) rfl hk (by decide)
theorem m_ld18 {k : Nat} (hk : k < 6) : h_ldI (mkM I L) 18 (nI k) = some (I 18 k) := ldI_n (n := 6) rfl hk (by decide)
theorem m_st18 {k : Nat} {x : Int32} (hk : k < 6) : h_stI (mkM I L) 18 (nI k) x = some (mkM (ur I 18 (up (I 18) k x)) L) := stI_n (n := 6) rfl hk (by decide)
theorem m_ld19 {k : Nat} (hk : k < 6) : h_ldI (mkM I L) 19 (nI k) = some (I 19 k) := ldI_n (n := 6) rfl hk (by decide)
theorem m_st19 {k : Nat} {x : Int32} (hk : k < 6) : h_stI (mkM I L) 19 (nI k) x = some (mkM (ur I 19 (up (I 19) k x)) L) := stI_n (n := 6) rfl hk (by decide)
theorem m_ld20 {k : Nat} (hk : k < 6) : h_ldI (mkM I L) 20 (nI k) = some (I 20 k) := ldI_n (n := 6) rfl hk (by decide)
theorem m_st20 {k : Nat} {x : Int32} (hk : k < 6) : h_stI (mkM I L) 20 (nI k) x = some (mkM (ur I 20 (up (I 20) k x)) L) := stI_n (n := 6) rfl hk (by decide)
theorem m_ld21 {k : Nat} (hk : k < 6) : h_ldI (mkM I L) 21 (nI k) = some (I 21 k) := ldI_n (n := 6) rfl hk (by decide)
theorem m_st21 {k : Nat} {x : Int32} (hk : k < 6) : h_stI (mkM I L) 21 (nI k) x = some (mkM (ur I 21 (up (I 21) k x)) L) := stI_n (n := 6) rfl hk (by decide)
theorem m_ld22 {k : Nat} (hk : k < 4) : h_ldI (mkM I L) 22 (nI k) = some (I 22 k) := ldI_n (n := 4) rfl hk (by decide)
theorem m_st22 {k : Nat} {x : Int32} (hk : k < 4) : h_stI (mkM I L) 22 (nI k) x = some (mkM (ur I 22 (up (I 22) k x)) L) := stI_n (n := 4) rfl hk (by decide)
theorem m_ld23 {k : Nat} (hk : k < 1000) : h_ldL (mkM I L) 23 (nI k) = some (L 23 k) := ldL_n (n := 1000) rfl hk (by decide)
theorem m_st23 {k : Nat} {x : Int64} (hk : k < 1000) : h_stL (mkM I L) 23 (nI k) x = some (mkM I (ur L 23 (up (L 23) k x))) := stL_n (n := 1000) rfl hk (by decide)
theorem m_ld24 {k : Nat} (hk : k < 1000) : h_ldI (mkM I L) 24 (nI k) = some (I 24 k) := ldI_n (n := 1000) rfl hk (by decide)
theorem m_st24 {k : Nat} {x : Int32} (hk : k < 1000) : h_stI (mkM I L) 24 (nI k) x = some (mkM (ur I 24 (up (I 24) k x)) L) := stI_n (n := 1000) rfl hk (by decide)
theorem m_ld25 {k : Nat} (hk : k < 1000) : h_ldI (mkM I L) 25 (nI k) = some (I 25 k) := ldI_n (n := 1000) rfl hk (by decide)
theorem m_st25 {k : Nat} {x : Int32} (hk : k < 1000) : h_stI (mkM I L) 25 (nI k) x = some (mkM (ur I 25 (up (I 25) k x)) L) := stI_n (n := 1000) rfl hk (by decide)
end RefRows
-- fields of the reference, by number: 0 tape, 1 now, 2 read, 3 readNames, 4 taped, 5 status, 6 faultKind, 7 faultPlace, 8 size, 9 from, 10 to, 11 kind, 12 sign, 13 fault, 14 place, 15 word, 16 found, 17 ends, 18 unlike, 19 rowsNow, 20 rowsNext, 21 isOut, 22 comesAt, 23 how, 24 states, 25 may, 26 must, 27 h, 28 st, 29 ma, 30 mu, 31 isAnew, 32 wrongMany, 33 wrongPlace, 34 wrongWhy, 35 thing, 36 mode, 37 state, 38 leftBy, 39 conf, 40 cameFrom, 41 wrong, 42 confMany, 43 mostThings, 44 isMore, 45 seedNow, 46 ranMany, 47 ranHow, 48 ranPlace, 49 ranNew
-- fields of class 0: 0 holds, 1 canCome, 2 reasons, 3 wrongPlaces, 4 firstWrong, 5 comingPlaces, 6 fresh, 7 now
-- fields of class 1: 0 bits
-- fields of class 2: 0 count, 1 states, 2 ends, 3 methods, 4 sorts, 5 can, 6 byYes, 7 byNo, 8 steps, 9 likes, 10 ways, 11 longerWays
-- fields of class 3: 0 tape, 1 faultSort, 2 faultPlace, 3 draft, 4 kindNames, 5 stateNames, 6 methodNames, 7 variableNames, 8 openOnes, 9 inElse, 10 open
-- fields of class 4: 0 kinds, 1 variables, 2 kindOf, 3 statements, 4 sort, 5 first, 6 second, 7 asked, 8 depth, 9 parent, 10 split, 11 close, 12 after, 13 byYes, 14 byNo
-- fields of class 5: 0 steps, 1 ending, 2 place, 3 made, 4 draw, 5 here
-- fields of class 6: 0 count, 1 more, 2 wrongs, 3 wrongLength, 4 wrongReason, 5 mostThings, 6 goodEndings, 7 reached, 8 leftStates, 9 firstWrong, 10 keys, 11 cameFrom, 12 slots, 13 here, 14 next
-- fields of class 7: 0 bytes, 1 start, 2 token, 3 word, 4 textLength, 5 next, 6 tape, 7 reserved
-- fields of class 8: 0 parser, 1 flow, 2 trial, 3 search, 4 runner, 5 acceptedWithout, 6 program, 7 flowKnown, 8 searchKnown, 9 status, 10 faultSort, 11 faultPlace
