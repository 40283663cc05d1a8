section Kind
variable {sw : Bool} {I : Nat → Nat → Int32} {L : Nat → Nat → Int64} {J : Nat → Nat → Int32} {K : Nat → Nat → Int64} {p fu : Nat} {P : Nat → Int32}
/-- how many variables are of a kind -/
def kvs (P : Nat → Int32) (x : Int32) : Nat → Nat → Int32 → Int32
  | 0, _, a => a
  | r + 1, i, a => kvs P x r (i + 1) (if P (327 + i) = x then a + 1 else a)
theorem c_variablesOf {x : Int32} (hp : isP p) (hv : CRv p I P) (h1 : P 1 = nI (nV P)) (h6 : nV P ≤ 6) (hfu : 6 < fu) : MX4_variablesOf fu p x (mkC sw I L) = some (kvs P x (nV P) 0 0) := by
  simp only [MX4_variablesOf, c4_g hp]
  refine wh2_rule (fun r a v => ∃ i, i + r = nV P ∧ v = nI i ∧ kvs P x r i a = kvs P x (nV P) 0 0) ?_ fu (nV P) _ _ (by omega) ⟨0, by omega, rfl, rfl⟩
  rintro r a v self ⟨i, hi, rfl, e⟩ ih
  simp only [MX4_variablesOf_B4, c4_fI hp, c4_r2 hp, Option.bind_some, jn]
  rw [hv.1, h1]
  by_cases hr : r = 0
  · subst hr
    rw [if_pos (nI_le (by omega) (by omega)), ← e]
    rfl
  · obtain ⟨r, rfl⟩ : ∃ r', r = r' + 1 := ⟨r - 1, by omega⟩
    rw [if_neg (nI_ge (by omega) (by omega)), c4_ld2 hp (by omega), Option.bind_some, hv.2 i (by omega)]
    by_cases c : P (327 + i) = x
    · rw [if_pos c]
      refine ih r _ _ (by omega) ⟨i + 1, by omega, nI_1 i, ?_⟩
      rw [← e]
      show _ = kvs P x r (i + 1) (if P (327 + i) = x then a + 1 else a)
      rw [if_pos c]
    · rw [if_neg c]
      refine ih r _ _ (by omega) ⟨i + 1, by omega, nI_1 i, ?_⟩
      rw [← e]
      show _ = kvs P x r (i + 1) (if P (327 + i) = x then a + 1 else a)
      rw [if_neg c]
theorem m_variablesOf {x : Int32} {j20 : Int32 → Option (Int32 × Hp)} (h1 : J 2 1 = nI (nV (J 2))) (h6 : nV (J 2) ≤ 6) (hfu : 6 < fu) : wh2 (MX9_kind_B94 (mkM J K) 0 j20 x) fu (0 : Int32) (0 : Int32) = j20 (kvs (J 2) x (nV (J 2)) 0 0) := by
  refine wh2_rule (fun r a v => ∃ i, i + r = nV (J 2) ∧ v = nI i ∧ kvs (J 2) x r i a = kvs (J 2) x (nV (J 2)) 0 0) ?_ fu (nV (J 2)) _ _ (by omega) ⟨0, by omega, rfl, rfl⟩
  rintro r a v self ⟨i, hi, rfl, e⟩ ih
  simp only [MX9_kind_B94, m_r1, Option.bind_some, jn]
  rw [show (1 : Int32) = nI 1 from rfl, m_ld2 (by omega), Option.bind_some, h1]
  by_cases hr : r = 0
  · subst hr
    rw [if_pos (nI_le (by omega) (by omega)), ← e]
    rfl
  · obtain ⟨r, rfl⟩ : ∃ r', r = r' + 1 := ⟨r - 1, by omega⟩
    rw [if_neg (nI_ge (by omega) (by omega)), ix_c (show (327 : Int32) = nI 327 from rfl), m_ld2 (by omega), Option.bind_some]
    by_cases c : J 2 (327 + i) = x
    · rw [if_pos c]
      refine ih r _ _ (by omega) ⟨i + 1, by omega, nI_1 i, ?_⟩
      rw [← e]
      show _ = kvs (J 2) x r (i + 1) (if J 2 (327 + i) = x then a + 1 else a)
      rw [if_pos c]
      rfl
    · rw [if_neg c]
      refine ih r _ _ (by omega) ⟨i + 1, by omega, nI_1 i, ?_⟩
      rw [← e]
      show _ = kvs (J 2) x r (i + 1) (if J 2 (327 + i) = x then a + 1 else a)
      rw [if_neg c, Int32.add_zero]
end Kind
