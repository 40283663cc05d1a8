/-! THE START: the two heaps after the constructors -/
section Init
/-- objects from N on are not there, and references are only where ok says -/
def lim (N : Nat) (ok : Nat → Nat → Bool) (h : Hp) : Prop := (∀ i, N ≤ i → h.1 i = (99, 0)) ∧ ∀ o k, ok o k = false → h.2.2.2 o k = none
variable {N : Nat} {ok : Nat → Nat → Bool} {h : Hp}
theorem lim_e0 : lim N ok e0 := ⟨fun _ _ => rfl, fun _ _ _ => rfl⟩
theorem lim_new {k len n : Nat} (a : lim N ok h) (hn : n < N) : lim N ok (a_new k len h n) := by
  refine ⟨fun i hi => ?_, fun o j hj => ?_⟩
  · show (if i = n then (k, len) else h.1 i) = _
    rw [if_neg (by omega)]
    exact a.1 i hi
  · show (if o = n then (fun _ => none) else h.2.2.2 o) j = none
    by_cases c : o = n
    · rw [if_pos c]
    · rw [if_neg c]; exact a.2 o j hj
theorem lim_sR {o k v : Nat} (a : lim N ok h) (ho : ok o k = true) : lim N ok (h_sR h o k v) := by
  refine ⟨a.1, fun b j hj => ?_⟩
  show (if b = o then (fun j => if j = k then some v else h.2.2.2 o j) else h.2.2.2 b) j = none
  by_cases c : b = o
  · rw [if_pos c]
    show (if j = k then some v else h.2.2.2 o j) = none
    by_cases e : j = k
    · rw [c, e, ho] at hj; cases hj
    · rw [if_neg e]; rw [c] at hj; exact a.2 o j hj
  · rw [if_neg c]; exact a.2 b j hj
theorem lim_sI {o k : Nat} {x : Int32} (a : lim N ok h) : lim N ok (h_sI h o k x) := a
theorem lim_rowI {o : Nat} {f : Nat → Int32} (a : lim N ok h) : lim N ok (h_rowI h o f) := a
theorem lim_rowL {o : Nat} {f : Nat → Int64} (a : lim N ok h) : lim N ok (h_rowL h o f) := a
theorem lim_C0b {a n : Nat} (hh : lim N ok h) (hq : ∀ i, i < 41 → n + 2 * i + 1 < N ∧ ok a i = true ∧ ok (n + 2 * i) 0 = true) : ∀ j, j ≤ 41 → lim N ok (C_X0b a n h j) := by
  intro j
  induction j with
  | zero => intro _; exact hh
  | succ j ih =>
    intro hj
    obtain ⟨q1, q2, q3⟩ := hq j (by omega)
    exact lim_sR (lim_sR (lim_new (lim_new (ih (by omega)) (by omega)) q1) q3) q2
def okC (o k : Nat) : Bool := decide (o < 253) && (decide (k < 16) || ((decide (o = 37) || decide (o = 126)) && decide (k < 48)))
def okM (o k : Nat) : Bool := decide (o = 0) && decide (k < 48)
set_option maxRecDepth 100000 in
set_option maxHeartbeats 4000000 in
theorem lim_C : lim 253 okC hC0 := by
  unfold hC0
  repeat' first
    | with_reducible exact lim_e0
    | with_reducible refine lim_rowI ?_
    | with_reducible refine lim_rowL ?_
    | with_reducible refine lim_sI ?_
    | with_reducible refine lim_sR ?_ (by decide)
    | with_reducible refine lim_new ?_ (by decide)
    | with_reducible refine lim_C0b ?_ (by decide) 41 (by decide)
    | unfold C_X8
    | unfold C_X8a
    | unfold C_X4
    | unfold C_X5
    | unfold C_X6
    | unfold C_X0
    | unfold C_X0a
    | unfold C_X3
    | unfold C_X7
    | unfold C_X7a
    | unfold C_X2
    | unfold C_X1
set_option maxRecDepth 100000 in
set_option maxHeartbeats 4000000 in
theorem lim_M : lim 26 okM hM0 := by
  unfold hM0 C_X9
  repeat' first
    | with_reducible exact lim_e0
    | with_reducible refine lim_sI ?_
    | with_reducible refine lim_sR ?_ (by decide)
    | with_reducible refine lim_new ?_ (by decide)
theorem mkC_of {sw : Bool} {h : Hp} (e1 : h.1 = shC) (e2 : h.2.2.2 = refC sw) : h = mkC sw h.2.1 h.2.2.1 := by
  obtain ⟨a, b, c, d⟩ := h
  cases e1
  cases e2
  rfl
theorem mkM_of {h : Hp} (e1 : h.1 = shM) (e2 : h.2.2.2 = refM) : h = mkM h.2.1 h.2.2.1 := by
  obtain ⟨a, b, c, d⟩ := h
  cases e1
  cases e2
  rfl
theorem getD_out {α : Type} {l : List α} {i : Nat} {x : α} (hi : l.length ≤ i) : l.getD i x = x := by
  rw [List.getD_eq_getElem?_getD, List.getElem?_eq_none hi]; rfl
set_option maxRecDepth 100000 in
theorem kd_C : ∀ i, i < 253 → hC0.1 i = shC i := by decide +kernel
set_option maxRecDepth 100000 in
theorem kd_M : ∀ i, i < 26 → hM0.1 i = shM i := by decide +kernel
set_option maxRecDepth 100000 in
theorem rf_M : ∀ k, k < 48 → hM0.2.2.2 0 k = refM 0 k := by decide +kernel
set_option maxRecDepth 100000 in
theorem rf_C : ∀ o, o < 253 → ∀ k, k < 16 → hC0.2.2.2 o k = refC false o k := by decide +kernel
set_option maxRecDepth 100000 in
theorem rf_C2 : ∀ k, k < 48 → hC0.2.2.2 37 k = refC false 37 k ∧ hC0.2.2.2 126 k = refC false 126 k := by decide +kernel
theorem ln_C : ∀ o, o < 253 → (rfCL.getD o []).length ≤ 16 ∨ ((o = 37 ∨ o = 126) ∧ (rfCL.getD o []).length ≤ 48) := by decide +kernel
theorem ini_C : hC0 = mkC false hC0.2.1 hC0.2.2.1 := by
  refine mkC_of ?_ ?_
  · funext i
    by_cases c : i < 253
    · exact kd_C i c
    · rw [lim_C.1 i (by omega)]
      have l : shCL.length ≤ i := by
        have : shCL.length = 253 := by decide +kernel
        omega
      exact (getD_out l).symm
  · funext o k
    by_cases c : okC o k = true
    · unfold okC at c
      simp only [Bool.and_eq_true, Bool.or_eq_true, decide_eq_true_eq] at c
      rcases c with ⟨c1, c2 | ⟨c2 | c2, c3⟩⟩
      · exact rf_C o c1 k c2
      · rw [c2]; exact (rf_C2 k c3).1
      · rw [c2]; exact (rf_C2 k c3).2
    · have c' := Bool.eq_false_iff.mpr c
      rw [lim_C.2 o k c']
      unfold okC at c
      simp only [Bool.and_eq_true, Bool.or_eq_true, decide_eq_true_eq] at c
      have n1 : ¬ (o = 0 ∧ k = 6) := by rintro ⟨rfl, rfl⟩; exact c ⟨by decide, Or.inl (by decide)⟩
      have n2 : ¬ (o = 1 ∧ k = 3) := by rintro ⟨rfl, rfl⟩; exact c ⟨by decide, Or.inl (by decide)⟩
      unfold refC
      rw [if_neg n1, if_neg n2]
      by_cases c1 : o < 253
      · rcases ln_C o c1 with q | ⟨q1, q2⟩
        · refine (getD_out ?_).symm
          have : ¬ k < 16 := fun z => c ⟨c1, Or.inl z⟩
          omega
        · refine (getD_out ?_).symm
          have : ¬ k < 48 := fun z => c ⟨c1, Or.inr ⟨q1, z⟩⟩
          omega
      · have : rfCL.length ≤ o := by
          have : rfCL.length ≤ 253 := by decide +kernel
          omega
        rw [getD_out this]
        rfl
theorem ini_M : hM0 = mkM hM0.2.1 hM0.2.2.1 := by
  refine mkM_of ?_ ?_
  · funext i
    by_cases c : i < 26
    · exact kd_M i c
    · rw [lim_M.1 i (by omega)]
      have l : shML.length ≤ i := by
        have : shML.length = 26 := by decide +kernel
        omega
      exact (getD_out l).symm
  · funext o k
    by_cases c : okM o k = true
    · unfold okM at c
      simp only [Bool.and_eq_true, decide_eq_true_eq] at c
      rw [c.1]
      exact rf_M k c.2
    · have c' := Bool.eq_false_iff.mpr c
      rw [lim_M.2 o k c']
      unfold okM at c
      simp only [Bool.and_eq_true, decide_eq_true_eq] at c
      unfold refM
      by_cases z : o = 0
      · rw [if_pos z]
        refine (getD_out ?_).symm
        have : rfML.length ≤ 48 := by decide +kernel
        have : ¬ k < 48 := fun y => c ⟨z, y⟩
        omega
      · rw [if_neg z]
set_option maxRecDepth 100000 in
theorem v_C : hC0.2.1 2 0 = 0 ∧ hC0.2.1 0 9 = 0 ∧ hC0.2.1 0 10 = -1 ∧ hC0.2.1 0 11 = -1 ∧ hC0.2.1 0 7 = 0 ∧ hC0.2.1 0 8 = 0 ∧ hC0.2.1 229 0 = 0 ∧ hC0.2.1 228 1 = 0 ∧ hC0.2.1 228 3 = 0 := by decide +kernel
set_option maxRecDepth 100000 in
theorem v_M : hM0.2.1 0 4 = 0 ∧ hM0.2.1 0 5 = 0 ∧ hM0.2.1 0 6 = -1 ∧ hM0.2.1 0 7 = -1 ∧ hM0.2.1 0 31 = 0 ∧ hM0.2.1 2 0 = 0 ∧ hM0.2.1 2 1 = 0 ∧ hM0.2.1 2 2 = 0 := by decide +kernel
set_option maxRecDepth 100000 in
theorem v_L : ∀ i, i < 18 → hC0.2.2.1 4 i = lN (rsv i) := by decide +kernel
theorem inv_0 : INVk kSo hC0 hM0 := by
  obtain ⟨c1, c2, c3, c4, c5, c6, c7, c8, c9⟩ := v_C
  obtain ⟨m1, m2, m3, m4, m5, m6, m7, m8⟩ := v_M
  have vL := v_L
  have eC := ini_C
  have eM := ini_M
  generalize hC0 = hC at *
  generalize hM0 = hM at *
  have k0 : nK (hM.2.1 2) = 0 := by show nN (hM.2.1 2 0) = 0; rw [m6]; rfl
  have k1 : nV (hM.2.1 2) = 0 := by show nN (hM.2.1 2 1) = 0; rw [m7]; rfl
  have k2 : nT (hM.2.1 2) = 0 := by show nN (hM.2.1 2 2) = 0; rw [m8]; rfl
  refine ⟨false, hC.2.1, hC.2.2.1, hM.2.1, hM.2.2.1, eC, eM, ⟨0, by omega, c1, m1, fun j hj => by omega⟩, ⟨by rw [c2, m2], by rw [c3, m3], by rw [c4, m4]⟩, ⟨fun _ => 0, ⟨⟨⟨⟨by rw [k0, m6]; rfl, by omega⟩, ⟨by rw [k1, m7]; rfl, by omega⟩, by rw [k2, m8]; rfl, by omega⟩, fun k hk => by omega⟩, fun v hv => by omega, fun i hi => by omega⟩, ⟨?_, fun k hk => by omega⟩, ⟨?_, fun v hv => by omega⟩, ?_, fun i hi => by omega⟩, Or.inl m5, vL, Or.inl c5, fun i hi => by omega, Or.inl c6⟩
  · show hC.2.1 229 0 = hM.2.1 2 0
    rw [c7, m6]
  · show hC.2.1 228 1 = hM.2.1 2 1
    rw [c8, m7]
  · show hC.2.1 228 3 = hM.2.1 2 2
    rw [c9, m8]
end Init
