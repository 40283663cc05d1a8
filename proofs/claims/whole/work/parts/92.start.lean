def e0 : Hp := (fun _ => (99, 0), fun _ _ => 0, fun _ _ => 0, fun _ _ => none)
def hC0 : Hp := C_X8 0 1 (a_new 8 0 e0 0)
def hM0 : Hp := C_X9 0 1 (a_new 9 0 e0 0)
theorem start_arr {s : State} {args : Array Value} {ty : FieldType} (h : (Cond.arrayClass ty).before args s = true) (hR : ∀ cA, s.vm.findClass ("[" ++ ty.toString) = some cA → va_RA s cA ty) : ∃ cA, ArrOfT s cA ty ∧ va_RA s cA ty := by
  obtain ⟨cA, kA, comp, h1, h2, h3⟩ := Cond.arrayClass_spec h
  exact ⟨cA, fun n z => ⟨fun k h => (by cases h), kA, h2, comp, h3⟩, hR cA h1⟩
theorem str_el : ∀ j, j < 86 → Cond.eq (.elem (.field (Term.string RX7 19) "java/lang/String" "value" "[B") (.int (Int32.ofNat j))) (.int (([RB].getD 0 []).getD j 0)) ∈ flatC (Jvm.Cond.and given_1 narrow_1) := by decide +kernel
theorem in_0 : Cond.instantiable RX0 8 ∈ GT := (gt2 69 rfl rfl)
theorem in_1 : Cond.instantiable RX1 1 ∈ GT := (gt2 76 rfl rfl)
theorem in_2 : Cond.instantiable RX2 12 ∈ GT := (gt1 127 rfl rfl)
theorem in_3 : Cond.instantiable RX3 11 ∈ GT := (gt1 28 rfl rfl)
theorem in_4 : Cond.instantiable RX4 15 ∈ GT := (gt1 121 rfl rfl)
theorem in_5 : Cond.instantiable RX5 6 ∈ GT := (gt2 180 rfl rfl)
theorem in_6 : Cond.instantiable RX6 15 ∈ GT := (gt2 117 rfl rfl)
theorem in_7 : Cond.instantiable RX7 8 ∈ GT := (gt1 34 rfl rfl)
theorem in_8 : Cond.instantiable RX8 12 ∈ GT := (gt1 20 rfl rfl)
theorem in_9 : Cond.instantiable RX9 50 ∈ GT := (gt5 118 rfl rfl)
theorem start_K {s : State} {args : Array Value} (hts : ∀ w ∈ GT, w.before args s = true) (hO : va_AO RX1 s) : ∃ (D : va_G) (tc : Nat → ClassId), va_K D vwCl (TY tc) s := by
  obtain ⟨c0, i0, k0⟩ := u_known (C := RX0) (T := TX0) (N := 8) (n := 8) hts cw_0 (hts _ in_0)
  obtain ⟨c1, i1, k1⟩ := u_known (C := RX1) (T := TX1) (N := 1) (n := 1) hts cw_1 (hts _ in_1)
  obtain ⟨c2, i2, k2⟩ := u_known (C := RX2) (T := TX2) (N := 12) (n := 12) hts cw_2 (hts _ in_2)
  obtain ⟨c3, i3, k3⟩ := u_known (C := RX3) (T := TX3) (N := 11) (n := 11) hts cw_3 (hts _ in_3)
  obtain ⟨c4, i4, k4⟩ := u_known (C := RX4) (T := TX4) (N := 15) (n := 15) hts cw_4 (hts _ in_4)
  obtain ⟨c5, i5, k5⟩ := u_known (C := RX5) (T := TX5) (N := 6) (n := 6) hts cw_5 (hts _ in_5)
  obtain ⟨c6, i6, k6⟩ := u_known (C := RX6) (T := TX6) (N := 15) (n := 15) hts cw_6 (hts _ in_6)
  obtain ⟨c7, i7, k7⟩ := u_known (C := RX7) (T := TX7) (N := 8) (n := 8) hts cw_7 (hts _ in_7)
  obtain ⟨c8, i8, k8⟩ := u_known (C := RX8) (T := TX8) (N := 12) (n := 12) hts cw_8 (hts _ in_8)
  obtain ⟨c9, i9, k9⟩ := u_known (C := RX9) (T := TX9) (N := 50) (n := 50) hts cw_9 (hts _ in_9)
  obtain ⟨a0, b0⟩ : ∃ cA, ArrOfT s cA .int ∧ va_RA s cA .int := start_arr (hts _ ay_int) (by intro cA h; exact h)
  obtain ⟨a1, b1⟩ : ∃ cA, ArrOfT s cA .boolean ∧ va_RA s cA .boolean := start_arr (hts _ ay_boolean) (by intro cA h; exact h)
  obtain ⟨a2, b2⟩ : ∃ cA, ArrOfT s cA .byte ∧ va_RA s cA .byte := start_arr (hts _ ay_byte) (by intro cA h; exact h)
  obtain ⟨a3, b3⟩ : ∃ cA, ArrOfT s cA .long ∧ va_RA s cA .long := start_arr (hts _ ay_long) (by intro cA h; exact h)
  obtain ⟨comp, a4, kk, f1, f2, f3, f4, f5⟩ := Cond.arrayOver_spec (n := RX1) hO
  refine ⟨(fun k => ([c0, c1, c2, c3, c4, c5, c6, c7, c8, c9] : List ClassId).getD k c0, fun k => ([i0, i1, i2, i3, i4, i5, i6, i7, i8, i9] : List (Nat → Nat)).getD k i0), fun k => ([a0, a1, a2, a3, a4] : List ClassId).getD k a0, ?_, ?_⟩
  · intro k q hq
    match k, hq with
    | 0, hq => cases hq; exact k0
    | 1, hq => cases hq; exact k1
    | 2, hq => cases hq; exact k2
    | 3, hq => cases hq; exact k3
    | 4, hq => cases hq; exact k4
    | 5, hq => cases hq; exact k5
    | 6, hq => cases hq; exact k6
    | 7, hq => cases hq; exact k7
    | 8, hq => cases hq; exact k8
    | 9, hq => cases hq; exact k9
    | k + 10, hq => simp [vwCl] at hq
  · intro k q hq
    match k, hq with
    | 0, hq => cases hq; exact b0
    | 1, hq => cases hq; exact b1
    | 2, hq => cases hq; exact b2
    | 3, hq => cases hq; exact b3
    | 4, hq => cases hq; exact ⟨fun n z => ⟨fun k h => (by cases h), kk, f3, comp, f4⟩, kk, comp, f3, f4, f1, f5⟩
    | k + 5, hq => simp [TY] at hq
theorem nest_in : ∀ w ∈ nestW, w ∈ tables_1 := by
  intro w hw
  simp only [nestW, List.mem_cons, List.not_mem_nil, or_false] at hw
  rcases hw with rfl | rfl | rfl | rfl | rfl | rfl | rfl | rfl | rfl
  · exact List.mem_append_left _ (List.mem_of_getElem? (l := tables_1_1) (i := 29) rfl)
  · exact List.mem_append_left _ (List.mem_of_getElem? (l := tables_1_1) (i := 122) rfl)
  · exact List.mem_append_left _ (List.mem_of_getElem? (l := tables_1_1) (i := 128) rfl)
  · exact List.mem_append_right _ (List.mem_append_left _ (List.mem_of_getElem? (l := tables_1_2) (i := 77) rfl))
  · exact List.mem_append_right _ (List.mem_append_left _ (List.mem_of_getElem? (l := tables_1_2) (i := 118) rfl))
  · exact List.mem_append_right _ (List.mem_append_left _ (List.mem_of_getElem? (l := tables_1_2) (i := 123) rfl))
  · exact List.mem_append_right _ (List.mem_append_left _ (List.mem_of_getElem? (l := tables_1_2) (i := 181) rfl))
  · exact List.mem_append_right _ (List.mem_append_left _ (List.mem_of_getElem? (l := tables_1_2) (i := 186) rfl))
  · exact List.mem_append_right _ (List.mem_append_left _ (List.mem_of_getElem? (l := tables_1_2) (i := 211) rfl))
theorem start_N {s : State} {b : Nat} {B : Nat} (hts : ∀ w ∈ lw_tbl, w.before #[Value.ref b] s = true) (hgv : (Jvm.Cond.and given_1 narrow_1).before #[Value.ref b] s = true) (hB : B = s.heap.size) : NWs B s := by
  have hs := flat_of_before _ hgv
  have hA : ∀ a : Nat, a < s.heap.size → ¬ AB B a := fun a ha hb => by unfold AB at hb; omega
  have ht : ∀ w ∈ tables_1, w.before #[Value.ref b] s = true := fun w hw => hts w (List.mem_append_right _ hw)
  refine ⟨⟨fun w hw => ?_, ?_⟩, va_AO.of (ht _ (List.mem_append_right _ (List.mem_append_left _ (List.mem_of_getElem? (l := tables_1_2) (i := 75) rfl))))⟩
  · obtain ⟨a, i, x, k, rfl⟩ := nestW_form w hw
    exact va_Nw.of rfl (ht _ (nest_in _ hw))
  · have hst : (Cond.stringRef RX7 19 TXT).before #[Value.ref b] s = true := ht _ (List.mem_append_left _ (List.mem_of_getElem? (l := tables_1_1) (i := 39) rfl))
    obtain ⟨adK, adV, hS, hev⟩ := vk_Sof (args := #[Value.ref b]) (s := s) (N := 1) (tm := fun _ => Term.string RX7 19) (len := [86]) (byt := [RB]) (A := AB B)
      (by intro i hi; obtain rfl : i = 0 := by omega
          decide)
      (fun i hi => hs _ (by decide +kernel)) (fun i hi => hs _ (by decide +kernel)) (fun i hi => hs _ (by decide +kernel))
      (by intro i hi; obtain rfl : i = 0 := by omega
          exact hs _ (by decide +kernel))
      (by intro i hi j hj; obtain rfl : i = 0 := by omega
          exact hs _ (str_el j hj))
      (fun i j hi hj hij => by omega) hA
    refine ⟨adK 0, adV 0, vk_R.of hst (hev 0 (by decide)), ⟨fun i hi => ?_, fun i j hi hj _ => by omega⟩, ?_, ?_⟩
    · obtain rfl : i = 0 := by omega
      exact hS.1 0 (by decide)
    · exact va_Zof (ht _ (List.mem_append_left _ (List.mem_of_getElem? (l := tables_1_1) (i := 49) rfl))) (ht _ (List.mem_append_left _ (List.mem_of_getElem? (l := tables_1_1) (i := 4) rfl))) (va_eqi (hs _ (by decide +kernel))) hA
    · exact va_Zqof (ht _ (List.mem_append_left _ (List.mem_of_getElem? (l := tables_1_1) (i := 65) rfl))) (ht _ (List.mem_append_left _ (List.mem_of_getElem? (l := tables_1_1) (i := 6) rfl))) (hs _ (by decide +kernel)) hA
