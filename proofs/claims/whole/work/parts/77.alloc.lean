/-! MAKING: constructors. Objects are numbered as they are made: object i lies at B + i. -/
def AB (B : Nat) : Nat → Prop := fun q => B ≤ q
def rmA (d mc ms : Nat) : Room := { frames := d, cells := mc, slots := ms, locals := 64 * d }
/-- the nest mates' links of the constructors, and the class of the array of Holds -/
def nestW : List Cond := [.methodLinkNest RX8 11 yX3_init RX8, .methodLinkNest RX3 20 yX4_init RX8, .methodLinkNest RX4 11 yX2_init RX8, .methodLinkNest RX0 28 yX1_init RX8, .methodLinkNest RX8 28 yX6_init RX8, .methodLinkNest RX6 31 yX1_init RX8, .methodLinkNest RX8 35 yX5_init RX8, .methodLinkNest RX5 11 yX1_init RX8, .methodLinkNest RX8 46 yX4_init RX8]
/-- the text of the words, byte by byte -/
def RB : List Int32 := [107, 105, 110, 100, 32, 101, 110, 100, 32, 99, 97, 108, 108, 32, 116, 101, 115, 116, 32, 108, 111, 111, 107, 32, 118, 97, 114, 32, 101, 108, 115, 101, 32, 110, 101, 119, 32, 109, 111, 118, 101, 32, 115, 104, 97, 114, 101, 32, 108, 101, 110, 100, 32, 106, 111, 105, 110, 32, 100, 114, 111, 112, 32, 100, 111, 32, 105, 102, 32, 119, 104, 105, 108, 101, 32, 109, 97, 121, 98, 101, 32, 108, 111, 111, 112, 32]
def TXT : String := "kind end call test look var else new move share lend join drop do if while maybe loop "
/-- what is known of the text's String at K and of its bytes at Vv, of the statics that its methods read; none of it lies in A -/
def STk (K Vv : Nat) (A : Nat → Prop) (U : State) (H : Heap) : Prop := vk_S 1 [86] [RB] (fun _ => K) (fun _ => Vv) A U H ∧ va_Z RJ0 "COMPACT_STRINGS" "Z" (.int 1) A U H ∧ va_Zq RJ3 "SIOOBE_FORMATTER" "Ljava/util/function/BiFunction;" A U H
theorem STk.moved {K Vv : Nat} {A : Nat → Prop} {u U : State} {H : Heap} (hvm : u.vm.Alike U.vm) (h : STk K Vv A u H) : STk K Vv A U H := ⟨h.1.moved hvm, h.2.1.moved hvm, h.2.2.imp (fun z => z.moved hvm) (fun ⟨t, z⟩ => ⟨t, z.moved hvm⟩)⟩
theorem STk.kept {K Vv : Nat} {A : Nat → Prop} {U : State} {H H1 : Heap} (h : STk K Vv A U H) (hq : ∀ a : Nat, a < H.size → ¬ A a → H1[a]? = H[a]?) : STk K Vv A U H1 := ⟨h.1.kept hq, h.2.1.kept hq, h.2.2.imp (fun z => z.kept hq) (fun ⟨t, z⟩ => ⟨t, z.kept hq⟩)⟩
theorem STk.narrow {K Vv : Nat} {A B : Nat → Prop} {U : State} {H : Heap} (h : STk K Vv A U H) (hAB : ∀ q, B q → A q) : STk K Vv B U H := ⟨h.1.narrow hAB, h.2.1.narrow hAB, h.2.2.imp (fun z => z.narrow hAB) (fun ⟨t, z⟩ => ⟨t, z.narrow hAB⟩)⟩
/-- what the constructors need of the tables and of what was there before: nest mates' links, the text -/
def NWs (B : Nat) (s : State) : Prop := ((∀ w ∈ nestW, va_Nw w s) ∧ ∃ K Vv : Nat, vk_R RX7 19 TXT K s ∧ STk K Vv (AB B) s s.heap) ∧ va_AO RX1 s
theorem nestW_form : ∀ w ∈ nestW, ∃ (a : String) (i : Nat) (x : MethodName) (h : String), w = .methodLinkNest a i x h := by
  intro w hw
  simp only [nestW, List.mem_cons, List.not_mem_nil, or_false] at hw
  rcases hw with rfl | rfl | rfl | rfl | rfl | rfl | rfl | rfl | rfl <;> exact ⟨_, _, _, _, rfl⟩
theorem NWs.warm {B : Nat} {s U : State} {H : Heap} {locs : List Loc} (hW : s.WarmedH U.vm) (hU : U.heap = H) (hS : va_S (AB B) s.heap H locs) (h : NWs B s) : NWs B U := by
  obtain ⟨⟨h1, K, Vv, h2, h3⟩, h4⟩ := h
  refine ⟨⟨fun w hw => ?_, K, Vv, vk_R.warm hW h2, STk.moved hW.alike (by rw [hU]; exact h3.kept hS.2.1)⟩, va_AO.moved hW.alike h4⟩
  obtain ⟨a, i, x, k, rfl⟩ := nestW_form w hw
  exact va_Nw.warmM hW (h1 _ hw)
theorem NWs.calling {B : Nat} {U : State} {g : JFrame} {mk : MethodId} {a : Array Value} (h : NWs B U) : NWs B (U.calling g mk a) := by
  obtain ⟨⟨h1, K, Vv, h2, h3⟩, h4⟩ := h
  refine ⟨⟨fun w hw => ?_, K, Vv, vk_R.same rfl h2, STk.moved (u := U) (U := U.calling g mk a) (Vm.Alike.refl U.vm) h3⟩, va_AO.moved (u := U) (U := U.calling g mk a) (Vm.Alike.refl U.vm) h4⟩
  obtain ⟨b, i, x, k, rfl⟩ := nestW_form w hw
  exact va_Nw.same rfl rfl (h1 _ hw)
def a_new (k len : Nat) (h : Hp) (n : Nat) : Hp := (fun i => if i = n then (k, len) else h.1 i, fun i => if i = n then (fun _ => 0) else h.2.1 i, fun i => if i = n then (fun _ => 0) else h.2.2.1 i, fun i => if i = n then (fun _ => none) else h.2.2.2 i)
theorem a_new_ne {k len : Nat} {h : Hp} {n i : Nat} (hi : i ≠ n) : (a_new k len h n).1 i = h.1 i ∧ (a_new k len h n).2.1 i = h.2.1 i ∧ (a_new k len h n).2.2.1 i = h.2.2.1 i ∧ (a_new k len h n).2.2.2 i = h.2.2.2 i := by
  simp [a_new, hi]
theorem a_new_eq {k len : Nat} {h : Hp} {n : Nat} : (a_new k len h n).1 n = (k, len) := by simp [a_new]
theorem WL_new {tc : Nat → ClassId} {B n k len : Nat} {h : Hp} {x : va_E} (hx : cE tc B (a_new k len h n) n = x) : WL tc B n h ++ [(B + n, x)] = WL tc B (n + 1) (a_new k len h n) := by
  unfold WL
  rw [List.range_succ, List.map_append]
  congr 1
  · apply List.map_congr_left
    intro i hi
    have hi : i < n := List.mem_range.mp hi
    obtain ⟨h1, h2, h3, h4⟩ := a_new_ne (k := k) (len := len) (h := h) (show i ≠ n by omega)
    rw [cE_ext h1 h2 h3 h4]
  · simp [hx]
section RowsA
variable {p : Program} {l : Launch} {e : Env} {R : Room} {s : State} {m : MethodId} {args : Array Value} {below : List Frame} {meth : Method} {c : Code} {cc : ByteArray} {nL : Nat} {own : String} {D : va_G} {tc : Nat → ClassId} {d B n cells slots : Nat} {Q : State → Prop} {h : Hp} {pc q : Nat} {lv : List (Nat × Value)} {st : List Value}
theorem W_size {H : Heap} {locs : List Loc} {g : JFrame} (k : H.size ≤ s.heap.size + cells → W p l e R s m args below meth c H locs cells slots Q g) : W p l e R s m args below meth c H locs cells slots Q g := by
  intro T hT X
  have h1 : (T.setVm s.vm).heap.size ≤ s.heap.size + cells := X.same.2.2.1
  exact k (by rw [← hT]; exact h1) T hT X
theorem newest {A : Nat → Prop} {H : Heap} {x : va_E} {a : Nat} (hA : ∀ q, A q → B ≤ q) (hP : va_P D vwCl (WL tc B n h ++ [(a, x)]) H) (hD : va_D A (WL tc B n h ++ [(a, x)])) (hz : H.size ≤ B + n + 1) : a = B + n := by
  have hl : (WL tc B n h ++ [(a, x)])[n]? = some (a, x) := by
    rw [List.getElem?_append_right (by rw [WL_len]; exact Nat.le_refl _), WL_len, Nat.sub_self]; rfl
  have h1 : a < H.size := (hP n _ hl).lt
  have h2 : B ≤ a := hA _ (hD.2 n _ hl)
  rcases Nat.lt_or_ge a (B + n) with h3 | h3
  · exfalso
    have hi : a - B < n := by omega
    have hg : (WL tc B n h ++ [(a, x)])[a - B]? = some (B + (a - B), cE tc B h (a - B)) := by
      rw [List.getElem?_append_left (by rw [WL_len]; exact hi), WL_get hi]
    have := hD.1 n (a - B) _ _ hl hg (by show a = B + (a - B); omega)
    omega
  · omega
theorem size_of {H : Heap} (hP : va_P D vwCl (WL tc B n h) H) (hn : 0 < n) : B + n ≤ H.size := by
  have h1 := (hP (n - 1) _ (WL_get (by omega))).lt
  have h2 : B + (n - 1) < H.size := h1
  omega
theorem VN_new {k len cells' slots' : Nat} (hn : VN R B n (AB B) cells slots h) (hc : cells' ≤ R.cells) (hs : slots' ≤ R.slots) : VN R B (n + 1) (AB B) cells' slots' (a_new k len h n) := by
  refine ⟨fun i hi => ?_, fun i _ => Nat.le_add_right _ _, hc, hs⟩
  by_cases hin : i = n
  · omega
  · rw [(a_new_ne hin).1] at hi
    have := hn.1 i hi
    omega
/-- a class's rows of the tables, for its making -/
def NC (own : String) (idx ci N : Nat) : Prop := ∃ (C : String) (T : u_T) (ty : Nat → FieldType), vwCl[ci]? = some (C, T, N) ∧ nfs.getD ci 0 = N ∧ ci < 10 ∧ Cond.classLink own idx C ∈ GT ∧ Cond.instantiable C N ∈ GT ∧ Cond.initialized C ∈ GT ∧ (∀ w ∈ u_ws C T N, w ∈ GT) ∧ (∀ k, k < N → parseFieldDescriptor (T k).2.2.1 = some (ty k)) ∧ ∀ k, k < N → defaultValue (ty k) = (if tgf ci k = 0 then .int 0 else if tgf ci k = 1 then .long 0 else .null)
theorem V_new {idx ci N : Nat} (X : CX p R s m args c cc nL own D tc d) (hd : decode cc pc = .ok (.new idx, 3)) (hq : pc + 3 = q) (hN : NC own idx ci N) (hz : B + n = s.heap.size + cells) (h1 : cells + 1 ≤ R.cells) (h2 : slots + N ≤ R.slots)
    (k : V p l e R s m args below meth c nL D tc B (n + 1) (AB B) s.heap (cells + 1) (slots + N) Q (a_new ci 0 h n) q lv (.ref n :: st)) (hB : B ≤ s.heap.size) : V p l e R s m args below meth c nL D tc B n (AB B) s.heap cells slots Q h pc lv st := by
  subst hq
  obtain ⟨C, T, ty, g1, g2, g3, g4, g5, g6, g7, g8, g9⟩ := hN
  intro H locs ls hn hP hS hl
  have hfs : ∀ j, j < N → defaultValue (ty j) = vp_V (fVs B (a_new ci 0 h n) n ci) j := by
    intro j hj
    rw [g9 j hj]
    unfold vp_V
    rw [List.getD_eq_getElem?_getD, fVs_get (by omega)]
    simp only [fV, a_new, if_true, Option.getD_some, Option.map_none]
    rfl
  refine va_new (ci := ci) (fs := fVs B (a_new ci 0 h n) n ci) X.1 X.2.1 X.2.2.2.2.1 g7 ty g8 X.2.2.2.1 (X.2.2.2.2.1 _ g4) (X.2.2.2.2.1 _ g5) (X.2.2.2.2.1 _ g6) X.2.2.2.2.2.1 hP (WL_D hn.2.1) hS (fun q hq => Nat.le_trans hB hq) g1 hfs h1 h2 hd (fun a H1 hP1 hD1 hS1 => ?_)
  refine W_size fun hsz => ?_
  have ha : a = B + n := newest (fun _ h => h) hP1 hD1 (by omega)
  subst ha
  rw [WL_new (k := ci) (len := 0) (h := h) (cE_obj (h := a_new ci 0 h n) (by rw [a_new_eq]) g3)] at hP1
  exact k H1 locs ls (VN_new hn h1 h2) hP1 hS1 hl
theorem V_newarr {t : Nat} {ty : FieldType} {atype : ArrayType} {z : Int32} {N : Nat} {a0 : vp_A} (t0 : Nat) (X : CX p R s m args c cc nL own D tc d) (hd : decode cc pc = .ok (.newarray atype, 2)) (hq : pc + 2 = q) (hw : Cond.arrayClass (newarray.typeOf atype) ∈ GT) (hty : newarray.typeOf atype = ty) (ht : (TY tc)[t0]? = some (tc t0, ty)) (hp : ∀ x, va_RA s x ty → s.vm.findClass ("[" ++ ty.toString) = some x)
    (ha : ∀ cA : ClassId, vp_cell cA a0 = arrV cA N (fun _ => defaultValue ty)) (hce : ∀ (h : Hp), cE tc B (a_new t N h n) n = .inl (tc t0, a0)) (hz0 : ¬ z < 0) (hzN : z.toNatClampNeg = N) (hbytes : N * componentBytes ty ≤ 536870912) (hz : B + n = s.heap.size + cells) (h1 : cells + 1 ≤ R.cells) (h2 : slots + N ≤ R.slots) (hB : B ≤ s.heap.size)
    (k : V p l e R s m args below meth c nL D tc B (n + 1) (AB B) s.heap (cells + 1) (slots + N) Q (a_new t N h n) q lv (.ref n :: st)) : V p l e R s m args below meth c nL D tc B n (AB B) s.heap cells slots Q h pc lv (.int z :: st) := by
  subst hq
  intro H locs ls hn hP hS hl
  refine va_newa (a0 := a0) X.1 X.2.1 (X.2.2.2.2.1 _ hw) hty X.2.2.2.2.2.1 hP (WL_D hn.2.1) hS (fun q hq => Nat.le_trans hB hq) ha hz0 hzN hbytes h1 h2 hd (fun a cA H1 hK1 hP1 hD1 hS1 => ?_)
  refine W_size fun hsz => ?_
  have hc1 : s.vm.findClass ("[" ++ ty.toString) = some cA := hp _ (hK1.2 (TY tc).length (cA, ty) (by rw [List.getElem?_append_right (Nat.le_refl _), Nat.sub_self]; rfl)).2
  have hc2 : s.vm.findClass ("[" ++ ty.toString) = some (tc t0) := hp _ (X.2.2.2.2.2.1.2 t0 _ ht).2
  have hc : cA = tc t0 := Option.some.inj (hc1.symm.trans hc2)
  subst hc
  have ha : a = B + n := newest (fun _ h => h) hP1 hD1 (by omega)
  subst ha
  rw [WL_new (hce h)] at hP1
  exact k H1 locs ls (VN_new hn h1 h2) hP1 hS1 hl
theorem V_newI {z : Int32} (N : Nat) (X : CX p R s m args c cc nL own D tc d) (hd : decode cc pc = .ok (.newarray .int, 2)) (hq : pc + 2 = q) (hw : Cond.arrayClass .int ∈ GT) (hz0 : ¬ z < 0) (hzN : z.toNatClampNeg = N) (hb : N ≤ 100000) (hz : B + n = s.heap.size + cells) (h1 : cells + 1 ≤ R.cells) (h2 : slots + N ≤ R.slots) (hB : B ≤ s.heap.size)
    (k : V p l e R s m args below meth c nL D tc B (n + 1) (AB B) s.heap (cells + 1) (slots + N) Q (a_new 10 N h n) q lv (.ref n :: st)) : V p l e R s m args below meth c nL D tc B n (AB B) s.heap cells slots Q h pc lv (.int z :: st) :=
  V_newarr (ty := .int) (a0 := (N, .inl (fun _ => 0))) 0 X hd hq hw rfl rfl (fun _ h => h) (fun _ => rfl) (fun h => by rw [cE_10 (by rw [a_new_eq])]; simp [a_new]) hz0 hzN (by show N * 4 ≤ _; omega) hz h1 h2 hB k
theorem V_newZ {z : Int32} (N : Nat) (X : CX p R s m args c cc nL own D tc d) (hd : decode cc pc = .ok (.newarray .boolean, 2)) (hq : pc + 2 = q) (hw : Cond.arrayClass .boolean ∈ GT) (hz0 : ¬ z < 0) (hzN : z.toNatClampNeg = N) (hb : N ≤ 100000) (hz : B + n = s.heap.size + cells) (h1 : cells + 1 ≤ R.cells) (h2 : slots + N ≤ R.slots) (hB : B ≤ s.heap.size)
    (k : V p l e R s m args below meth c nL D tc B (n + 1) (AB B) s.heap (cells + 1) (slots + N) Q (a_new 11 N h n) q lv (.ref n :: st)) : V p l e R s m args below meth c nL D tc B n (AB B) s.heap cells slots Q h pc lv (.int z :: st) :=
  V_newarr (ty := .boolean) (a0 := (N, .inl (fun _ => 0))) 1 X hd hq hw rfl rfl (fun _ h => h) (fun _ => rfl) (fun h => by rw [cE_11 (by rw [a_new_eq])]; simp [a_new]) hz0 hzN (by show N * 1 ≤ _; omega) hz h1 h2 hB k
theorem V_newB {z : Int32} (N : Nat) (X : CX p R s m args c cc nL own D tc d) (hd : decode cc pc = .ok (.newarray .byte, 2)) (hq : pc + 2 = q) (hw : Cond.arrayClass .byte ∈ GT) (hz0 : ¬ z < 0) (hzN : z.toNatClampNeg = N) (hb : N ≤ 100000) (hz : B + n = s.heap.size + cells) (h1 : cells + 1 ≤ R.cells) (h2 : slots + N ≤ R.slots) (hB : B ≤ s.heap.size)
    (k : V p l e R s m args below meth c nL D tc B (n + 1) (AB B) s.heap (cells + 1) (slots + N) Q (a_new 12 N h n) q lv (.ref n :: st)) : V p l e R s m args below meth c nL D tc B n (AB B) s.heap cells slots Q h pc lv (.int z :: st) :=
  V_newarr (ty := .byte) (a0 := (N, .inl (fun _ => 0))) 2 X hd hq hw rfl rfl (fun _ h => h) (fun _ => rfl) (fun h => by rw [cE_12 (by rw [a_new_eq])]; simp [a_new]) hz0 hzN (by show N * 1 ≤ _; omega) hz h1 h2 hB k
theorem V_newL {z : Int32} (N : Nat) (X : CX p R s m args c cc nL own D tc d) (hd : decode cc pc = .ok (.newarray .long, 2)) (hq : pc + 2 = q) (hw : Cond.arrayClass .long ∈ GT) (hz0 : ¬ z < 0) (hzN : z.toNatClampNeg = N) (hb : N ≤ 100000) (hz : B + n = s.heap.size + cells) (h1 : cells + 1 ≤ R.cells) (h2 : slots + N ≤ R.slots) (hB : B ≤ s.heap.size)
    (k : V p l e R s m args below meth c nL D tc B (n + 1) (AB B) s.heap (cells + 1) (slots + N) Q (a_new 13 N h n) q lv (.ref n :: st)) : V p l e R s m args below meth c nL D tc B n (AB B) s.heap cells slots Q h pc lv (.int z :: st) :=
  V_newarr (ty := .long) (a0 := (N, .inr (.inl (fun _ => 0)))) 3 X hd hq hw rfl rfl (fun _ h => h) (fun _ => rfl) (fun h => by rw [cE_13 (by rw [a_new_eq])]; simp [a_new]) hz0 hzN (by show N * 8 ≤ _; omega) hz h1 h2 hB k
theorem V_newH {idx : Nat} {z : Int32} (N : Nat) (X : CX p R s m args c cc nL own D tc d) (hd : decode cc pc = .ok (.anewarray idx, 3)) (hq : pc + 3 = q) (hw : Cond.classLink own idx RX1 ∈ GT) (hO : va_AO RX1 s) (hz0 : ¬ z < 0) (hzN : z.toNatClampNeg = N) (hb : N ≤ 100000) (hz : B + n = s.heap.size + cells) (h1 : cells + 1 ≤ R.cells) (h2 : slots + N ≤ R.slots) (hB : B ≤ s.heap.size)
    (k : V p l e R s m args below meth c nL D tc B (n + 1) (AB B) s.heap (cells + 1) (slots + N) Q (a_new 14 N h n) q lv (.ref n :: st)) : V p l e R s m args below meth c nL D tc B n (AB B) s.heap cells slots Q h pc lv (.int z :: st) := by
  subst hq
  intro H locs ls hn hP hS hl
  refine va_newq X.1 X.2.1 X.2.2.2.1 (X.2.2.2.2.1 _ hw) hO X.2.2.2.2.2.1 hP (WL_D hn.2.1) hS (fun q hq => Nat.le_trans hB hq) hz0 hzN (by omega) h1 h2 hd (fun a cA H1 hK1 hP1 hD1 hS1 => ?_)
  refine W_size fun hsz => ?_
  obtain ⟨-, -, -, -, -, hc1⟩ := (hK1.2 (TY tc).length (cA, .object RX1) (by rw [List.getElem?_append_right (Nat.le_refl _), Nat.sub_self]; rfl)).2
  obtain ⟨-, -, -, -, -, hc2⟩ := (X.2.2.2.2.2.1.2 4 (tc 4, .object RX1) rfl).2
  have hc : cA = tc 4 := Option.some.inj (hc1.symm.trans hc2)
  subst hc
  have ha : a = B + n := newest (fun _ h => h) hP1 hD1 (by omega)
  subst ha
  rw [WL_new (k := 14) (len := N) (h := h) (by rw [cE_14 (h := a_new 14 N h n) (by rw [a_new_eq])]; simp [a_new])] at hP1
  exact k H1 locs ls (VN_new hn h1 h2) hP1 hS1 hl
end RowsA
section RowsA2
variable {p : Program} {l : Launch} {e : Env} {R : Room} {s : State} {m : MethodId} {args : Array Value} {below : List Frame} {meth : Method} {c : Code} {cc : ByteArray} {nL : Nat} {own : String} {D : va_G} {tc : Nat → ClassId} {d B n cells slots : Nat} {A : Nat → Prop} {H0 : Heap} {Q : State → Prop} {h : Hp} {pc q : Nat} {lv : List (Nat × Value)} {st : List Value}
/-- a final field of the class's own, written in its constructor -/
def FF (own : String) (idx ci k : Nat) : Prop := ∃ (C : String) (T : u_T) (N : Nat) (ty : FieldType), vwCl[ci]? = some (C, T, N) ∧ k < N ∧ nfs.getD ci 0 = N ∧ tgf ci k = 2 ∧ ci < 10 ∧ Cond.fieldLink own idx (T k).1 (T k).2.1 (T k).2.2.1 ∈ GT ∧ (∀ w ∈ u_ws C T N, w ∈ GT) ∧ (∃ ty0 : Nat → FieldType, ∀ k, k < N → parseFieldDescriptor (T k).2.2.1 = some (ty0 k)) ∧ (∀ a, a < N → ∀ b, b < N → a ≠ b → (T a).2.1 ≠ (T b).2.1) ∧ (T k).2.2.2 = true ∧ (T k).1 = own ∧ parseFieldDescriptor (T k).2.2.1 = some ty ∧ ∀ x : Nat, narrow ty (.ref x) = .ref x ∧ fits ty (.ref x) = true
theorem V_putF {o ci kf idx x : Nat} (X : CX p R s m args c cc nL own D tc d) (hin : meth.name = "<init>") (hd : decode cc pc = .ok (.putfield idx, 3)) (hq : pc + 3 = q) (hf : FF own idx ci kf) (hc : (h.1 o).1 = ci) (k : V p l e R s m args below meth c nL D tc B n A H0 cells slots Q (h_sR h o kf x) q lv st) : V p l e R s m args below meth c nL D tc B n A H0 cells slots Q h pc lv (.ref x :: .ref o :: st) := by
  subst hq
  obtain ⟨C, T, N, ty, h1, h2, h3, h4, h5, h6, h7, ⟨ty0, h8⟩, h9, h10, h11, h12, h13⟩ := hf
  refine fun H locs ls hn hP hS hl => va_putF (a := B + o) (v := .ref (B + x)) (ty := ty) X.1 X.2.1 X.2.2.2.2.1 h7 ty0 h8 h9 X.2.2.2.1 X.2.2.2.2.2.1 hP (WL_D hn.2.1) hS o (by rw [WL_get (hn.1 o (by omega)), cE_obj hc h5]) h1 kf h2 (X.2.2.2.2.1 _ h6) (fun _ h9 => h9) h10 hin h11 h12 (h13 _).1 (h13 _).2 (by rw [fVs_len]; omega) hd (fun H1 locs1 hP1 _ hS1 => k H1 locs1 ls hn ?_ hS1 hl)
  rw [WL_set (h' := h_sR h o kf x) ?_ (fun j hj => cE_sR hj)] at hP1
  · exact hP1
  · rw [cE_obj (h := h_sR h o kf x) hc h5, fVs_set (h' := h_sR h o kf x)]
    · simp [fV, h4, h_sR, u2, va_rf]
    · intro j t hj
      simp [fV, h_sR, u2, hj]
theorem V_objInit {o idx : Nat} (X : CX p R s m args c cc nL own D tc d) (hd : decode cc pc = .ok (.invokespecial idx, 3)) (hq : pc + 3 = q) (hw1 : Cond.methodLink own idx objectInit ∈ GT) (hw2 : Cond.instanceMethod objectInit ∈ GT) (hw3 : Cond.code objectInit ⟨#[0xb1]⟩ 1 none ∈ GT) (hdd : 1 ≤ d) (hst : (st.map fun v => v.category).sum ≤ 8) (k : V p l e R s m args below meth c nL D tc B n A H0 cells slots Q h q lv st) : V p l e R s m args below meth c nL D tc B n A H0 cells slots Q h pc lv (.ref o :: st) := by
  subst hq
  intro H locs ls hn hP hS hl
  refine W.objInit X.1 X.2.1 X.2.2.2.1 (X.2.2.2.2.1 _ hw1) (X.2.2.2.2.1 _ hw2) (X.2.2.2.2.1 _ hw3) (g := F0 m pc ls ((.ref o :: st).map (trv B))) rfl (by rw [X.2.2.1]; exact hl.1) (a := B + o) (rest := st.map (trv B)) rfl hd (by rw [X.2.2.2.2.2.2.1]; exact hdd) ?_ (k H locs ls hn hP hS hl)
  rw [X.2.2.2.2.2.2.2]
  have := lv_room (m := m) (pc := pc) (ls := ls) (rest := (.ref o :: st).map (trv B)) (st := st.map (trv B)) (by rw [cat_tr]; exact hst)
  omega
theorem V_aastore {a i x kx ci : Nat} {z : Int32} (X : CX p R s m args c cc nL own D tc d) (hd : decode cc pc = .ok (.aastore, 1)) (hq : pc + 1 = q) (ha : (h.1 a).1 = 14) (hi : z.toNatClampNeg = i ∧ ¬ (z < 0 ∨ (h.1 a).2 ≤ z.toNatClampNeg)) (hx : (h.1 x).1 = 1) (k : V p l e R s m args below meth c nL D tc B n A H0 cells slots Q (h_sR h a i x) q lv st) : V p l e R s m args below meth c nL D tc B n A H0 cells slots Q h pc lv (.ref x :: .int z :: .ref a :: st) := by
  subst hq
  obtain ⟨rfl, hin⟩ := hi
  refine fun H locs ls hn hP hS hl => va_astq (a := B + a) (v := B + x) (r := (RX1, TX1, 1)) (f := fun k => (h.2.2.2 a k).map (B + ·)) X.1 X.2.1 X.2.2.2.2.2.1 hP (WL_D hn.2.1) hS a 4 x 1 (by rw [WL_get (hn.1 a (by omega)), cE_14 ha]) rfl (by rw [WL_get (hn.1 x (by omega)), cE_obj hx (by decide)]) rfl hin hd (fun H1 locs1 hP1 _ hS1 => k H1 locs1 ls hn ?_ hS1 hl)
  rw [WL_set (h' := h_sR h a z.toNatClampNeg x) ?_ (fun j hj => cE_sR hj)] at hP1
  · exact hP1
  · rw [cE_14 (h := h_sR h a z.toNatClampNeg x) ha]
    congr 7
    funext j
    by_cases hj : j = z.toNatClampNeg
    · simp [h_sR, u2, va_up, hj]
    · simp [h_sR, u2, va_up, hj]
def PCA (D : va_G) (tc : Nat → ClassId) (B n : Nat) (av : List Value) (h : Hp) : Array Value → State → Prop := fun a U =>
  a = (av.map (trv B)).toArray ∧ va_P D vwCl (WL tc B n h) U.heap ∧ (∀ i, (h.1 i).1 < 20 → i < n) ∧ va_K D vwCl (TY tc) U ∧ U.heap.size = B + n ∧ NWs B U
def QCA (D : va_G) (tc : Nat → ClassId) (B n' : Nat) (h' : Hp) : Array Value → State → Outcome → State → Prop := fun _ st o t =>
  o = .returned none ∧ va_P D vwCl (WL tc B n' h') t.heap ∧ (∀ i, (h'.1 i).1 < 20 → i < n') ∧ va_F (AB B) st t
/-- a constructor: from n objects to n + mc, of ms slots more -/
def CKA (y : MethodName) (cc : ByteArray) (maxL d mc ms : Nat) (av : List Value) (n : Nat) (h : Hp) (h' : Hp) : Prop :=
  ∀ (l : Launch) (D : va_G) (tc : Nat → ClassId) (B : Nat), Met l y (.code y cc maxL none :: GT) (rmA d mc ms) (PCA D tc B n av h) (QCA D tc B (n + mc) h') mc ms (AB B)
theorem PCA_blind {av : List Value} : FrameBlind (PCA D tc B n av h) := by
  intro a U g mk q
  exact ⟨q.1, q.2.1, q.2.2.1, va_K.moved (u := U) (U := U.calling g mk a) (Vm.Alike.refl U.vm) q.2.2.2.1, q.2.2.2.2.1, q.2.2.2.2.2.calling⟩
theorem CKA_of {y : MethodName} {maxL mc ms : Nat} {av : List Value} {h' : Hp} (hy : plainName y.cls = true) (hm : Cond.code y cc maxL none ∈ GT) (hlen : (lg_sl av).length ≤ maxL) (hnm : y.name = "<init>")
    (body : ∀ (l : Launch) (D : va_G) (tc : Nat → ClassId) (B : Nat) (p : Program) (e : Env) (s : State) (m : MethodId) (args : Array Value) (below : List Frame) (meth : Method) (c : Code), CX p (rmA d mc ms) s m args c cc maxL y.cls D tc d → meth.sig.returnType = none → meth.locks = false → meth.name = "<init>" → s.heap.size = B + n → NWs B s →
      V p l e (rmA d mc ms) s m args below meth c maxL D tc B n (AB B) s.heap 0 0 (MQ below (QCA D tc B (n + mc) h') args s mc ms (AB B)) h 0 (lv_args 0 av) []) : CKA y cc maxL d mc ms av n h h' := by
  intro l D tc B
  refine Met.ofW (cc := cc) (maxL := maxL) (ret := none) hy rfl ?_
  intro p e s m args below meth c s₁ Bd hml hv
  obtain ⟨rfl, hP, hn, hK, hsz, hNW⟩ := hv
  have hts := atoms_spec (ws := Cond.code y cc maxL none :: GT) Bd.pre
  have hown : s.vm.findClass y.cls = some m.cls := findClass_of_methodNamed Bd.named
  have hin : meth.name = "<init>" := ((name_of_methodNamed Bd.named Bd.method).1).trans hnm
  have hl := lv_entry (av.map (trv B)) (n := maxL) (by rw [sl_tr]; exact hlen)
  rw [lg_entry_eq]
  generalize (lg_sl (av.map (trv B)) ++ List.replicate (maxL - (lg_sl (av.map (trv B))).length) Slot.unset).toArray = ls at hl ⊢
  rw [args_tr] at hl
  exact body l D tc B p e s m (av.map (trv B)).toArray below meth c ⟨Bd.exec, Bd.bytes, hml, hown, fun w hw => hts w (List.mem_cons_of_mem _ hw), hK, rfl, rfl⟩ Bd.returns Bd.notSynchronized hin hsz hNW s.heap [] ls ⟨hn, fun i hi => Nat.le_add_right _ _, Nat.zero_le _, Nat.zero_le _⟩ hP va_S.rf hl
theorem V_vretA (X : CX p R s m args c cc nL own D tc d) (hr : meth.sig.returnType = none) (hlocks : meth.locks = false) (hd : decode cc pc = .ok (.return_, 1)) : V p l e R s m args below meth c nL D tc B n (AB B) s.heap cells slots (MQ below (QCA D tc B n h) args s cells slots (AB B)) h pc lv [] :=
  fun H locs ls hn hP hS hl => W.vret X.1 X.2.1 hr (fun t ht hW => ⟨rfl, by rw [ht]; exact hP, hn.1, hS.F ht⟩) hS.2.2 hd
theorem V_afterA {h' : Hp} {n' mc ms : Nat} {g : JFrame} {ls : Array Slot} {H : Heap} {locs : List Loc} {a : Array Value} {rest : List Value} (hg : g = F0 m pc ls st)
    (hrun : va_Run p l e R s m args below meth c H locs cells slots mc ms g rest (QCA D tc B n' h' a) (AB B)) (hS : va_S (AB B) H0 H locs)
    (k : ∀ (H1 : Heap) (locs1 : List Loc), (∀ i, (h'.1 i).1 < 20 → i < n') → va_P D vwCl (WL tc B n' h') H1 → va_S (AB B) H0 H1 locs1 → W p l e R s m args below meth c H1 locs1 (cells + mc) (slots + ms) Q (F0 m (pc + 3) ls rest)) : W p l e R s m args below meth c H locs cells slots Q g := by
  subst hg
  intro T hT X
  obtain ⟨v, st₀, t, T', L, h0, X', hL, e1, e2, ⟨hv, hP, hn, hz, hk⟩, stp⟩ := hrun T hT X
  cases hv
  rw [h0] at hz hk
  obtain ⟨t2, a1, b1⟩ := k T'.heap (locs ++ L) hn (by rw [e1]; exact hP)
    ⟨Nat.le_trans hS.1 (by rw [e1]; exact hz), fun q h1 h2 => by rw [e1, hk q (Nat.lt_of_lt_of_le h1 hS.1) h2]; exact hS.2.1 q h1 h2, fun q hq => by
      rcases List.mem_append.mp hq with h | h
      · exact hS.2.2 q h
      · exact hL q h⟩ T' rfl X'
  exact ⟨t2, stp t2 a1, b1⟩
/-- a call of a constructor without parameters -/
theorem V_callI {y : MethodName} {bytes : ByteArray} {maxL idx d' o mc ms : Nat} {h' : Hp} (X : CX p R s m args c cc nL own D tc d) (hNW : NWs B s) (hd : decode cc pc = .ok (.invokespecial idx, 3)) (hq : pc + 3 = q) (hlk : Cond.methodLink own idx y ∈ GT ∨ ∃ host, Cond.methodLinkNest own idx y host ∈ nestW) (hv : Cond.instanceMethod y ∈ GT ∧ Cond.initialized y.cls ∈ GT ∧ Cond.code y bytes maxL none ∈ GT ∧ y.name = "<init>" ∧ (y.cls ≠ "java/lang/invoke/MethodHandle" ∧ y.cls ≠ "java/lang/invoke/VarHandle" ∧ (parseMethodDescriptor y.desc).map (fun d => d.parameters.length) = some 0) ∧ maxL ≤ 45)
    (hM : CKA y bytes maxL d' mc ms [.ref o] n h h') (hdd : d' + 1 ≤ d) (hrm : (st.map fun v => v.category).sum ≤ 8) (hn0 : 0 < n) (hz : B + n = s.heap.size + cells) (hc1 : cells + mc ≤ R.cells) (hc2 : slots + ms ≤ R.slots)
    (k : V p l e R s m args below meth c nL D tc B (n + mc) (AB B) s.heap (cells + mc) (slots + ms) Q h' q lv st) : V p l e R s m args below meth c nL D tc B n (AB B) s.heap cells slots Q h pc lv (.ref o :: st) := by
  subst hq
  obtain ⟨v2, v4, v5, v5n, v6, v7⟩ := hv
  obtain ⟨hx, hb, hml, hown, hts, hK, hR1, hR2⟩ := id X
  intro H locs ls hn hP hS hl
  refine W_size fun hsz => ?_
  have hsz2 : H.size = B + n := by have := size_of hP hn0; omega
  have hp : PreS s H (PCA D tc B n [.ref o] h) (.ref (B + o) :: []) := ⟨PCA_blind, fun U hU hW => ⟨rfl, by rw [hU]; exact hP, hn.1, va_K.moved hW.alike hK, by rw [hU]; exact hsz2, NWs.warm hW hU hS hNW⟩⟩
  have hroom : (rmA d' mc ms).frames + 1 ≤ R.frames ∧ 8 + (maxL + 11) + (rmA d' mc ms).locals ≤ R.locals := ⟨by rw [hR1]; exact hdd, by rw [hR2]; show 8 + (maxL + 11) + 64 * d' ≤ 64 * d; omega⟩
  refine V_afterA (a := (Value.ref (B + o) :: ([] : List Value)).toArray) (h' := h') (n' := n + mc) (st := (.ref o :: st).map (trv B)) rfl ?_ hS (fun H1 locs1 hn1 hP1 hS1 => k H1 locs1 ls ⟨hn1, fun i hi => Nat.le_add_right _ _, hc1, hc2⟩ hP1 hS1 hl)
  rcases hlk with hlk | ⟨host, hlk⟩
  · exact va_runI (b := B + o) (As := []) (rest := st.map (trv B)) (g := F0 m pc ls ((.ref o :: st).map (trv B))) ⟨hx, hb, hml, hown, hts⟩ (hM l D tc B) ⟨callB_of 0 hts (gt_good v5) rfl rfl rfl (hts _ v4) (hts _ hlk) v6 hroom, v5n, hts _ v2⟩ hp rfl rfl hl.1 rfl (lv_room (by rw [cat_tr]; exact hrm)) hd ⟨hc1, hc2⟩
  · exact va_runIN (b := B + o) (As := []) (rest := st.map (trv B)) (g := F0 m pc ls ((.ref o :: st).map (trv B))) ⟨hx, hb, hml, hown, hts⟩ (hM l D tc B) ⟨va_cnB 0 hts (gt_good v5) rfl rfl rfl (hNW.1.1 _ hlk) (hts _ v4) v6 hroom, v5n, hts _ v2⟩ hp rfl rfl hl.1 rfl (lv_room (by rw [cat_tr]; exact hrm)) hd ⟨hc1, hc2⟩
end RowsA2
