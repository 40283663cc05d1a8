def GT : List Cond := lw_tbl.filter goodWord
theorem gt_of {w : Cond} (i : Nat) (h : tables_1[i]? = some w) (g : goodWord w = true) : w ∈ GT := List.mem_filter.mpr ⟨List.mem_append_right _ (List.mem_of_getElem? h), g⟩
theorem gt1 {w : Cond} (i : Nat) (h : tables_1_1[i]? = some w) (g : goodWord w = true) : w ∈ GT := List.mem_filter.mpr ⟨List.mem_append_right _ (List.mem_append_left _ (List.mem_of_getElem? h)), g⟩
theorem gt2 {w : Cond} (i : Nat) (h : tables_1_2[i]? = some w) (g : goodWord w = true) : w ∈ GT := List.mem_filter.mpr ⟨List.mem_append_right _ (List.mem_append_right _ (List.mem_append_left _ (List.mem_of_getElem? h))), g⟩
theorem gt3 {w : Cond} (i : Nat) (h : tables_1_3[i]? = some w) (g : goodWord w = true) : w ∈ GT := List.mem_filter.mpr ⟨List.mem_append_right _ (List.mem_append_right _ (List.mem_append_right _ (List.mem_append_left _ (List.mem_of_getElem? h)))), g⟩
theorem gt4 {w : Cond} (i : Nat) (h : tables_1_4[i]? = some w) (g : goodWord w = true) : w ∈ GT := List.mem_filter.mpr ⟨List.mem_append_right _ (List.mem_append_right _ (List.mem_append_right _ (List.mem_append_right _ (List.mem_append_left _ (List.mem_of_getElem? h))))), g⟩
theorem gt5 {w : Cond} (i : Nat) (h : tables_1_5[i]? = some w) (g : goodWord w = true) : w ∈ GT := List.mem_filter.mpr ⟨List.mem_append_right _ (List.mem_append_right _ (List.mem_append_right _ (List.mem_append_right _ (List.mem_append_right _ (List.mem_append_left _ (List.mem_of_getElem? h)))))), g⟩
theorem gt6 {w : Cond} (i : Nat) (h : tables_1_6[i]? = some w) (g : goodWord w = true) : w ∈ GT := List.mem_filter.mpr ⟨List.mem_append_right _ (List.mem_append_right _ (List.mem_append_right _ (List.mem_append_right _ (List.mem_append_right _ (List.mem_append_right _ (List.mem_append_left _ (List.mem_of_getElem? h))))))), g⟩
theorem gt7 {w : Cond} (i : Nat) (h : tables_1_7[i]? = some w) (g : goodWord w = true) : w ∈ GT := List.mem_filter.mpr ⟨List.mem_append_right _ (List.mem_append_right _ (List.mem_append_right _ (List.mem_append_right _ (List.mem_append_right _ (List.mem_append_right _ (List.mem_append_right _ (List.mem_append_left _ (List.mem_of_getElem? h)))))))), g⟩
theorem gt8 {w : Cond} (i : Nat) (h : tables_1_8[i]? = some w) (g : goodWord w = true) : w ∈ GT := List.mem_filter.mpr ⟨List.mem_append_right _ (List.mem_append_right _ (List.mem_append_right _ (List.mem_append_right _ (List.mem_append_right _ (List.mem_append_right _ (List.mem_append_right _ (List.mem_append_right _ ((List.mem_of_getElem? h))))))))), g⟩
theorem gt_sel {w : Cond} (i : Nat) (h : (k2_sels lw_privs)[i]? = some w) (g : goodWord w = true) : w ∈ GT := List.mem_filter.mpr ⟨List.mem_append_left _ (List.mem_of_getElem? h), g⟩
theorem gt_list (ws : List Cond) (ps : List Nat) (hp : ws = ps.filterMap (fun i => tables_1[i]?)) (h : ws.all goodWord = true) : ∀ w ∈ ws, w ∈ GT := by
  intro w hw
  have h1 := List.all_eq_true.mp h w hw
  rw [hp] at hw
  obtain ⟨i, -, hi⟩ := List.mem_filterMap.mp hw
  exact gt_of i hi h1
theorem gt_in {w : Cond} (h : w ∈ GT) : GoodIn (w :: GT) (w :: GT) := by
  have g : ∀ v ∈ GT, (v.onTables && v.keeps) = true ∨ ∃ ty, v = .arrayClass ty := fun v hv => good_of_word (List.mem_filter.mp hv).2
  intro v hv
  refine ⟨hv, ?_⟩
  rcases List.mem_cons.mp hv with rfl | hv
  · exact g _ h
  · exact g _ hv
theorem gt_good {w : Cond} (h : w ∈ GT) : GoodIn GT (w :: GT) := by
  intro v hv
  rcases List.mem_cons.mp hv with rfl | hv
  · exact ⟨h, good_of_word (List.mem_filter.mp h).2⟩
  · exact ⟨hv, good_of_word (List.mem_filter.mp hv).2⟩
def tgs : List (List Nat) := [[2, 2, 2, 0, 0, 0, 2, 2], [2], [0, 2, 2, 2, 2, 2, 2, 2, 2, 2, 2, 2], [2, 0, 0, 2, 2, 2, 2, 2, 2, 2, 0], [2, 0, 2, 0, 2, 2, 2, 2, 2, 2, 2, 2, 2, 2, 2], [0, 0, 0, 0, 0, 2], [0, 0, 0, 0, 0, 0, 0, 2, 2, 0, 2, 2, 2, 2, 2], [0, 0, 0, 1, 0, 0, 2, 2], [2, 2, 2, 2, 2, 2, 2, 0, 0, 0, 0, 0], [2, 2, 2, 2, 0, 0, 0, 0, 0, 0, 0, 0, 0, 0, 0, 1, 0, 2, 2, 2, 2, 2, 2, 2, 2, 2, 2, 2, 2, 2, 2, 0, 0, 0, 0, 2, 2, 2, 2, 2, 2, 2, 0, 0, 0, 0, 0, 0, 0, 0]]
def nfs : List Nat := [8, 1, 12, 11, 15, 6, 15, 8, 12, 50]
def tgf (c k : Nat) : Nat := (tgs.getD c []).getD k 0
def fV (B : Nat) (h : Hp) (i k t : Nat) : Value := if t = 0 then .int (h.2.1 i k) else if t = 1 then .long (h.2.2.1 i k) else va_rf ((h.2.2.2 i k).map (B + ·))
def fVs (B : Nat) (h : Hp) (i c : Nat) : List Value := (List.range (nfs.getD c 0)).map (fun k => fV B h i k (tgf c k))
def cE (tc : Nat → ClassId) (B : Nat) (h : Hp) (i : Nat) : va_E :=
  if (h.1 i).1 = 10 then .inl (tc 0, (h.1 i).2, .inl (h.2.1 i))
  else if (h.1 i).1 = 11 then .inl (tc 1, (h.1 i).2, .inl (h.2.1 i))
  else if (h.1 i).1 = 12 then .inl (tc 2, (h.1 i).2, .inl (h.2.1 i))
  else if (h.1 i).1 = 13 then .inl (tc 3, (h.1 i).2, .inr (.inl (h.2.2.1 i)))
  else if (h.1 i).1 = 14 then .inl (tc 4, (h.1 i).2, .inr (.inr (.inr (.inr (fun k => (h.2.2.2 i k).map (B + ·))))))
  else .inr ((h.1 i).1, fVs B h i (h.1 i).1)
def WL (tc : Nat → ClassId) (B n : Nat) (h : Hp) : va_W := (List.range n).map (fun i => (B + i, cE tc B h i))
def TY (tc : Nat → ClassId) : List (ClassId × FieldType) := [(tc 0, .int), (tc 1, .boolean), (tc 2, .byte), (tc 3, .long), (tc 4, .object "HoldChecker$Hold")]
def Ar (B n : Nat) : Nat → Prop := fun q => B ≤ q ∧ q < B + n
def trv (B : Nat) (v : Value) : Value := match v with
  | .ref a => .ref (B + a)
  | v => v
def trl (B : Nat) (lv : List (Nat × Value)) : List (Nat × Value) := lv.map (fun q => (q.1, trv B q.2))
def rmD (d : Nat) : Room := { frames := d, cells := 0, slots := 0, locals := 64 * d }
theorem WL_get {tc : Nat → ClassId} {B n : Nat} {h : Hp} {i : Nat} (hi : i < n) : (WL tc B n h)[i]? = some (B + i, cE tc B h i) := by
  simp [WL, hi]
theorem WL_len {tc : Nat → ClassId} {B n : Nat} {h : Hp} : (WL tc B n h).length = n := by simp [WL]
theorem WL_set {tc : Nat → ClassId} {B n : Nat} {h h' : Hp} {i : Nat} {x : va_E} (hx : cE tc B h' i = x) (ho : ∀ j, j ≠ i → cE tc B h' j = cE tc B h j) : (WL tc B n h).set i (B + i, x) = WL tc B n h' := by
  apply List.ext_getElem?
  intro j
  by_cases hj : j < n
  · rw [WL_get hj]
    by_cases hji : j = i
    · subst hji
      rw [List.getElem?_set_self (by rw [WL_len]; exact hj), hx]
    · rw [List.getElem?_set_ne (Ne.symm hji), WL_get hj, ho j hji]
  · rw [List.getElem?_eq_none (by rw [List.length_set, WL_len]; omega), List.getElem?_eq_none (by rw [WL_len]; omega)]
theorem WL_D {tc : Nat → ClassId} {B n : Nat} {h : Hp} {A : Nat → Prop} (hA : ∀ i, i < n → A (B + i)) : va_D A (WL tc B n h) := by
  have key : ∀ (k : Nat) (q : Nat × va_E), (WL tc B n h)[k]? = some q → k < n ∧ q.1 = B + k := by
    intro k q hk
    have hl : k < n := by have := (List.getElem?_eq_some_iff.mp hk).1; rwa [WL_len] at this
    rw [WL_get hl] at hk
    cases hk
    exact ⟨hl, rfl⟩
  refine ⟨fun i j x y hi hj hxy => ?_, fun k q hk => ?_⟩
  · have a := key i x hi
    have b := key j y hj
    omega
  · obtain ⟨a, b⟩ := key k q hk
    rw [b]; exact hA k a
theorem WL_DAr {tc : Nat → ClassId} {B n : Nat} {h : Hp} : va_D (Ar B n) (WL tc B n h) := WL_D (fun i hi => ⟨by omega, by omega⟩)
/-- what stands fixed while a method runs -/
def CX (p : Program) (R : Room) (s : State) (m : MethodId) (args : Array Value) (c : Code) (cc : ByteArray) (nL : Nat) (own : String) (D : va_G) (tc : Nat → ClassId) (d : Nat) : Prop :=
  p.tables.exec = Jvm.exec ∧ c.code = cc ∧ c.maxLocals = nL ∧ s.vm.findClass own = some m.cls ∧ (∀ w ∈ GT, w.before args s = true) ∧ va_K D vwCl (TY tc) s ∧ R.frames = d ∧ R.locals = 64 * d
/-- shapes of the n objects; all may be written; room -/
def VN (R : Room) (B n : Nat) (A : Nat → Prop) (cells slots : Nat) (h : Hp) : Prop := (∀ i, (h.1 i).1 < 20 → i < n) ∧ (∀ i, i < n → A (B + i)) ∧ cells ≤ R.cells ∧ slots ≤ R.slots
def V (p : Program) (l : Launch) (e : Env) (R : Room) (s : State) (m : MethodId) (args : Array Value) (below : List Frame) (meth : Method) (c : Code) (nL : Nat) (D : va_G) (tc : Nat → ClassId) (B n : Nat) (A : Nat → Prop) (H0 : Heap) (cells slots : Nat) (Q : State → Prop) (h : Hp) (pc : Nat) (lv : List (Nat × Value)) (st : List Value) : Prop :=
  ∀ (H : Heap) (locs : List Loc) (ls : Array Slot), VN R B n A cells slots h → va_P D vwCl (WL tc B n h) H → va_S A H0 H locs → lv_has ls nL (trl B lv) → W p l e R s m args below meth c H locs cells slots Q (F0 m pc ls (st.map (trv B)))
def lget : List (Nat × Value) → Nat → Option Value
  | [], _ => none
  | (j, v) :: l, i => if j = i then some v else lget l i
theorem lget_mem : ∀ {lv : List (Nat × Value)} {i : Nat} {v : Value}, lget lv i = some v → (i, v) ∈ lv
  | [], _, _, h => by simp [lget] at h
  | (j, w) :: l, i, v, h => by
    unfold lget at h
    split at h
    · rename_i hj
      subst hj
      cases h
      exact List.mem_cons_self
    · exact List.mem_cons_of_mem _ (lget_mem h)
theorem lv_get {ls : Array Slot} {nL B : Nat} {lv : List (Nat × Value)} {i : Nat} {v : Value} (hl : lv_has ls nL (trl B lv)) (h : lget lv i = some v) : ls[i]? = some (.val (trv B v)) :=
  hl.2.2 (i, trv B v) (List.mem_map.mpr ⟨(i, v), lget_mem h, rfl⟩)
theorem trv_cat (B : Nat) (v : Value) : (trv B v).category = v.category := by cases v <;> rfl
def lset1 (lv : List (Nat × Value)) (i : Nat) (v : Value) : List (Nat × Value) := (i, v) :: lv.filter (fun q => !(q.1 == i) && !(q.1 + 1 == i && q.2.category == 2))
def lset2 (lv : List (Nat × Value)) (i : Nat) (v : Value) : List (Nat × Value) := (i, v) :: lv.filter (fun q => !(q.1 == i) && (!(q.1 == i + 1) && !(q.1 + 1 == i && q.2.category == 2)))
theorem lset1_tr (B : Nat) (lv : List (Nat × Value)) (i : Nat) (v : Value) : (i, trv B v) :: (trl B lv).filter (fun q => !(q.1 == i) && !(q.1 + 1 == i && q.2.category == 2)) = trl B (lset1 lv i v) := by
  simp [lset1, trl, List.filter_map, Function.comp_def, trv_cat]
theorem lset2_tr (B : Nat) (lv : List (Nat × Value)) (i : Nat) (v : Value) : (i, trv B v) :: (trl B lv).filter (fun q => !(q.1 == i) && (!(q.1 == i + 1) && !(q.1 + 1 == i && q.2.category == 2))) = trl B (lset2 lv i v) := by
  simp [lset2, trl, List.filter_map, Function.comp_def, trv_cat]
section RowsV
variable {p : Program} {l : Launch} {e : Env} {R : Room} {s : State} {m : MethodId} {args : Array Value} {below : List Frame} {meth : Method} {c : Code} {cc : ByteArray} {nL : Nat} {own : String} {D : va_G} {tc : Nat → ClassId} {d B n cells slots : Nat} {A : Nat → Prop} {H0 : Heap} {Q : State → Prop} {h : Hp} {pc q : Nat} {lv : List (Nat × Value)} {st : List Value}
theorem V_iconst {v : Int32} {a : Int} (X : CX p R s m args c cc nL own D tc d) (hd : decode cc pc = .ok (.iconst a, 1)) (hv : Int32.ofInt a = v) (hq : pc + 1 = q) (k : V p l e R s m args below meth c nL D tc B n A H0 cells slots Q h q lv (.int v :: st)) : V p l e R s m args below meth c nL D tc B n A H0 cells slots Q h pc lv (st) := by
  subst hq
  exact fun H locs ls hn hP hS hl => lv_iconst X.1 X.2.1 hd hv (k H locs ls hn hP hS hl)
theorem V_bipush {v : Int32} {a : Int} (X : CX p R s m args c cc nL own D tc d) (hd : decode cc pc = .ok (.bipush a, 2)) (hv : (Int8.ofInt a).toInt32 = v) (hq : pc + 2 = q) (k : V p l e R s m args below meth c nL D tc B n A H0 cells slots Q h q lv (.int v :: st)) : V p l e R s m args below meth c nL D tc B n A H0 cells slots Q h pc lv (st) := by
  subst hq
  exact fun H locs ls hn hP hS hl => lv_bipush X.1 X.2.1 hd hv (k H locs ls hn hP hS hl)
theorem V_sipush {v : Int32} {a : Int} (X : CX p R s m args c cc nL own D tc d) (hd : decode cc pc = .ok (.sipush a, 3)) (hv : (Int16.ofInt a).toInt32 = v) (hq : pc + 3 = q) (k : V p l e R s m args below meth c nL D tc B n A H0 cells slots Q h q lv (.int v :: st)) : V p l e R s m args below meth c nL D tc B n A H0 cells slots Q h pc lv (st) := by
  subst hq
  exact fun H locs ls hn hP hS hl => lv_sipush X.1 X.2.1 hd hv (k H locs ls hn hP hS hl)
theorem V_lconst {v : Int64} {a : Fin 2} (X : CX p R s m args c cc nL own D tc d) (hd : decode cc pc = .ok (.lconst a, 1)) (hv : Int64.ofNat (a : Nat) = v) (hq : pc + 1 = q) (k : V p l e R s m args below meth c nL D tc B n A H0 cells slots Q h q lv (.long v :: st)) : V p l e R s m args below meth c nL D tc B n A H0 cells slots Q h pc lv (st) := by
  subst hq
  exact fun H locs ls hn hP hS hl => lv_lconst X.1 X.2.1 hd hv (k H locs ls hn hP hS hl)
theorem V_iadd {x y : Int32} (X : CX p R s m args c cc nL own D tc d) (hd : decode cc pc = .ok (.iadd, 1)) (hq : pc + 1 = q) (k : V p l e R s m args below meth c nL D tc B n A H0 cells slots Q h q lv (.int (x + y) :: st)) : V p l e R s m args below meth c nL D tc B n A H0 cells slots Q h pc lv (.int y :: .int x :: st) := by
  subst hq
  exact fun H locs ls hn hP hS hl => lv_iadd X.1 X.2.1 hd  (k H locs ls hn hP hS hl)
theorem V_isub {x y : Int32} (X : CX p R s m args c cc nL own D tc d) (hd : decode cc pc = .ok (.isub, 1)) (hq : pc + 1 = q) (k : V p l e R s m args below meth c nL D tc B n A H0 cells slots Q h q lv (.int (x - y) :: st)) : V p l e R s m args below meth c nL D tc B n A H0 cells slots Q h pc lv (.int y :: .int x :: st) := by
  subst hq
  exact fun H locs ls hn hP hS hl => lv_isub X.1 X.2.1 hd  (k H locs ls hn hP hS hl)
theorem V_imul {x y : Int32} (X : CX p R s m args c cc nL own D tc d) (hd : decode cc pc = .ok (.imul, 1)) (hq : pc + 1 = q) (k : V p l e R s m args below meth c nL D tc B n A H0 cells slots Q h q lv (.int (x * y) :: st)) : V p l e R s m args below meth c nL D tc B n A H0 cells slots Q h pc lv (.int y :: .int x :: st) := by
  subst hq
  exact fun H locs ls hn hP hS hl => lv_imul X.1 X.2.1 hd  (k H locs ls hn hP hS hl)
theorem V_ishl {x y : Int32} (X : CX p R s m args c cc nL own D tc d) (hd : decode cc pc = .ok (.ishl, 1)) (hq : pc + 1 = q) (k : V p l e R s m args below meth c nL D tc B n A H0 cells slots Q h q lv (.int (x <<< (y &&& 31)) :: st)) : V p l e R s m args below meth c nL D tc B n A H0 cells slots Q h pc lv (.int y :: .int x :: st) := by
  subst hq
  exact fun H locs ls hn hP hS hl => lv_ishl X.1 X.2.1 hd  (k H locs ls hn hP hS hl)
theorem V_ishr {x y : Int32} (X : CX p R s m args c cc nL own D tc d) (hd : decode cc pc = .ok (.ishr, 1)) (hq : pc + 1 = q) (k : V p l e R s m args below meth c nL D tc B n A H0 cells slots Q h q lv (.int (x >>> (y &&& 31)) :: st)) : V p l e R s m args below meth c nL D tc B n A H0 cells slots Q h pc lv (.int y :: .int x :: st) := by
  subst hq
  exact fun H locs ls hn hP hS hl => lv_ishr X.1 X.2.1 hd  (k H locs ls hn hP hS hl)
theorem V_iand {x y : Int32} (X : CX p R s m args c cc nL own D tc d) (hd : decode cc pc = .ok (.iand, 1)) (hq : pc + 1 = q) (k : V p l e R s m args below meth c nL D tc B n A H0 cells slots Q h q lv (.int (x &&& y) :: st)) : V p l e R s m args below meth c nL D tc B n A H0 cells slots Q h pc lv (.int y :: .int x :: st) := by
  subst hq
  exact fun H locs ls hn hP hS hl => lv_iand X.1 X.2.1 hd  (k H locs ls hn hP hS hl)
theorem V_ior {x y : Int32} (X : CX p R s m args c cc nL own D tc d) (hd : decode cc pc = .ok (.ior, 1)) (hq : pc + 1 = q) (k : V p l e R s m args below meth c nL D tc B n A H0 cells slots Q h q lv (.int (x ||| y) :: st)) : V p l e R s m args below meth c nL D tc B n A H0 cells slots Q h pc lv (.int y :: .int x :: st) := by
  subst hq
  exact fun H locs ls hn hP hS hl => lv_ior X.1 X.2.1 hd  (k H locs ls hn hP hS hl)
theorem V_ixor {x y : Int32} (X : CX p R s m args c cc nL own D tc d) (hd : decode cc pc = .ok (.ixor, 1)) (hq : pc + 1 = q) (k : V p l e R s m args below meth c nL D tc B n A H0 cells slots Q h q lv (.int (x ^^^ y) :: st)) : V p l e R s m args below meth c nL D tc B n A H0 cells slots Q h pc lv (.int y :: .int x :: st) := by
  subst hq
  exact fun H locs ls hn hP hS hl => lv_ixor X.1 X.2.1 hd  (k H locs ls hn hP hS hl)
theorem V_iushr {x y : Int32} (X : CX p R s m args c cc nL own D tc d) (hd : decode cc pc = .ok (.iushr, 1)) (hq : pc + 1 = q) (k : V p l e R s m args below meth c nL D tc B n A H0 cells slots Q h q lv (.int ((x.toUInt32 >>> (y.toUInt32 &&& Int32.toUInt32 31)).toInt32) :: st)) : V p l e R s m args below meth c nL D tc B n A H0 cells slots Q h pc lv (.int y :: .int x :: st) := by
  subst hq
  exact fun H locs ls hn hP hS hl => lv_iushr X.1 X.2.1 hd rfl (k H locs ls hn hP hS hl)
theorem V_ladd {x y : Int64} (X : CX p R s m args c cc nL own D tc d) (hd : decode cc pc = .ok (.ladd, 1)) (hq : pc + 1 = q) (k : V p l e R s m args below meth c nL D tc B n A H0 cells slots Q h q lv (.long (x + y) :: st)) : V p l e R s m args below meth c nL D tc B n A H0 cells slots Q h pc lv (.long y :: .long x :: st) := by
  subst hq
  exact fun H locs ls hn hP hS hl => lv_ladd X.1 X.2.1 hd  (k H locs ls hn hP hS hl)
theorem V_lsub {x y : Int64} (X : CX p R s m args c cc nL own D tc d) (hd : decode cc pc = .ok (.lsub, 1)) (hq : pc + 1 = q) (k : V p l e R s m args below meth c nL D tc B n A H0 cells slots Q h q lv (.long (x - y) :: st)) : V p l e R s m args below meth c nL D tc B n A H0 cells slots Q h pc lv (.long y :: .long x :: st) := by
  subst hq
  exact fun H locs ls hn hP hS hl => lv_lsub X.1 X.2.1 hd  (k H locs ls hn hP hS hl)
theorem V_lmul {x y : Int64} (X : CX p R s m args c cc nL own D tc d) (hd : decode cc pc = .ok (.lmul, 1)) (hq : pc + 1 = q) (k : V p l e R s m args below meth c nL D tc B n A H0 cells slots Q h q lv (.long (x * y) :: st)) : V p l e R s m args below meth c nL D tc B n A H0 cells slots Q h pc lv (.long y :: .long x :: st) := by
  subst hq
  exact fun H locs ls hn hP hS hl => lv_lmul X.1 X.2.1 hd  (k H locs ls hn hP hS hl)
theorem V_land {x y : Int64} (X : CX p R s m args c cc nL own D tc d) (hd : decode cc pc = .ok (.land, 1)) (hq : pc + 1 = q) (k : V p l e R s m args below meth c nL D tc B n A H0 cells slots Q h q lv (.long (x &&& y) :: st)) : V p l e R s m args below meth c nL D tc B n A H0 cells slots Q h pc lv (.long y :: .long x :: st) := by
  subst hq
  exact fun H locs ls hn hP hS hl => lv_land X.1 X.2.1 hd  (k H locs ls hn hP hS hl)
theorem V_lor {x y : Int64} (X : CX p R s m args c cc nL own D tc d) (hd : decode cc pc = .ok (.lor, 1)) (hq : pc + 1 = q) (k : V p l e R s m args below meth c nL D tc B n A H0 cells slots Q h q lv (.long (x ||| y) :: st)) : V p l e R s m args below meth c nL D tc B n A H0 cells slots Q h pc lv (.long y :: .long x :: st) := by
  subst hq
  exact fun H locs ls hn hP hS hl => lv_lor X.1 X.2.1 hd  (k H locs ls hn hP hS hl)
theorem V_lshl {x : Int64} {y : Int32} (X : CX p R s m args c cc nL own D tc d) (hd : decode cc pc = .ok (.lshl, 1)) (hq : pc + 1 = q) (k : V p l e R s m args below meth c nL D tc B n A H0 cells slots Q h q lv (.long (x <<< (y.toInt64 &&& 63)) :: st)) : V p l e R s m args below meth c nL D tc B n A H0 cells slots Q h pc lv (.int y :: .long x :: st) := by
  subst hq
  exact fun H locs ls hn hP hS hl => lv_lshl X.1 X.2.1 hd rfl (k H locs ls hn hP hS hl)
theorem V_lshr {x : Int64} {y : Int32} (X : CX p R s m args c cc nL own D tc d) (hd : decode cc pc = .ok (.lshr, 1)) (hq : pc + 1 = q) (k : V p l e R s m args below meth c nL D tc B n A H0 cells slots Q h q lv (.long (x >>> (y.toInt64 &&& 63)) :: st)) : V p l e R s m args below meth c nL D tc B n A H0 cells slots Q h pc lv (.int y :: .long x :: st) := by
  subst hq
  exact fun H locs ls hn hP hS hl => lv_lshr X.1 X.2.1 hd rfl (k H locs ls hn hP hS hl)
theorem V_lushr {x : Int64} {y : Int32} (X : CX p R s m args c cc nL own D tc d) (hd : decode cc pc = .ok (.lushr, 1)) (hq : pc + 1 = q) (k : V p l e R s m args below meth c nL D tc B n A H0 cells slots Q h q lv (.long ((x.toUInt64 >>> (y.toInt64.toUInt64 &&& Int64.toUInt64 63)).toInt64) :: st)) : V p l e R s m args below meth c nL D tc B n A H0 cells slots Q h pc lv (.int y :: .long x :: st) := by
  subst hq
  exact fun H locs ls hn hP hS hl => lv_lushr X.1 X.2.1 hd rfl (k H locs ls hn hP hS hl)
theorem V_i2l {x : Int32} (X : CX p R s m args c cc nL own D tc d) (hd : decode cc pc = .ok (.i2l, 1)) (hq : pc + 1 = q) (k : V p l e R s m args below meth c nL D tc B n A H0 cells slots Q h q lv (.long x.toInt64 :: st)) : V p l e R s m args below meth c nL D tc B n A H0 cells slots Q h pc lv (.int x :: st) := by
  subst hq
  exact fun H locs ls hn hP hS hl => lv_i2l X.1 X.2.1 hd rfl (k H locs ls hn hP hS hl)
theorem V_l2i {x : Int64} (X : CX p R s m args c cc nL own D tc d) (hd : decode cc pc = .ok (.l2i, 1)) (hq : pc + 1 = q) (k : V p l e R s m args below meth c nL D tc B n A H0 cells slots Q h q lv (.int x.toInt32 :: st)) : V p l e R s m args below meth c nL D tc B n A H0 cells slots Q h pc lv (.long x :: st) := by
  subst hq
  exact fun H locs ls hn hP hS hl => lv_l2i X.1 X.2.1 hd rfl (k H locs ls hn hP hS hl)
theorem V_i2b {x : Int32} (X : CX p R s m args c cc nL own D tc d) (hd : decode cc pc = .ok (.i2b, 1)) (hq : pc + 1 = q) (k : V p l e R s m args below meth c nL D tc B n A H0 cells slots Q h q lv (.int x.toInt8.toInt32 :: st)) : V p l e R s m args below meth c nL D tc B n A H0 cells slots Q h pc lv (.int x :: st) := by
  subst hq
  exact fun H locs ls hn hP hS hl => lv_i2b X.1 X.2.1 hd rfl (k H locs ls hn hP hS hl)
theorem V_lcmp {x y : Int64} (X : CX p R s m args c cc nL own D tc d) (hd : decode cc pc = .ok (.lcmp, 1)) (hq : pc + 1 = q) (k : V p l e R s m args below meth c nL D tc B n A H0 cells slots Q h q lv (.int (lg_cmp x y) :: st)) : V p l e R s m args below meth c nL D tc B n A H0 cells slots Q h pc lv (.long y :: .long x :: st) := by
  subst hq
  exact fun H locs ls hn hP hS hl => W.lcmp X.1 X.2.1 hd  (k H locs ls hn hP hS hl)
theorem V_idiv {x y z : Int32} (X : CX p R s m args c cc nL own D tc d) (hd : decode cc pc = .ok (.idiv, 1)) (hq : pc + 1 = q) (he : h_div x y = some z) (k : V p l e R s m args below meth c nL D tc B n A H0 cells slots Q h q lv (.int z :: st)) : V p l e R s m args below meth c nL D tc B n A H0 cells slots Q h pc lv (.int y :: .int x :: st) := by
  subst hq
  unfold h_div at he
  split at he
  · cases he
  · rename_i hy
    cases he
    exact fun H locs ls hn hP hS hl => lv_idiv X.1 X.2.1 hd hy (k H locs ls hn hP hS hl)
theorem V_irem {x y z : Int32} (X : CX p R s m args c cc nL own D tc d) (hd : decode cc pc = .ok (.irem, 1)) (hq : pc + 1 = q) (he : h_rem x y = some z) (k : V p l e R s m args below meth c nL D tc B n A H0 cells slots Q h q lv (.int z :: st)) : V p l e R s m args below meth c nL D tc B n A H0 cells slots Q h pc lv (.int y :: .int x :: st) := by
  subst hq
  unfold h_rem at he
  split at he
  · cases he
  · rename_i hy
    cases he
    exact fun H locs ls hn hP hS hl => lv_irem X.1 X.2.1 hd hy (k H locs ls hn hP hS hl)
theorem V_lrem {x y z : Int64} (X : CX p R s m args c cc nL own D tc d) (hd : decode cc pc = .ok (.lrem, 1)) (hq : pc + 1 = q) (he : h_reml x y = some z) (k : V p l e R s m args below meth c nL D tc B n A H0 cells slots Q h q lv (.long z :: st)) : V p l e R s m args below meth c nL D tc B n A H0 cells slots Q h pc lv (.long y :: .long x :: st) := by
  subst hq
  unfold h_reml at he
  split at he
  · cases he
  · rename_i hy
    cases he
    exact fun H locs ls hn hP hS hl => lv_lrem X.1 X.2.1 hd hy (k H locs ls hn hP hS hl)
theorem V_pop {v : Value} (X : CX p R s m args c cc nL own D tc d) (hd : decode cc pc = .ok (.pop, 1)) (hq : pc + 1 = q) (hc : v.category = 1) (k : V p l e R s m args below meth c nL D tc B n A H0 cells slots Q h q lv st) : V p l e R s m args below meth c nL D tc B n A H0 cells slots Q h pc lv (v :: st) := by
  subst hq
  exact fun H locs ls hn hP hS hl => lv_pop X.1 X.2.1 hd ((trv_cat B v).trans hc) (k H locs ls hn hP hS hl)
theorem V_dup {v : Value} (X : CX p R s m args c cc nL own D tc d) (hd : decode cc pc = .ok (.dup, 1)) (hq : pc + 1 = q) (hc : v.category = 1) (k : V p l e R s m args below meth c nL D tc B n A H0 cells slots Q h q lv (v :: v :: st)) : V p l e R s m args below meth c nL D tc B n A H0 cells slots Q h pc lv (v :: st) := by
  subst hq
  exact fun H locs ls hn hP hS hl => lv_dup X.1 X.2.1 hd ((trv_cat B v).trans hc) (k H locs ls hn hP hS hl)
theorem V_dup2 {v w : Value} (X : CX p R s m args c cc nL own D tc d) (hd : decode cc pc = .ok (.dup2, 1)) (hq : pc + 1 = q) (hv : v.category = 1) (hw : w.category = 1) (k : V p l e R s m args below meth c nL D tc B n A H0 cells slots Q h q lv (v :: w :: v :: w :: st)) : V p l e R s m args below meth c nL D tc B n A H0 cells slots Q h pc lv (v :: w :: st) := by
  subst hq
  exact fun H locs ls hn hP hS hl => lv_dup2_11 X.1 X.2.1 hd ((trv_cat B v).trans hv) ((trv_cat B w).trans hw) (k H locs ls hn hP hS hl)
theorem V_dup_x1 {v w : Value} (X : CX p R s m args c cc nL own D tc d) (hd : decode cc pc = .ok (.dup_x1, 1)) (hq : pc + 1 = q) (hv : v.category = 1) (hw : w.category = 1) (k : V p l e R s m args below meth c nL D tc B n A H0 cells slots Q h q lv (v :: w :: v :: st)) : V p l e R s m args below meth c nL D tc B n A H0 cells slots Q h pc lv (v :: w :: st) := by
  subst hq
  exact fun H locs ls hn hP hS hl => lv_dup_x1 X.1 X.2.1 hd ((trv_cat B v).trans hv) ((trv_cat B w).trans hw) (k H locs ls hn hP hS hl)
theorem V_iload_n {j : Fin 4} {i : Nat} {x : Int32} (X : CX p R s m args c cc nL own D tc d) (hd : decode cc pc = .ok (.iload_n j, 1)) (hq : pc + 1 = q) (hi : (j : Nat) = i) (hg : lget lv i = some (.int x)) (k : V p l e R s m args below meth c nL D tc B n A H0 cells slots Q h q lv (.int x :: st)) : V p l e R s m args below meth c nL D tc B n A H0 cells slots Q h pc lv st := by
  subst hq
  exact fun H locs ls hn hP hS hl => lv_iload_n X.1 X.2.1 hd hi (lv_get hl hg) (k H locs ls hn hP hS hl)
theorem V_iload {i : Nat} {x : Int32} (X : CX p R s m args c cc nL own D tc d) (hd : decode cc pc = .ok (.iload i, 2)) (hq : pc + 2 = q) (hg : lget lv i = some (.int x)) (k : V p l e R s m args below meth c nL D tc B n A H0 cells slots Q h q lv (.int x :: st)) : V p l e R s m args below meth c nL D tc B n A H0 cells slots Q h pc lv st := by
  subst hq
  exact fun H locs ls hn hP hS hl => lv_iload X.1 X.2.1 hd (lv_get hl hg) (k H locs ls hn hP hS hl)
theorem V_lload_n {j : Fin 4} {i : Nat} {x : Int64} (X : CX p R s m args c cc nL own D tc d) (hd : decode cc pc = .ok (.lload_n j, 1)) (hq : pc + 1 = q) (hi : (j : Nat) = i) (hg : lget lv i = some (.long x)) (k : V p l e R s m args below meth c nL D tc B n A H0 cells slots Q h q lv (.long x :: st)) : V p l e R s m args below meth c nL D tc B n A H0 cells slots Q h pc lv st := by
  subst hq
  exact fun H locs ls hn hP hS hl => lv_lload_n X.1 X.2.1 hd hi (lv_get hl hg) (k H locs ls hn hP hS hl)
theorem V_lload {i : Nat} {x : Int64} (X : CX p R s m args c cc nL own D tc d) (hd : decode cc pc = .ok (.lload i, 2)) (hq : pc + 2 = q) (hg : lget lv i = some (.long x)) (k : V p l e R s m args below meth c nL D tc B n A H0 cells slots Q h q lv (.long x :: st)) : V p l e R s m args below meth c nL D tc B n A H0 cells slots Q h pc lv st := by
  subst hq
  exact fun H locs ls hn hP hS hl => lv_lload X.1 X.2.1 hd (lv_get hl hg) (k H locs ls hn hP hS hl)
theorem V_aload_n {j : Fin 4} {i : Nat} {x : Nat} (X : CX p R s m args c cc nL own D tc d) (hd : decode cc pc = .ok (.aload_n j, 1)) (hq : pc + 1 = q) (hi : (j : Nat) = i) (hg : lget lv i = some (.ref x)) (k : V p l e R s m args below meth c nL D tc B n A H0 cells slots Q h q lv (.ref x :: st)) : V p l e R s m args below meth c nL D tc B n A H0 cells slots Q h pc lv st := by
  subst hq
  exact fun H locs ls hn hP hS hl => lv_aload_n X.1 X.2.1 hd hi (lv_get hl hg) (k H locs ls hn hP hS hl)
theorem V_aload {i : Nat} {x : Nat} (X : CX p R s m args c cc nL own D tc d) (hd : decode cc pc = .ok (.aload i, 2)) (hq : pc + 2 = q) (hg : lget lv i = some (.ref x)) (k : V p l e R s m args below meth c nL D tc B n A H0 cells slots Q h q lv (.ref x :: st)) : V p l e R s m args below meth c nL D tc B n A H0 cells slots Q h pc lv st := by
  subst hq
  exact fun H locs ls hn hP hS hl => lv_aload X.1 X.2.1 hd (lv_get hl hg) (k H locs ls hn hP hS hl)
theorem V_istore_n {j : Fin 4} {i : Nat} {x : Int32} {lv' : List (Nat × Value)} (X : CX p R s m args c cc nL own D tc d) (hd : decode cc pc = .ok (.istore_n j, 1)) (hq : pc + 1 = q) (hi : (j : Nat) = i) (hn : i < nL) (he : lset1 lv i (.int x) = lv') (k : V p l e R s m args below meth c nL D tc B n A H0 cells slots Q h q lv' st) : V p l e R s m args below meth c nL D tc B n A H0 cells slots Q h pc lv (.int x :: st) := by
  subst hq
  subst he
  exact fun H locs ls hn0 hP hS hl => lv_istore_n X.1 X.2.1 hd hi hl hn (lset1_tr B lv i (.int x)) (fun ls' hl' => k H locs ls' hn0 hP hS hl')
theorem V_istore {i : Nat} {x : Int32} {lv' : List (Nat × Value)} (X : CX p R s m args c cc nL own D tc d) (hd : decode cc pc = .ok (.istore i, 2)) (hq : pc + 2 = q) (hn : i < nL) (he : lset1 lv i (.int x) = lv') (k : V p l e R s m args below meth c nL D tc B n A H0 cells slots Q h q lv' st) : V p l e R s m args below meth c nL D tc B n A H0 cells slots Q h pc lv (.int x :: st) := by
  subst hq
  subst he
  exact fun H locs ls hn0 hP hS hl => lv_istore X.1 X.2.1 hd hl hn (lset1_tr B lv i (.int x)) (fun ls' hl' => k H locs ls' hn0 hP hS hl')
theorem V_lstore_n {j : Fin 4} {i : Nat} {x : Int64} {lv' : List (Nat × Value)} (X : CX p R s m args c cc nL own D tc d) (hd : decode cc pc = .ok (.lstore_n j, 1)) (hq : pc + 1 = q) (hi : (j : Nat) = i) (hn : i + 1 < nL) (he : lset2 lv i (.long x) = lv') (k : V p l e R s m args below meth c nL D tc B n A H0 cells slots Q h q lv' st) : V p l e R s m args below meth c nL D tc B n A H0 cells slots Q h pc lv (.long x :: st) := by
  subst hq
  subst he
  exact fun H locs ls hn0 hP hS hl => lv_lstore_n X.1 X.2.1 hd hi hl hn (lset2_tr B lv i (.long x)) (fun ls' hl' => k H locs ls' hn0 hP hS hl')
theorem V_lstore {i : Nat} {x : Int64} {lv' : List (Nat × Value)} (X : CX p R s m args c cc nL own D tc d) (hd : decode cc pc = .ok (.lstore i, 2)) (hq : pc + 2 = q) (hn : i + 1 < nL) (he : lset2 lv i (.long x) = lv') (k : V p l e R s m args below meth c nL D tc B n A H0 cells slots Q h q lv' st) : V p l e R s m args below meth c nL D tc B n A H0 cells slots Q h pc lv (.long x :: st) := by
  subst hq
  subst he
  exact fun H locs ls hn0 hP hS hl => lv_lstore X.1 X.2.1 hd hl hn (lset2_tr B lv i (.long x)) (fun ls' hl' => k H locs ls' hn0 hP hS hl')
theorem V_astore_n {j : Fin 4} {i : Nat} {x : Nat} {lv' : List (Nat × Value)} (X : CX p R s m args c cc nL own D tc d) (hd : decode cc pc = .ok (.astore_n j, 1)) (hq : pc + 1 = q) (hi : (j : Nat) = i) (hn : i < nL) (he : lset1 lv i (.ref x) = lv') (k : V p l e R s m args below meth c nL D tc B n A H0 cells slots Q h q lv' st) : V p l e R s m args below meth c nL D tc B n A H0 cells slots Q h pc lv (.ref x :: st) := by
  subst hq
  subst he
  exact fun H locs ls hn0 hP hS hl => lv_astore_n X.1 X.2.1 hd hi hl hn (lset1_tr B lv i (.ref x)) (fun ls' hl' => k H locs ls' hn0 hP hS hl')
theorem V_astore {i : Nat} {x : Nat} {lv' : List (Nat × Value)} (X : CX p R s m args c cc nL own D tc d) (hd : decode cc pc = .ok (.astore i, 2)) (hq : pc + 2 = q) (hn : i < nL) (he : lset1 lv i (.ref x) = lv') (k : V p l e R s m args below meth c nL D tc B n A H0 cells slots Q h q lv' st) : V p l e R s m args below meth c nL D tc B n A H0 cells slots Q h pc lv (.ref x :: st) := by
  subst hq
  subst he
  exact fun H locs ls hn0 hP hS hl => lv_astore X.1 X.2.1 hd hl hn (lset1_tr B lv i (.ref x)) (fun ls' hl' => k H locs ls' hn0 hP hS hl')
theorem lget_at {lv : List (Nat × Value)} {i : Nat} {v : Value} (h : lget lv i = some v) : ∃ j : Nat, lv[j]? = some (i, v) := by
  obtain ⟨j, hj⟩ := List.getElem?_of_mem (lget_mem h)
  exact ⟨j, hj⟩
theorem V_iinc {i : Nat} {x v : Int32} {a : Int} {lv' : List (Nat × Value)} (X : CX p R s m args c cc nL own D tc d) (hd : decode cc pc = .ok (.iinc i a, 3)) (hq : pc + 3 = q) (hg : lget lv i = some (.int x)) (hv : x + Int32.ofInt a = v) (hn : i < nL) (he : lset1 lv i (.int v) = lv') (k : V p l e R s m args below meth c nL D tc B n A H0 cells slots Q h q lv' st) : V p l e R s m args below meth c nL D tc B n A H0 cells slots Q h pc lv st := by
  subst hq
  subst he
  obtain ⟨j, hj⟩ := lget_at hg
  exact fun H locs ls hn0 hP hS hl => lv_iinc X.1 X.2.1 hd hl (k := j) (by simp [trl, hj, trv]) hv hn (lset1_tr B lv i (.int v)) (fun ls' hl' => k H locs ls' hn0 hP hS hl')
/-- fewer locals -/
theorem V_sub {lv' : List (Nat × Value)} (ks : List Nat) (he : ks.filterMap (fun k => lv[k]?) = lv') (k : V p l e R s m args below meth c nL D tc B n A H0 cells slots Q h pc lv' st) : V p l e R s m args below meth c nL D tc B n A H0 cells slots Q h pc lv st := by
  subst he
  refine fun H locs ls hn hP hS hl => k H locs ls hn hP hS ⟨hl.1, hl.2.1, fun w hw => ?_⟩
  obtain ⟨w0, hw0, rfl⟩ := List.mem_map.mp hw
  obtain ⟨j, -, hj⟩ := List.mem_filterMap.mp hw0
  exact hl.2.2 _ (List.mem_map.mpr ⟨w0, List.mem_of_getElem? hj, rfl⟩)
theorem V_goto {off : Int} (X : CX p R s m args c cc nL own D tc d) (hd : decode cc pc = .ok (.goto off, 3)) (hq : (pc : Int) + off = (q : Int)) (k : V p l e R s m args below meth c nL D tc B n A H0 cells slots Q h q lv st) : V p l e R s m args below meth c nL D tc B n A H0 cells slots Q h pc lv st :=
  fun H locs ls hn hP hS hl => lv_goto X.1 X.2.1 hd hq (k H locs ls hn hP hS hl)
theorem V_icmp_eq {x y : Int32} {off : Int} {t : Nat} (X : CX p R s m args c cc nL own D tc d) (hd : decode cc pc = .ok (.if_icmp .eq off, 3)) (hq : pc + 3 = q) (ht : (pc : Int) + off = (t : Int)) (kt : x = y → V p l e R s m args below meth c nL D tc B n A H0 cells slots Q h t lv st) (kf : ¬ (x = y) → V p l e R s m args below meth c nL D tc B n A H0 cells slots Q h q lv st) : V p l e R s m args below meth c nL D tc B n A H0 cells slots Q h pc lv (.int y :: .int x :: st) := by
  subst hq
  exact fun H locs ls hn hP hS hl => lv_icmp_eq X.1 X.2.1 hd ht (fun z => kt z H locs ls hn hP hS hl) (fun z => kf z H locs ls hn hP hS hl)
theorem V_if_eq {x : Int32} {off : Int} {t : Nat} (X : CX p R s m args c cc nL own D tc d) (hd : decode cc pc = .ok (.ifCond .eq off, 3)) (hq : pc + 3 = q) (ht : (pc : Int) + off = (t : Int)) (kt : x = 0 → V p l e R s m args below meth c nL D tc B n A H0 cells slots Q h t lv st) (kf : ¬ (x = 0) → V p l e R s m args below meth c nL D tc B n A H0 cells slots Q h q lv st) : V p l e R s m args below meth c nL D tc B n A H0 cells slots Q h pc lv (.int x :: st) := by
  subst hq
  exact fun H locs ls hn hP hS hl => lv_if_eq X.1 X.2.1 hd ht (fun z => kt z H locs ls hn hP hS hl) (fun z => kf z H locs ls hn hP hS hl)
theorem V_icmp_ne {x y : Int32} {off : Int} {t : Nat} (X : CX p R s m args c cc nL own D tc d) (hd : decode cc pc = .ok (.if_icmp .ne off, 3)) (hq : pc + 3 = q) (ht : (pc : Int) + off = (t : Int)) (kt : ¬ x = y → V p l e R s m args below meth c nL D tc B n A H0 cells slots Q h t lv st) (kf : x = y → V p l e R s m args below meth c nL D tc B n A H0 cells slots Q h q lv st) : V p l e R s m args below meth c nL D tc B n A H0 cells slots Q h pc lv (.int y :: .int x :: st) := by
  subst hq
  exact fun H locs ls hn hP hS hl => lv_icmp_ne X.1 X.2.1 hd ht (fun z => kt z H locs ls hn hP hS hl) (fun z => kf z H locs ls hn hP hS hl)
theorem V_if_ne {x : Int32} {off : Int} {t : Nat} (X : CX p R s m args c cc nL own D tc d) (hd : decode cc pc = .ok (.ifCond .ne off, 3)) (hq : pc + 3 = q) (ht : (pc : Int) + off = (t : Int)) (kt : ¬ x = 0 → V p l e R s m args below meth c nL D tc B n A H0 cells slots Q h t lv st) (kf : x = 0 → V p l e R s m args below meth c nL D tc B n A H0 cells slots Q h q lv st) : V p l e R s m args below meth c nL D tc B n A H0 cells slots Q h pc lv (.int x :: st) := by
  subst hq
  exact fun H locs ls hn hP hS hl => lv_if_ne X.1 X.2.1 hd ht (fun z => kt z H locs ls hn hP hS hl) (fun z => kf z H locs ls hn hP hS hl)
theorem V_icmp_lt {x y : Int32} {off : Int} {t : Nat} (X : CX p R s m args c cc nL own D tc d) (hd : decode cc pc = .ok (.if_icmp .lt off, 3)) (hq : pc + 3 = q) (ht : (pc : Int) + off = (t : Int)) (kt : x < y → V p l e R s m args below meth c nL D tc B n A H0 cells slots Q h t lv st) (kf : ¬ (x < y) → V p l e R s m args below meth c nL D tc B n A H0 cells slots Q h q lv st) : V p l e R s m args below meth c nL D tc B n A H0 cells slots Q h pc lv (.int y :: .int x :: st) := by
  subst hq
  exact fun H locs ls hn hP hS hl => lv_icmp_lt X.1 X.2.1 hd ht (fun z => kt z H locs ls hn hP hS hl) (fun z => kf z H locs ls hn hP hS hl)
theorem V_if_lt {x : Int32} {off : Int} {t : Nat} (X : CX p R s m args c cc nL own D tc d) (hd : decode cc pc = .ok (.ifCond .lt off, 3)) (hq : pc + 3 = q) (ht : (pc : Int) + off = (t : Int)) (kt : x < 0 → V p l e R s m args below meth c nL D tc B n A H0 cells slots Q h t lv st) (kf : ¬ (x < 0) → V p l e R s m args below meth c nL D tc B n A H0 cells slots Q h q lv st) : V p l e R s m args below meth c nL D tc B n A H0 cells slots Q h pc lv (.int x :: st) := by
  subst hq
  exact fun H locs ls hn hP hS hl => lv_if_lt X.1 X.2.1 hd ht (fun z => kt z H locs ls hn hP hS hl) (fun z => kf z H locs ls hn hP hS hl)
theorem V_icmp_ge {x y : Int32} {off : Int} {t : Nat} (X : CX p R s m args c cc nL own D tc d) (hd : decode cc pc = .ok (.if_icmp .ge off, 3)) (hq : pc + 3 = q) (ht : (pc : Int) + off = (t : Int)) (kt : y ≤ x → V p l e R s m args below meth c nL D tc B n A H0 cells slots Q h t lv st) (kf : ¬ (y ≤ x) → V p l e R s m args below meth c nL D tc B n A H0 cells slots Q h q lv st) : V p l e R s m args below meth c nL D tc B n A H0 cells slots Q h pc lv (.int y :: .int x :: st) := by
  subst hq
  exact fun H locs ls hn hP hS hl => lv_icmp_ge X.1 X.2.1 hd ht (fun z => kt z H locs ls hn hP hS hl) (fun z => kf z H locs ls hn hP hS hl)
theorem V_if_ge {x : Int32} {off : Int} {t : Nat} (X : CX p R s m args c cc nL own D tc d) (hd : decode cc pc = .ok (.ifCond .ge off, 3)) (hq : pc + 3 = q) (ht : (pc : Int) + off = (t : Int)) (kt : 0 ≤ x → V p l e R s m args below meth c nL D tc B n A H0 cells slots Q h t lv st) (kf : ¬ (0 ≤ x) → V p l e R s m args below meth c nL D tc B n A H0 cells slots Q h q lv st) : V p l e R s m args below meth c nL D tc B n A H0 cells slots Q h pc lv (.int x :: st) := by
  subst hq
  exact fun H locs ls hn hP hS hl => lv_if_ge X.1 X.2.1 hd ht (fun z => kt z H locs ls hn hP hS hl) (fun z => kf z H locs ls hn hP hS hl)
theorem V_icmp_gt {x y : Int32} {off : Int} {t : Nat} (X : CX p R s m args c cc nL own D tc d) (hd : decode cc pc = .ok (.if_icmp .gt off, 3)) (hq : pc + 3 = q) (ht : (pc : Int) + off = (t : Int)) (kt : y < x → V p l e R s m args below meth c nL D tc B n A H0 cells slots Q h t lv st) (kf : ¬ (y < x) → V p l e R s m args below meth c nL D tc B n A H0 cells slots Q h q lv st) : V p l e R s m args below meth c nL D tc B n A H0 cells slots Q h pc lv (.int y :: .int x :: st) := by
  subst hq
  exact fun H locs ls hn hP hS hl => lv_icmp_gt X.1 X.2.1 hd ht (fun z => kt z H locs ls hn hP hS hl) (fun z => kf z H locs ls hn hP hS hl)
theorem V_if_gt {x : Int32} {off : Int} {t : Nat} (X : CX p R s m args c cc nL own D tc d) (hd : decode cc pc = .ok (.ifCond .gt off, 3)) (hq : pc + 3 = q) (ht : (pc : Int) + off = (t : Int)) (kt : 0 < x → V p l e R s m args below meth c nL D tc B n A H0 cells slots Q h t lv st) (kf : ¬ (0 < x) → V p l e R s m args below meth c nL D tc B n A H0 cells slots Q h q lv st) : V p l e R s m args below meth c nL D tc B n A H0 cells slots Q h pc lv (.int x :: st) := by
  subst hq
  exact fun H locs ls hn hP hS hl => lv_if_gt X.1 X.2.1 hd ht (fun z => kt z H locs ls hn hP hS hl) (fun z => kf z H locs ls hn hP hS hl)
theorem V_icmp_le {x y : Int32} {off : Int} {t : Nat} (X : CX p R s m args c cc nL own D tc d) (hd : decode cc pc = .ok (.if_icmp .le off, 3)) (hq : pc + 3 = q) (ht : (pc : Int) + off = (t : Int)) (kt : x ≤ y → V p l e R s m args below meth c nL D tc B n A H0 cells slots Q h t lv st) (kf : ¬ (x ≤ y) → V p l e R s m args below meth c nL D tc B n A H0 cells slots Q h q lv st) : V p l e R s m args below meth c nL D tc B n A H0 cells slots Q h pc lv (.int y :: .int x :: st) := by
  subst hq
  exact fun H locs ls hn hP hS hl => lv_icmp_le X.1 X.2.1 hd ht (fun z => kt z H locs ls hn hP hS hl) (fun z => kf z H locs ls hn hP hS hl)
theorem V_if_le {x : Int32} {off : Int} {t : Nat} (X : CX p R s m args c cc nL own D tc d) (hd : decode cc pc = .ok (.ifCond .le off, 3)) (hq : pc + 3 = q) (ht : (pc : Int) + off = (t : Int)) (kt : x ≤ 0 → V p l e R s m args below meth c nL D tc B n A H0 cells slots Q h t lv st) (kf : ¬ (x ≤ 0) → V p l e R s m args below meth c nL D tc B n A H0 cells slots Q h q lv st) : V p l e R s m args below meth c nL D tc B n A H0 cells slots Q h pc lv (.int x :: st) := by
  subst hq
  exact fun H locs ls hn hP hS hl => lv_if_le X.1 X.2.1 hd ht (fun z => kt z H locs ls hn hP hS hl) (fun z => kf z H locs ls hn hP hS hl)
-- the cells of a heap, as one of them changes
theorem cE_obj {i ci : Nat} (hk : (h.1 i).1 = ci) (hc : ci < 10) : cE tc B h i = .inr (ci, fVs B h i ci) := by
  unfold cE
  rw [if_neg (by omega), if_neg (by omega), if_neg (by omega), if_neg (by omega), if_neg (by omega), hk]
theorem cE_10 {i : Nat} (hk : (h.1 i).1 = 10) : cE tc B h i = .inl (tc 0, (h.1 i).2, .inl (h.2.1 i)) := by
  unfold cE; rw [if_pos hk]
theorem cE_11 {i : Nat} (hk : (h.1 i).1 = 11) : cE tc B h i = .inl (tc 1, (h.1 i).2, .inl (h.2.1 i)) := by
  unfold cE; rw [if_neg (by omega), if_pos hk]
theorem cE_12 {i : Nat} (hk : (h.1 i).1 = 12) : cE tc B h i = .inl (tc 2, (h.1 i).2, .inl (h.2.1 i)) := by
  unfold cE; rw [if_neg (by omega), if_neg (by omega), if_pos hk]
theorem cE_13 {i : Nat} (hk : (h.1 i).1 = 13) : cE tc B h i = .inl (tc 3, (h.1 i).2, .inr (.inl (h.2.2.1 i))) := by
  unfold cE; rw [if_neg (by omega), if_neg (by omega), if_neg (by omega), if_pos hk]
theorem cE_14 {i : Nat} (hk : (h.1 i).1 = 14) : cE tc B h i = .inl (tc 4, (h.1 i).2, .inr (.inr (.inr (.inr (fun k => (h.2.2.2 i k).map (B + ·)))))) := by
  unfold cE; rw [if_neg (by omega), if_neg (by omega), if_neg (by omega), if_neg (by omega), if_pos hk]
theorem cE_ext {h' : Hp} {j : Nat} (h1 : h'.1 j = h.1 j) (h2 : h'.2.1 j = h.2.1 j) (h3 : h'.2.2.1 j = h.2.2.1 j) (h4 : h'.2.2.2 j = h.2.2.2 j) : cE tc B h' j = cE tc B h j := by
  unfold cE fVs fV
  rw [h1, h2, h3, h4]
theorem cE_sI {i k j : Nat} {x : Int32} (hj : j ≠ i) : cE tc B (h_sI h i k x) j = cE tc B h j := cE_ext rfl (by simp [h_sI, u2, hj]) rfl rfl
theorem cE_sL {i k j : Nat} {x : Int64} (hj : j ≠ i) : cE tc B (h_sL h i k x) j = cE tc B h j := cE_ext rfl rfl (by simp [h_sL, u2, hj]) rfl
theorem cE_sR {i k j : Nat} {x : Nat} (hj : j ≠ i) : cE tc B (h_sR h i k x) j = cE tc B h j := cE_ext rfl rfl rfl (by simp [h_sR, u2, hj])
theorem fVs_get {i ci k : Nat} (hk : k < nfs.getD ci 0) : (fVs B h i ci)[k]? = some (fV B h i k (tgf ci k)) := by
  unfold fVs
  rw [List.getElem?_map, List.getElem?_range hk]
  rfl
theorem fVs_len {i ci : Nat} : (fVs B h i ci).length = nfs.getD ci 0 := by simp [fVs]
theorem fVs_set {h' : Hp} {i ci k : Nat} {v : Value} (hv : fV B h' i k (tgf ci k) = v) (ho : ∀ j t, j ≠ k → fV B h' i j t = fV B h i j t) : (fVs B h i ci).set k v = fVs B h' i ci := by
  apply List.ext_getElem?
  intro j
  by_cases hj : j < nfs.getD ci 0
  · rw [fVs_get hj]
    by_cases hjk : j = k
    · subst hjk
      rw [List.getElem?_set_self (by rw [fVs_len]; exact hj), hv]
    · rw [List.getElem?_set_ne (Ne.symm hjk), fVs_get hj, ho j _ hjk]
  · rw [List.getElem?_eq_none (by rw [List.length_set, fVs_len]; omega), List.getElem?_eq_none (by rw [fVs_len]; omega)]
/-- a field's row of the tables: own's pool entry idx is field k of class ci, of tag t -/
def FL (own : String) (idx ci k t : Nat) : Prop := ∃ (C : String) (T : u_T) (N : Nat), vwCl[ci]? = some (C, T, N) ∧ k < N ∧ nfs.getD ci 0 = N ∧ tgf ci k = t ∧ ci < 10 ∧ Cond.fieldLink own idx (T k).1 (T k).2.1 (T k).2.2.1 ∈ GT ∧ (∀ w ∈ u_ws C T N, w ∈ GT)
/-- the same of one that may be written, of type ty -/
def FP (own : String) (idx ci k t : Nat) (ty : FieldType) : Prop := ∃ (C : String) (T : u_T) (N : Nat), vwCl[ci]? = some (C, T, N) ∧ k < N ∧ nfs.getD ci 0 = N ∧ tgf ci k = t ∧ ci < 10 ∧ Cond.fieldLink own idx (T k).1 (T k).2.1 (T k).2.2.1 ∈ GT ∧ (∀ w ∈ u_ws C T N, w ∈ GT) ∧ (∃ ty0 : Nat → FieldType, ∀ k, k < N → parseFieldDescriptor (T k).2.2.1 = some (ty0 k)) ∧ (∀ a, a < N → ∀ b, b < N → a ≠ b → (T a).2.1 ≠ (T b).2.1) ∧ (T k).2.2.2 = false ∧ parseFieldDescriptor (T k).2.2.1 = some ty
theorem V_getI {o ci kf idx : Nat} {x : Int32} (X : CX p R s m args c cc nL own D tc d) (hd : decode cc pc = .ok (.getfield idx, 3)) (hq : pc + 3 = q) (hf : FL own idx ci kf 0) (he : h_fI ci h o kf = some x) (k : V p l e R s m args below meth c nL D tc B n A H0 cells slots Q h q lv (.int x :: st)) : V p l e R s m args below meth c nL D tc B n A H0 cells slots Q h pc lv (.ref o :: st) := by
  subst hq
  obtain ⟨C, T, N, h1, h2, h3, h4, h5, h6, h7⟩ := hf
  unfold h_fI at he
  split at he
  · rename_i hc
    cases he
    refine fun H locs ls hn hP hS hl => va_get (a := B + o) (v := .int (h.2.1 o kf)) X.1 X.2.1 X.2.2.2.2.1 h7 X.2.2.2.1 X.2.2.2.2.2.1 hP o (by rw [WL_get (hn.1 o (by omega)), cE_obj hc h5]) h1 kf h2 (X.2.2.2.2.1 _ h6) (fun _ h9 => h9) (by rw [fVs_get (by omega), h4]; rfl) hd (k H locs ls hn hP hS hl)
  · cases he
theorem V_getL {o ci kf idx : Nat} {x : Int64} (X : CX p R s m args c cc nL own D tc d) (hd : decode cc pc = .ok (.getfield idx, 3)) (hq : pc + 3 = q) (hf : FL own idx ci kf 1) (he : h_fL ci h o kf = some x) (k : V p l e R s m args below meth c nL D tc B n A H0 cells slots Q h q lv (.long x :: st)) : V p l e R s m args below meth c nL D tc B n A H0 cells slots Q h pc lv (.ref o :: st) := by
  subst hq
  obtain ⟨C, T, N, h1, h2, h3, h4, h5, h6, h7⟩ := hf
  unfold h_fL at he
  split at he
  · rename_i hc
    cases he
    refine fun H locs ls hn hP hS hl => va_get (a := B + o) (v := .long (h.2.2.1 o kf)) X.1 X.2.1 X.2.2.2.2.1 h7 X.2.2.2.1 X.2.2.2.2.2.1 hP o (by rw [WL_get (hn.1 o (by omega)), cE_obj hc h5]) h1 kf h2 (X.2.2.2.2.1 _ h6) (fun _ h9 => h9) (by rw [fVs_get (by omega), h4]; rfl) hd (k H locs ls hn hP hS hl)
  · cases he
theorem V_getR {o ci kf idx : Nat} {x : Nat} (X : CX p R s m args c cc nL own D tc d) (hd : decode cc pc = .ok (.getfield idx, 3)) (hq : pc + 3 = q) (hf : FL own idx ci kf 2) (he : h_fR ci h o kf = some x) (k : V p l e R s m args below meth c nL D tc B n A H0 cells slots Q h q lv (.ref x :: st)) : V p l e R s m args below meth c nL D tc B n A H0 cells slots Q h pc lv (.ref o :: st) := by
  subst hq
  obtain ⟨C, T, N, h1, h2, h3, h4, h5, h6, h7⟩ := hf
  unfold h_fR at he
  split at he
  · rename_i hc
    refine fun H locs ls hn hP hS hl => va_get (a := B + o) (v := .ref (B + x)) X.1 X.2.1 X.2.2.2.2.1 h7 X.2.2.2.1 X.2.2.2.2.2.1 hP o (by rw [WL_get (hn.1 o (by omega)), cE_obj hc h5]) h1 kf h2 (X.2.2.2.2.1 _ h6) (fun _ h9 => h9) (by rw [fVs_get (by omega), h4]; simp [fV, he, va_rf]) hd (k H locs ls hn hP hS hl)
  · cases he
theorem V_putI {o ci kf idx : Nat} {x : Int32} {h' : Hp} (X : CX p R s m args c cc nL own D tc d) (hd : decode cc pc = .ok (.putfield idx, 3)) (hq : pc + 3 = q) (hf : FP own idx ci kf 0 .int) (he : h_pI ci h o kf x = some h') (k : V p l e R s m args below meth c nL D tc B n A H0 cells slots Q h' q lv st) : V p l e R s m args below meth c nL D tc B n A H0 cells slots Q h pc lv (.int x :: .ref o :: st) := by
  subst hq
  obtain ⟨C, T, N, h1, h2, h3, h4, h5, h6, h7, ⟨ty0, h8⟩, h9, h10, h11⟩ := hf
  unfold h_pI at he
  split at he
  · rename_i hc
    cases he
    refine fun H locs ls hn hP hS hl => va_put (a := B + o) (v := .int x) (ty := .int) X.1 X.2.1 X.2.2.2.2.1 h7 ty0 h8 h9 X.2.2.2.1 X.2.2.2.2.2.1 hP (WL_D hn.2.1) hS o (by rw [WL_get (hn.1 o (by omega)), cE_obj hc h5]) h1 kf h2 (X.2.2.2.2.1 _ h6) (fun _ h9 => h9) h10 h11 rfl rfl (by rw [fVs_len]; omega) hd (fun H1 locs1 hP1 _ hS1 => k H1 locs1 ls hn ?_ hS1 hl)
    rw [WL_set (h' := h_sI h o kf x) ?_ (fun j hj => cE_sI hj)] at hP1
    · exact hP1
    · rw [cE_obj (h := h_sI h o kf x) hc h5, fVs_set (h' := h_sI h o kf x)]
      · simp [fV, h4, h_sI, u2]
      · intro j t hj
        simp [fV, h_sI, u2, hj]
  · cases he
theorem V_putZ {o ci kf idx : Nat} {x : Int32} {h' : Hp} (X : CX p R s m args c cc nL own D tc d) (hd : decode cc pc = .ok (.putfield idx, 3)) (hq : pc + 3 = q) (hf : FP own idx ci kf 0 .boolean) (he : h_pZ ci h o kf x = some h') (k : V p l e R s m args below meth c nL D tc B n A H0 cells slots Q h' q lv st) : V p l e R s m args below meth c nL D tc B n A H0 cells slots Q h pc lv (.int x :: .ref o :: st) := by
  subst hq
  obtain ⟨C, T, N, h1, h2, h3, h4, h5, h6, h7, ⟨ty0, h8⟩, h9, h10, h11⟩ := hf
  unfold h_pZ at he
  split at he
  · rename_i hcx
    obtain ⟨hc, hx⟩ := hcx
    cases he
    refine fun H locs ls hn hP hS hl => va_put (a := B + o) (v := .int x) (ty := .boolean) X.1 X.2.1 X.2.2.2.2.1 h7 ty0 h8 h9 X.2.2.2.1 X.2.2.2.2.2.1 hP (WL_D hn.2.1) hS o (by rw [WL_get (hn.1 o (by omega)), cE_obj hc h5]) h1 kf h2 (X.2.2.2.2.1 _ h6) (fun _ h9 => h9) h10 h11 (by rcases hx with rfl | rfl <;> rfl) (by rcases hx with rfl | rfl <;> rfl) (by rw [fVs_len]; omega) hd (fun H1 locs1 hP1 _ hS1 => k H1 locs1 ls hn ?_ hS1 hl)
    rw [WL_set (h' := h_sI h o kf x) ?_ (fun j hj => cE_sI hj)] at hP1
    · exact hP1
    · rw [cE_obj (h := h_sI h o kf x) hc h5, fVs_set (h' := h_sI h o kf x)]
      · simp [fV, h4, h_sI, u2]
      · intro j t hj
        simp [fV, h_sI, u2, hj]
  · cases he
theorem V_putL {o ci kf idx : Nat} {x : Int64} {h' : Hp} (X : CX p R s m args c cc nL own D tc d) (hd : decode cc pc = .ok (.putfield idx, 3)) (hq : pc + 3 = q) (hf : FP own idx ci kf 1 .long) (he : h_pL ci h o kf x = some h') (k : V p l e R s m args below meth c nL D tc B n A H0 cells slots Q h' q lv st) : V p l e R s m args below meth c nL D tc B n A H0 cells slots Q h pc lv (.long x :: .ref o :: st) := by
  subst hq
  obtain ⟨C, T, N, h1, h2, h3, h4, h5, h6, h7, ⟨ty0, h8⟩, h9, h10, h11⟩ := hf
  unfold h_pL at he
  split at he
  · rename_i hc
    cases he
    refine fun H locs ls hn hP hS hl => va_put (a := B + o) (v := .long x) (ty := .long) X.1 X.2.1 X.2.2.2.2.1 h7 ty0 h8 h9 X.2.2.2.1 X.2.2.2.2.2.1 hP (WL_D hn.2.1) hS o (by rw [WL_get (hn.1 o (by omega)), cE_obj hc h5]) h1 kf h2 (X.2.2.2.2.1 _ h6) (fun _ h9 => h9) h10 h11 rfl rfl (by rw [fVs_len]; omega) hd (fun H1 locs1 hP1 _ hS1 => k H1 locs1 ls hn ?_ hS1 hl)
    rw [WL_set (h' := h_sL h o kf x) ?_ (fun j hj => cE_sL hj)] at hP1
    · exact hP1
    · rw [cE_obj (h := h_sL h o kf x) hc h5, fVs_set (h' := h_sL h o kf x)]
      · simp [fV, h4, h_sL, u2]
      · intro j t hj
        simp [fV, h_sL, u2, hj]
  · cases he
theorem V_putR {o ci kf idx : Nat} {x : Nat} {h' : Hp} {C1 : String} (X : CX p R s m args c cc nL own D tc d) (hd : decode cc pc = .ok (.putfield idx, 3)) (hq : pc + 3 = q) (hf : FP own idx ci kf 2 (.object C1)) (he : h_pR ci h o kf x = some h') (k : V p l e R s m args below meth c nL D tc B n A H0 cells slots Q h' q lv st) : V p l e R s m args below meth c nL D tc B n A H0 cells slots Q h pc lv (.ref x :: .ref o :: st) := by
  subst hq
  obtain ⟨C, T, N, h1, h2, h3, h4, h5, h6, h7, ⟨ty0, h8⟩, h9, h10, h11⟩ := hf
  unfold h_pR at he
  split at he
  · rename_i hc
    cases he
    refine fun H locs ls hn hP hS hl => va_put (a := B + o) (v := .ref (B + x)) (ty := .object C1) X.1 X.2.1 X.2.2.2.2.1 h7 ty0 h8 h9 X.2.2.2.1 X.2.2.2.2.2.1 hP (WL_D hn.2.1) hS o (by rw [WL_get (hn.1 o (by omega)), cE_obj hc h5]) h1 kf h2 (X.2.2.2.2.1 _ h6) (fun _ h9 => h9) h10 h11 rfl rfl (by rw [fVs_len]; omega) hd (fun H1 locs1 hP1 _ hS1 => k H1 locs1 ls hn ?_ hS1 hl)
    rw [WL_set (h' := h_sR h o kf x) ?_ (fun j hj => cE_sR hj)] at hP1
    · exact hP1
    · rw [cE_obj (h := h_sR h o kf x) hc h5, fVs_set (h' := h_sR h o kf x)]
      · simp [fV, h4, h_sR, u2, va_rf]
      · intro j t hj
        simp [fV, h_sR, u2, hj]
  · cases he
-- arrays
theorem V_iaload {a : Nat} {i x : Int32} (X : CX p R s m args c cc nL own D tc d) (hd : decode cc pc = .ok (.iaload, 1)) (hq : pc + 1 = q) (he : h_ldI h a i = some x) (k : V p l e R s m args below meth c nL D tc B n A H0 cells slots Q h q lv (.int x :: st)) : V p l e R s m args below meth c nL D tc B n A H0 cells slots Q h pc lv (.int i :: .ref a :: st) := by
  subst hq
  unfold h_ldI at he
  split at he
  · rename_i hc
    cases he
    exact fun H locs ls hn hP hS hl => va_iald (a := B + a) (f := h.2.1 a) X.1 X.2.1 X.2.2.2.2.2.1 hP a 0 (by rw [WL_get (hn.1 a (by omega)), cE_10 hc.1]) rfl hc.2 hd (k H locs ls hn hP hS hl)
  · cases he
theorem V_baloadZ {a : Nat} {i x : Int32} (X : CX p R s m args c cc nL own D tc d) (hd : decode cc pc = .ok (.baload, 1)) (hq : pc + 1 = q) (he : h_ldZ h a i = some x) (k : V p l e R s m args below meth c nL D tc B n A H0 cells slots Q h q lv (.int x :: st)) : V p l e R s m args below meth c nL D tc B n A H0 cells slots Q h pc lv (.int i :: .ref a :: st) := by
  subst hq
  unfold h_ldZ at he
  split at he
  · rename_i hc
    cases he
    exact fun H locs ls hn hP hS hl => va_zald (a := B + a) (f := h.2.1 a) X.1 X.2.1 X.2.2.2.2.2.1 hP a 1 (by rw [WL_get (hn.1 a (by omega)), cE_11 hc.1]) rfl hc.2 hd (k H locs ls hn hP hS hl)
  · cases he
theorem V_baloadB {a : Nat} {i x : Int32} (X : CX p R s m args c cc nL own D tc d) (hd : decode cc pc = .ok (.baload, 1)) (hq : pc + 1 = q) (he : h_ldB h a i = some x) (k : V p l e R s m args below meth c nL D tc B n A H0 cells slots Q h q lv (.int x :: st)) : V p l e R s m args below meth c nL D tc B n A H0 cells slots Q h pc lv (.int i :: .ref a :: st) := by
  subst hq
  unfold h_ldB at he
  split at he
  · rename_i hc
    cases he
    exact fun H locs ls hn hP hS hl => va_bald (a := B + a) (f := h.2.1 a) X.1 X.2.1 X.2.2.2.2.2.1 hP a 2 (by rw [WL_get (hn.1 a (by omega)), cE_12 hc.1]) rfl hc.2 hd (k H locs ls hn hP hS hl)
  · cases he
theorem V_laload {a : Nat} {i : Int32} {x : Int64} (X : CX p R s m args c cc nL own D tc d) (hd : decode cc pc = .ok (.laload, 1)) (hq : pc + 1 = q) (he : h_ldL h a i = some x) (k : V p l e R s m args below meth c nL D tc B n A H0 cells slots Q h q lv (.long x :: st)) : V p l e R s m args below meth c nL D tc B n A H0 cells slots Q h pc lv (.int i :: .ref a :: st) := by
  subst hq
  unfold h_ldL at he
  split at he
  · rename_i hc
    cases he
    exact fun H locs ls hn hP hS hl => va_lald (a := B + a) (f := h.2.2.1 a) X.1 X.2.1 X.2.2.2.2.2.1 hP a 3 (by rw [WL_get (hn.1 a (by omega)), cE_13 hc.1]) rfl hc.2 hd (k H locs ls hn hP hS hl)
  · cases he
theorem V_aaload {a : Nat} {i : Int32} {x : Nat} (X : CX p R s m args c cc nL own D tc d) (hd : decode cc pc = .ok (.aaload, 1)) (hq : pc + 1 = q) (he : h_ldR h a i = some x) (k : V p l e R s m args below meth c nL D tc B n A H0 cells slots Q h q lv (.ref x :: st)) : V p l e R s m args below meth c nL D tc B n A H0 cells slots Q h pc lv (.int i :: .ref a :: st) := by
  subst hq
  unfold h_ldR at he
  split at he
  · rename_i hc
    refine fun H locs ls hn hP hS hl => va_aldq (a := B + a) (f := fun k => (h.2.2.2 a k).map (B + ·)) X.1 X.2.1 X.2.2.2.2.2.1 hP a 4 (by rw [WL_get (hn.1 a (by omega)), cE_14 hc.1]) rfl hc.2 hd ?_
    have h1 := k H locs ls hn hP hS hl
    simp only [he, Option.map_some, va_rf]
    exact h1
  · cases he
theorem V_iastore {a : Nat} {i x : Int32} {h' : Hp} (X : CX p R s m args c cc nL own D tc d) (hd : decode cc pc = .ok (.iastore, 1)) (hq : pc + 1 = q) (he : h_stI h a i x = some h') (k : V p l e R s m args below meth c nL D tc B n A H0 cells slots Q h' q lv st) : V p l e R s m args below meth c nL D tc B n A H0 cells slots Q h pc lv (.int x :: .int i :: .ref a :: st) := by
  subst hq
  unfold h_stI at he
  split at he
  · rename_i hc
    cases he
    refine fun H locs ls hn hP hS hl => va_iast (a := B + a) (f := h.2.1 a) X.1 X.2.1 X.2.2.2.2.2.1 hP (WL_D hn.2.1) hS a 0 (by rw [WL_get (hn.1 a (by omega)), cE_10 hc.1]) rfl hc.2 hd (fun H1 locs1 hP1 _ hS1 => k H1 locs1 ls hn ?_ hS1 hl)
    rw [WL_set (h' := h_sI h a i.toNatClampNeg x) ?_ (fun j hj => cE_sI hj)] at hP1
    · exact hP1
    · rw [cE_10 (h := h_sI h a i.toNatClampNeg x) hc.1]
      simp [h_sI, u2]
      rfl
  · cases he
theorem V_bastoreZ {a : Nat} {i x : Int32} {h' : Hp} (X : CX p R s m args c cc nL own D tc d) (hd : decode cc pc = .ok (.bastore, 1)) (hq : pc + 1 = q) (he : h_stZ h a i x = some h') (k : V p l e R s m args below meth c nL D tc B n A H0 cells slots Q h' q lv st) : V p l e R s m args below meth c nL D tc B n A H0 cells slots Q h pc lv (.int x :: .int i :: .ref a :: st) := by
  subst hq
  unfold h_stZ at he
  split at he
  · rename_i hcx
    obtain ⟨hc, hx⟩ := hcx
    cases he
    refine fun H locs ls hn hP hS hl => va_zast (a := B + a) (f := h.2.1 a) X.1 X.2.1 X.2.2.2.2.2.1 hP (WL_D hn.2.1) hS a 1 (by rw [WL_get (hn.1 a (by omega)), cE_11 hc.1]) rfl hc.2 hd (fun H1 locs1 hP1 _ hS1 => k H1 locs1 ls hn ?_ hS1 hl)
    have hnx : vp_nar .boolean x = x := by rcases hx with rfl | rfl <;> rfl
    rw [hnx, WL_set (h' := h_sI h a i.toNatClampNeg x) ?_ (fun j hj => cE_sI hj)] at hP1
    · exact hP1
    · rw [cE_11 (h := h_sI h a i.toNatClampNeg x) hc.1]
      simp [h_sI, u2]
      rfl
  · cases he
theorem V_bastoreB {a : Nat} {i x : Int32} {h' : Hp} (X : CX p R s m args c cc nL own D tc d) (hd : decode cc pc = .ok (.bastore, 1)) (hq : pc + 1 = q) (he : h_stB h a i x = some h') (k : V p l e R s m args below meth c nL D tc B n A H0 cells slots Q h' q lv st) : V p l e R s m args below meth c nL D tc B n A H0 cells slots Q h pc lv (.int x :: .int i :: .ref a :: st) := by
  subst hq
  unfold h_stB at he
  split at he
  · rename_i hc
    cases he
    refine fun H locs ls hn hP hS hl => va_bast (a := B + a) (f := h.2.1 a) X.1 X.2.1 X.2.2.2.2.2.1 hP (WL_D hn.2.1) hS a 2 (by rw [WL_get (hn.1 a (by omega)), cE_12 hc.1]) rfl hc.2 hd (fun H1 locs1 hP1 _ hS1 => k H1 locs1 ls hn ?_ hS1 hl)
    rw [vp_nar_byte, WL_set (h' := h_sI h a i.toNatClampNeg x.toInt8.toInt32) ?_ (fun j hj => cE_sI hj)] at hP1
    · exact hP1
    · rw [cE_12 (h := h_sI h a i.toNatClampNeg x.toInt8.toInt32) hc.1]
      simp [h_sI, u2]
      rfl
  · cases he
theorem V_lastore {a : Nat} {i : Int32} {x : Int64} {h' : Hp} (X : CX p R s m args c cc nL own D tc d) (hd : decode cc pc = .ok (.lastore, 1)) (hq : pc + 1 = q) (he : h_stL h a i x = some h') (k : V p l e R s m args below meth c nL D tc B n A H0 cells slots Q h' q lv st) : V p l e R s m args below meth c nL D tc B n A H0 cells slots Q h pc lv (.long x :: .int i :: .ref a :: st) := by
  subst hq
  unfold h_stL at he
  split at he
  · rename_i hc
    cases he
    refine fun H locs ls hn hP hS hl => va_last (a := B + a) (f := h.2.2.1 a) X.1 X.2.1 X.2.2.2.2.2.1 hP (WL_D hn.2.1) hS a 3 (by rw [WL_get (hn.1 a (by omega)), cE_13 hc.1]) rfl hc.2 hd (fun H1 locs1 hP1 _ hS1 => k H1 locs1 ls hn ?_ hS1 hl)
    rw [WL_set (h' := h_sL h a i.toNatClampNeg x) ?_ (fun j hj => cE_sL hj)] at hP1
    · exact hP1
    · rw [cE_13 (h := h_sL h a i.toNatClampNeg x) hc.1]
      simp [h_sL, u2]
      rfl
  · cases he
theorem V_alen {a t : Nat} {x : Int32} (X : CX p R s m args c cc nL own D tc d) (hd : decode cc pc = .ok (.arraylength, 1)) (hq : pc + 1 = q) (ht : t = 10 ∨ t = 13) (he : h_len t h a = some x) (k : V p l e R s m args below meth c nL D tc B n A H0 cells slots Q h q lv (.int x :: st)) : V p l e R s m args below meth c nL D tc B n A H0 cells slots Q h pc lv (.ref a :: st) := by
  subst hq
  unfold h_len at he
  split at he
  · rename_i hc
    cases he
    rcases ht with rfl | rfl
    · exact fun H locs ls hn hP hS hl => va_alen (a := B + a) (x := ((h.1 a).2, .inl (h.2.1 a))) X.1 X.2.1 X.2.2.2.2.2.1 hP a 0 (by rw [WL_get (hn.1 a (by omega)), cE_10 hc]) rfl rfl hd (k H locs ls hn hP hS hl)
    · exact fun H locs ls hn hP hS hl => va_alen (a := B + a) (x := ((h.1 a).2, .inr (.inl (h.2.2.1 a)))) X.1 X.2.1 X.2.2.2.2.2.1 hP a 3 (by rw [WL_get (hn.1 a (by omega)), cE_13 hc]) rfl rfl hd (k H locs ls hn hP hS hl)
  · cases he
theorem V_arraycopy {a b : Nat} {i j z : Int32} {h' : Hp} {idx : Nat} (X : CX p R s m args c cc nL own D tc d) (hd : decode cc pc = .ok (.invokestatic idx, 3)) (hq : pc + 3 = q) (hw1 : Cond.methodLink own idx arraycopyName ∈ GT) (hw2 : Cond.native arraycopyName ∈ GT) (hw3 : Cond.static arraycopyName ∈ GT) (hw4 : Cond.initialized "java/lang/System" ∈ GT) (hst : (st.map fun v => v.category).sum ≤ 8) (hdd : 1 ≤ d) (he : h_cpI h a i b j z = some h') (k : V p l e R s m args below meth c nL D tc B n A H0 cells slots Q h' q lv st) : V p l e R s m args below meth c nL D tc B n A H0 cells slots Q h pc lv (.int z :: .int j :: .ref b :: .int i :: .ref a :: st) := by
  subst hq
  unfold h_cpI at he
  split at he
  · rename_i hc
    obtain ⟨⟨ha, hb⟩, ⟨h1, h2, h3⟩, h4, h5⟩ := hc
    cases he
    have hcat : ((st.map (trv B)).map fun v => v.category) = st.map fun v => v.category := by
      rw [List.map_map]; exact List.map_congr_left (fun v _ => trv_cat B v)
    have hfr : 1 ≤ R.frames := by rw [X.2.2.2.2.2.2.1]; exact hdd
    have hlo : ((st.map (trv B)).map fun v => v.category).sum + (nativeFrameWords "java/lang/System" "arraycopy" 5 + 11) ≤ R.locals := by
      have h9 : nativeFrameWords "java/lang/System" "arraycopy" 5 ≤ 40 := by decide +kernel
      rw [X.2.2.2.2.2.2.2, hcat]
      omega
    refine fun H locs ls hn hP hS hl => va_copyi (a0 := B + a) (a := B + b) (f := h.2.1 a) (g := h.2.1 b) (ty := .int) X.1 X.2.1 (X.2.2.1.trans hl.1.symm) X.2.2.2.1 (X.2.2.2.2.1 _ hw1) (X.2.2.2.2.1 _ hw2) (X.2.2.2.2.1 _ hw3) (X.2.2.2.2.1 _ hw4) X.2.2.2.2.2.1 hP (WL_D hn.2.1) hS a b 0 0 (by rw [WL_get (hn.1 a (by omega)), cE_10 ha]) (by rw [WL_get (hn.1 b (by omega)), cE_10 hb]) rfl rfl rfl h1 h2 h3 h4 h5 (fun _ _ => rfl) hfr hlo hd (fun H1 locs1 hP1 _ hS1 => k H1 locs1 ls hn ?_ hS1 hl)
    rw [WL_set (h' := (h.1, (fun c => if c = b then va_cpy (h.2.1 a) (h.2.1 b) i.toNatClampNeg j.toNatClampNeg z.toNatClampNeg else h.2.1 c), h.2.2.1, h.2.2.2)) ?_ (fun t ht => ?_)] at hP1
    · exact hP1
    · unfold cE
      rw [if_pos hb]
      simp
    · exact cE_ext rfl (by simp [ht]) rfl rfl
  · cases he
end RowsV
def QC (D : va_G) (tc : Nat → ClassId) (B n : Nat) (A : Nat → Prop) (r : Option Value) (h' : Hp) : Array Value → State → Outcome → State → Prop := fun _ st o t =>
  o = .returned (r.map (trv B)) ∧ va_P D vwCl (WL tc B n h') t.heap ∧ (∀ i, (h'.1 i).1 < 20 → i < n) ∧ va_F A st t
def PC (D : va_G) (tc : Nat → ClassId) (B n : Nat) (av : List Value) (h : Hp) : Array Value → State → Prop := fun a U =>
  a = (av.map (trv B)).toArray ∧ va_P D vwCl (WL tc B n h) U.heap ∧ (∀ i, (h.1 i).1 < 20 → i < n) ∧ va_K D vwCl (TY tc) U
def CK (y : MethodName) (cc : ByteArray) (maxL : Nat) (ret : Option FieldType) (d : Nat) (av : List Value) (h : Hp) (r : Option Value) (h' : Hp) : Prop :=
  ∀ (l : Launch) (D : va_G) (tc : Nat → ClassId) (B n : Nat), Met l y (.code y cc maxL ret :: GT) (rmD d) (PC D tc B n av h) (QC D tc B n (Ar B n) r h') 0 0 (Ar B n)
theorem PC_blind {D : va_G} {tc : Nat → ClassId} {B n : Nat} {av : List Value} {h : Hp} : FrameBlind (PC D tc B n av h) := by
  intro a U g mk q
  exact ⟨q.1, q.2.1, q.2.2.1, va_K.moved (u := U) (U := U.calling g mk a) (Vm.Alike.refl U.vm) q.2.2.2⟩
theorem args_tr (B : Nat) : ∀ (av : List Value) (i : Nat), lv_args i (av.map (trv B)) = trl B (lv_args i av)
  | [], i => rfl
  | v :: av, i => by
    simp only [List.map_cons, lv_args, trl, List.map_cons]
    rw [trv_cat, args_tr B av]
    rfl
theorem sl_tr (B : Nat) (av : List Value) : (lg_sl (av.map (trv B))).length = (lg_sl av).length := by
  induction av with
  | nil => rfl
  | cons v av ih =>
    have e : ∀ (w : Value) (ws : List Value), (lg_sl (w :: ws)).length = (if w.category = 2 then 2 else 1) + (lg_sl ws).length := by
      intro w ws
      simp only [lg_sl, List.flatMap_cons, List.length_append]
      split <;> rfl
    rw [List.map_cons, e, e, ih, trv_cat]
theorem CK_of {y : MethodName} {cc : ByteArray} {maxL : Nat} {ret : Option FieldType} {d : Nat} {av : List Value} {h : Hp} {r : Option Value} {h' : Hp} (hy : plainName y.cls = true) (hm : Cond.code y cc maxL ret ∈ GT) (hlen : (lg_sl av).length ≤ maxL)
    (body : ∀ (l : Launch) (D : va_G) (tc : Nat → ClassId) (B n : Nat) (p : Program) (e : Env) (s : State) (m : MethodId) (args : Array Value) (below : List Frame) (meth : Method) (c : Code), CX p (rmD d) s m args c cc maxL y.cls D tc d → meth.sig.returnType = ret → meth.locks = false →
      V p l e (rmD d) s m args below meth c maxL D tc B n (Ar B n) s.heap 0 0 (MQ below (QC D tc B n (Ar B n) r h') args s 0 0 (Ar B n)) h 0 (lv_args 0 av) []) : CK y cc maxL ret d av h r h' := by
  intro l D tc B n
  refine Met.ofW (cc := cc) (maxL := maxL) (ret := ret) hy rfl ?_
  intro p e s m args below meth c s₁ Bd hml hv
  obtain ⟨rfl, hP, hn, hK⟩ := hv
  have hts := atoms_spec (ws := Cond.code y cc maxL ret :: GT) Bd.pre
  have hown : s.vm.findClass y.cls = some m.cls := findClass_of_methodNamed Bd.named
  have hl := lv_entry (av.map (trv B)) (n := maxL) (by rw [sl_tr]; exact hlen)
  rw [lg_entry_eq]
  generalize (lg_sl (av.map (trv B)) ++ List.replicate (maxL - (lg_sl (av.map (trv B))).length) Slot.unset).toArray = ls at hl ⊢
  rw [args_tr] at hl
  exact body l D tc B n p e s m (av.map (trv B)).toArray below meth c ⟨Bd.exec, Bd.bytes, hml, hown, fun w hw => hts w (List.mem_cons_of_mem _ hw), hK, rfl, rfl⟩ Bd.returns Bd.notSynchronized s.heap [] ls ⟨hn, fun i hi => ⟨by omega, by omega⟩, Nat.le_refl _, Nat.le_refl _⟩ hP va_S.rf hl
section RowsC
variable {p : Program} {l : Launch} {e : Env} {R : Room} {s : State} {m : MethodId} {args : Array Value} {below : List Frame} {meth : Method} {c : Code} {cc : ByteArray} {nL : Nat} {own : String} {D : va_G} {tc : Nat → ClassId} {d B n cells slots : Nat} {A : Nat → Prop} {H0 : Heap} {Q : State → Prop} {h : Hp} {pc q : Nat} {lv : List (Nat × Value)} {st : List Value}
theorem V_iret {x : Int32} (X : CX p R s m args c cc nL own D tc d) (hr : meth.sig.returnType = some .int) (hlocks : meth.locks = false) (hd : decode cc pc = .ok (.ireturn, 1)) : V p l e R s m args below meth c nL D tc B n A s.heap cells slots (MQ below (QC D tc B n A (some (.int x)) h) args s cells slots A) h pc lv [.int x] :=
  fun H locs ls hn hP hS hl => W.iret (v := x) X.1 X.2.1 hr (fun t ht hW => ⟨rfl, by rw [ht]; exact hP, hn.1, hS.F ht⟩) hS.2.2 hd
theorem V_zret {x : Int32} (X : CX p R s m args c cc nL own D tc d) (hr : meth.sig.returnType = some .boolean) (hlocks : meth.locks = false) (hx : x = 0 ∨ x = 1) (hd : decode cc pc = .ok (.ireturn, 1)) : V p l e R s m args below meth c nL D tc B n A s.heap cells slots (MQ below (QC D tc B n A (some (.int x)) h) args s cells slots A) h pc lv [.int x] :=
  fun H locs ls hn hP hS hl => W.zret (v := x) (ty := .boolean) X.1 X.2.1 hr (by rcases hx with rfl | rfl <;> rfl) (fun t ht hW => ⟨rfl, by rw [ht]; exact hP, hn.1, hS.F ht⟩) hS.2.2 hd
theorem V_zretH {x z : Int32} (X : CX p R s m args c cc nL own D tc d) (hr : meth.sig.returnType = some .boolean) (hlocks : meth.locks = false) (hx : h_z x = some z) (hd : decode cc pc = .ok (.ireturn, 1)) : V p l e R s m args below meth c nL D tc B n A s.heap cells slots (MQ below (QC D tc B n A (some (.int z)) h) args s cells slots A) h pc lv [.int x] := by
  obtain ⟨h1, h2⟩ := h_z_inv hx
  subst h2
  exact V_zret X hr hlocks h1 hd
theorem V_lret {x : Int64} (X : CX p R s m args c cc nL own D tc d) (hr : meth.sig.returnType = some .long) (hlocks : meth.locks = false) (hd : decode cc pc = .ok (.lreturn, 1)) : V p l e R s m args below meth c nL D tc B n A s.heap cells slots (MQ below (QC D tc B n A (some (.long x)) h) args s cells slots A) h pc lv [.long x] :=
  fun H locs ls hn hP hS hl => W.lret (v := x) X.1 X.2.1 hr (fun t ht hW => ⟨rfl, by rw [ht]; exact hP, hn.1, hS.F ht⟩) hS.2.2 hd
theorem V_aret {x : Nat} {C : String} (X : CX p R s m args c cc nL own D tc d) (hr : meth.sig.returnType = some (.object C)) (hlocks : meth.locks = false) (hd : decode cc pc = .ok (.areturn, 1)) : V p l e R s m args below meth c nL D tc B n A s.heap cells slots (MQ below (QC D tc B n A (some (.ref x)) h) args s cells slots A) h pc lv [.ref x] :=
  fun H locs ls hn hP hS hl => W.aret (v := .ref (B + x)) X.1 X.2.1 hr (Or.inl ⟨C, rfl⟩) (Or.inr ⟨_, rfl⟩) (fun t ht hW => ⟨rfl, by rw [ht]; exact hP, hn.1, hS.F ht⟩) hS.2.2 hd
theorem V_vret (X : CX p R s m args c cc nL own D tc d) (hr : meth.sig.returnType = none) (hlocks : meth.locks = false) (hd : decode cc pc = .ok (.return_, 1)) : V p l e R s m args below meth c nL D tc B n A s.heap cells slots (MQ below (QC D tc B n A none h) args s cells slots A) h pc lv [] :=
  fun H locs ls hn hP hS hl => W.vret X.1 X.2.1 hr (fun t ht hW => ⟨rfl, by rw [ht]; exact hP, hn.1, hS.F ht⟩) hS.2.2 hd
/-- a virtual call's rows of the tables -/
def CV (own : String) (idx : Nat) (y : MethodName) (bytes : ByteArray) (maxL : Nat) (ret : Option FieldType) (na ci : Nat) : Prop :=
  Cond.methodLink own idx y ∈ GT ∧ Cond.instanceMethod y ∈ GT ∧ Cond.selects y.cls y y ∈ GT ∧ Cond.initialized y.cls ∈ GT ∧ Cond.code y bytes maxL ret ∈ GT ∧ (y.cls ≠ "java/lang/invoke/MethodHandle" ∧ y.cls ≠ "java/lang/invoke/VarHandle" ∧ (parseMethodDescriptor y.desc).map (fun d => d.parameters.length) = some na) ∧ maxL ≤ 45 ∧ ci < 10 ∧ ∃ (T : u_T) (N : Nat), vwCl[ci]? = some (y.cls, T, N)
def CS (own : String) (idx : Nat) (y : MethodName) (bytes : ByteArray) (maxL : Nat) (ret : Option FieldType) (na : Nat) : Prop :=
  Cond.methodLink own idx y ∈ GT ∧ Cond.static y ∈ GT ∧ Cond.initialized y.cls ∈ GT ∧ Cond.code y bytes maxL ret ∈ GT ∧ (y.cls ≠ "java/lang/invoke/MethodHandle" ∧ y.cls ≠ "java/lang/invoke/VarHandle" ∧ (parseMethodDescriptor y.desc).map (fun d => d.parameters.length) = some na) ∧ maxL ≤ 45
/-- behind a call -/
theorem V_after {y : MethodName} {r : Option Value} {h' : Hp} {g : JFrame} {ls : Array Slot} {H : Heap} {locs : List Loc} {a : Array Value} {rest : List Value} (hg : g = F0 m pc ls st) (hA : ∀ i, i < n → A (B + i))
    (hrun : va_Run p l e R s m args below meth c H locs cells slots 0 0 g rest (QC D tc B n (Ar B n) r h' a) (Ar B n)) (hS : va_S A H0 H locs)
    (k : ∀ (H1 : Heap) (locs1 : List Loc), (∀ i, (h'.1 i).1 < 20 → i < n) → va_P D vwCl (WL tc B n h') H1 → va_S A H0 H1 locs1 → W p l e R s m args below meth c H1 locs1 cells slots Q (F0 m (pc + 3) ls ((r.map (trv B)).toList ++ rest))) : W p l e R s m args below meth c H locs cells slots Q g := by
  subst hg
  have hAr : ∀ q, Ar B n q → A q := fun q hq => by
    have := hA (q - B) (by have := hq.1; have := hq.2; omega)
    rwa [show B + (q - B) = q by have := hq.1; omega] at this
  intro T hT X
  obtain ⟨v, st₀, t, T', L, h0, X', hL, e1, e2, ⟨hv, hP, hn, hz, hk⟩, stp⟩ := hrun T hT X
  cases hv
  rw [h0] at hz hk
  obtain ⟨t2, a1, b1⟩ := k T'.heap (locs ++ L) hn (by rw [e1]; exact hP)
    ⟨Nat.le_trans hS.1 (by rw [e1]; exact hz), fun q h1 h2 => by rw [e1, hk q (Nat.lt_of_lt_of_le h1 hS.1) (fun z => h2 (hAr q z))]; exact hS.2.1 q h1 h2, fun q hq => by
      rcases List.mem_append.mp hq with h | h
      · exact hS.2.2 q h
      · exact hAr _ (hL q h)⟩ T' rfl X'
  exact ⟨t2, stp t2 a1, b1⟩
theorem cat_tr (B : Nat) (st : List Value) : ((st.map (trv B)).map fun v => v.category) = st.map fun v => v.category := by
  rw [List.map_map]; exact List.map_congr_left (fun v _ => trv_cat B v)
theorem V_callV {y : MethodName} {bytes : ByteArray} {maxL : Nat} {ret : Option FieldType} {na ci idx d' o : Nat} {r : Option Value} {h' : Hp} {As rest st' : List Value} (X : CX p R s m args c cc nL own D tc d) (hd : decode cc pc = .ok (.invokevirtual idx, 3)) (hq : pc + 3 = q) (hv : CV own idx y bytes maxL ret na ci) (hM : CK y bytes maxL ret d' (.ref o :: As) h r h') (hc : (h.1 o).1 = ci) (hdd : d' + 1 ≤ d) (hna : As.length = na) (hst : st = As.reverse ++ .ref o :: rest) (hrm : (rest.map fun v => v.category).sum ≤ 8) (hst' : r.toList ++ rest = st')
    (k : V p l e R s m args below meth c nL D tc B n A H0 cells slots Q h' q lv st') : V p l e R s m args below meth c nL D tc B n A H0 cells slots Q h pc lv st := by
  subst hq; subst hst; subst hst'
  obtain ⟨v1, v2, v3, v4, v5, v6, v7, v8, T, N, v9⟩ := hv
  obtain ⟨hx, hb, hml, hown, hts, hK, hR1, hR2⟩ := id X
  intro H locs ls hn hP hS hl
  have hsel : PreV s H y.cls (B + o) (PC D tc B n (.ref o :: As) h) (As.map (trv B)) := ⟨PC_blind, va_recv hK hP v9 (q0 := o) (by rw [WL_get (hn.1 o (by omega)), cE_obj hc v8]), fun U hU hW => ⟨rfl, by rw [hU]; exact hP, hn.1, va_K.moved hW.alike hK⟩⟩
  have cw : CallW R s args own y.cls idx y bytes maxL ret (.code y bytes maxL ret :: GT) (rmD d') 0 0 na := ⟨callB_of na hts (gt_good v5) rfl rfl rfl (hts _ v4) (hts _ v1) v6 ⟨by rw [hR1]; exact hdd, by rw [hR2]; show 8 + (maxL + 11) + 64 * d' ≤ 64 * d; omega⟩, hts _ v2, hts _ v3⟩
  refine V_after (y := y) (r := r) (h' := h') (st := (As.reverse ++ .ref o :: rest).map (trv B)) rfl hn.2.1 (va_runV (As := As.map (trv B)) (rest := rest.map (trv B)) (g := F0 m pc ls ((As.reverse ++ .ref o :: rest).map (trv B))) ⟨hx, hb, hml, hown, hts⟩ (hM l D tc B n) cw hsel rfl (by rw [List.length_map]; exact hna) hl.1 (by simp [trv]) (lv_room (by rw [cat_tr]; exact hrm)) hd hn.2.2) hS ?_
  intro H1 locs1 hn1 hP1 hS1
  have := k H1 locs1 ls ⟨hn1, hn.2⟩ hP1 hS1 hl
  cases r <;> exact this
theorem V_callS {y : MethodName} {bytes : ByteArray} {maxL : Nat} {ret : Option FieldType} {na idx d' : Nat} {r : Option Value} {h' : Hp} {As rest st' : List Value} (X : CX p R s m args c cc nL own D tc d) (hd : decode cc pc = .ok (.invokestatic idx, 3)) (hq : pc + 3 = q) (hv : CS own idx y bytes maxL ret na) (hM : CK y bytes maxL ret d' As h r h') (hdd : d' + 1 ≤ d) (hna : As.length = na) (hst : st = As.reverse ++ rest) (hrm : (rest.map fun v => v.category).sum ≤ 8) (hst' : r.toList ++ rest = st')
    (k : V p l e R s m args below meth c nL D tc B n A H0 cells slots Q h' q lv st') : V p l e R s m args below meth c nL D tc B n A H0 cells slots Q h pc lv st := by
  subst hq; subst hst; subst hst'
  obtain ⟨v1, v2, v4, v5, v6, v7⟩ := hv
  obtain ⟨hx, hb, hml, hown, hts, hK, hR1, hR2⟩ := id X
  intro H locs ls hn hP hS hl
  have hsel : PreS s H (PC D tc B n As h) (As.map (trv B)) := ⟨PC_blind, fun U hU hW => ⟨rfl, by rw [hU]; exact hP, hn.1, va_K.moved hW.alike hK⟩⟩
  have cw : CallB R s args own idx y bytes maxL ret (.code y bytes maxL ret :: GT) (rmD d') 0 0 na ∧ (Cond.static y).before args s = true := ⟨callB_of na hts (gt_good v5) rfl rfl rfl (hts _ v4) (hts _ v1) v6 ⟨by rw [hR1]; exact hdd, by rw [hR2]; show 8 + (maxL + 11) + 64 * d' ≤ 64 * d; omega⟩, hts _ v2⟩
  refine V_after (y := y) (r := r) (h' := h') (st := (As.reverse ++ rest).map (trv B)) rfl hn.2.1 (va_runS (As := As.map (trv B)) (rest := rest.map (trv B)) (g := F0 m pc ls ((As.reverse ++ rest).map (trv B))) ⟨hx, hb, hml, hown, hts⟩ (hM l D tc B n) cw hsel rfl (by rw [List.length_map]; exact hna) hl.1 (by simp) (lv_room (by rw [cat_tr]; exact hrm)) hd hn.2.2) hS ?_
  intro H1 locs1 hn1 hP1 hS1
  have := k H1 locs1 ls ⟨hn1, hn.2⟩ hP1 hS1 hl
  cases r <;> exact this
theorem V_tabIn {dflt lo hi : Int} {offs : Array Int} {len : Nat} {x : Int32} {off : Int} (X : CX p R s m args c cc nL own D tc d) (hd : decode cc pc = .ok (.tableswitch dflt lo hi offs, len)) (h1 : ¬ x.toInt < lo) (h2 : ¬ hi < x.toInt) (ho : offs[(x.toInt - lo).toNat]? = some off) (ht : (pc : Int) + off = (q : Int))
    (k : V p l e R s m args below meth c nL D tc B n A H0 cells slots Q h q lv st) : V p l e R s m args below meth c nL D tc B n A H0 cells slots Q h pc lv (.int x :: st) :=
  fun H locs ls hn hP hS hl => lv_tableIn X.1 X.2.1 hd h1 h2 ho ht (k H locs ls hn hP hS hl)
theorem V_tabOut {dflt lo hi : Int} {offs : Array Int} {len : Nat} {x : Int32} (X : CX p R s m args c cc nL own D tc d) (hd : decode cc pc = .ok (.tableswitch dflt lo hi offs, len)) (h1 : x.toInt < lo ∨ hi < x.toInt) (ht : (pc : Int) + dflt = (q : Int))
    (k : V p l e R s m args below meth c nL D tc B n A H0 cells slots Q h q lv st) : V p l e R s m args below meth c nL D tc B n A H0 cells slots Q h pc lv (.int x :: st) :=
  fun H locs ls hn hP hS hl => lv_tableOut X.1 X.2.1 hd h1 ht (k H locs ls hn hP hS hl)
theorem V_lookup {dflt : Int} {ps : Array (Int × Int)} {len : Nat} {x : Int32} {off : Int} (X : CX p R s m args c cc nL own D tc d) (hd : decode cc pc = .ok (.lookupswitch dflt ps, len)) (hp : (ps.toList.zip (ps.toList.drop 1)).all (fun (a, next) => a.1 < next.1) = true) (ho : Op.lookupswitch.offset ps.toList dflt x.toInt = off) (ht : (pc : Int) + off = (q : Int))
    (k : V p l e R s m args below meth c nL D tc B n A H0 cells slots Q h q lv st) : V p l e R s m args below meth c nL D tc B n A H0 cells slots Q h pc lv (.int x :: st) :=
  fun H locs ls hn hP hS hl => lv_lookup X.1 X.2.1 hd hp ho ht (k H locs ls hn hP hS hl)
theorem V_ldc {idx : Nat} {v : Int32} (X : CX p R s m args c cc nL own D tc d) (hd : decode cc pc = .ok (.ldc idx, 2)) (hq : pc + 2 = q) (hw : Cond.constant own idx v ∈ GT) (k : V p l e R s m args below meth c nL D tc B n A H0 cells slots Q h q lv (.int v :: st)) : V p l e R s m args below meth c nL D tc B n A H0 cells slots Q h pc lv st := by
  subst hq
  exact fun H locs ls hn hP hS hl => lv_ldc X.1 X.2.1 X.2.2.2.1 (X.2.2.2.2.1 _ hw) hd (k H locs ls hn hP hS hl)
theorem V_ldcw {idx : Nat} {v : Int32} (X : CX p R s m args c cc nL own D tc d) (hd : decode cc pc = .ok (.ldc_w idx, 3)) (hq : pc + 3 = q) (hw : Cond.constant own idx v ∈ GT) (k : V p l e R s m args below meth c nL D tc B n A H0 cells slots Q h q lv (.int v :: st)) : V p l e R s m args below meth c nL D tc B n A H0 cells slots Q h pc lv st := by
  subst hq
  exact fun H locs ls hn hP hS hl => lv_ldcw X.1 X.2.1 X.2.2.2.1 (X.2.2.2.2.1 _ hw) hd (k H locs ls hn hP hS hl)
theorem V_ldc2 {idx : Nat} {v : Int64} (X : CX p R s m args c cc nL own D tc d) (hd : decode cc pc = .ok (.ldc2_w idx, 3)) (hq : pc + 3 = q) (hw : Cond.constantLong own idx v ∈ GT) (k : V p l e R s m args below meth c nL D tc B n A H0 cells slots Q h q lv (.long v :: st)) : V p l e R s m args below meth c nL D tc B n A H0 cells slots Q h pc lv st := by
  subst hq
  exact fun H locs ls hn hP hS hl => lv_ldc2 X.1 X.2.1 X.2.2.2.1 (X.2.2.2.2.1 _ hw) hd (k H locs ls hn hP hS hl)
theorem V_mmax {x y : Int32} {idx : Nat} (X : CX p R s m args c cc nL own D tc d) (hd : decode cc pc = .ok (.invokestatic idx, 3)) (hq : pc + 3 = q) (h1 : Cond.methodLink own idx Lib.Math.max.name ∈ GT) (h2 : Cond.static Lib.Math.max.name ∈ GT) (h3 : Cond.initialized "java/lang/Math" ∈ GT) (h4 : Cond.code Lib.Math.max.name Lib.Math.max.code 2 (some .int) ∈ GT) (hst : (st.map fun v => v.category).sum ≤ 8) (hdd : 1 ≤ d) (k : V p l e R s m args below meth c nL D tc B n A H0 cells slots Q h q lv (.int (jmax x y) :: st)) : V p l e R s m args below meth c nL D tc B n A H0 cells slots Q h pc lv (.int y :: .int x :: st) := by
  subst hq
  have hfr : 1 ≤ R.frames := by rw [X.2.2.2.2.2.2.1]; exact hdd
  have hlo : ((st.map (trv B)).map fun v => v.category).sum + 13 ≤ R.locals := by
    rw [X.2.2.2.2.2.2.2, cat_tr]
    omega
  exact fun H locs ls hn hP hS hl => va_mmax X.1 X.2.1 (X.2.2.1.trans hl.1.symm) X.2.2.2.1 (X.2.2.2.2.1 _ h1) (X.2.2.2.2.1 _ h2) (X.2.2.2.2.1 _ h3) (X.2.2.2.2.1 _ h4) hfr hlo hn.2.2.1 hn.2.2.2 hd (k H locs ls hn hP hS hl)
theorem V_mmin {x y : Int32} {idx : Nat} (X : CX p R s m args c cc nL own D tc d) (hd : decode cc pc = .ok (.invokestatic idx, 3)) (hq : pc + 3 = q) (h1 : Cond.methodLink own idx Lib.Math.min.name ∈ GT) (h2 : Cond.static Lib.Math.min.name ∈ GT) (h3 : Cond.initialized "java/lang/Math" ∈ GT) (h4 : Cond.code Lib.Math.min.name Lib.Math.min.code 2 (some .int) ∈ GT) (hst : (st.map fun v => v.category).sum ≤ 8) (hdd : 1 ≤ d) (k : V p l e R s m args below meth c nL D tc B n A H0 cells slots Q h q lv (.int (jmin x y) :: st)) : V p l e R s m args below meth c nL D tc B n A H0 cells slots Q h pc lv (.int y :: .int x :: st) := by
  subst hq
  have hfr : 1 ≤ R.frames := by rw [X.2.2.2.2.2.2.1]; exact hdd
  have hlo : ((st.map (trv B)).map fun v => v.category).sum + 13 ≤ R.locals := by
    rw [X.2.2.2.2.2.2.2, cat_tr]
    omega
  exact fun H locs ls hn hP hS hl => va_mmin X.1 X.2.1 (X.2.2.1.trans hl.1.symm) X.2.2.2.1 (X.2.2.2.2.1 _ h1) (X.2.2.2.2.1 _ h2) (X.2.2.2.2.1 _ h3) (X.2.2.2.2.1 _ h4) hfr hlo hn.2.2.1 hn.2.2.2 hd (k H locs ls hn hP hS hl)
end RowsC
