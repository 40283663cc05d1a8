/-! LOAD: call, test, look: the reference's line cut into pieces -/
def mEnd (fu : Nat) (x3 v9 x16 v20 v24 : Int32) (h25 : Hp) : Option (Int32 × Hp) :=
  (h_fR 9 h25 0 2).bind fun x27 => (MX9_cell 39 x3 v9 x16).bind fun x28 => (h_stI h25 x27 x28 v20).bind fun h29 => (h_fR 9 h29 0 2).bind fun x30 => (MX9_cell 183 x3 v9 x16).bind fun x31 => (h_stI h29 x30 x31 v24).bind fun h32 => (MX9_eats fu 0 59 h32).bind fun p33 => (h_z p33.1).bind fun z34 => some (z34, p33.2)
def m23 (fu : Nat) (a1 x3 v9 x16 v20 v21 : Int32) (h22 : Hp) : Option (Int32 × Hp) :=
  if a1 = (1 : Int32) then (MX9_readState fu 0 x3 h22).bind fun p35 => if p35.1 = 0 then some ((0 : Int32), p35.2) else (h_fI 9 p35.2 0 16).bind fun x36 => mEnd fu x3 v9 x16 v20 x36 p35.2
  else mEnd fu x3 v9 x16 v20 v21 h22
def mTail (fu : Nat) (a1 x3 v9 : Int32) (h10 : Hp) : Option (Int32 × Hp) :=
  (MX9_go fu 0 h10).bind fun h12 => (MX9_isName fu 0 h12).bind fun x13 =>
  if x13 = 0 then (MX9_bad 0 (2 : Int32) h12).bind fun p43 => (h_z p43.1).bind fun z44 => some (z44, p43.2)
  else (h_fR 9 h12 0 2).bind fun x14 => (h_ldI h12 x14 ((3 : Int32) + x3)).bind fun x15 => (MX9_findIn fu 0 ((4 : Int32) + ((6 : Int32) * x3)) x15 h12).bind fun x16 =>
    if x16 = (-1 : Int32) then (MX9_bad 0 (3 : Int32) h12).bind fun p41 => (h_z p41.1).bind fun z42 => some (z42, p41.2)
    else (MX9_cell (39 : Int32) x3 v9 x16).bind fun x17 => (h_ldI h12 x14 x17).bind fun x18 =>
      if x18 = (-1 : Int32) then (MX9_go fu 0 h12).bind fun h19 =>
        if a1 = (2 : Int32) then m23 fu a1 x3 v9 x16 x16 x16 h19
        else (MX9_readState fu 0 x3 h19).bind fun p37 => if p37.1 = 0 then some ((0 : Int32), p37.2) else (h_fI 9 p37.2 0 16).bind fun x38 => m23 fu a1 x3 v9 x16 x38 x38 p37.2
      else (MX9_bad 0 (4 : Int32) h12).bind fun p39 => (h_z p39.1).bind fun z40 => some (z40, p39.2)
def mNew (fu : Nat) (a1 x3 x6 : Int32) (h : Hp) (j11 : Int32 → Hp → Option (Int32 × Hp)) : Option (Int32 × Hp) :=
  (h_fR 9 h 0 3).bind fun x45 => (h_fL 9 h 0 15).bind fun x46 => (h_stL h x45 (((28 : Int32) + ((6 : Int32) * x3)) + x6) x46).bind fun h47 => (h_fR 9 h47 0 2).bind fun x48 => (MX9_methodAt x3 x6).bind fun x49 => (h_stI h47 x48 ((15 : Int32) + x49) a1).bind fun h50 =>
  wh2 (MX9_readMethodLine_B144 (fun h51 => (h_fR 9 h51 0 2).bind fun x53 => (h_ldI h51 x53 ((11 : Int32) + x3)).bind fun x54 => (h_stI h51 x53 ((11 : Int32) + x3) (x54 + (1 : Int32))).bind fun h55 => j11 x6 h55) 0 x3 x6) fu (0 : Int32) h50
def mHead (fu : Nat) (a1 x3 : Int32) (h : Hp) (j11 : Int32 → Hp → Option (Int32 × Hp)) : Option (Int32 × Hp) :=
  (MX9_isName fu 0 h).bind fun x4 =>
  if x4 = 0 then (MX9_bad 0 (2 : Int32) h).bind fun p71 => (h_z p71.1).bind fun z72 => some (z72, p71.2)
  else (h_fR 9 h 0 2).bind fun x5 => (h_ldI h x5 ((11 : Int32) + x3)).bind fun x6 => (MX9_findIn fu 0 ((28 : Int32) + ((6 : Int32) * x3)) x6 h).bind fun x7 =>
    if x7 = (-1 : Int32) then (if x7 = (-1 : Int32) then (if x6 = (6 : Int32) then (MX9_bad 0 (6 : Int32) h).bind fun p65 => (h_z p65.1).bind fun z66 => some (z66, p65.2) else mNew fu a1 x3 x6 h j11) else j11 x7 h)
    else (MX9_methodAt x3 x7).bind fun x67 => (h_ldI h x5 ((15 : Int32) + x67)).bind fun x68 =>
      if x68 = a1 then (if x7 = (-1 : Int32) then (if x6 = (6 : Int32) then (MX9_bad 0 (6 : Int32) h).bind fun p65 => (h_z p65.1).bind fun z66 => some (z66, p65.2) else mNew fu a1 x3 x6 h j11) else j11 x7 h)
      else (MX9_bad 0 (5 : Int32) h).bind fun p69 => (h_z p69.1).bind fun z70 => some (z70, p69.2)
theorem mLine_eq {fu : Nat} {a1 : Int32} {h : Hp} : MX9_readMethodLine fu 0 a1 h = h_g 9 h 0 ((MX9_go fu 0 h).bind fun h1 => (MX9_readKind fu 0 h1).bind fun p2 => if p2.1 = 0 then some ((0 : Int32), p2.2) else (h_fI 9 p2.2 0 16).bind fun x3 => mHead fu a1 x3 p2.2 (mTail fu a1 x3)) := rfl
/-- the class's way behind the method's name -/
def cTail (fu : Nat) (k m so : Int32) (h : Hp) : Option (Int32 × Hp) :=
  (h_fR 3 h 1 0).bind fun x11 => (MX7_advance fu x11 h).bind fun h12 => (MX3_readWhatComes fu 1 k m so h12).bind fun p13 => if p13.1 = 0 then some ((0 : Int32), p13.2) else (MX3_takeSign fu 1 (19 : Int32) p13.2).bind fun p16 => if p16.1 = 0 then some ((0 : Int32), p16.2) else some ((1 : Int32), p16.2)
section LineM2
variable {b : Nat → Nat} {n : Nat} {sw : Bool} {I0 : Nat → Nat → Int32} {L0 : Nat → Nat → Int64} {J0 : Nat → Nat → Int32} {Z : Nat → Int32} {fu : Nat}
theorem x6k {k : Nat} : nI k * (6 : Int32) = nI (6 * k) := by
  have := ix_met (k := k) (m := 0)
  rw [show nI 0 = (0 : Int32) from rfl, Int32.add_zero] at this
  exact this
theorem x6k' {k c : Nat} {x : Int32} (hx : x = nI c) : x + (6 : Int32) * nI k = nI (c + 6 * k) := by
  have := ix_met' (k := k) (m := 0)
  rw [show nI 0 = (0 : Int32) from rfl, Int32.add_zero] at this
  rw [this, Nat.add_zero, ix_c hx]
/-- one more state is read by both; the class's row of states stands as it does -/
theorem both_state {p k d : Nat} {P : Nat → Int32} {I : Nat → Nat → Int32} {L : Nat → Nat → Int64} {J : Nat → Nat → Int32} {K : Nat → Nat → Int64} (hd : dr' sw = d) (tx : TX b n) (h : BC b n sw I0 L0 p I L) (g : BM b n J0 Z p P J K) (cx : CTX d P I L K) (hk : k < nK P) (hfu : 1000 < fu) :
    (∃ I' L' J' K', MX3_known fu 1 31 (nI k * 6) (I (d + 2) k) (mkC sw I L) = some (-1, mkC sw I' L') ∧ MX9_readState fu 0 (nI k) (mkM J K) = some (0, mkM J' K') ∧ FLT sw I0 L0 J0 I' L' J') ∨
    ∃ f I' L' J' K', f < nS P k ∧ p < nx b n p ∧ MX3_known fu 1 31 (nI k * 6) (I (d + 2) k) (mkC sw I L) = some (nI f, mkC sw I L) ∧ MX7_advance fu 2 (mkC sw I L) = some (mkC sw I' L') ∧ MX9_readState fu 0 (nI k) (mkM J K) = some (1, mkM J' K') ∧ BC b n sw I0 L0 (nx b n p) I' L' ∧ BM b n J0 Z (nx b n p) P J' K' ∧ CTX d P I' L' K' ∧ J' 0 16 = nI f ∧ ∀ x, x ≠ 2 → I' x = I x := by
  have d5 := dr_lt (sw := sw)
  have h4 := cx.1.1.2
  obtain ⟨⟨⟨w1, w2, w3⟩, -⟩, ⟨c1, -⟩, -, n2, -⟩ := cx.2.2.1 k hk
  simp only [MX9_readState, m_g, m_r2, Option.bind_some]
  rw [ix_c (show (3 : Int32) = nI 3 from rfl), m_ld3 (by omega), Option.bind_some, g.2.1.1 _ (by omega), c1, w1]
  rcases both_known' (xa := nI k * 6) (xa' := (4 : Int32) + (6 : Int32) * nI k) (r := 31) (a := 6 * k) (a' := 4 + 6 * k) (c := nS P k) (fu := fu) x6k (x6k' rfl) tx h g (fun i hi => by rw [nI_add]; exact c3_ld5 (by omega)) (by omega) (fun i hi => n2 i hi) hfu with ⟨I3, L3, J3, K3, e5, e6, fl⟩ | ⟨f, J3, K3, hf, pn, t2, e5, e6, g3, j16, j3, k3⟩
  · refine Or.inl ⟨I3, L3, J3, K3, e5, ?_, fl⟩
    rw [e6, Option.bind_some]
    rfl
  · obtain ⟨I4, L4, e7, h4, f5⟩ := BC_adv tx h hfu
    refine Or.inr ⟨f, I4, L4, J3, K3, hf, (nx_le h.1).2.2 pn, e5, e7, ?_, h4, g3, CTX_fr cx (fun x x1 x2 => f5.1 x (by omega)) (by rw [f5.1 d (by omega)]) (fun x x1 x2 => f5.2.1 x (by omega)) (k3 4 (by decide)), j16, f5.1⟩
    rw [e6, Option.bind_some]
    rfl
theorem wh5_p {α0 α1 α2 α3 α4 ρ : Type} {body : (α0 → α1 → α2 → α3 → α4 → Option ρ) → α0 → α1 → α2 → α3 → α4 → Option ρ} {f : Nat} (hf : 0 < f) {x0 : α0} {x1 : α1} {x2 : α2} {x3 : α3} {x4 : α4} : wh5 body f x0 x1 x2 x3 x4 = body (wh5 body (f - 1)) x0 x1 x2 x3 x4 := by
  cases f with
  | zero => omega
  | succ f => rfl
section WC
variable {k m d i told : Nat} {I I' : Nat → Nat → Int32} {L L' : Nat → Nat → Int64} {j7 : Int32 → Int32 → Int32 → Hp → Option (Int32 × Hp)} {j12 : Hp → Option (Int32 × Hp)} {self : Int32 → Int32 → Int32 → Int32 → Hp → Option (Int32 × Hp)} {v15 v16 v17 : Int32} {h h' : Hp}
theorem wc_end (ht : told ≤ i) (hi : i < 10) : MX3_readWhatComes_B32 fu (nI told) j7 1 (nI k) (nI m) j12 self v15 v16 v17 (nI i) h = j7 v15 v16 v17 h := by
  unfold MX3_readWhatComes_B32
  rw [if_pos (nI_le ht (by omega))]
theorem wc_no (hd : dr' sw = d) (ht : i < told) (hi : told < 10) (hk : k < 4) (e : MX3_known fu 1 31 (nI k * 6) (I (d + 2) k) (mkC sw I L) = some (-1, h')) : MX3_readWhatComes_B32 fu (nI told) j7 1 (nI k) (nI m) j12 self v15 v16 v17 (nI i) (mkC sw I L) = some (0, h') := by
  have P4 : isP d := by rw [← hd]; exact dr_P
  unfold MX3_readWhatComes_B32
  rw [if_neg (nI_ge ht (by omega)), c3_r5, Option.bind_some, c3_dr, Option.bind_some, hd, c4_r0 P4, Option.bind_some, c2_r1 (isP_K P4), Option.bind_some, c2_ld1 (isP_K P4) hk, Option.bind_some, show d + 1 + 1 = d + 2 by omega, e, Option.bind_some, if_pos rfl]
theorem wc_can {f : Nat} (hd : dr' sw = d) (ht : 0 < told) (hi : told < 10) (hk : k < 4) (hm : m < 6) (hf : f < 6) (e : MX3_known fu 1 31 (nI k * 6) (I (d + 2) k) (mkC sw I L) = some (nI f, mkC sw I L)) (c : bt (I (d + 6) (6 * k + m)) f = true) : MX3_readWhatComes_B32 fu (nI told) j7 1 (nI k) (nI m) j12 self v15 v16 v17 (nI 0) (mkC sw I L) = j12 (mkC sw I L) := by
  have P4 : isP d := by rw [← hd]; exact dr_P
  unfold MX3_readWhatComes_B32
  rw [if_neg (nI_ge ht (by omega)), c3_r5, Option.bind_some, c3_dr, Option.bind_some, hd, c4_r0 P4, Option.bind_some, c2_r1 (isP_K P4), Option.bind_some, c2_ld1 (isP_K P4) hk, Option.bind_some, show d + 1 + 1 = d + 2 by omega, e, Option.bind_some, if_neg (nI_ne_m1 (by omega))]
  simp only [jn]
  rw [if_pos (show nI 0 = 0 from rfl), c3_dr, Option.bind_some, hd, c4_r0 P4, Option.bind_some, c_can P4 hk hm hf, Option.bind_some, c, if_neg (by decide)]
theorem wc_0 {f : Nat} (hd : dr' sw = d) (ht : 0 < told) (hi : told < 10) (hk : k < 4) (hm : m < 6) (hf : f < 6) (e : MX3_known fu 1 31 (nI k * 6) (I (d + 2) k) (mkC sw I L) = some (nI f, mkC sw I L)) (c : bt (I (d + 6) (6 * k + m)) f = false) (ea : MX7_advance fu 2 (mkC sw I L) = some (mkC sw I' L')) : MX3_readWhatComes_B32 fu (nI told) j7 1 (nI k) (nI m) j12 self v15 v16 v17 (nI 0) (mkC sw I L) = self (nI f) (nI f) (nI f) (nI 1) (mkC sw I' L') := by
  have P4 : isP d := by rw [← hd]; exact dr_P
  unfold MX3_readWhatComes_B32
  rw [if_neg (nI_ge ht (by omega)), c3_r5, Option.bind_some, c3_dr, Option.bind_some, hd, c4_r0 P4, Option.bind_some, c2_r1 (isP_K P4), Option.bind_some, c2_ld1 (isP_K P4) hk, Option.bind_some, show d + 1 + 1 = d + 2 by omega, e, Option.bind_some, if_neg (nI_ne_m1 (by omega))]
  simp only [jn]
  rw [if_pos (show nI 0 = 0 from rfl), c3_dr, Option.bind_some, hd, c4_r0 P4, Option.bind_some, c_can P4 hk hm hf, Option.bind_some, c, if_pos (by decide), if_pos (show nI 0 = 0 from rfl), if_neg (show ¬ (1 : Int32) < nI 0 by decide), c3_r0, Option.bind_some, ea, Option.bind_some]
  rfl
theorem wc_1 {f : Nat} (hd : dr' sw = d) (ht : 1 < told) (hi : told < 10) (hk : k < 4) (hf : f < 6) (e : MX3_known fu 1 31 (nI k * 6) (I (d + 2) k) (mkC sw I L) = some (nI f, mkC sw I L)) (ea : MX7_advance fu 2 (mkC sw I L) = some (mkC sw I' L')) : MX3_readWhatComes_B32 fu (nI told) j7 1 (nI k) (nI m) j12 self v15 v16 v17 (nI 1) (mkC sw I L) = self v15 (nI f) (nI f) (nI 2) (mkC sw I' L') := by
  have P4 : isP d := by rw [← hd]; exact dr_P
  unfold MX3_readWhatComes_B32
  rw [if_neg (nI_ge ht (by omega)), c3_r5, Option.bind_some, c3_dr, Option.bind_some, hd, c4_r0 P4, Option.bind_some, c2_r1 (isP_K P4), Option.bind_some, c2_ld1 (isP_K P4) hk, Option.bind_some, show d + 1 + 1 = d + 2 by omega, e, Option.bind_some, if_neg (nI_ne_m1 (by omega))]
  simp only [jn]
  rw [if_neg (show ¬ nI 1 = 0 by decide), if_neg (show ¬ nI 1 = 0 by decide), if_neg (show ¬ (1 : Int32) < nI 1 by decide), c3_r0, Option.bind_some, ea, Option.bind_some]
  rfl
theorem wc_2 {f : Nat} (hd : dr' sw = d) (ht : 2 < told) (hi : told < 10) (hk : k < 4) (hf : f < 6) (e : MX3_known fu 1 31 (nI k * 6) (I (d + 2) k) (mkC sw I L) = some (nI f, mkC sw I L)) (ea : MX7_advance fu 2 (mkC sw I L) = some (mkC sw I' L')) : MX3_readWhatComes_B32 fu (nI told) j7 1 (nI k) (nI m) j12 self v15 v16 v17 (nI 2) (mkC sw I L) = self v15 v16 (nI f) (nI 3) (mkC sw I' L') := by
  have P4 : isP d := by rw [← hd]; exact dr_P
  unfold MX3_readWhatComes_B32
  rw [if_neg (nI_ge ht (by omega)), c3_r5, Option.bind_some, c3_dr, Option.bind_some, hd, c4_r0 P4, Option.bind_some, c2_r1 (isP_K P4), Option.bind_some, c2_ld1 (isP_K P4) hk, Option.bind_some, show d + 1 + 1 = d + 2 by omega, e, Option.bind_some, if_neg (nI_ne_m1 (by omega))]
  simp only [jn]
  rw [if_neg (show ¬ nI 2 = 0 by decide), if_neg (show ¬ nI 2 = 0 by decide), if_pos (show (1 : Int32) < nI 2 by decide), c3_r0, Option.bind_some, ea, Option.bind_some]
  rfl
end WC
/-- how many states the class reads -/
def tld (so : Nat) : Nat := if so = 2 then 1 else if so = 1 then 3 else 2
def cJ7 (k m : Int32) (v3 v4 v5 : Int32) (h6 : Hp) : Option (Int32 × Hp) := (h_fR 3 h6 1 3).bind fun x8 => (h_fR 4 h6 x8 0).bind fun x9 => (MX2_allow x9 k m v3 v4 v5 h6).bind fun h10 => some ((1 : Int32), h10)
def cJ12 (h11 : Hp) : Option (Int32 × Hp) := (MX3_fail 1 (4 : Int32) h11).bind fun p13 => (h_z p13.1).bind fun z14 => some (z14, p13.2)
theorem wc_eq {k m so : Nat} {I : Nat → Nat → Int32} {L : Nat → Nat → Int64} (hso : so ≤ 2) : MX3_readWhatComes fu 1 (nI k) (nI m) (nI so) (mkC sw I L) = wh5 (MX3_readWhatComes_B32 fu (nI (tld so)) (cJ7 (nI k) (nI m)) 1 (nI k) (nI m) cJ12) fu (-1) (-1) (-1) (nI 0) (mkC sw I L) := by
  unfold MX3_readWhatComes
  rw [c3_g]
  simp only [jn]
  rcases (show so = 0 ∨ so = 1 ∨ so = 2 by omega) with e | e | e <;> subst e
  · rw [if_neg (show ¬ nI 0 = 2 by decide), if_neg (show ¬ nI 0 = 1 by decide)]
    rfl
  · rw [if_neg (show ¬ nI 1 = 2 by decide), if_pos (show nI 1 = 1 from rfl)]
    rfl
  · rw [if_pos (show nI 2 = 2 from rfl)]
    rfl
theorem meth_tail {q p k m so d : Nat} {P Q0 : Nat → Int32} {I IQ : Nat → Nat → Int32} {L : Nat → Nat → Int64} {J : Nat → Nat → Int32} {K : Nat → Nat → Int64} (hd : dr' sw = d) (tx : TX b n) (h : BC b n sw I0 L0 p I L) (g : BM b n J0 Z p P J K) (cx : CTX d P I L K) (h2 : P 2 = nI 0) (hk : k < nK P) (hm : m < nM P k) (hso : so ≤ 2) (eso : pSo P k m = nI so) (hfu : 1000 < fu) (hq : q ≤ p) (eQ : P 2 = Q0 2) (eI : I d 3 = IQ d 3) (eI2 : I 1 10 = IQ 1 10) :
    BOT b n sw I0 L0 J0 Z (cTail fu (nI k) (nI m) (nI so) (mkC sw I L)) (mTail fu (nI so) (nI k) (nI m) (mkM J K)) (QL d q Q0 IQ) := by
  have d5 := dr_lt (sw := sw)
  have P4 : isP d := by rw [← hd]; exact dr_P
  have h4 := cx.1.1.2
  have w6 := (cx.2.2.1 k hk).1.1.2.2
  have w1 := (cx.2.2.1 k hk).1.1.1
  have w7 := (cx.2.2.1 k hk).1.2.2.1.2
  have td : 1 ≤ tld so ∧ tld so < 10 := by unfold tld; split; omega; split <;> omega
  unfold cTail mTail
  rw [c3_r0, Option.bind_some]
  obtain ⟨I1, L1, e1, h1, f1⟩ := BC_adv tx h hfu
  obtain ⟨J1, K1, e2, g1, f2⟩ := BM_adv tx h.1 g hfu
  have a1 := (nx_le (b := b) h.1).1
  have cx1 : CTX d P I1 L1 K1 := CTX_fr cx (fun x x1 x2 => f1.1 x (by omega)) (by rw [f1.1 d (by omega)]) (fun x x1 x2 => f1.2.1 x (by omega)) (f2.2.1 4 (by decide))
  rw [e1, e2, Option.bind_some, Option.bind_some, m_isName g1.1 h1.1 hfu, Option.bind_some, m_r2, Option.bind_some, ix_c (show (3 : Int32) = nI 3 from rfl), m_ld3 (by omega), Option.bind_some, g1.2.1.1 _ (by omega), w1]
  have c1 : I1 (d + 2) k = nI (nS P k) := by rw [(cx1.2.2.1 k hk).2.1.1, w1]
  have cr := (cx1.2.2.1 k hk).2.1.2.2.2 m hm
  have n2 := (cx1.2.2.1 k hk).2.2.2.1
  rw [wc_eq hso, wh5_p (show 0 < fu by omega)]
  have kn := both_kn (xa := nI k * 6) (xa' := (4 : Int32) + (6 : Int32) * nI k) (r := 31) (a := 6 * k) (a' := 4 + 6 * k) (c := nS P k) (fu := fu) x6k (x6k' rfl) h1 g1 (fun i hi => by rw [nI_add]; exact c3_ld5 (by omega)) (by omega) (fun i hi => n2 i hi) hfu
  rw [← c1] at kn
  rcases kn with ⟨t18, en⟩ | ⟨t18, x, ef, ⟨xn, en⟩ | ⟨f, hf, xn, en⟩⟩
  · rw [wc_no hd (by omega) td.2 (by omega) en]
    simp only [if_neg t18, m_bad g1.1, Option.bind_some, h_z_0, if_true]
    exact Or.inl ⟨_, _, _, _, rfl, rfl, FLT_fail h1 g1⟩
  · rw [wc_no hd (by omega) td.2 (by omega) en]
    rw [c1] at ef
    simp only [if_pos t18, ef, if_pos xn, n10, m_bad g1.1, Option.bind_some, h_z_0, if_true, if_false]
    exact Or.inl ⟨_, _, _, _, rfl, rfl, FLT_fail h1 g1⟩
  · subst xn
    have fm := nfm (show f < 2 ^ 31 by omega)
    rw [c1] at ef
    simp only [if_pos t18, ef, n10, fm, Option.bind_some, if_false, MX9_cell, MX9_methodAt]
    rw [show (39 : Int32) = nI 39 from rfl, ix_cell, m_ld3 (by omega), Option.bind_some, g1.2.1.1 _ (by omega)]
    have cb := cr.2.1 f
    rw [decide_eq_true hf, Bool.true_and] at cb
    by_cases cy : pY P k m f = -1
    · rw [decide_eq_false (fun z => z cy)] at cb
      obtain ⟨I2, L2, e3, h2', f3⟩ := BC_adv tx h1 hfu
      obtain ⟨J2, K2, e4, g2, f4⟩ := BM_adv tx h1.1 g1 hfu
      have a2 := (nx_le (b := b) h1.1).1
      have cx2 : CTX d P I2 L2 K2 := CTX_fr cx1 (fun x x1 x2 => f3.1 x (by omega)) (by rw [f3.1 d (by omega)]) (fun x x1 x2 => f3.2.1 x (by omega)) (f4.2.1 4 (by decide))
      have i2 : ∀ x, x ≠ 2 → I2 x = I x := fun x hx => by rw [f3.1 x hx, f1.1 x hx]
      have ei : I2 d 3 = IQ d 3 := by rw [i2 d (by omega)]; exact eI
      have ei2 : I2 1 10 = IQ 1 10 := by rw [i2 1 (by decide)]; exact eI2
      rw [wc_0 hd (by omega) td.2 (by omega) (by omega) (by omega) en cb e3, if_pos cy, e4, Option.bind_some, wh5_p (show 0 < fu - 1 by omega)]
      rcases (show so = 2 ∨ so ≤ 1 by omega) with e | e
      · -- a LOOK
        subst e
        rw [wc_end (show tld 2 ≤ 1 by decide) (by decide), if_pos (show nI 2 = 2 from rfl)]
        unfold m23
        rw [if_neg (show ¬ nI 2 = 1 by decide)]
        exact tell_end hd tx h2' g2 cx2 h2 hk hm hf hf hf (fun _ => rfl) (fun _ => rfl) hfu (by omega) eQ ei ei2
      · have t2 : 1 < tld so := by unfold tld; rw [if_neg (by omega)]; split <;> omega
        rw [if_neg (show ¬ nI so = 2 from fun z => by have := nI_inj (b := 2) (by omega) (by decide) z; omega)]
        rcases both_state hd tx h2' g2 cx2 hk hfu with ⟨I3, L3, J3, K3, e5, e6, fl⟩ | ⟨fy, I3, L3, J3, K3, hfy, pn, e5, e5', e6, h3, g3, cx3, j16, i3⟩
        · rw [wc_no hd t2 td.2 (by omega) e5, e6]
          simp only [Option.bind_some, if_true]
          exact Or.inl ⟨_, _, _, _, rfl, rfl, fl⟩
        · rw [wc_1 hd t2 td.2 (by omega) (by omega) e5 e5', e6, Option.bind_some]
          simp only [n10, if_false, m_fI, Option.bind_some]
          rw [j16, wh5_p (show 0 < fu - 1 - 1 by omega)]
          have ei3 : I3 d 3 = IQ d 3 := by rw [i3 d (by omega)]; exact ei
          have ei4 : I3 1 10 = IQ 1 10 := by rw [i3 1 (by decide)]; exact ei2
          unfold m23
          rcases (show so = 0 ∨ so = 1 by omega) with e | e
          · subst e
            rw [wc_end (show tld 0 ≤ 2 by decide) (by decide), if_neg (show ¬ nI 0 = 1 by decide)]
            exact tell_end hd tx h3 g3 cx3 h2 hk hm hf hfy hfy (fun _ => rfl) (fun z => by rw [eso] at z; exact absurd z (by decide)) hfu (by omega) eQ ei3 ei4
          · subst e
            rw [if_pos (show nI 1 = 1 from rfl)]
            rcases both_state hd tx h3 g3 cx3 hk hfu with ⟨I4, L4, J4, K4, e7, e8, fl⟩ | ⟨fn, I4, L4, J4, K4, hfn, pn2, e7, e7', e8, h4', g4, cx4, j16', i4⟩
            · rw [wc_no hd (show 2 < tld 1 by decide) td.2 (by omega) e7, e8]
              simp only [Option.bind_some, if_true]
              exact Or.inl ⟨_, _, _, _, rfl, rfl, fl⟩
            · rw [wc_2 hd (show 2 < tld 1 by decide) td.2 (by omega) (by omega) e7 e7', e8, Option.bind_some]
              simp only [n10, if_false, m_fI, Option.bind_some]
              rw [j16', wh5_p (show 0 < fu - 1 - 1 - 1 by omega), wc_end (show tld 1 ≤ 3 by decide) (by decide)]
              exact tell_end hd tx h4' g4 cx4 h2 hk hm hf hfy hfn (fun z => absurd (by rw [eso]; rfl) z) (fun z => by rw [eso] at z; exact absurd z (by decide)) hfu (by omega) eQ (by rw [i4 d (by omega)]; exact ei3) (by rw [i4 1 (by decide)]; exact ei4)
    · rw [decide_eq_true cy] at cb
      rw [wc_can hd (by omega) td.2 (by omega) (by omega) (by omega) en cb, if_neg cy]
      unfold cJ12
      rw [c_fail h1.2.1, m_bad g1.1]
      simp only [Option.bind_some, h_z_0, if_true]
      exact Or.inl ⟨_, _, _, _, rfl, rfl, FLT_fail h1 g1⟩
end LineM2
