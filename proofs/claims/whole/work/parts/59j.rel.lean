/-! WHAT HOLDS BETWEEN CALLS -/
/-- the words that are no names, as the class spells them -/
def rsv (i : Nat) : Nat := [370116, 5572, 99724, 661108, 409067, 22578, 176741, 14519, 442053, 20186693, 398788, 343342, 150000, 143, 294, 24388997, 13689925, 409072].getD i 0
def tpR (I J : Nat → Nat → Int32) : Prop := ∃ n, n ≤ 900 ∧ I 2 0 = nI n ∧ J 0 4 = nI n ∧ ∀ j, j < n → BR (I 3 j) (J 1 j)
def kF (P : Nat → Int32) (I : Nat → Nat → Int32) : Prop := I 0 7 = 0 ∨ (I 0 7 = 1 ∧ FlowOK P 99 36 I)
def WO (P : Nat → Int32) (i : Nat) (x : Int32) : Prop := ∃ S, LF (TC P i) 0 S ∧ x = if wcS P S i (nT P + 1) = 0 then 1 else 0
def kW (P : Nat → Int32) (I : Nat → Nat → Int32) : Prop := ∀ i, i < nT P → I 227 i = -1 ∨ WO P i (I 227 i)
abbrev KS : Type := (Nat → Int32) → (Nat → Nat → Int32) → (Nat → Nat → Int64) → Prop
def okS (kS : KS) : Prop := ∀ P I I' L L', (∀ b, 214 ≤ b → b ≤ 219 → I' b = I b) → I' 0 8 = I 0 8 → L' 217 = L 217 → kS P I L → kS P I' L'
def REL (kS : KS) (sw : Bool) (I : Nat → Nat → Int32) (L : Nat → Nat → Int64) (J : Nat → Nat → Int32) : Prop :=
  tpR I J ∧ (I 0 9 = J 0 5 ∧ I 0 10 = J 0 6 ∧ I 0 11 = J 0 7) ∧ (∃ D, WFA (J 2) D ∧ CR (pid sw) I (J 2) D) ∧ (J 0 31 = 0 ∨ J 0 31 = 1) ∧ (∀ i, i < 18 → L 4 i = lN (rsv i)) ∧ kF (J 2) I ∧ kW (J 2) I ∧ kS (J 2) I L
def INVk (kS : KS) (hC hM : Hp) : Prop := ∃ sw I L J K, hC = mkC sw I L ∧ hM = mkM J K ∧ REL kS sw I L J
/-- both answer alike, and what holds between calls holds -/
def OPR (kS : KS) (x y : Option (Int32 × Hp)) : Prop := ∃ r hC hM, x = some (r, hC) ∧ y = some (r, hM) ∧ INVk kS hC hM
/-- more rows that the class uses within a call only: the trial, the holds of search and runner, the runner -/
def scD (b : Nat) : Prop := (125 ≤ b ∧ b ≤ 213) ∨ (220 ≤ b ∧ b ≤ 226)
section Rel
variable {kS : KS} {sw : Bool} {I I' : Nat → Nat → Int32} {L L' : Nat → Nat → Int64} {J J' : Nat → Nat → Int32} {K : Nat → Nat → Int64} {p f fu : Nat} {P : Nat → Int32} {D : Nat → Nat} {out : Nat → Bool}
theorem CR_fr2 (h : CR p I P D) (e : ∀ d, d ≤ 8 ∨ (13 ≤ d ∧ d ≤ 18) ∨ (22 ≤ d ∧ d ≤ 24) → I' (p + d) = I (p + d)) : CR p I' P D := by
  unfold CR CRk CRm CRv CRs at *
  rw [show I' p = I p from e 0 (by decide), e 1 (by decide), e 2 (by decide), e 3 (by decide), e 4 (by decide), e 5 (by decide), e 6 (by decide), e 7 (by decide), e 8 (by decide), e 13 (by decide), e 14 (by decide), e 15 (by decide), e 16 (by decide), e 17 (by decide), e 18 (by decide), e 22 (by decide), e 23 (by decide), e 24 (by decide)]
  exact h
theorem FlowOK_fr {lo : Nat} (h : FlowOK P lo f I) (e : ∀ b, f ≤ b → b ≤ f + 88 → I' b = I b) : FlowOK P lo f I' := by
  obtain ⟨h1, h2, h3, h4, h5, h6⟩ := h
  have eS : sC f I' = sC f I := sC_eq (e _ (by omega) (by omega)) (fun i hi => e _ (by omega) (by omega))
  unfold FlowOK FS
  rw [eS, e f (by omega) (by omega), e (f + 2) (by omega) (by omega), e (f + 3) (by omega) (by omega), e (f + 4) (by omega) (by omega)]
  exact ⟨h1, h2, h3, h4, h5, h6⟩
theorem REL_keep (ok : okS kS) (h : REL kS sw I L J) (hI : ∀ b, b ≠ 0 → ¬ scC b → ¬ scD b → I' b = I b) (h0 : ∀ k, k ≠ 9 → I' 0 k = I 0 k) (h9 : I' 0 9 = J' 0 5) (hL : L' 4 = L 4 ∧ L' 217 = L 217) (hJ : J' 1 = J 1 ∧ J' 2 = J 2) (hJ0 : ∀ k, k < 8 → k ≠ 5 → J' 0 k = J 0 k) (h31 : J' 0 31 = 0 ∨ J' 0 31 = 1) : REL kS sw I' L' J' := by
  obtain ⟨⟨n, t1, t2, t3, t4⟩, ⟨-, s2, s3⟩, ⟨D, w1, w2⟩, -, r, f1, g1, k1⟩ := h
  have hb : ∀ b, b ≠ 0 → (b < 14 ∨ (17 < b ∧ b < 125) ∨ (213 < b ∧ b < 220) ∨ (226 < b ∧ b < 237) ∨ 240 < b) → I' b = I b := fun b b0 hb => hI b b0 (by unfold scC; omega) (by unfold scD; omega)
  have hP : ∀ d, d ≤ 8 ∨ (13 ≤ d ∧ d ≤ 18) ∨ (22 ≤ d ∧ d ≤ 24) → I' (pid sw + d) = I (pid sw + d) := by
    intro d hd
    rcases (pid_P (sw := sw)) with e | e <;> rw [e] <;> exact hb _ (by omega) (by omega)
  refine ⟨⟨n, t1, by rw [hb 2 (by decide) (by decide)]; exact t2, by rw [hJ0 4 (by decide) (by decide)]; exact t3, fun j hj => by rw [hb 3 (by decide) (by decide), hJ.1]; exact t4 j hj⟩, ⟨h9, by rw [h0 10 (by decide), hJ0 6 (by decide) (by decide)]; exact s2, by rw [h0 11 (by decide), hJ0 7 (by decide) (by decide)]; exact s3⟩, ⟨D, by rw [hJ.2]; exact w1, by rw [hJ.2]; exact CR_fr2 w2 hP⟩, h31, fun i hi => by rw [hL.1]; exact r i hi, ?_, ?_, ?_⟩
  · rw [hJ.2]
    unfold kF
    rw [h0 7 (by decide)]
    rcases f1 with q | ⟨q, q2⟩
    · exact Or.inl q
    · exact Or.inr ⟨q, FlowOK_fr q2 (fun b b1 b2 => hb b (by omega) (by omega))⟩
  · rw [hJ.2]
    intro i hi
    rw [hb 227 (by decide) (by decide)]
    exact g1 i hi
  · rw [hJ.2]
    exact ok _ _ _ _ _ (fun b b1 b2 => hb b (by omega) (by omega)) (h0 8 (by decide)) hL.2 k1
theorem OPR_fin {r z : Int32} (ok : okS kS) (h : REL kS sw I L J) : OPR kS (some (r, mkC sw (ur I 0 (up (I 0) 9 z)) L)) (some (r, mkM (ur J 0 (up (J 0) 5 z)) K)) := by
  refine ⟨r, _, _, rfl, rfl, sw, _, L, _, K, rfl, rfl, REL_keep ok h (fun b b0 _ _ => ur_ne b0) (fun k hk => by rw [ur_at, up_ne hk]) (by rw [ur_at, up_at, ur_at, up_at]) ⟨rfl, rfl⟩ ⟨ur_ne (by decide), ur_ne (by decide)⟩ (fun k _ hk => by rw [ur_at, up_ne hk]) ?_⟩
  rw [ur_at, up_ne (by decide)]
  exact h.2.2.2.1
theorem OPR_SC {x y : Option (Int32 × Hp)} (ok : okS kS) (h : REL kS sw I L J) (s : SC x y sw I L J) : OPR kS x y := by
  obtain ⟨r, z, I', L', J', K', rfl, rfl, h1, h2, h3⟩ := s
  refine ⟨r, _, _, rfl, rfl, sw, _, L', _, K', rfl, rfl, REL_keep ok h (fun b b0 hb _ => by rw [ur_ne b0]; exact (h1 b hb).1) (fun k hk => ?_) (by rw [ur_at, up_at, ur_at, up_at]) ⟨(h1 4 (by unfold scC; omega)).2, (h1 217 (by unfold scC; omega)).2⟩ ⟨by rw [ur_ne (by decide)]; exact h2.1, by rw [ur_ne (by decide)]; exact h2.2⟩ (fun k hk hk5 => by rw [ur_at, up_ne hk5]; exact h3 k (by omega)) ?_⟩
  · rw [ur_at, up_ne hk, (h1 0 (by unfold scC; omega)).1]
  · rw [ur_at, up_ne (by decide), h3 31 (by omega)]
    exact h.2.2.2.1
/-- the reference has gone on by a flow -/
theorem REL_frm (h : REL kS sw I L J) (f : frm J J') (h31 : J' 0 31 = 0 ∨ J' 0 31 = 1) : REL kS sw I L J' := by
  obtain ⟨⟨n, t1, t2, t3, t4⟩, ⟨s1, s2, s3⟩, w, -, r⟩ := h
  have e2 := frm_2 f
  have e1 : J' 1 = J 1 := f.1 1 (by decide) (by decide)
  have e0 : ∀ k, k < 31 → J' 0 k = J 0 k := fun k hk => f.2.2 k (by omega)
  unfold REL
  rw [e2]
  exact ⟨⟨n, t1, t2, by rw [e0 4 (by decide)]; exact t3, fun j hj => by rw [e1]; exact t4 j hj⟩, ⟨by rw [e0 5 (by decide)]; exact s1, by rw [e0 6 (by decide)]; exact s2, by rw [e0 7 (by decide)]; exact s3⟩, w, h31, r⟩
theorem m_checksAll (hA : WFA (J 2) D) (hz : J 0 31 = 0 ∨ J 0 31 = 1) (hfu : 6000 < fu) : WP (MX9_checksAll fu 0 (mkM J K)) (fun h => ∃ J' out, h = mkM J' K ∧ ((∀ b, b ≠ 0 → b ≠ 9 → b < 10 ∨ 18 < b → J' b = J b) ∧ ∀ k, k < 31 ∨ 34 < k → J' 0 k = J 0 k) ∧ RefOK (J 2) out J' ∧ (∀ j, j < nT (J 2) → out j = no j) ∧ (J' 0 31 = 0 ∨ J' 0 31 = 1)) := by
  have h40 := hA.1.1.2.2.2
  simp only [MX9_checksAll, m_g]
  obtain ⟨_, e1, g, rfl, h1⟩ := m_allIn (J := J) (K := K) (fu := fu) (by omega)
  have e2 : ur J 9 g 2 = J 2 := ur_ne (by decide)
  obtain ⟨_, e3, J', rfl, f1, r1, z1⟩ := m_checks (J := ur J 9 g) (K := K) (fu := fu) (D := D) (by rw [e2]; exact hA) (by rw [ur_ne (by decide)]; exact hz) hfu
  rw [e1, Option.bind_some, e3, Option.bind_some]
  rw [e2] at r1
  refine WP_some ⟨J', _, rfl, ⟨fun b b0 b9 hb => by rw [f1.1 b b0 (by omega), ur_ne b9], fun k hk => by rw [f1.2.2 k hk, ur_ne (by decide)]⟩, r1, fun j hj => ?_, z1⟩
  unfold ot no
  rw [ur_at, h1 j (by omega)]
  rfl
theorem REL_chk (h : REL kS sw I L J) (f : (∀ b, b ≠ 0 → b ≠ 9 → b < 10 ∨ 18 < b → J' b = J b) ∧ ∀ k, k < 31 ∨ 34 < k → J' 0 k = J 0 k) (h31 : J' 0 31 = 0 ∨ J' 0 31 = 1) : REL kS sw I L J' := by
  obtain ⟨⟨n, t1, t2, t3, t4⟩, ⟨s1, s2, s3⟩, w, -, r⟩ := h
  have e2 : J' 2 = J 2 := f.1 2 (by decide) (by decide) (by decide)
  have e1 : J' 1 = J 1 := f.1 1 (by decide) (by decide) (by decide)
  have e0 : ∀ k, k < 31 → J' 0 k = J 0 k := fun k hk => f.2 k (by omega)
  unfold REL
  rw [e2]
  exact ⟨⟨n, t1, t2, by rw [e0 4 (by decide)]; exact t3, fun j hj => by rw [e1]; exact t4 j hj⟩, ⟨by rw [e0 5 (by decide)]; exact s1, by rw [e0 6 (by decide)]; exact s2, by rw [e0 7 (by decide)]; exact s3⟩, w, h31, r⟩
theorem c_solvedFlow (ok : okS kS) (h : REL kS sw I L J) (hfu : 6000 < fu) : ∃ I', MX8_solvedFlow fu 0 (mkC sw I L) = some (36, mkC sw I' L) ∧ REL kS sw I' L J ∧ FlowOK (J 2) 99 36 I' := by
  obtain ⟨D, hA, hC⟩ := h.2.2.1
  have h40 := hA.1.1.2.2.2
  simp only [MX8_solvedFlow, c8_g, c8_fI, c8_r1, c8_pg, Option.bind_some, jn]
  rcases h.2.2.2.2.2.1 with q | ⟨q, q2⟩
  · rw [if_pos q]
    obtain ⟨_, e1, I1, rfl, f1, o1⟩ := c_solve (sw := sw) (I := I) (L := L) (fu := fu) (f := 36) (p := pid sw) (lo := 99) (a2 := -1) (Or.inl rfl) pid_P hC hA (fun i hi => ⟨fun z => absurd z (nI_ne_m1 (by omega)), fun z => by omega⟩) hfu
    rw [e1, Option.bind_some, c8_pZ (Or.inr rfl), Option.bind_some, c8_r1, Option.bind_some]
    have F2 : FlowOK (J 2) 99 36 (ur I1 0 (up (I1 0) 7 1)) := FlowOK_fr f1 (fun b b1 b2 => ur_ne (by omega))
    refine ⟨_, rfl, ?_, F2⟩
    obtain ⟨⟨n, t1, t2, t3, t4⟩, ⟨s1, s2, s3⟩, -, z, r, -, g1, k1⟩ := h
    have hb : ∀ b, b ≠ 0 → b < 36 ∨ 124 < b → ur I1 0 (up (I1 0) 7 1) b = I b := fun b b0 hb => by rw [ur_ne b0, o1 b (by omega)]
    have h0 : ∀ k, k ≠ 7 → ur I1 0 (up (I1 0) 7 1) 0 k = I 0 k := fun k hk => by rw [ur_at, up_ne hk, o1 0 (by omega)]
    refine ⟨⟨n, t1, by rw [hb 2 (by decide) (by decide)]; exact t2, t3, fun j hj => by rw [hb 3 (by decide) (by decide)]; exact t4 j hj⟩, ⟨by rw [h0 9 (by decide)]; exact s1, by rw [h0 10 (by decide)]; exact s2, by rw [h0 11 (by decide)]; exact s3⟩, ⟨D, hA, CR_fr2 hC (fun d hd => by rcases (pid_P (sw := sw)) with e | e <;> rw [e] <;> exact hb _ (by omega) (by omega))⟩, z, r, Or.inr ⟨by rw [ur_at, up_at], F2⟩, fun i hi => by rw [hb 227 (by decide) (by decide)]; exact g1 i hi, ok _ _ _ _ _ (fun b b1 b2 => hb b (by omega) (by omega)) (h0 8 (by decide)) rfl k1⟩
  · rw [if_neg (by rw [q]; decide)]
    exact ⟨I, rfl, h, q2⟩
theorem TR_no (hn : WFn P) (hS : WFs P D) (h : ∀ j, j < nT P → out j = no j) : TR P out = TR P no ∧ nN (fst0 P out) = 0 := by
  have h40 := hn.2.2.2
  constructor
  · funext i t X Y
    apply propext
    unfold TR
    constructor
    · rintro ⟨hi, w⟩
      rw [lkY_congr hS h hi h40, lkN_congr hS h hi h40] at w
      exact ⟨hi, w⟩
    · rintro ⟨hi, w⟩
      rw [← lkY_congr hS h hi h40, ← lkN_congr hS h hi h40] at w
      exact ⟨hi, w⟩
  · rw [fst0_congr h, fst_no hn hS, nN_nI (by decide)]
/-- the two flows say the same -/
theorem FM_eq (hA : WFA P D) (hF : FlowOK P 99 f I) (hR : RefOK P out J) (ho : ∀ j, j < nT P → out j = no j) : (∀ i, (sC f I i = none ∧ sM J i = none) ∨ ∃ X X', sC f I i = some X ∧ sM J i = some X' ∧ e24 X X') ∧ ∀ i, i ≤ nT P → rS P (sC f I) 99 i = rS P (sM J) 99 i := by
  have h40 := hA.1.1.2.2.2
  obtain ⟨t1, t2⟩ := TR_no hA.1.1 hA.2.2 ho
  have hL := hR.1
  rw [t1, t2, ← TC_no (P := P) (lo := 99) (by omega)] at hL
  have U := LF_unique hF.1 hL
  refine ⟨U, fun i hi => ?_⟩
  unfold rS
  rcases U i with ⟨e1, e2⟩ | ⟨X, X', e1, e2, e3⟩
  · rw [e1, e2]
  · rw [e1, e2]
    show (if i = 99 then 0 else rsn P i X) = if i = 99 then 0 else rsn P i X'
    rw [rsn_e24 hA hi e3]
theorem wcS_eq {S S' : PS} {lo lo' : Nat} : ∀ n, (∀ i, i < n → rS P S lo i = rS P S' lo' i) → wcS P S lo n = wcS P S' lo' n ∧ fwS P S lo n = fwS P S' lo' n ∧ fyS P S lo n = fyS P S' lo' n := by
  intro n
  induction n with
  | zero => intro _; exact ⟨rfl, rfl, rfl⟩
  | succ n ih =>
    intro h
    obtain ⟨a, b, c⟩ := ih (fun i hi => h i (by omega))
    have e := h n (by omega)
    refine ⟨by rw [wcS_s, wcS_s, a, e], ?_, ?_⟩
    · show (if _ then _ else _) = if _ then _ else _
      rw [b, e]
    · show (if _ then _ else _) = if _ then _ else _
      rw [a, c, e]
end Rel
