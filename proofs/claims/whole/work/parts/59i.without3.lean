section Without3
variable {P : Nat → Int32} {D : Nat → Nat} {lo : Nat} {out : Nat → Bool}
theorem beh_lo (hn : WFn P) (hS : WFs P D) (h : SubT P lo out) (hlo : lo < nT P) {t : Nat} (e : beh P no 8 lo = nI t) (ht : t ≤ nT P) : ¬ gone P out t ∧ t ≠ lo := by
  have h40 := hn.2.2.2
  have olo : out lo = true := (h lo hlo).2.1 rfl
  suffices hs : ¬ gone P out t from ⟨hs, by rintro rfl; exact hs ⟨hlo, olo⟩⟩
  have hin : inn P out (P (493 + lo)) := by
    rcases (hS lo hlo).2.2 with ⟨e, -⟩ | ⟨q, q1, q2, -⟩
    · exact Or.inl e
    · exact Or.inr ⟨q, by omega, q2, (h q (by omega)).1 q1⟩
  have e' : (if nxt P no (P (493 + lo)) (P (533 + lo)) (nT P - (lo + 1)) (lo + 1) = -1 then (if P (493 + lo) = -1 then P 2 else if rnd (P (333 + nN (P (493 + lo)))) = true then P (493 + lo) else beh P no 7 (nN (P (493 + lo)))) else nxt P no (P (493 + lo)) (P (533 + lo)) (nT P - (lo + 1)) (lo + 1)) = nI t := e
  by_cases c : nxt P no (P (493 + lo)) (P (533 + lo)) (nT P - (lo + 1)) (lo + 1) = -1
  · rw [if_pos c] at e'
    rcases (hS lo hlo).2.2 with ⟨h1, -⟩ | ⟨q, q1, q2, q3, -⟩
    · rw [if_pos h1, hn.2.2.1] at e'
      have := nI_inj (by omega) (by omega) e'
      rintro ⟨g, -⟩; omega
    · have oq : out q = false := (h q (by omega)).1 q1
      have dq : D q ≤ 4 := (hS q (by omega)).2.1
      rw [q2, if_neg (nI_ne_m1 (by omega)), nN_nI (by omega)] at e'
      split at e'
      · have := nI_inj (by omega) (by omega) e'
        subst this
        rintro ⟨-, g⟩; rw [oq] at g; cases g
      · have nlo : ¬ beh P no 7 q = nI lo := by
          intro z
          rcases beh_par hn hS 7 q lo (by omega) (by omega) hlo z with y | y | ⟨q', y1, y2⟩
          · omega
          · rw [q2] at y; exact absurd y (nI_ne_m1 (by omega))
          · rw [q2] at y2
            have := nI_inj (by omega) (by omega) y2
            omega
        have b := beh_out hn hS h hlo 7 q (by omega) oq (by omega) (by omega)
        unfold rd at b
        rw [if_neg nlo, e'] at b
        exact beh_in hn hS h 7 q t (by omega) oq (by omega) b ht
  · rw [if_neg c] at e'
    rcases nxt_of (P := P) (out := no) (a := P (493 + lo)) (b := P (533 + lo)) (nT P - (lo + 1)) (lo + 1) with z | ⟨j, j1, j2, j3, -, j5, -⟩
    · exact absurd z c
    · rw [j3] at e'
      have := nI_inj (by omega) (by omega) e'
      subst this
      rintro ⟨g1, g2⟩
      have := inn_lo h40 h hin g1 j5 g2
      omega
theorem wo_eq {SC SM : PS} (hA : WFA P D) (h : SubT P lo out) (hlo : lo < nT P) (hC : LF (TC P lo) 0 SC) (hM : LF (TR P out) (nN (fst0 P out)) SM) : ∀ j, j ≤ nT P → rS P SC lo j = rS P SM 99 j := by
  obtain ⟨hW, hv, hS⟩ := hA
  have hn := hW.1
  have h40 := hn.2.2.2
  have olo : out lo = true := (h lo hlo).2.1 rfl
  obtain ⟨tb, htb, eb⟩ := beh_pl (out := no) hn hS 8 lo hlo
  obtain ⟨gb, nb⟩ := beh_lo hn hS h hlo eb htb
  obtain ⟨s0, hs0, es0⟩ := fst0_pl (out := out) hn
  have fo := fst_out hn hS h hlo
  rw [es0, nN_nI (by omega)] at hM
  rw [es0] at fo
  have g0 : ¬ gone P out s0 := fst_in hn es0 hs0
  -- where a link leads
  have lead : ∀ x t0 t, t0 ≤ nT P → t ≤ nT P → x = nI t0 → nI t = rd P lo x → (t0 = lo ∧ t = tb) ∨ (t0 ≠ lo ∧ t = t0) := by
    intro x t0 t h1 h2 e1 e2
    unfold rd at e2
    by_cases c : t0 = lo
    · rw [e1, c, if_pos rfl, eb] at e2
      exact Or.inl ⟨c, nI_inj (by omega) (by omega) e2⟩
    · rw [e1, if_neg (fun z => c (nI_inj (by omega) (by omega) z))] at e2
      exact Or.inr ⟨c, nI_inj (by omega) (by omega) e2⟩
  have onon : ∀ i, i < nT P → ¬ gone P out i → out i = false := by
    intro i hi hg
    cases o : out i
    · rfl
    · exact absurd ⟨hi, o⟩ hg
  let S1 : PS := fun j => if gone P out j then none else SC j
  let S2 : PS := fun j => if j = lo then SM tb else if gone P out j then none else SM j
  have s1n : ∀ t, ¬ gone P out t → S1 t = SC t := fun t hg => if_neg hg
  have s1g : ∀ t, gone P out t → S1 t = none := fun t hg => if_pos hg
  have s2l : S2 lo = SM tb := by show (if _ then _ else _) = _; rw [if_pos rfl]
  have s2n : ∀ t, ¬ gone P out t → S2 t = SM t := by
    intro t hg
    have : t ≠ lo := by rintro rfl; exact hg ⟨hlo, olo⟩
    show (if _ then _ else _) = _
    rw [if_neg this, if_neg hg]
  have s2g : ∀ t, t ≠ lo → gone P out t → S2 t = none := by
    intro t ht hg
    show (if _ then _ else _) = _
    rw [if_neg ht, if_pos hg]
  have loE : ∀ Z, SC lo = some Z → ∃ Z', SC tb = some Z' ∧ leX Z Z' := fun Z hz => hC.1.2.2 lo tb Z Z hz ⟨hlo, Or.inl ⟨rfl, by rw [eb, nN_nI (by omega)], fun _ _ => rfl⟩⟩
  have PF1 : PF (TR P out) s0 S1 := by
    refine ⟨fun i X q => ?_, ?_, fun i t X Y q w => ?_⟩
    · by_cases c : gone P out i
      · rw [s1g i c] at q; cases q
      · rw [s1n i c] at q; exact hC.1.1 i X q
    · rw [s1n s0 g0]
      obtain ⟨Z, z1, z2⟩ := hC.1.2.1
      rcases lead (nI 0) 0 s0 (by omega) hs0 rfl fo with ⟨c1, c2⟩ | ⟨c1, c2⟩
      · rw [c1] at z1
        obtain ⟨Z', y1, y2⟩ := loE Z z1
        rw [c2]
        exact ⟨Z', y1, leX_trans z2 y2⟩
      · rw [c2]; exact ⟨Z, z1, z2⟩
    · have hi : i < nT P := w.1
      have cg : ¬ gone P out i := fun c => by rw [s1g i c] at q; cases q
      have oi := onon i hi cg
      have nl : i ≠ lo := by rintro rfl; exact cg ⟨hi, olo⟩
      rw [s1n i cg] at q
      have go : ∀ x t0, t0 ≤ nT P → x = nI t0 → t ≤ nT P → nI t = rd P lo x → ¬ gone P out t → (∃ Z, SC t0 = some Z ∧ leX Y Z) → ∃ Z, S1 t = some Z ∧ leX Y Z := by
        rintro x t0 h1 e1 h2 e2 hg ⟨Z, z1, z2⟩
        rw [s1n t hg]
        rcases lead x t0 t h1 h2 e1 e2 with ⟨c1, c2⟩ | ⟨c1, c2⟩
        · rw [c1] at z1
          obtain ⟨Z', y1, y2⟩ := loE Z z1
          rw [c2]
          exact ⟨Z', y1, leX_trans z2 y2⟩
        · rw [c2]; exact ⟨Z, z1, z2⟩
      rcases w.2 with ⟨w1, w2⟩ | ⟨w0, w1, w2⟩
      · obtain ⟨t0, h1, e1⟩ := lkY_pl (out := no) hn hS hi
        obtain ⟨t1, h2, e2⟩ := lkY_pl (out := out) hn hS hi
        rw [e2, nN_nI (by omega)] at w1
        subst w1
        exact go _ t0 h1 e1 h2 (by rw [← e2]; exact lkY_out hn hS h hlo hi oi) (lkY_in hn hS h hi oi e2 h2) (hC.1.2.2 i t0 X Y q ⟨hi, Or.inr ⟨nl, Or.inl ⟨by rw [e1, nN_nI (by omega)], w2⟩⟩⟩)
      · obtain ⟨t1, h2, e2⟩ := lkN_pl (out := out) hn hS hi w0
        have w0' : lkN P no i ≠ -1 := by
          intro z
          have := lkN_out hn hS h hlo hi oi
          rw [z] at this
          unfold rd at this
          rw [if_neg (fun y => nI_ne_m1 (by omega) y.symm)] at this
          exact w0 this
        obtain ⟨t0, h1, e1⟩ := lkN_pl (out := no) hn hS hi w0'
        rw [e2, nN_nI (by omega)] at w1
        subst w1
        exact go _ t0 h1 e1 h2 (by rw [← e2]; exact lkN_out hn hS h hlo hi oi) (lkN_in hn hS h hi oi e2 h2) (hC.1.2.2 i t0 X Y q ⟨hi, Or.inr ⟨nl, Or.inr ⟨w0', by rw [e1, nN_nI (by omega)], w2⟩⟩⟩)
  have PF2 : PF (TC P lo) 0 S2 := by
    refine ⟨fun i X q => ?_, ?_, fun i t X Y q w => ?_⟩
    · by_cases c : i = lo
      · subst c; rw [s2l] at q; exact hM.1.1 tb X q
      · by_cases c2 : gone P out i
        · rw [s2g i c c2] at q; cases q
        · rw [s2n i c2] at q; exact hM.1.1 i X q
    · obtain ⟨Z, z1, z2⟩ := hM.1.2.1
      rcases lead (nI 0) 0 s0 (by omega) hs0 rfl fo with ⟨c1, c2⟩ | ⟨c1, c2⟩
      · rw [c1, s2l]; rw [c2] at z1; exact ⟨Z, z1, z2⟩
      · rw [c2] at z1 g0
        rw [s2n 0 g0]; exact ⟨Z, z1, z2⟩
    · have hi : i < nT P := w.1
      rcases w.2 with ⟨w0, w1, w2⟩ | ⟨nl, w2⟩
      · subst w0
        rw [s2l] at q
        rw [eb, nN_nI (by omega)] at w1
        subst w1
        rw [s2n t gb]
        exact ⟨X, q, e24_le w2⟩
      · have cg : ¬ gone P out i := fun c => by rw [s2g i nl c] at q; cases q
        have oi := onon i hi cg
        rw [s2n i cg] at q
        have go : ∀ x t1, t ≤ nT P → x = nI t → t1 ≤ nT P → nI t1 = rd P lo x → ¬ gone P out t1 → (∃ Z, SM t1 = some Z ∧ leX Y Z) → ∃ Z, S2 t = some Z ∧ leX Y Z := by
          rintro x t1 h1 e1 h2 e2 hg ⟨Z, z1, z2⟩
          rcases lead x t t1 h1 h2 e1 e2 with ⟨c1, c2⟩ | ⟨c1, c2⟩
          · rw [c1, s2l]; rw [c2] at z1; exact ⟨Z, z1, z2⟩
          · rw [c2] at z1 hg
            rw [s2n t hg]; exact ⟨Z, z1, z2⟩
        rcases w2 with ⟨w1, w2⟩ | ⟨w0, w1, w2⟩
        · obtain ⟨t0, h1, e1⟩ := lkY_pl (out := no) hn hS hi
          obtain ⟨t1, h2, e2⟩ := lkY_pl (out := out) hn hS hi
          rw [e1, nN_nI (by omega)] at w1
          subst w1
          exact go _ t1 h1 e1 h2 (by rw [← e2]; exact lkY_out hn hS h hlo hi oi) (lkY_in hn hS h hi oi e2 h2) (hM.1.2.2 i t1 X Y q ⟨hi, Or.inl ⟨by rw [e2, nN_nI (by omega)], w2⟩⟩)
        · obtain ⟨t0, h1, e1⟩ := lkN_pl (out := no) hn hS hi w0
          have lo2 := lkN_out hn hS h hlo hi oi
          have w0' : lkN P out i ≠ -1 := by
            rw [lo2]
            unfold rd
            split
            · rw [eb]; exact nI_ne_m1 (by omega)
            · exact w0
          obtain ⟨t1, h2, e2⟩ := lkN_pl (out := out) hn hS hi w0'
          rw [e1, nN_nI (by omega)] at w1
          subst w1
          exact go _ t1 h1 e1 h2 (by rw [← e2]; exact lo2) (lkN_in hn hS h hi oi e2 h2) (hM.1.2.2 i t1 X Y q ⟨hi, Or.inr ⟨w0', by rw [e2, nN_nI (by omega)], w2⟩⟩)
  have L1 := hM.2.2 S1 PF1
  have L2 := hC.2.2 S2 PF2
  intro j hj
  by_cases cg : gone P out j
  · have m0 : SM j = none := by
      cases e : SM j with
      | none => rfl
      | some X => obtain ⟨Z, z, -⟩ := L1 j X e; rw [s1g j cg] at z; cases z
    unfold rS
    rw [m0]
    by_cases c : j = lo
    · cases e : SC j with
      | none => rfl
      | some X => exact if_pos c
    · cases e : SC j with
      | none => rfl
      | some X => obtain ⟨Z, z, -⟩ := L2 j X e; rw [s2g j c cg] at z; cases z
  · have nl : j ≠ lo := by rintro rfl; exact cg ⟨hlo, olo⟩
    unfold rS
    cases e : SC j with
    | none =>
      cases e2 : SM j with
      | none => rfl
      | some X => obtain ⟨Z, z, -⟩ := L1 j X e2; rw [s1n j cg, e] at z; cases z
    | some X =>
      obtain ⟨X2, z1, l1⟩ := L2 j X e
      rw [s2n j cg] at z1
      obtain ⟨X3, z2, l2⟩ := L1 j X2 z1
      rw [s1n j cg, e] at z2
      cases z2
      rw [z1]
      show (if j = lo then 0 else rsn P j X) = if j = 99 then 0 else rsn P j X2
      rw [if_neg nl, if_neg (by omega), rsn_e24 ⟨hW, hv, hS⟩ hj (leX_anti l1 l2)]
end Without3
