/-! GLUE: each pair of calls answers alike and keeps what holds between calls -/
section Glue
variable {sw : Bool} {I I' : Nat → Nat → Int32} {L : Nat → Nat → Int64} {J : Nat → Nat → Int32} {K : Nat → Nat → Int64} {fu : Nat} {P P' : Nat → Int32} {D : Nat → Nat}
theorem nxt_P {a c : Int32} (e : ∀ j, 327 ≤ j → P' j = P j) : ∀ r j, nxt P' no a c r j = nxt P no a c r j := by
  intro r
  induction r with
  | zero => intro j; rfl
  | succ r ih =>
    intro j
    show (if no j = false ∧ P' (493 + j) = a ∧ P' (533 + j) = c then nI j else nxt P' no a c r (j + 1)) = (if no j = false ∧ P (493 + j) = a ∧ P (533 + j) = c then nI j else nxt P no a c r (j + 1))
    rw [e (493 + j) (by omega), e (533 + j) (by omega), ih]
theorem beh_P (e2 : P' 2 = P 2) (e : ∀ j, 327 ≤ j → P' j = P j) : ∀ f i, beh P' no f i = beh P no f i := by
  have t : nT P' = nT P := congrArg nN e2
  intro f
  induction f with
  | zero => intro i; simp only [beh, e2]
  | succ f ih =>
    intro i
    simp only [beh, nxt_P e, ih, t, e2, e (493 + i) (by omega), e (533 + i) (by omega), e (333 + nN (P (493 + i))) (by omega)]
theorem REL_tell {y : Nat → Nat → Int32} (h : REL kSo sw I L J) (hW : WFK P') (hR : CRk (pid sw) I' P') (eP : ∀ j, j < 3 ∨ 327 ≤ j → P' j = J 2 j) (eI : ∀ b, b ≠ 0 → b ≠ 227 → (b < pid sw + 6 ∨ pid sw + 8 < b) → I' b = I b) (e0 : I' 0 = up (up (up (I 0) 7 0) 8 0) 9 0) (e227 : ∀ i, i < 40 → I' 227 i = -1) : REL kSo sw I' L (ur (ur J 2 P') 0 (up (J 0) 5 0)) := by
  obtain ⟨⟨n, t1, t2, t3, t4⟩, ⟨-, s2, s3⟩, ⟨D, ⟨w1, w2, w3⟩, c1, c2, c3⟩, s31, r, -, -, -⟩ := h
  have pp : pid sw = 5 ∨ pid sw = 228 := pid_P
  have q0 : nK P' = nK (J 2) := congrArg nN (eP 0 (by omega))
  have q1 : nV P' = nV (J 2) := congrArg nN (eP 1 (by omega))
  have q2 : nT P' = nT (J 2) := congrArg nN (eP 2 (by omega))
  have qv : ∀ v, vK P' v = vK (J 2) v := fun v => congrArg nN (eP (327 + v) (by omega))
  have h40 := w1.1.2.2.2
  have qm : ∀ k, k < nK (J 2) → nM P' k = nM (J 2) k := fun k hk => by
    have a1 := (hR.2 k (by omega)).2.2.1
    have a2 := (c1.2 k hk).2.2.1
    rw [eI _ (by omega) (by omega) (by omega)] at a1
    exact congrArg nN (a1.symm.trans a2)
  have qs : ∀ k m, k < nK (J 2) → m < nM (J 2) k → pSo P' k m = pSo (J 2) k m := fun k m hk hm => by
    have a1 := ((hR.2 k (by omega)).2.2.2 m (by rw [qm k hk]; exact hm)).1
    have a2 := ((c1.2 k hk).2.2.2 m hm).1
    rw [eI _ (by omega) (by omega) (by omega)] at a1
    exact a1.symm.trans a2
  have lY : ∀ i, lkY P' no i = lkY (J 2) no i := fun i => by
    unfold lkY
    simp only [nxt_P (fun j hj => eP j (Or.inr hj)), beh_P (eP 2 (by omega)) (fun j hj => eP j (Or.inr hj)), q2, eP (333 + i) (by omega)]
  have lN' : ∀ i, lkN P' no i = lkN (J 2) no i := fun i => by
    unfold lkN
    simp only [nxt_P (fun j hj => eP j (Or.inr hj)), beh_P (eP 2 (by omega)) (fun j hj => eP j (Or.inr hj)), q2, eP (333 + i) (by omega)]
  have j2 : ur (ur J 2 P') 0 (up (J 0) 5 0) 2 = P' := by rw [ur_ne (by decide), ur_at]
  refine ⟨⟨n, t1, by rw [eI 2 (by decide) (by decide) (by omega)]; exact t2, by rw [ur_at, up_ne (by decide)]; exact t3, fun j hj => by rw [eI 3 (by decide) (by decide) (by omega), ur_ne (by decide), ur_ne (by decide)]; exact t4 j hj⟩, ?_, ?_, by rw [ur_at, up_ne (by decide)]; exact s31, r, ?_, ?_, ?_⟩
  · rw [e0, ur_at]
    exact ⟨rfl, s2, s3⟩
  · rw [j2]
    refine ⟨D, ⟨hW, fun v hv => ?_, fun i hi => ⟨?_, ?_⟩⟩, hR, ?_, ?_⟩
    · rw [eP _ (by omega), qv, q0]; exact w2 v (by omega)
    · obtain ⟨so, o1, o2, o3⟩ := (w3 i (by omega)).1
      refine ⟨so, o1, by rw [eP _ (by omega)]; exact o2, fun hso => ?_⟩
      obtain ⟨v, v1, v2, v3, v4⟩ := o3 hso
      refine ⟨v, by omega, by rw [eP _ (by omega)]; exact v2, fun a1 a2 => ?_, fun a1 a2 => ?_⟩
      · obtain ⟨w, x1, x2, x3, x4⟩ := v3 a1 a2
        exact ⟨w, by omega, x2, by rw [eP _ (by omega)]; exact x3, by rw [eP _ (by omega), eP _ (by omega)]; exact x4⟩
      · obtain ⟨m, x1, x2, x3⟩ := v4 a1 a2
        have vk := (w2 v v1).2
        exact ⟨m, by rw [qv, qm _ vk]; exact x1, by rw [eP _ (by omega)]; exact x2, by rw [qv, qs _ _ vk x1]; exact x3⟩
    · obtain ⟨o1, o2⟩ := (w3 i (by omega)).2
      refine ⟨o1, ?_⟩
      rw [eP _ (by omega), eP _ (by omega)]
      rcases o2 with o2 | ⟨q, x1, x2, x3, x4, x5⟩
      · exact Or.inl o2
      · exact Or.inr ⟨q, x1, x2, x3, by rw [eP _ (by omega)]; exact x4, by rw [eP (333 + q) (by omega)]; exact x5⟩
    · unfold CRv
      rw [eI (pid sw) (by omega) (by omega) (by omega), eI (pid sw + 13) (by omega) (by omega) (by omega), eP 1 (by omega), q1]
      exact ⟨c2.1, fun v hv => by rw [eP _ (by omega)]; exact c2.2 v hv⟩
    · unfold CRs
      rw [eI (pid sw) (by omega) (by omega) (by omega), eI (pid sw + 14) (by omega) (by omega) (by omega), eI (pid sw + 15) (by omega) (by omega) (by omega), eI (pid sw + 16) (by omega) (by omega) (by omega), eI (pid sw + 17) (by omega) (by omega) (by omega), eI (pid sw + 18) (by omega) (by omega) (by omega), eI (pid sw + 22) (by omega) (by omega) (by omega), eI (pid sw + 23) (by omega) (by omega) (by omega), eI (pid sw + 24) (by omega) (by omega) (by omega), eP 2 (by omega), q2]
      refine ⟨c3.1, fun i hi => ?_⟩
      rw [eP _ (by omega), eP _ (by omega), eP _ (by omega), eP _ (by omega), beh_P (eP 2 (by omega)) (fun j hj => eP j (Or.inr hj)), lY, lN']
      exact c3.2 i hi
  · exact Or.inl (by rw [e0]; rfl)
  · rw [j2]
    intro i hi
    exact Or.inl (e227 i (by omega))
  · exact Or.inl (by rw [e0]; rfl)
theorem OPR_SA {x y : Option (Int32 × Hp)} (h : REL kSo sw I L J) (s : SA x y sw I L J K) : OPR kSo x y := OPR_SC okS_o h (sb_sc (sa_sb s))
theorem OPR_TL {x y : Option (Int32 × Hp)} (h : REL kSo sw I L J) (s : TL x y sw I L J K) : OPR kSo x y := by
  rcases s with s | ⟨r, I', P', e1, e2, a1, a2, a3, a4, a5, a6⟩
  · exact OPR_SA h s
  · exact ⟨r, _, _, e1, e2, sw, I', L, _, K, rfl, rfl, REL_tell (y := I) h a1 a2 a3 a4 a5 a6⟩
theorem op_feed {a b c d e : Int32} (h : REL kSo sw I L J) (hfu : 5 < fu) : OPR kSo (MX8_feed 0 a b c d e (mkC sw I L)) (MX9_feed fu 0 a b c d e (mkM J K)) := by
  obtain ⟨⟨n, t1, t2, t3, t4⟩, ⟨s1, s2, s3⟩, ⟨D, w1, w2⟩, s31, r, f1, g1, k1⟩ := h
  obtain ⟨z, I', J', e1, e2, n', h1, q1, q2, q3, ⟨q4, q5⟩, q6, q7⟩ := fr_feed (sw := sw) (I := I) (I0 := I) (J := J) (J0 := J) (L := L) (K := K) (a := a) (b := b) (c := c) (d := d) (e := e) (fu := fu) (n := n) ⟨t2, t3, t4, ⟨fun _ _ _ => rfl, fun _ _ => rfl⟩, fun _ _ _ => rfl, fun _ _ => rfl⟩ t1 hfu
  have pp : pid sw = 5 ∨ pid sw = 228 := pid_P
  have j2 : J' 2 = J 2 := q6 2 (by decide) (by decide)
  refine ⟨z, _, _, e1, e2, sw, I', L, J', K, rfl, rfl, ⟨n', h1, q1, q2, q3⟩, ?_, ⟨D, by rw [j2]; exact w1, by rw [j2]; exact CR_fr pid_P w2 (fun b b1 b2 => q4 b (by omega) (by omega))⟩, by rw [q7 31 (by decide)]; exact s31, r, ?_, ?_, ?_⟩
  · rw [q4 0 (by decide) (by decide), q7 5 (by decide), q7 6 (by decide), q7 7 (by decide)]; exact ⟨s1, s2, s3⟩
  · rw [j2]
    unfold kF
    rw [q4 0 (by decide) (by decide)]
    rcases f1 with q | ⟨q, u⟩
    · exact Or.inl q
    · exact Or.inr ⟨q, FlowOK_fr u (fun b b1 b2 => q4 b (by omega) (by omega))⟩
  · rw [j2]
    intro i hi
    rw [q4 227 (by decide) (by decide)]
    exact g1 i hi
  · rw [j2]
    exact okS_o _ _ _ _ _ (fun b b1 b2 => q4 b (by omega) (by omega)) (by rw [q4 0 (by decide) (by decide)]) rfl k1
theorem oks_all : OKS (INVk kSo) 10000 := by
  refine ⟨?_, ?_, ?_, ?_, ?_, ?_, ?_, ?_, ?_, ?_, ?_, ?_, ?_, ?_, ?_, ?_, ?_, ?_, ?_, ?_, ?_, ?_, ?_, ?_, ?_, ?_⟩
  all_goals rintro _ _ ⟨sw, I, L, J, K, rfl, rfl, h⟩
  all_goals obtain ⟨D, hA, hC⟩ := h.2.2.1
  · exact ⟨I 0 9, rfl, by rw [h.2.1.1]; rfl⟩
  · intro a b c d e; exact op_feed h (by decide)
  · intro a; exact op_load h (by decide)
  · intro a
    simp only [MX8_fault, MX9_fault, c8_g, m_g, c8_fI, m_fI, Option.bind_some]
    rw [h.2.1.2.1, h.2.1.2.2]
    refine ⟨if a = 0 then J 0 6 else if a = 1 then J 0 7 else -1, ?_, ?_⟩ <;> (split; rfl; split <;> rfl)
  · intro a; exact OPR_SA h (sa_many (K := K) hC.1 hC.2.1 hC.2.2.1)
  · intro a b; exact OPR_SC okS_o h (sb_sc (sb_kind (K := K) hA.1 hC.1 hC.2.1 (by decide)))
  · intro a b c; exact OPR_SA h (sa_method (K := K) hA.1 hC.1 (by decide))
  · intro a b c z hz; exact OPR_SA h (sa_comes (K := K) hA.1 hC.1)
  · intro a b c z t hz; exact OPR_TL h (tl_tell (K := K) hA.1 hC.1 (by decide))
  · intro a b; exact OPR_SC okS_o h (sb_sc (sb_toEnd (K := K) hA.1 hC.1 (by decide)))
  · intro a b; exact OPR_SC okS_o h (sb_sc (sb_towards (K := K) hA.1 hC.1 (by decide)))
  · intro a b c; exact OPR_SC okS_o h (sb_sc (sb_alike (K := K) hA.1 hC.1 (by decide)))
  · intro a b c z; exact OPR_SC okS_o h (sc_rows (K := K) hA.1 hC.1 (by decide))
  · intro a b; exact OPR_SC okS_o h (sc_statement (K := K) hA.1.1 hA.2.2 hC.2.2 (by decide))
  · intro a; exact OPR_SA h (sa_variable (K := K) hA.1.1 hC.2.1)
  · intro a; exact op_check okS_o h (by decide)
  · intro a b c; exact op_at okS_o h (by decide)
  · intro a; exact op_without okS_o h (by decide)
  · exact op_mend okS_o h (by decide)
  · intro a; exact op_paths h (by decide)
  · intro a; exact op_path h (by decide)
  · intro a b c; exact op_truly h (by decide)
  · intro a; exact op_left h (by decide)
  · intro a; exact op_never h (by decide)
  · intro a b; exact op_run okS_o h (by decide)
  · intro a b c; exact op_runs okS_o h (by decide)
end Glue
