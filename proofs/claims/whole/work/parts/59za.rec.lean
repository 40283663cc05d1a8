/-! LOAD: the class's loop against the reference's recursion -/
/-- where both stand, deep in blocks: the statement and block around -/
def SH (d deep : Nat) (par blk : Int32) (N : Nat) (P : Nat → Int32) (I : Nat → Nat → Int32) (D : Nat → Nat) : Prop := I 1 10 = nI deep ∧ ((deep = 0 ∧ par = -1 ∧ blk = 0) ∨ ∃ q sq, (0 < deep ∧ q < N ∧ par = nI q) ∧ (I 34 (deep - 1) = nI q ∧ I 35 (deep - 1) = blk ∧ (blk = 0 ∨ blk = 1)) ∧ D q + 1 = deep ∧ (P (333 + q) = nI sq ∧ 7 ≤ sq ∧ sq ≤ 10) ∧ I (d + 14) q = nI sq ∧ (blk = 1 → sq = 7 ∨ sq = 9))
def FA (n : Nat) (sw : Bool) (I0 : Nat → Nat → Int32) (L0 : Nat → Nat → Int64) (J0 : Nat → Nat → Int32) (fu p : Nat) (hC : Hp) (y : Option (Int32 × Hp)) : Prop := ∃ m I' L' J' K', m + p ≤ n + 1 ∧ FailTo fu m hC (mkC sw I' L') ∧ y = some (0, mkM J' K') ∧ FLT sw I0 L0 J0 I' L' J'
def STM (b : Nat → Nat) (n : Nat) (sw : Bool) (I0 : Nat → Nat → Int32) (L0 : Nat → Nat → Int64) (J0 : Nat → Nat → Int32) (Z : Nat → Int32) (fu d deep : Nat) : Prop :=
  ∀ p P I L J K (D sp cl : Nat → Nat) N par blk, BC b n sw I0 L0 p I L → BM b n J0 Z p P J K → CTX d P I L K → P 2 = nI N → N ≤ 40 → I d 3 = nI N → SH d deep par blk N P I D → (tk b n p = 21 → deep = 0) → (tk b n p ≤ 5 → 0 < N) → (tk b n p = 22 → 0 < deep) →
    FA n sw I0 L0 J0 fu p (mkC sw I L) (wh5 (MX9_readStatement_R fu) (7 - deep) 0 par blk (nI deep) (mkM J K)) ∨
    ∃ m p' P' I' L' J' K' D' sp' cl' N1, (m + p ≤ p' ∧ p < p') ∧ StepsTo fu m (mkC sw I L) (mkC sw I' L') ∧ wh5 (MX9_readStatement_R fu) (7 - deep) 0 par blk (nI deep) (mkM J K) = some (1, mkM J' K') ∧ BC b n sw I0 L0 p' I' L' ∧ BM b n J0 Z p' P' J' K' ∧ CTX d P' I' L' K' ∧ PO d N P I D sp cl N1 P' I' D' sp' cl' ∧ N < N1 ∧ I' 1 10 = nI deep ∧ (∀ l, l < deep → I' 34 l = I 34 l ∧ I' 35 l = I 35 l) ∧ ∃ f, WB P' sp' cl' f par blk N N1
def BLK (b : Nat → Nat) (n : Nat) (sw : Bool) (I0 : Nat → Nat → Int32) (L0 : Nat → Nat → Int64) (J0 : Nat → Nat → Int32) (Z : Nat → Int32) (fu d deep r : Nat) : Prop :=
  ∀ p P I L J K (D sp cl : Nat → Nat) N i blk f2, n - p ≤ r → BC b n sw I0 L0 p I L → BM b n J0 Z p P J K → CTX d P I L K → P 2 = nI N → N ≤ 40 → I d 3 = nI N → SH d (deep + 1) (nI i) blk N P I D → 0 < N → n - p < f2 →
    FA n sw I0 L0 J0 fu p (mkC sw I L) (wh1 (MX9_readBlock_B11 0 (wh5 (MX9_readStatement_R fu) (6 - deep)) (nI i) blk (nI deep) (fun h2 => (MX9_go fu 0 h2).bind fun h4 => some ((1 : Int32), h4))) f2 (mkM J K)) ∨
    ∃ m p' P' I' L' J' K' D' sp' cl' N1, m + p ≤ p' ∧ StepsTo fu m (mkC sw I L) (mkC sw I' L') ∧ tk b n p' = 21 ∧ wh1 (MX9_readBlock_B11 0 (wh5 (MX9_readStatement_R fu) (6 - deep)) (nI i) blk (nI deep) (fun h2 => (MX9_go fu 0 h2).bind fun h4 => some ((1 : Int32), h4))) f2 (mkM J K) = ((MX9_go fu 0 (mkM J' K')).bind fun h4 => some ((1 : Int32), h4)) ∧ BC b n sw I0 L0 p' I' L' ∧ BM b n J0 Z p' P' J' K' ∧ CTX d P' I' L' K' ∧ PO d N P I D sp cl N1 P' I' D' sp' cl' ∧ I' 1 10 = nI (deep + 1) ∧ (∀ l, l < deep + 1 → I' 34 l = I 34 l ∧ I' 35 l = I 35 l) ∧ ∃ f, WB P' sp' cl' f (nI i) blk N N1
section Rec
variable {b : Nat → Nat} {n : Nat} {sw : Bool} {I0 : Nat → Nat → Int32} {L0 : Nat → Nat → Int64} {J0 : Nat → Nat → Int32} {Z : Nat → Int32} {fu d : Nat}
theorem SH_PO {deep N N1 : Nat} {par blk : Int32} {P P' : Nat → Int32} {I I' : Nat → Nat → Int32} {D D' sp sp' cl cl' : Nat → Nat} (h : SH d deep par blk N P I D) (po : PO d N P I D sp cl N1 P' I' D' sp' cl') (h10 : I' 1 10 = nI deep) (h34 : ∀ l, l < deep → I' 34 l = I 34 l ∧ I' 35 l = I 35 l) : SH d deep par blk N1 P' I' D' := by
  refine ⟨h10, ?_⟩
  rcases h.2 with h0 | ⟨q, sq, ⟨a1, a2, a3⟩, ⟨b1, b2, b3⟩, c, ⟨d1, d2, d3⟩, e, f⟩
  · exact Or.inl h0
  · obtain ⟨e1, ⟨e2, -, -⟩, e5⟩ := po.2.2.1 q a2
    have l := po.1.1.1
    exact Or.inr ⟨q, sq, ⟨a1, by omega, a3⟩, ⟨by rw [(h34 _ (by omega)).1]; exact b1, by rw [(h34 _ (by omega)).2]; exact b2, b3⟩, by rw [e2]; exact c, ⟨by rw [e1 333 (by omega)]; exact d1, d2, d3⟩, by rw [e5 14 (by decide) (by decide)]; exact e, f⟩
theorem B11_y {p : Nat} {P : Nat → Int32} {J : Nat → Nat → Int32} {K : Nat → Nat → Int64} {rs : Nat → Int32 → Int32 → Int32 → Hp → Option (Int32 × Hp)} {i e dp : Int32} {j3 self : Hp → Option (Int32 × Hp)} (tx : TX b n) (hp : p ≤ n) (g : BM b n J0 Z p P J K) (t : tk b n p = 21) : MX9_readBlock_B11 0 rs i e dp j3 self (mkM J K) = j3 (mkM J K) := by
  unfold MX9_readBlock_B11
  rw [show (125 : Int32) = nI 125 from rfl, m_isSign g.1 tx.2 hp (Or.inr (Or.inr ⟨rfl, rfl⟩)), Option.bind_some, if_pos t, if_neg (by decide)]
theorem B11_n {p : Nat} {P : Nat → Int32} {J : Nat → Nat → Int32} {K : Nat → Nat → Int64} {rs : Nat → Int32 → Int32 → Int32 → Hp → Option (Int32 × Hp)} {i e dp : Int32} {j3 self : Hp → Option (Int32 × Hp)} (tx : TX b n) (hp : p ≤ n) (g : BM b n J0 Z p P J K) (t : tk b n p ≠ 21) : MX9_readBlock_B11 0 rs i e dp j3 self (mkM J K) = (rs 0 i e (dp + 1) (mkM J K)).bind fun p8 => if p8.1 = 0 then some ((0 : Int32), p8.2) else self p8.2 := by
  unfold MX9_readBlock_B11
  rw [show (125 : Int32) = nI 125 from rfl, m_isSign g.1 tx.2 hp (Or.inr (Or.inr ⟨rfl, rfl⟩)), Option.bind_some, if_neg t, if_pos rfl]
theorem blk_of (tx : TX b n) (hd : dr' sw = d) (hfu : 1000 < fu) {deep : Nat} (h5 : deep < 5) (st : STM b n sw I0 L0 J0 Z fu d (deep + 1)) : ∀ r, BLK b n sw I0 L0 J0 Z fu d deep r := by
  intro r
  induction r with
  | zero =>
    intro p P I L J K D sp cl N i blk f2 hr h g cx eN N40 i3 sh N0 hf
    -- the end within a block
    have t22 : tk b n p = 22 := tk_end.mpr (by omega)
    obtain ⟨f2, rfl⟩ : ∃ f, f2 = f + 1 := ⟨f2 - 1, by omega⟩
    rw [wh1, B11_n tx h.1 g (by omega), nI_1]
    rcases st p P I L J K D sp cl N (nI i) blk h g cx eN N40 i3 sh (fun z => by omega) (fun z => by omega) (fun _ => by omega) with ⟨m, I1, L1, J1, K1, m1, m2, m3, m4⟩ | ⟨m, p1, P1, I1, L1, J1, K1, D1, sp1, cl1, N1, ⟨m1, m1'⟩, -, -, h1, -⟩
    · rw [show 6 - deep = 7 - (deep + 1) by omega, m3, Option.bind_some]
      exact Or.inl ⟨m, I1, L1, J1, K1, m1, m2, rfl, m4⟩
    · have := h1.1; omega
  | succ r ih =>
    intro p P I L J K D sp cl N i blk f2 hr h g cx eN N40 i3 sh N0 hf
    obtain ⟨f2, rfl⟩ : ∃ f, f2 = f + 1 := ⟨f2 - 1, by omega⟩
    rw [wh1]
    by_cases c : tk b n p = 21
    · rw [B11_y tx h.1 g c]
      exact Or.inr ⟨0, p, P, I, L, J, K, D, sp, cl, N, by omega, st_refl, c, rfl, h, g, cx, PO_refl N40 eN i3, sh.1, fun _ _ => ⟨rfl, rfl⟩, 0, rfl⟩
    · rw [B11_n tx h.1 g c, nI_1]
      rcases st p P I L J K D sp cl N (nI i) blk h g cx eN N40 i3 sh (fun z => absurd z c) (fun _ => N0) (fun _ => by omega) with ⟨m, I1, L1, J1, K1, m1, m2, m3, m4⟩ | ⟨m, p1, P1, I1, L1, J1, K1, D1, sp1, cl1, N1, ⟨m1, m1'⟩, m2, m3, h1, g1, cx1, po1, n1, i10, i34, f, wb⟩
      · rw [show 6 - deep = 7 - (deep + 1) by omega, m3, Option.bind_some]
        exact Or.inl ⟨m, I1, L1, J1, K1, m1, m2, rfl, m4⟩
      · rw [show 6 - deep = 7 - (deep + 1) by omega, m3, Option.bind_some]
        simp only [n10, if_false]
        have pn := h1.1
        have sh1 := SH_PO sh po1 i10 i34
        rcases ih p1 P1 I1 L1 J1 K1 D1 sp1 cl1 N1 i blk f2 (by omega) h1 g1 cx1 po1.1.2.1 po1.1.1.2 po1.1.2.2 sh1 (by omega) (by omega) with ⟨m', I2, L2, J2, K2, q1, q2, q3, q4⟩ | ⟨m', p2, P2, I2, L2, J2, K2, D2, sp2, cl2, N2, q1, q2, q3, q4, h2, g2, cx2, po2, j10, j34, f', wb'⟩
        · rw [show 6 - deep = 7 - (deep + 1) by omega] at q3
          exact Or.inl ⟨m + m', I2, L2, J2, K2, by omega, st_fail m2 q2, q3, q4⟩
        · rw [show 6 - deep = 7 - (deep + 1) by omega] at q4
          refine Or.inr ⟨m + m', p2, P2, I2, L2, J2, K2, D2, sp2, cl2, N2, by omega, st_trans m2 q2, q3, q4, h2, g2, cx2, PO_trans cx1 po1 po2, j10, fun l hl => ⟨by rw [(j34 l hl).1, (i34 l hl).1], by rw [(j34 l hl).2, (i34 l hl).2]⟩, f + f', WB_app f N N1 (PO_WB po2 wb) f' wb'⟩
end Rec
