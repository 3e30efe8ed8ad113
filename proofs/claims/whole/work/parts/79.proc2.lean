/-! PURE: a process's program, its slots, its turns, on both sides -/
/-- what a part of the reading ends in: both go on, or both have the same error -/
def gEnd (Mc : gMem) (b : Nat) (Mm : gMem) (a : Nat) (x : gRow) (n ps : Int) (F : Option (Int × gMem)) (k : gMem → Option (Int × gMem)) (G : Option gMem) (p : Int) : Prop :=
  (∃ Mc' Mm' ps' pb' kd' dg' R', F = k Mc' ∧ G = some Mm' ∧ PA Mc' b Mm' a x n ps' pb' kd' dg' R' ∧ R' 1 = p + 1 ∧ ps < ps' ∧ gCs b Mc Mc' ∧ gMR a Mm Mm') ∨
  (∃ Mc' Mm', F = some (0, Mc') ∧ G = some Mm' ∧ gER Mc' b Mm' a ∧ gCE b Mc Mc' ∧ gMR a Mm Mm')
section Proc2
variable {M M' Mc Mm Mc' Mm' : gMem} {b a d : Nat} {x : gRow} {n ps pb kd dg K p : Int} {g : Nat → Nat} {r R : gRow}
theorem gEnd.weak {Mc0 Mm0 : gMem} {ps0 : Int} {F : Option (Int × gMem)} {k : gMem → Option (Int × gMem)} {G : Option gMem} (h : gEnd Mc b Mm a x n ps F k G p) (hc : gCs b Mc0 Mc) (hm : gMR a Mm0 Mm) (hp : ps0 ≤ ps) : gEnd Mc0 b Mm0 a x n ps0 F k G p := by
  rcases h with ⟨Mc', Mm', ps', pb', kd', dg', R', e1, e2, A, q1, q2, F1, F2⟩ | ⟨Mc', Mm', e1, e2, E, F1, F2⟩
  · exact Or.inl ⟨Mc', Mm', ps', pb', kd', dg', R', e1, e2, A, q1, by omega, hc.trans F1, hm.trans F2⟩
  · exact Or.inr ⟨Mc', Mm', e1, e2, E, hc.e.trans F1, hm.trans F2⟩
theorem rup_rsp_1 {k v w : Int} (hp : 0 ≤ p) (hk : 0 ≤ k) : rsp (rup r 1 w) p k v = rup (rsp r p k v) 1 w := rup_comm (by rw [tn1]; omega)
theorem rp_rup_1 {q k w : Int} (hq : 0 ≤ q) (hk : 0 ≤ k) : rp (rup r 1 w) q k = rp r q k := rp_rup (by rw [tn1]; omega)
theorem rup_1_at {j : Nat} {w : Int} (hj : ¬ j = 1) : rup r 1 w j = r j := rup_miss (by rw [tn1]; exact hj)
theorem PI.o {R' : gRow} (h : PI Mc b Mm a x n ps pb kd dg p R) (hj : ∀ j : Nat, j < 6 → R' j = R j) (hp : ∀ j : Nat, 6 + 86 * (p + 1) ≤ (j : Int) → j < 946 → R' j = R j) : R' 1 = p + 1 ∧ qLo R' ∧ R' 2 = 0 ∧ qFreP R' (p + 1) ∧ qFreS R' 0 := by
  obtain ⟨-, -, h1, h2, ⟨l0, l1, l2, l3, l4, l5⟩, h3, h4, h5, -, -⟩ := h
  refine ⟨by rw [hj 1 (by omega)]; exact h1, ?_, by rw [hj 2 (by omega)]; exact h3, fun j q1 q2 => by rw [hp j q1 (by omega)]; exact h4 j q1 q2, fun j q1 q2 => by rw [hp j (by omega) q2]; exact h5 j q1 q2⟩
  unfold qLo
  rw [hj 0 (by omega), hj 1 (by omega), hj 2 (by omega), hj 3 (by omega), hj 4 (by omega), hj 5 (by omega)]
  exact ⟨l0, l1, l2, l3, l4, l5⟩
theorem rup_back {R : gRow} {p : Int} (h : R 1 = p + 1) : rup (rup R 1 p) 1 (p + 1) = R := by
  rw [rup_over, ← h]
  exact rup_same
/-- the semicolon, and the process counts -/
theorem t_semi {k : gMem → Option (Int × gMem)} {fu : Nat} (hX : BX x n) (h : PI Mc b Mm a x n ps pb kd dg p R) : gEnd Mc b Mm a x n ps (gth (fX5_takeSign g b 59 Mc) k) k (fX9_readsProcess_176 g (fu + 1) a p (-1) Mm) p := by
  obtain ⟨T, hr, h1, hp, hlo, h2, hfp, hfs, hO, hD⟩ := h
  have hto := T.to
  unfold fX9_readsProcess_176
  rw [if_pos rfl, m_isS1 hX (by omega) T, Option.bind_some]
  by_cases hs : kd = 2 ∧ x ps.toNat = 59
  · obtain ⟨M1, N1, ps1, pb1, kd1, dg1, e1, e2, T1, q1, F1, F2⟩ := t_next (g := g) hX T
    rw [if_pos hs, m_must1 T.m14, e2, Option.bind_some, if_pos (show (0 : Int) ≤ 1 ∧ (1 : Int) < 1190 by omega), if_pos (show (0 : Int) ≤ 1 ∧ (1 : Int) < 1190 by omega), gst_eq, c_sign1 (by omega) T hs, e1]
    have hN : N1 (a + 1) = rup R 1 p := by rw [F2.1 (a + 1) (by omega)]; exact hr
    have e3 : N1 (a + 1) (1 : Int).toNat = p := by rw [hN]; exact rup_hit rfl
    rw [e3, gwi_eq (by omega) (by omega)]
    have e4 : gup N1 (a + 1) (1 : Int).toNat (p + 1) = mrow N1 (a + 1) R := by
      have := mrow_up N1 (a + 1) (N1 (a + 1)) 1 (p + 1)
      rw [mrow_self, hN, rup_back h1] at this
      exact this
    rw [e4]
    refine Or.inl ⟨M1, mrow N1 (a + 1) R, ps1, pb1, kd1, dg1, R, rfl, rfl, ⟨T1.row, mrow_at _ _ _, hlo, h2, by rw [h1]; exact hfp, hfs, Or.inr hO, hD.tok hO F1.1⟩, h1, ?_, F1.cs, F2.mr.trans gMR.row⟩
    have := hto.2.2.2.2.1 (by omega)
    omega
  · rw [if_neg hs, m_must0 T.m14, Option.bind_some, if_pos (show (0 : Int) ≤ 1 ∧ (1 : Int) < 1190 by omega), if_pos (show (0 : Int) ≤ 1 ∧ (1 : Int) < 1190 by omega), gst_eq, T.m10, c_sign0 (by omega) T hs]
    exact Or.inr ⟨_, _, rfl, rfl, (gER.of (by omega)).up, gCE.err, gMR.err.trans gMR.up⟩
/-- the program up to its semicolon -/
theorem t_prog {k : gMem → Option (Int × gMem)} (hX : BX x n) : ∀ (m : Nat) (Mc Mm : gMem) (ps pb kd dg : Int) (R : gRow) (c : Int) (fu fu' : Nat), PI Mc b Mm a x n ps pb kd dg p R → rp R p 3 + m = 24 → m < fu → m + 1 < fu' → (c = -1 ∨ (0 ≤ c ∧ c ≤ 13 ∧ kd = 0)) → fX5_kindOfWord g b Mc = some c → gEnd Mc b Mm a x n ps (gth (fX5_readProgram_2 g fu b (b + 2 + 1 + (8 + 4 * p.toNat)) (rp R p 3) Mc) (fun M => gth (fX5_takeSign g b 59 M) k)) k (fX9_readsProcess_176 g fu' a p c Mm) p := by
  intro m
  induction m with
  | zero =>
    intro Mc Mm ps pb kd dg R c fu fu' h hm hf hf' hc hk
    obtain ⟨fu, rfl⟩ := fuS hf
    obtain ⟨fu', rfl⟩ := fuS hf'
    have h0 := h
    obtain ⟨T, hr, h1, hp, hlo, h2, hfp, hfs, hO, hD⟩ := h
    unfold fX5_readProgram_2
    rw [if_neg (by omega)]
    by_cases h59 : Mc b 7 = 59
    · have hsg := ((t7 T).2.2.2 59 (by omega) (by omega)).mp h59
      have hc1 : c = -1 := hc.resolve_right (fun z => by have := hsg.1; omega)
      rw [if_pos h59, gth_1, hc1]
      exact t_semi hX h0
    · rw [if_neg h59, hk, Option.bind_some]
      rcases hc with rfl | hc
      · rw [if_pos rfl, c_fails, Option.bind_some, T.c6]
        unfold fX9_readsProcess_176
        have hsg : ¬ (kd = 2 ∧ x ps.toNat = 59) := fun z => h59 (((t7 T).2.2.2 59 (by omega) (by omega)).mpr z)
        rw [if_pos rfl, m_isS1 hX (by omega) T, Option.bind_some, if_neg hsg, m_must0 T.m14, Option.bind_some, if_pos (by omega), if_pos (by omega), gst_eq, T.m10]
        exact Or.inr ⟨_, _, rfl, rfl, (gER.of (by omega)).up, gCE.err, gMR.err.trans gMR.up⟩
      · have e4 : Mc (b + 2 + 1 + (8 + 4 * p.toNat)) 4 = rp R p 3 := (hD.2.1 p hp.1 (by omega)).f.2.2.2.1
        rw [if_neg (by omega), e4, if_neg (by omega), c_fails, T.c6]
        have e24 : rp (rup R 1 p) p 3 = 24 := by rw [rp_rup_1 hp.1 (by omega)]; omega
        have hw : ¬ gEm Mm a (-6) ps a 14 = 0 := by rw [gEm_14]; omega
        have er : fX9_readsCommand g a p c Mm = some (gEm Mm a (-6) ps) := by
          unfold fX9_readsCommand
          rw [m_ofR hr (by omega) (by omega), Option.bind_some, if_pos e24, m_fails T.m14, Option.bind_some, T.m10, w_19 hw]
        obtain ⟨fu'', rfl⟩ := fuS (show 0 < fu' by omega)
        obtain ⟨v, ev⟩ := w_176 (g := g) (p := p) (fu := fu'') hw
        have e6 : fX9_readsProcess_176 g (fu'' + 1 + 1) a p c Mm = some (gup (gEm Mm a (-6) ps) (a + 1) 1 v) := by
          conv => lhs; unfold fX9_readsProcess_176
          rw [if_neg (by omega), er, Option.bind_some, m_codex hw, Option.bind_some, ev]
        rw [e6]
        exact Or.inr ⟨_, _, rfl, rfl, (gER.of (by omega)).up, gCE.err, gMR.err.trans gMR.up⟩
  | succ m ih =>
    intro Mc Mm ps pb kd dg R c fu fu' h hm hf hf' hc hk
    obtain ⟨fu, rfl⟩ := fuS hf
    obtain ⟨fu', rfl⟩ := fuS hf'
    have h0 := h
    obtain ⟨T, hr, h1, hp, hlo, h2, hfp, hfs, hO, hD⟩ := h
    have hpR : 0 ≤ p ∧ p < R 1 := by omega
    have h3 := (hO.p hpR).2.2.2.1
    unfold fX5_readProgram_2
    rw [if_neg (by omega)]
    by_cases h59 : Mc b 7 = 59
    · have hsg := ((t7 T).2.2.2 59 (by omega) (by omega)).mp h59
      have hc1 : c = -1 := hc.resolve_right (fun z => by have := hsg.1; omega)
      rw [if_pos h59, gth_1, hc1]
      exact t_semi hX h0
    · rw [if_neg h59, hk, Option.bind_some]
      rcases hc with rfl | hc
      · rw [if_pos rfl, c_fails, Option.bind_some, T.c6]
        unfold fX9_readsProcess_176
        have hsg : ¬ (kd = 2 ∧ x ps.toNat = 59) := fun z => h59 (((t7 T).2.2.2 59 (by omega) (by omega)).mpr z)
        rw [if_pos rfl, m_isS1 hX (by omega) T, Option.bind_some, if_neg hsg, m_must0 T.m14, Option.bind_some, if_pos (by omega), if_pos (by omega), gst_eq, T.m10]
        exact Or.inr ⟨_, _, rfl, rfl, (gER.of (by omega)).up, gCE.err, gMR.err.trans gMR.up⟩
      · have e4 : Mc (b + 2 + 1 + (8 + 4 * p.toNat)) 4 = rp R p 3 := (hD.2.1 p hp.1 (by omega)).f.2.2.2.1
        obtain ⟨M1, N1, ps1, pb1, kd1, dg1, e1, e2, T1, q1, F1, F2⟩ := t_next (g := g) hX T
        rw [if_neg (by omega), e4, if_pos (by omega), e1, Option.bind_some, gst_eq]
        have e3 : rp (rup R 1 p) p 3 = rp R p 3 := rp_rup_1 hp.1 (by omega)
        have T1' : TK (gup M1 b 10 0) b N1 a x n ps1 pb1 kd1 dg1 := T1.cc (fun j q => gup_miss (by omega)) (gup_row (by omega))
        have hN : N1 (a + 1) = rup R 1 p := by rw [F2.1 (a + 1) (by omega)]; exact hr
        have hN0 : N1 (a + 1) 0 = R 0 := by rw [hN]; exact rup_1_at (by omega)
        have hd4 : gup M1 b 10 0 (b + 2) 4 = R 0 := by rw [gup_row (by omega), F1.1 (b + 2) (by omega)]; exact hD.1.1
        have hlt := T.to.2.2.2.2.1 (by omega)
        have V := t_cmdval (g := g) (p := p) (c := c) (i := rp R p 3) (ad := b + 2 + 1 + (8 + 4 * p.toNat)) (Kc := fX5_readProgram_2 g fu) hX T1' ⟨hc.1, hc.2.1⟩ (gup_hit rfl rfl) hN0 hd4 hlo.1
        have Fc : gCs b Mc (gup M1 b 10 0) := F1.cs.trans (gFS.up (by omega)).cs
        have eRC : fX9_readsCommand g a p c Mm = (if c = 0 then (fX9_takesValue g a N1).bind fun q_14 => fX9_readsCommand_81 g a p c (rp R p 3) q_14.1 q_14.2 else (fX9_isOfSlot g c).bind fun x_5 => if x_5 = 0 then (if c = 11 then (fX9_readsCommand_70 g a p c (rp R p 3) N1) else (if c = 12 then (fX9_readsCommand_70 g a p c (rp R p 3) N1) else (fX9_readsCommand_81 g a p c (rp R p 3) 0 N1))) else (if (0 : Int) ≤ 0 ∧ (0 : Int) < 1190 then (fX9_takes g a 0 (gwi (N1 (a + 1) (0 : Int).toNat - 1)) N1).bind fun q_12 => fX9_readsCommand_81 g a p c (rp R p 3) q_12.1 q_12.2 else none)) := by
          unfold fX9_readsCommand fX9_readsCommand_19
          rw [m_ofR hr (by omega) (by omega), Option.bind_some, e3, if_neg (by omega), m_must1 T.m14, e2, Option.bind_some]
        rw [← eRC] at V
        rcases V with ⟨v, M2, N2, ps2, pb2, kd2, dg2, a1, a2, T2, a3, a4, a5, G1, G2⟩ | ⟨v, M2, N2, a1, a2, E, G1, G2⟩
        · rw [a1]
          unfold fX5_readProgram_127
          have hD2 : DR M2 (b + 2) R 0 := (hD.tok hO F1.1).tok hO (fun y q => by rw [G1.1 y q, gup_row q])
          obtain ⟨M3, e3', D3, O3, F3⟩ := c_addCmd (g := g) (c := c) (v := v) hO hD2 hpR (by omega) a4
          rw [a3, e3', Option.bind_some, gst_eq, gwi_eq (by omega) (by omega)]
          have hN2 : N2 (a + 1) = rup R 1 p := by rw [G2.1 (a + 1) (by omega)]; exact hN
          have e81 : fX9_readsCommand_81 g a p c (rp R p 3) v N2 = some (mrow N2 (a + 1) (rup (qAddC R p c v) 1 p)) := by
            unfold fX9_readsCommand_81
            rw [if_pos T2.m14, gwi_eq (by omega) (by omega), gwi_eq (by omega) (by omega), gwi_eq (by omega) (by omega), m_setsR hN2 (by omega) (by omega), Option.bind_some, m_sets (by omega) (by omega), Option.bind_some, m_sets (by omega) (by omega), Option.bind_some, rup_rsp_1 hp.1 (by omega), rup_rsp_1 hp.1 (by omega), rup_rsp_1 hp.1 (by omega)]
            rfl
          have T3 : TK M3 b (mrow N2 (a + 1) (rup (qAddC R p c v) 1 p)) a x n ps2 pb2 kd2 dg2 := (T2.desk F3).row
          have Ho : ∀ j : Nat, j < 6 ∨ 694 ≤ j → qAddC R p c v j = R j := fun j q => qAddC_o (by omega) ⟨h3.1, by omega⟩ q
          have hrest := h0.o (R' := qAddC R p c v) (fun j q => Ho j (Or.inl q)) (fun j q1 q2 => by
            by_cases hj : 694 ≤ j
            · exact Ho j (Or.inr hj)
            · have := qAddC_rp (R := R) (c := c) (v := v) (p := p) (q := ((j : Int) - 6) / 86) (k := ((j : Int) - 6) % 86) (by omega) ⟨h3.1, by omega⟩ (by omega) (by omega)
              rw [if_neg (by omega), if_neg (by omega), if_neg (by omega)] at this
              unfold rp at this
              rw [show (6 + 86 * (((j : Int) - 6) / 86) + ((j : Int) - 6) % 86).toNat = j by omega] at this
              exact this)
          obtain ⟨c3, hc3, k1, k2⟩ := t_code (g := g) hX T3 14 0 gF gF (by omega) (by omega) (by unfold gF; omega) (by unfold gF; omega)
          have PI3 : PI M3 b (mrow N2 (a + 1) (rup (qAddC R p c v) 1 p)) a x n ps2 pb2 kd2 dg2 p (qAddC R p c v) := ⟨T3, mrow_at _ _ _, hrest.1, hp, hrest.2.1, hrest.2.2.1, hrest.2.2.2.1, hrest.2.2.2.2, O3, D3⟩
          have e33 : rp (qAddC R p c v) p 3 = rp R p 3 + 1 := by rw [qAddC_rp (by omega) ⟨h3.1, by omega⟩ hp.1 (by omega), if_pos ⟨rfl, rfl⟩]
          have I := ih M3 _ ps2 pb2 kd2 dg2 (qAddC R p c v) c3 fu fu' PI3 (by omega) (by omega) (by omega) hc3 k1
          rw [e33] at I
          have e176 : fX9_readsProcess_176 g (fu' + 1) a p c Mm = fX9_readsProcess_176 g fu' a p c3 (mrow N2 (a + 1) (rup (qAddC R p c v) 1 p)) := by
            conv => lhs; unfold fX9_readsProcess_176
            rw [if_neg (by omega), a2, e81, Option.bind_some]
            unfold fX9_codeHere
            rw [k2, Option.bind_some]
          rw [e176]
          exact I.weak ((Fc.trans G1.cs).trans F3.cs) ((F2.mr.trans G2.mr).trans gMR.row) (by omega)
        · rw [a1]
          have e81 : fX9_readsCommand_81 g a p c (rp R p 3) v N2 = some N2 := w_81 E.ne
          obtain ⟨fu'', rfl⟩ := fuS (show 0 < fu' by omega)
          obtain ⟨w, ew⟩ := w_176 (g := g) (p := p) (fu := fu'') E.ne
          have e176 : fX9_readsProcess_176 g (fu'' + 1 + 1) a p c Mm = some (gup N2 (a + 1) 1 w) := by
            conv => lhs; unfold fX9_readsProcess_176
            rw [if_neg (by omega), a2, e81, Option.bind_some, m_codex E.ne, Option.bind_some, ew]
          rw [e176]
          exact Or.inr ⟨M2, _, rfl, rfl, E.up, Fc.e.trans G1.ce, (F2.mr.trans G2.mr).trans gMR.up⟩
/-- the colon and the program -/
theorem t_161 {k : gMem → Option (Int × gMem)} (hX : BX x n) (h : PI Mc b Mm a x n ps pb kd dg p R) (h3 : rp R p 3 = 0) : gEnd Mc b Mm a x n ps (gth (fX5_takeSign g b 58 Mc) fun M => gth (fX5_readProgram g b (b + 2 + 1 + (8 + 4 * p.toNat)) M) (fun M => gth (fX5_takeSign g b 59 M) k)) k (fX9_readsProcess_161 g a p Mm) p := by
  have h0 := h
  obtain ⟨T, hr, h1, hp, hlo, h2, hfp, hfs, hO, hD⟩ := h
  have hto := T.to
  unfold fX9_readsProcess_161
  rw [m_isS1 hX (by omega) T, Option.bind_some]
  by_cases hs : kd = 2 ∧ x ps.toNat = 58
  · obtain ⟨M1, N1, ps1, pb1, kd1, dg1, e1, e2, T1, q1, F1, F2⟩ := t_next (g := g) hX T
    obtain ⟨c3, hc3, k1, k2⟩ := t_code (g := g) hX T1 14 0 gF gF (by omega) (by omega) (by unfold gF; omega) (by unfold gF; omega)
    have hN : N1 (a + 1) = rup R 1 p := by rw [F2.1 (a + 1) (by omega)]; exact hr
    have I := t_prog (g := g) (k := k) hX 24 M1 N1 ps1 pb1 kd1 dg1 R c3 gF gF ⟨T1, hN, h1, hp, hlo, h2, hfp, hfs, hO, hD.tok hO F1.1⟩ (by omega) (by unfold gF; omega) (by unfold gF; omega) hc3 k1
    rw [if_pos hs, m_must1 T.m14, e2, Option.bind_some, c_sign1 (by omega) T hs, e1]
    unfold fX9_codeHere
    rw [k2, Option.bind_some]
    rw [h3] at I
    exact I.weak F1.cs F2.mr (by have := hto.1; omega)
  · have hw : ¬ gEm Mm a (-2) ps a 14 = 0 := by rw [gEm_14]; omega
    obtain ⟨v, ev⟩ := w_176 (g := g) (p := p) (fu := 19999) hw
    rw [if_neg hs, m_must0 T.m14, Option.bind_some, T.m10, c_sign0 (by omega) T hs, m_codex hw, Option.bind_some]
    exact Or.inr ⟨_, _, rfl, ev, (gER.of (by omega)).up, gCE.err, gMR.err.trans gMR.up⟩
/-- the slots that it may use -/
theorem t_slots {k : gMem → Option (Int × gMem)} (hX : BX x n) : ∀ (m : Nat) (Mc Mm : gMem) (ps pb kd dg : Int) (R : gRow) (i : Int) (fu fu' : Nat), PI Mc b Mm a x n ps pb kd dg p R → rp R p 3 = 0 → 0 ≤ i → i ≤ ps → (i = 0 ∨ kd = 1) → n - ps < m → m < fu → m < fu' → gEnd Mc b Mm a x n ps (gth (fX5_readMay_17 g fu b (b + 2 + 1 + (8 + 4 * p.toNat)) i Mc) fun M => gth (fX5_takeSign g b 58 M) fun M => gth (fX5_readProgram g b (b + 2 + 1 + (8 + 4 * p.toNat)) M) (fun M => gth (fX5_takeSign g b 59 M) k)) k ((fX9_readsSlots_0 g fu' a p Mm).bind fun M_7 => fX9_readsProcess_161 g a p M_7) p := by
  intro m
  induction m with
  | zero =>
    intro Mc Mm ps pb kd dg R i fu fu' h h3 hi hi2 hk hm hf hf'
    have := h.1.to.1
    omega
  | succ m ih =>
    intro Mc Mm ps pb kd dg R i fu fu' h h3 hi hi2 hk hm hf hf'
    obtain ⟨fu, rfl⟩ := fuS hf
    obtain ⟨fu', rfl⟩ := fuS hf'
    have h0 := h
    obtain ⟨T, hr, h1, hp, hlo, h2, hfp, hfs, hO, hD⟩ := h
    have hto := T.to
    have hn := hX.1
    have hpR : 0 ≤ p ∧ p < R 1 := by omega
    have hi6 : i < 600 := by
      rcases hk with e | e
      · omega
      · have h5 := hto.2.2.2.2.1 (by omega)
        have h6 := hto.1
        omega
    have eC : fX5_readMay_17 g (fu + 1) b (b + 2 + 1 + (8 + 4 * p.toNat)) i Mc = fX5_readMay_38 g (fX5_readMay_17 g fu) b (b + 2 + 1 + (8 + 4 * p.toNat)) i Mc := by
      conv => lhs; unfold fX5_readMay_17
      rw [if_neg (by omega)]
      by_cases e : i = 0
      · rw [if_pos e]
      · rw [if_neg e, if_pos ((t7 T).2.1.mpr (hk.resolve_left e))]
    rw [eC]
    unfold fX5_readMay_38 fX9_readsSlots_0
    have hd4 : Mc (b + 2) 4 = R 0 := hD.1.1
    have hN0 : Mm (a + 1) (0 : Int).toNat = R 0 := by rw [tn0, hr]; exact rup_1_at (by omega)
    rw [gst_eq, hd4, hN0, T.c6, if_pos (show (0 : Int) ≤ 0 ∧ (0 : Int) < 1190 by omega), gwi_eq (by have := hlo.1; omega) (by have := hlo.1; omega), m_stands T.m14 T.m12 T.m13 T.m10, Option.bind_some]
    have hR0 := hlo.1
    by_cases hq : qNE kd dg 0 (R 0 - 1) = 0
    · have hrg : 0 ≤ dg ∧ dg < R 0 ∧ kd = 1 := by
        unfold qNE at hq
        split at hq
        · split at hq <;> omega
        · omega
      have hlt := hto.2.2.2.2.1 (by omega)
      rw [if_pos hq]
      simp only [gst_eq]
      rw [if_pos T.m14, m_mayUseR hr (by omega), Option.bind_some, rp_rup_1 hp.1 (by omega), c_num (by omega) T, if_pos hq]
      have h10 : TK (gup Mc b 10 dg) b Mm a x n ps pb kd dg := T.cc (fun j q => gup_miss (by omega)) (gup_row (by omega))
      have hv := qAllow_val (k := dg) hO hpR (by omega)
      have h10r : TK (gup Mc b 10 dg) b (mrow Mm (a + 1) (rup (qAllow R p dg) 1 p)) a x n ps pb kd dg := h10.row
      by_cases hb : gand (gshr (rp R p 5) dg) 1 = 1
      · -- told twice
        have hw : ¬ gEm Mm a (-5) ps a 14 = 0 := by rw [gEm_14]; omega
        obtain ⟨M1, N1, ps1, pb1, kd1, dg1, e1, e2, T1, q1, F1, F2⟩ := t_next (g := g) hX h10
        have v10 : M1 b 10 = dg := by rw [F1.2 10 (by omega)]; exact gup_hit rfl rfl
        have hD1 : DR M1 (b + 2) R 0 := hD.tok hO (fun y q => by rw [F1.1 y q, gup_row q])
        obtain ⟨w, ew⟩ := w_161 (g := g) (p := p) hw
        have eG : (fX9_readsSlots_36 g (fX9_readsSlots_0 g fu') a p dg (gEm Mm a (-5) ps)) = some (gEm Mm a (-5) ps) := by
          unfold fX9_readsSlots_36
          rw [if_neg hw]
        rw [if_pos hb, if_neg (show ¬ (1 : Int) = 0 by omega), m_fails T.m14, Option.bind_some, T.m10, eG, Option.bind_some, ew, e1, Option.bind_some, Option.bind_some, if_neg (show ¬ (1 : Int) = 0 by omega)]
        show gEnd Mc b Mm a x n ps (gth ((fX4_mayUse g (b + 2 + 1 + (8 + 4 * p.toNat)) (M1 b 10) M1).bind _) _) _ _ _
        rw [v10, c_mayUse (hD1.2.1 p hp.1 (by omega)), if_pos hb, Option.bind_some, if_neg (show ¬ (1 : Int) = 0 by omega), c_fails]
        refine Or.inr ⟨_, _, rfl, rfl, (gER.of (by omega)).up, ?_, gMR.err.trans gMR.up⟩
        exact ((gFS.up (M := Mc) (j := 10) (v := dg) (by omega)).cs.trans F1.cs).e.trans gCE.err
      · obtain ⟨M1, N1, ps1, pb1, kd1, dg1, e1, e2, T1, q1, F1, F2⟩ := t_next (g := g) hX h10r
        have v10 : M1 b 10 = dg := by rw [F1.2 10 (by omega)]; exact gup_hit rfl rfl
        have hD1 : DR M1 (b + 2) R 0 := hD.tok hO (fun y q => by rw [F1.1 y q, gup_row q])
        have hP1 := hD1.2.1 p hp.1 (by omega)
        have D5 := DR_p (k := 5) (v := gor (rp R p 5) (gshl 1 dg)) hO hD1 hpR (by omega) (Int.le_refl 0)
        have O5 : qOK (qAllow R p dg) 0 := qOK_rsp hO (Int.le_refl 0) hpR hv
        have F5 : gFr (b + 2) M1 (gup M1 (b + 2 + 1 + (8 + 4 * p.toNat)) 6 (gor (rp R p 5) (gshl 1 dg))) := gFr.up (by omega)
        have T5 := T1.desk F5
        have hN1 : N1 (a + 1) = rup (qAllow R p dg) 1 p := by rw [F2.1 (a + 1) (by omega)]; exact mrow_at _ _ _
        have hrest := h0.o (R' := qAllow R p dg) (fun j q => rsp_lo hp.1 (by omega) q) (fun j q1 q2 => by unfold qAllow; exact rup_miss (by omega))
        have e53 : rp (qAllow R p dg) p 3 = 0 := by unfold qAllow; rw [rp_rsp_ne hp.1 hp.1 (by omega) (by omega) (by omega)]; exact h3
        have PI5 : PI (gup M1 (b + 2 + 1 + (8 + 4 * p.toNat)) 6 (gor (rp R p 5) (gshl 1 dg))) b N1 a x n ps1 pb1 kd1 dg1 p (qAllow R p dg) := ⟨T5, hN1, hrest.1, hp, hrest.2.1, hrest.2.2.1, hrest.2.2.2.1, hrest.2.2.2.2, O5, D5⟩
        have Fc : gCs b Mc (gup M1 (b + 2 + 1 + (8 + 4 * p.toNat)) 6 (gor (rp R p 5) (gshl 1 dg))) := ((gFS.up (M := Mc) (j := 10) (v := dg) (by omega)).cs.trans F1.cs).trans F5.cs
        have Fm : gMR a Mm N1 := gMR.row.trans F2.mr
        have eG : (fX9_readsSlots_36 g (fX9_readsSlots_0 g fu') a p dg Mm) = (if kd1 = 1 then fX9_readsSlots_0 g fu' a p N1 else some N1) := by
          unfold fX9_readsSlots_36
          rw [if_pos T.m14, m_ofR hr (by omega) (by omega), Option.bind_some, rp_rup_1 hp.1 (by omega), m_setsR hr (by omega) (by omega), Option.bind_some, rup_rsp_1 hp.1 (by omega)]
          show (fX9_next g a (mrow Mm (a + 1) (rup (qAllow R p dg) 1 p))).bind _ = _
          rw [e2, Option.bind_some, T1.m12]
        rw [if_neg hb, if_pos rfl, eG, e1, Option.bind_some, Option.bind_some, if_neg (show ¬ (1 : Int) = 0 by omega)]
        show gEnd Mc b Mm a x n ps (gth ((fX4_mayUse g (b + 2 + 1 + (8 + 4 * p.toNat)) (M1 b 10) M1).bind fun x_9 => if x_9 = 0 then (fX5_readMay_17 g fu b (b + 2 + 1 + (8 + 4 * p.toNat)) (gwi (i + 1)) (gup M1 (b + 2 + 1 + (8 + 4 * p.toNat)) 6 (gor (M1 (b + 2 + 1 + (8 + 4 * p.toNat)) 6) (gshl 1 (M1 b 10))))) else ((fX5_fails g b ((-5)) ps M1).bind fun q_16 => some (q_16.1, q_16.2))) _) _ _ _
        rw [v10, c_mayUse hP1, if_neg hb, Option.bind_some, if_pos rfl, hP1.f.2.2.2.2.2.1, gwi_eq (by omega) (by omega)]
        by_cases hk1 : kd1 = 1
        · rw [if_pos hk1]
          exact (ih _ N1 ps1 pb1 kd1 dg1 (qAllow R p dg) (i + 1) fu fu' PI5 e53 (by omega) (by omega) (Or.inr hk1) (by omega) (by omega) (by omega)).weak Fc Fm (by omega)
        · rw [if_neg hk1, Option.bind_some]
          have hM7 : ¬ gup M1 (b + 2 + 1 + (8 + 4 * p.toNat)) 6 (gor (rp R p 5) (gshl 1 dg)) b 7 = 257 := fun z => hk1 ((t7 T5).2.1.mp z)
          have eM : ∀ f : Nat, fX5_readMay_17 g (f + 1) b (b + 2 + 1 + (8 + 4 * p.toNat)) (i + 1) (gup M1 (b + 2 + 1 + (8 + 4 * p.toNat)) 6 (gor (rp R p 5) (gshl 1 dg))) = some (1, gup M1 (b + 2 + 1 + (8 + 4 * p.toNat)) 6 (gor (rp R p 5) (gshl 1 dg))) := fun f => by
            unfold fX5_readMay_17
            rw [if_neg (show ¬ i + 1 = 0 by omega), if_neg hM7]
            split <;> rfl
          obtain ⟨fu, rfl⟩ := fuS (show 0 < fu by omega)
          rw [eM, gth_1]
          exact (t_161 (g := g) (k := k) hX PI5 e53).weak Fc Fm (by omega)
    · have hw : ¬ gEm Mm a (qNE kd dg 0 (R 0 - 1)) ps a 14 = 0 := by rw [gEm_14]; exact hq
      obtain ⟨w, ew⟩ := w_161 (g := g) (p := p) hw
      rw [if_neg hq]
      simp only [gst_eq]
      rw [if_neg hw]
      have eG : ∀ v : Int, (fX9_readsSlots_36 g (fX9_readsSlots_0 g fu') a p v (gEm Mm a (qNE kd dg 0 (R 0 - 1)) ps)) = some (gEm Mm a (qNE kd dg 0 (R 0 - 1)) ps) := fun v => by
        unfold fX9_readsSlots_36
        rw [if_neg hw]
      rw [eG, Option.bind_some, ew, c_num (by omega) T, if_neg hq]
      exact Or.inr ⟨_, _, rfl, rfl, (gER.of hq).up, gCE.err, gMR.err.trans gMR.up⟩
end Proc2
